set_option maxHeartbeats 1000000 in
set_option maxRecDepth 100000 in
theorem c_Mo_digest (l : Launch) (D : va_G) (K : Nat → ClassId) (b : Nat → Nat) (md : Nat) (pc : Nat) (re : Nat) (ce : Nat) (th : Nat) (tp : Nat) (vv : Nat → Int64) (rv : Nat → Int64) (vr : Nat → Bool) (rr : Nat → Bool) (Z : Nat → Nat) (Td : Nat → Nat) (Mt : Nat → Nat) (Nx : Nat → Nat) (L : Nat → Nat) (N : Nat → Int64) (hf : Int64) (hrep : sn_rep rv rr vv vr L) (hZ : ∀ k, Z k ≤ 16) (hv : (∀ r, r < 16 → rv r = sn_v2 L N r) ∧ ∀ j, j < 10240 → vv j = sn_v2 L N (16 + j)) (hhf : ∀ k, (sn_drun (sn_S2 Z) L N k (sn_d0 L N)).2.2.2.2 = [] → (sn_drun (sn_S2 Z) L N k (sn_d0 L N)).2.2.2.1 = hf) : Met l y_Mo_digest w_Mo_digest ({ frames := 0, cells := 0, slots := 0, locals := 0 }) (va_Pc [.ref (b 0)] (sn_BW D K [cr0 b md pc re ce th tp, aL K (b 1) 10240 vv, aL K (b 2) 16 rv, aZ K (b 3) 10240 vr, aZ K (b 4) 16 rr, aI K (b 6) 640 Z, aI K (b 7) 640 Td, aI K (b 8) 640 Mt, aI K (b 9) 640 Nx])) (sn_QX D [cr0 b md pc re ce th tp, aL K (b 1) 10240 vv, aL K (b 2) 16 rv, aZ K (b 3) 10240 vr, aZ K (b 4) 16 rr, aI K (b 6) 640 Z, aI K (b 7) 640 Td, aI K (b 8) 640 Mt, aI K (b 9) 640 Nx] (fun u : (Nat → Nat) × (Nat → Nat) × (Nat → Nat) => [cr0 b md pc re ce 0 tp, aL K (b 1) 10240 vv, aL K (b 2) 16 rv, aZ K (b 3) 10240 vr, aZ K (b 4) 16 rr, aI K (b 6) 640 Z, aI K (b 7) 640 (sn_p1 u.2.1), aI K (b 8) 640 (sn_m1 u.1), aI K (b 9) 640 u.2.2]) (some (.long hf))) 0 0 (sn_A [cr0 b md pc re ce th tp, aL K (b 1) 10240 vv, aL K (b 2) 16 rv, aZ K (b 3) 10240 vr, aZ K (b 4) 16 rr, aI K (b 6) 640 Z, aI K (b 7) 640 Td, aI K (b 8) 640 Mt, aI K (b 9) 640 Nx]) := by
  refine sn_met (own := R_Mo) (by decide +kernel) rfl rfl (Nat.le_of_ble_eq_true rfl) ?_
  intro P9 E9 s9 m9 args below M9 c9 ls Q hQ hx hb hml hrt hlk hts hown hnm hl hB
  obtain ⟨⟨hP, hK, hN⟩, hD⟩ := hB
  have hl : lv_has ls 10 [(0, .ref (b 0))] := hl
  have hD := sn_DA hD
  have hS : va_S (sn_A [cr0 b md pc re ce th tp, aL K (b 1) 10240 vv, aL K (b 2) 16 rv, aZ K (b 3) 10240 vr, aZ K (b 4) 16 rr, aI K (b 6) 640 Z, aI K (b 7) 640 Td, aI K (b 8) 640 Mt, aI K (b 9) 640 Nx]) s9.heap s9.heap [] := va_S.rf
  generalize hAe : sn_A [cr0 b md pc re ce th tp, aL K (b 1) 10240 vv, aL K (b 2) 16 rv, aZ K (b 3) 10240 vr, aZ K (b 4) 16 rr, aI K (b 6) 640 Z, aI K (b 7) 640 Td, aI K (b 8) 640 Mt, aI K (b 9) 640 Nx] = A at hD hS
  refine lv_aload_n hx hb d_Mo_digest_0 rfl (lv_at hl 0 rfl) ?_
  refine lv_iconst (v := nI 0) hx hb d_Mo_digest_1 (by decide) ?_
  refine va_put (D := D) (ci := 6) (v := .int (nI 0)) (ty := .int) (C := R_Mo) (T := F_Mo) (N := 15) hx hb hts in_Mo t_Mo t_Mo_ok n_Mo hown hK hP hD hS 0 rfl rfl 13 (by decide) (hts _ tw_667) (fun _ h9 => h9) rfl (by decide +kernel) rfl rfl (Nat.le_of_ble_eq_true rfl) d_Mo_digest_2 (fun H locs hP hD hS => ?_)
  have hP : va_P D classes [cr0 b md pc re ce 0 tp, aL K (b 1) 10240 vv, aL K (b 2) 16 rv, aZ K (b 3) 10240 vr, aZ K (b 4) 16 rr, aI K (b 6) 640 Z, aI K (b 7) 640 Td, aI K (b 8) 640 Mt, aI K (b 9) 640 Nx] H := hP
  have hD : va_D A [cr0 b md pc re ce 0 tp, aL K (b 1) 10240 vv, aL K (b 2) 16 rv, aZ K (b 3) 10240 vr, aZ K (b 4) 16 rr, aI K (b 6) 640 Z, aI K (b 7) 640 Td, aI K (b 8) 640 Mt, aI K (b 9) 640 Nx] := hD
  refine lv_iconst (v := nI 0) hx hb d_Mo_digest_5 (by decide) ?_
  refine lv_istore_n (lv' := [(1, .int (nI 0)), (0, .ref (b 0))]) hx hb d_Mo_digest_6 rfl hl (by decide) rfl (fun ls hl => ?_)
  have loop0 : ∀ (nn0 : Nat) (i : Nat) (ls : Array Slot) (H : Heap) (locs : List Loc), 640 - i < nn0 → (i ≤ 640) → lv_has ls 10 [(0, .ref (b 0)), (1, .int (nI i))] → va_P D classes [cr0 b md pc re ce 0 tp, aL K (b 1) 10240 vv, aL K (b 2) 16 rv, aZ K (b 3) 10240 vr, aZ K (b 4) 16 rr, aI K (b 6) 640 Z, aI K (b 7) 640 Td, aI K (b 8) 640 (sn_clr Mt 0 i 0), aI K (b 9) 640 Nx] H → va_D A [cr0 b md pc re ce 0 tp, aL K (b 1) 10240 vv, aL K (b 2) 16 rv, aZ K (b 3) 10240 vr, aZ K (b 4) 16 rr, aI K (b 6) 640 Z, aI K (b 7) 640 Td, aI K (b 8) 640 (sn_clr Mt 0 i 0), aI K (b 9) 640 Nx] → va_S A s9.heap H locs → W P9 l E9 ({ frames := 0, cells := 0, slots := 0, locals := 0 }) s9 m9 args below M9 c9 H locs 0 0 Q (F0 m9 7 ls []) := by
    intro nn0
    induction nn0 with
    | zero => intro i ls H locs hn; exact absurd hn (Nat.not_lt_zero _)
    | succ nn0 ih0 =>
      intro i ls H locs hmu0 hi hl hP hD hS
      refine lv_iload_n hx hb d_Mo_digest_7 rfl (lv_at hl 1 rfl) ?_
      refine lv_sipush (v := nI 640) hx hb d_Mo_digest_8 (by decide) ?_
      refine sn_icmp_ge (by omega) (by omega) (tgt := 27) hx hb d_Mo_digest_11 (by decide) (fun h1 => ?_) (fun h1 => ?_)
      · obtain ⟨hP, hD⟩ := sn_reG (g := sn_m1 (fun _ => 0)) hP hD 7 rfl (fun j hj => by show sn_clr Mt 0 i 0 j = 0; unfold sn_clr; rw [if_pos (by omega)])
        have hP : va_P D classes [cr0 b md pc re ce 0 tp, aL K (b 1) 10240 vv, aL K (b 2) 16 rv, aZ K (b 3) 10240 vr, aZ K (b 4) 16 rr, aI K (b 6) 640 Z, aI K (b 7) 640 Td, aI K (b 8) 640 (sn_m1 (fun _ => 0)), aI K (b 9) 640 Nx] H := hP
        have hD : va_D A [cr0 b md pc re ce 0 tp, aL K (b 1) 10240 vv, aL K (b 2) 16 rv, aZ K (b 3) 10240 vr, aZ K (b 4) 16 rr, aI K (b 6) 640 Z, aI K (b 7) 640 Td, aI K (b 8) 640 (sn_m1 (fun _ => 0)), aI K (b 9) 640 Nx] := hD
        refine lv_ldc2 (v := 7) hx hb hown (hts _ tw_768) d_Mo_digest_27 ?_
        refine lv_lstore_n (lv' := [(1, .long 7), (0, .ref (b 0))]) hx hb d_Mo_digest_30 rfl hl (by decide) rfl (fun ls hl => ?_)
        refine lv_iconst (v := nI 0) hx hb d_Mo_digest_31 (by decide) ?_
        refine lv_istore_n (lv' := [(3, .int (nI 0)), (1, .long 7), (0, .ref (b 0))]) hx hb d_Mo_digest_32 rfl hl (by decide) rfl (fun ls hl => ?_)
        refine lv_iconst (v := nI 0) hx hb d_Mo_digest_33 (by decide) ?_
        refine lv_istore (lv' := [(4, .int (nI 0)), (3, .int (nI 0)), (1, .long 7), (0, .ref (b 0))]) hx hb d_Mo_digest_34 hl (by decide) rfl (fun ls hl => ?_)
        refine lv_iconst (v := nI 0) hx hb d_Mo_digest_36 (by decide) ?_
        refine lv_istore (lv' := [(5, .int (nI 0)), (4, .int (nI 0)), (3, .int (nI 0)), (1, .long 7), (0, .ref (b 0))]) hx hb d_Mo_digest_37 hl (by decide) rfl (fun ls hl => ?_)
        have loop1 : ∀ (nn1 : Nat) (i : Nat) (A9 : Nat → Nat) (pa : Nat → Nat) (nv : Nat → Nat) (m : Nat) (h : Int64) (ls : Array Slot) (H : Heap) (locs : List Loc), 16 - i < nn1 → (i ≤ 16) → (sn_dk Z L N A9 m h (sn_vl L N i (16 - i))) → (sn_db Z A9 pa nv 0 m) → lv_has ls 10 [(0, .ref (b 0)), (1, .long h), (3, .int (nI m)), (4, .int (nI 0)), (5, .int (nI i))] → va_P D classes [cr0 b md pc re ce 0 tp, aL K (b 1) 10240 vv, aL K (b 2) 16 rv, aZ K (b 3) 10240 vr, aZ K (b 4) 16 rr, aI K (b 6) 640 Z, aI K (b 7) 640 (sn_p1 pa), aI K (b 8) 640 (sn_m1 A9), aI K (b 9) 640 nv] H → va_D A [cr0 b md pc re ce 0 tp, aL K (b 1) 10240 vv, aL K (b 2) 16 rv, aZ K (b 3) 10240 vr, aZ K (b 4) 16 rr, aI K (b 6) 640 Z, aI K (b 7) 640 (sn_p1 pa), aI K (b 8) 640 (sn_m1 A9), aI K (b 9) 640 nv] → va_S A s9.heap H locs → W P9 l E9 ({ frames := 0, cells := 0, slots := 0, locals := 0 }) s9 m9 args below M9 c9 H locs 0 0 Q (F0 m9 39 ls []) := by
          intro nn1
          induction nn1 with
          | zero => intro i A9 pa nv m h ls H locs hn; exact absurd hn (Nat.not_lt_zero _)
          | succ nn1 ih1 =>
            intro i A9 pa nv m h ls H locs hmu1 hi hk hb1 hl hP hD hS
            refine lv_iload hx hb d_Mo_digest_39 (lv_at hl 4 rfl) ?_
            refine lv_bipush (v := nI 16) hx hb d_Mo_digest_41 (by decide) ?_
            refine sn_icmp_ge (by omega) (by omega) (tgt := 281) hx hb d_Mo_digest_43 (by decide) (fun h2 => ?_) (fun h2 => ?_)
            · have ei : 16 = i := by omega
              subst ei
              have hk : sn_dk Z L N A9 m h [] := hk
              refine lv_lload_n hx hb d_Mo_digest_281 rfl (lv_at hl 1 rfl) ?_
              subst hAe
              exact sx_xl hQ hx hb hrt hlk (sn_dk_end hhf hk) (A9, pa, nv) hP hS d_Mo_digest_282
            · refine lv_aload_n hx hb d_Mo_digest_46 rfl (lv_at hl 0 rfl) ?_
              refine va_get (D := D) (ci := 6) (v := .ref (b 2)) (C := R_Mo) (T := F_Mo) (N := 15) hx hb hts in_Mo hown hK hP 0 rfl rfl 1 (by decide) (hts _ tw_655) (fun _ h9 => h9) rfl d_Mo_digest_47 ?_
              refine lv_iload hx hb d_Mo_digest_50 (lv_at hl 4 rfl) ?_
              refine sn_lald rv i hx hb hK hP 2 rfl (by omega) (by decide) d_Mo_digest_52 ?_
              refine sn_topl (hv.1 i (by omega)) ?_
              refine lv_lstore (lv' := [(6, .long (sn_v2 L N i)), (0, .ref (b 0)), (1, .long h), (3, .int (nI m)), (4, .int (nI 0)), (5, .int (nI i))]) hx hb d_Mo_digest_53 hl (by decide) rfl (fun ls hl => ?_)
              refine lv_aload_n hx hb d_Mo_digest_55 rfl (lv_at hl 1 rfl) ?_
              refine va_get (D := D) (ci := 6) (v := .ref (b 4)) (C := R_Mo) (T := F_Mo) (N := 15) hx hb hts in_Mo hown hK hP 0 rfl rfl 3 (by decide) (hts _ tw_657) (fun _ h9 => h9) rfl d_Mo_digest_56 ?_
              refine lv_iload hx hb d_Mo_digest_59 (lv_at hl 5 rfl) ?_
              refine sn_zald rr i hx hb hK hP 4 rfl (by omega) (by decide) d_Mo_digest_61 ?_
              refine sn_topi (congrArg zb (hrep.1 i (by omega)).1) ?_
              refine lv_istore (lv' := [(8, .int (zb (decide (L i ≠ 0)))), (6, .long (sn_v2 L N i)), (0, .ref (b 0)), (1, .long h), (3, .int (nI m)), (4, .int (nI 0)), (5, .int (nI i))]) hx hb d_Mo_digest_62 hl (by decide) rfl (fun ls hl => ?_)
              have loop2 : ∀ (nn2 : Nat) (t : Nat) (A9 : Nat → Nat) (pa : Nat → Nat) (nv : Nat → Nat) (d : Nat) (m : Nat) (h : Int64) (ls : Array Slot) (H : Heap) (locs : List Loc), sn_dmu Z A9 ((L t, N t) :: sn_rw Z L N pa nv d i) < nn2 → (sn_dk Z L N A9 m h ((L t, N t) :: sn_rw Z L N pa nv d i)) → (sn_db Z A9 pa nv d m) → lv_has ls 10 [(0, .ref (b 0)), (1, .long h), (3, .int (nI m)), (4, .int (nI d)), (5, .int (nI i)), (6, .long (sn_v2 L N t)), (8, .int (zb (decide (L t ≠ 0))))] → va_P D classes [cr0 b md pc re ce 0 tp, aL K (b 1) 10240 vv, aL K (b 2) 16 rv, aZ K (b 3) 10240 vr, aZ K (b 4) 16 rr, aI K (b 6) 640 Z, aI K (b 7) 640 (sn_p1 pa), aI K (b 8) 640 (sn_m1 A9), aI K (b 9) 640 nv] H → va_D A [cr0 b md pc re ce 0 tp, aL K (b 1) 10240 vv, aL K (b 2) 16 rv, aZ K (b 3) 10240 vr, aZ K (b 4) 16 rr, aI K (b 6) 640 Z, aI K (b 7) 640 (sn_p1 pa), aI K (b 8) 640 (sn_m1 A9), aI K (b 9) 640 nv] → va_S A s9.heap H locs → W P9 l E9 ({ frames := 0, cells := 0, slots := 0, locals := 0 }) s9 m9 args below M9 c9 H locs 0 0 Q (F0 m9 64 ls []) := by
                intro nn2
                induction nn2 with
                | zero => intro t A9 pa nv d m h ls H locs hn; exact absurd hn (Nat.not_lt_zero _)
                | succ nn2 ih2 =>
                  intro t A9 pa nv d m h ls H locs hmu2 hk2 hb2 hl hP hD hS
                  have loop3 : ∀ (nn3 : Nat) (A9 : Nat → Nat) (pa : Nat → Nat) (nv : Nat → Nat) (d : Nat) (m : Nat) (h : Int64) (ls : Array Slot) (H : Heap) (locs : List Loc), d < nn3 → (sn_dk Z L N A9 m h (sn_rw Z L N pa nv d i)) → (sn_db Z A9 pa nv d m) → (sn_dmu Z A9 (sn_rw Z L N pa nv d i) < nn2) → lv_has ls 10 [(0, .ref (b 0)), (1, .long h), (3, .int (nI m)), (4, .int (nI d)), (5, .int (nI i))] → va_P D classes [cr0 b md pc re ce 0 tp, aL K (b 1) 10240 vv, aL K (b 2) 16 rv, aZ K (b 3) 10240 vr, aZ K (b 4) 16 rr, aI K (b 6) 640 Z, aI K (b 7) 640 (sn_p1 pa), aI K (b 8) 640 (sn_m1 A9), aI K (b 9) 640 nv] H → va_D A [cr0 b md pc re ce 0 tp, aL K (b 1) 10240 vv, aL K (b 2) 16 rv, aZ K (b 3) 10240 vr, aZ K (b 4) 16 rr, aI K (b 6) 640 Z, aI K (b 7) 640 (sn_p1 pa), aI K (b 8) 640 (sn_m1 A9), aI K (b 9) 640 nv] → va_S A s9.heap H locs → W P9 l E9 ({ frames := 0, cells := 0, slots := 0, locals := 0 }) s9 m9 args below M9 c9 H locs 0 0 Q (F0 m9 172 ls []) := by
                    intro nn3
                    induction nn3 with
                    | zero => intro A9 pa nv d m h ls H locs hn; exact absurd hn (Nat.not_lt_zero _)
                    | succ nn3 ih3 =>
                      intro A9 pa nv d m h ls H locs hmu3 hk3 hb3 hm3 hl hP hD hS
                      have hmm := sn_db_m hb3
                      have hdm := hb3.2.2.2.1
                      refine lv_iload hx hb d_Mo_digest_172 (lv_at hl 3 rfl) ?_
                      refine sn_if_le (by omega) (tgt := 209) hx hb d_Mo_digest_174 (by decide) (fun h3 => ?_) (fun h3 => ?_)
                      · have hd0 : d = 0 := h3
                        refine lv_iload hx hb d_Mo_digest_209 (lv_at hl 3 rfl) ?_
                        refine sn_if_ne (by omega) (tgt := 217) hx hb d_Mo_digest_211 (by decide) (fun h4 => ?_) (fun h4 => ?_)
                        · omega
                        · refine lv_goto (tgt := 275) hx hb d_Mo_digest_214 (by decide) ?_
                          refine lv_iinc (k := 4) (v := nI (i + 1)) (lv' := [(5, .int (nI (i + 1))), (0, .ref (b 0)), (1, .long h), (3, .int (nI m)), (4, .int (nI d))]) hx hb d_Mo_digest_275 hl rfl (sn_inc _) (by decide) rfl (fun ls hl => ?_)
                          refine lv_goto (tgt := 39) hx hb d_Mo_digest_278 (by decide) ?_
                          have hl : lv_has ls 10 [(5, .int (nI (i + 1))), (0, .ref (b 0)), (1, .long h), (3, .int (nI m)), (4, .int (nI 0))] := by rw [hd0] at hl; exact hl
                          have hl := lv_sub (l' := [(0, .ref (b 0)), (1, .long h), (3, .int (nI m)), (4, .int (nI 0)), (5, .int (nI (i + 1)))]) hl [1, 2, 3, 4, 0] rfl
                          exact ih1 (i + 1) A9 pa nv m h _ _ _ (by omega) (by omega) (sn_dk_next hd0 (by omega) hk3) (by rw [← hd0]; exact hb3) hl hP hD hS
                      · have hd1 := h3
                        have hp := hb3.2.2.2.2 (d - 1) (by omega)
                        have hp1 : (sn_p1 pa) (d - 1) = pa (d - 1) - 1 := rfl
                        have hzz := hZ (pa (d - 1) - 1)
                        have hzq := hZ ((sn_p1 pa) (d - 1))
                        refine lv_aload_n hx hb d_Mo_digest_177 rfl (lv_at hl 0 rfl) ?_
                        refine va_get (D := D) (ci := 6) (v := .ref (b 9)) (C := R_Mo) (T := F_Mo) (N := 15) hx hb hts in_Mo hown hK hP 0 rfl rfl 8 (by decide) (hts _ tw_662) (fun _ h9 => h9) rfl d_Mo_digest_178 ?_
                        refine lv_iload hx hb d_Mo_digest_181 (lv_at hl 3 rfl) ?_
                        refine lv_iconst (v := nI 1) hx hb d_Mo_digest_183 (by decide) ?_
                        refine lv_isub hx hb d_Mo_digest_184 ?_
                        refine sn_topi (pk_sub (by omega)) ?_
                        refine sn_iald nI nv (d - 1) hx hb hK hP 8 rfl (by omega) (by decide) d_Mo_digest_185 ?_
                        refine lv_aload_n hx hb d_Mo_digest_186 rfl (lv_at hl 0 rfl) ?_
                        refine va_get (D := D) (ci := 6) (v := .ref (b 6)) (C := R_Mo) (T := F_Mo) (N := 15) hx hb hts in_Mo hown hK hP 0 rfl rfl 5 (by decide) (hts _ tw_659) (fun _ h9 => h9) rfl d_Mo_digest_187 ?_
                        refine lv_aload_n hx hb d_Mo_digest_190 rfl (lv_at hl 0 rfl) ?_
                        refine va_get (D := D) (ci := 6) (v := .ref (b 7)) (C := R_Mo) (T := F_Mo) (N := 15) hx hb hts in_Mo hown hK hP 0 rfl rfl 6 (by decide) (hts _ tw_660) (fun _ h9 => h9) rfl d_Mo_digest_191 ?_
                        refine lv_iload hx hb d_Mo_digest_194 (lv_at hl 3 rfl) ?_
                        refine lv_iconst (v := nI 1) hx hb d_Mo_digest_196 (by decide) ?_
                        refine lv_isub hx hb d_Mo_digest_197 ?_
                        refine sn_topi (pk_sub (by omega)) ?_
                        refine sn_iald nI (sn_p1 pa) (d - 1) hx hb hK hP 6 rfl (by omega) (by decide) d_Mo_digest_198 ?_
                        refine sn_iald nI Z ((sn_p1 pa) (d - 1)) hx hb hK hP 5 rfl (by omega) (by decide) d_Mo_digest_199 ?_
                        refine sn_icmp_ne (by omega) (by omega) (tgt := 209) hx hb d_Mo_digest_200 (by decide) (fun h4 => ?_) (fun h4 => ?_)
                        · have hnx : nv (d - 1) < Z (pa (d - 1) - 1) := by rw [hp1] at h4; omega
                          refine lv_iload hx hb d_Mo_digest_209 (lv_at hl 3 rfl) ?_
                          refine sn_if_ne (by omega) (tgt := 217) hx hb d_Mo_digest_211 (by decide) (fun h5 => ?_) (fun h5 => ?_)
                          · refine lv_bipush (v := nI 16) hx hb d_Mo_digest_217 (by decide) ?_
                            refine lv_aload_n hx hb d_Mo_digest_219 rfl (lv_at hl 0 rfl) ?_
                            refine va_get (D := D) (ci := 6) (v := .ref (b 7)) (C := R_Mo) (T := F_Mo) (N := 15) hx hb hts in_Mo hown hK hP 0 rfl rfl 6 (by decide) (hts _ tw_660) (fun _ h9 => h9) rfl d_Mo_digest_220 ?_
                            refine lv_iload hx hb d_Mo_digest_223 (lv_at hl 3 rfl) ?_
                            refine lv_iconst (v := nI 1) hx hb d_Mo_digest_225 (by decide) ?_
                            refine lv_isub hx hb d_Mo_digest_226 ?_
                            refine sn_topi (pk_sub (by omega)) ?_
                            refine sn_iald nI (sn_p1 pa) (d - 1) hx hb hK hP 6 rfl (by omega) (by decide) d_Mo_digest_227 ?_
                            refine lv_imul hx hb d_Mo_digest_228 ?_
                            refine sn_topi (pk_mul _ _) ?_
                            refine lv_aload_n hx hb d_Mo_digest_229 rfl (lv_at hl 0 rfl) ?_
                            refine va_get (D := D) (ci := 6) (v := .ref (b 9)) (C := R_Mo) (T := F_Mo) (N := 15) hx hb hts in_Mo hown hK hP 0 rfl rfl 8 (by decide) (hts _ tw_662) (fun _ h9 => h9) rfl d_Mo_digest_230 ?_
                            refine lv_iload hx hb d_Mo_digest_233 (lv_at hl 3 rfl) ?_
                            refine lv_iconst (v := nI 1) hx hb d_Mo_digest_235 (by decide) ?_
                            refine lv_isub hx hb d_Mo_digest_236 ?_
                            refine sn_topi (pk_sub (by omega)) ?_
                            refine sn_iald nI nv (d - 1) hx hb hK hP 8 rfl (by omega) (by decide) d_Mo_digest_237 ?_
                            refine lv_iadd hx hb d_Mo_digest_238 ?_
                            refine sn_topi (nI_add _ _) ?_
                            refine lv_istore (lv' := [(9, .int (nI ((16 * (sn_p1 pa) (d - 1)) + nv (d - 1)))), (0, .ref (b 0)), (1, .long h), (3, .int (nI m)), (4, .int (nI d)), (5, .int (nI i))]) hx hb d_Mo_digest_239 hl (by decide) rfl (fun ls hl => ?_)
                            refine lv_aload_n hx hb d_Mo_digest_241 rfl (lv_at hl 1 rfl) ?_
                            refine va_get (D := D) (ci := 6) (v := .ref (b 9)) (C := R_Mo) (T := F_Mo) (N := 15) hx hb hts in_Mo hown hK hP 0 rfl rfl 8 (by decide) (hts _ tw_662) (fun _ h9 => h9) rfl d_Mo_digest_242 ?_
                            refine lv_iload hx hb d_Mo_digest_245 (lv_at hl 4 rfl) ?_
                            refine lv_iconst (v := nI 1) hx hb d_Mo_digest_247 (by decide) ?_
                            refine lv_isub hx hb d_Mo_digest_248 ?_
                            refine sn_topi (pk_sub (by omega)) ?_
                            refine lv_dup2_11 hx hb d_Mo_digest_249 rfl rfl ?_
                            refine sn_iald nI nv (d - 1) hx hb hK hP 8 rfl (by omega) (by decide) d_Mo_digest_250 ?_
                            refine lv_iconst (v := nI 1) hx hb d_Mo_digest_251 (by decide) ?_
                            refine lv_iadd hx hb d_Mo_digest_252 ?_
                            refine sn_topi (nI_add _ _) ?_
                            refine sn_iast nI nv (d - 1) (nv (d - 1) + 1) hx hb hK hP hD hS 8 rfl (by omega) (by decide) d_Mo_digest_253 (fun H locs hP hD hS => ?_)
                            have hP : va_P D classes [cr0 b md pc re ce 0 tp, aL K (b 1) 10240 vv, aL K (b 2) 16 rv, aZ K (b 3) 10240 vr, aZ K (b 4) 16 rr, aI K (b 6) 640 Z, aI K (b 7) 640 (sn_p1 pa), aI K (b 8) 640 (sn_m1 A9), aI K (b 9) 640 (va_up nv (d - 1) (nv (d - 1) + 1))] H := hP
                            have hD : va_D A [cr0 b md pc re ce 0 tp, aL K (b 1) 10240 vv, aL K (b 2) 16 rv, aZ K (b 3) 10240 vr, aZ K (b 4) 16 rr, aI K (b 6) 640 Z, aI K (b 7) 640 (sn_p1 pa), aI K (b 8) 640 (sn_m1 A9), aI K (b 9) 640 (va_up nv (d - 1) (nv (d - 1) + 1))] := hD
                            refine lv_aload_n hx hb d_Mo_digest_254 rfl (lv_at hl 1 rfl) ?_
                            refine va_get (D := D) (ci := 6) (v := .ref (b 1)) (C := R_Mo) (T := F_Mo) (N := 15) hx hb hts in_Mo hown hK hP 0 rfl rfl 0 (by decide) (hts _ tw_654) (fun _ h9 => h9) rfl d_Mo_digest_255 ?_
                            refine lv_iload hx hb d_Mo_digest_258 (lv_at hl 0 rfl) ?_
                            refine sn_lald vv ((16 * (sn_p1 pa) (d - 1)) + nv (d - 1)) hx hb hK hP 1 rfl (by omega) (by decide) d_Mo_digest_260 ?_
                            refine sn_topl ((hv.2 _ (by omega)).trans (by rw [show 16 + (16 * (sn_p1 pa) (d - 1) + nv (d - 1)) = 16 * pa (d - 1) + nv (d - 1) by omega])) ?_
                            refine lv_lstore (lv' := [(6, .long (sn_v2 L N (16 * pa (d - 1) + nv (d - 1)))), (9, .int (nI ((16 * (sn_p1 pa) (d - 1)) + nv (d - 1)))), (0, .ref (b 0)), (1, .long h), (3, .int (nI m)), (4, .int (nI d)), (5, .int (nI i))]) hx hb d_Mo_digest_261 hl (by decide) rfl (fun ls hl => ?_)
                            refine lv_aload_n hx hb d_Mo_digest_263 rfl (lv_at hl 2 rfl) ?_
                            refine va_get (D := D) (ci := 6) (v := .ref (b 3)) (C := R_Mo) (T := F_Mo) (N := 15) hx hb hts in_Mo hown hK hP 0 rfl rfl 2 (by decide) (hts _ tw_656) (fun _ h9 => h9) rfl d_Mo_digest_264 ?_
                            refine lv_iload hx hb d_Mo_digest_267 (lv_at hl 1 rfl) ?_
                            refine sn_zald vr ((16 * (sn_p1 pa) (d - 1)) + nv (d - 1)) hx hb hK hP 3 rfl (by omega) (by decide) d_Mo_digest_269 ?_
                            refine sn_topi (congrArg zb ((hrep.2.1 _ (by omega)).1.trans (by rw [show 16 + (16 * (sn_p1 pa) (d - 1) + nv (d - 1)) = 16 * pa (d - 1) + nv (d - 1) by omega]))) ?_
                            refine lv_istore (lv' := [(8, .int (zb (decide (L (16 * pa (d - 1) + nv (d - 1)) ≠ 0)))), (6, .long (sn_v2 L N (16 * pa (d - 1) + nv (d - 1)))), (9, .int (nI ((16 * (sn_p1 pa) (d - 1)) + nv (d - 1)))), (0, .ref (b 0)), (1, .long h), (3, .int (nI m)), (4, .int (nI d)), (5, .int (nI i))]) hx hb d_Mo_digest_270 hl (by decide) rfl (fun ls hl => ?_)
                            refine lv_goto (tgt := 64) hx hb d_Mo_digest_272 (by decide) ?_
                            have hl := lv_sub (l' := [(0, .ref (b 0)), (1, .long h), (3, .int (nI m)), (4, .int (nI d)), (5, .int (nI i)), (6, .long (sn_v2 L N (16 * pa (d - 1) + nv (d - 1)))), (8, .int (zb (decide (L (16 * pa (d - 1) + nv (d - 1)) ≠ 0))))]) hl [3, 4, 5, 6, 7, 1, 0] rfl
                            exact ih2 (16 * pa (d - 1) + nv (d - 1)) A9 pa (va_up nv (d - 1) (nv (d - 1) + 1)) d m h _ _ _ (by rw [← sn_rw_nextd hd1 hp.1 hnx]; exact hm3) (by rw [← sn_rw_nextd hd1 hp.1 hnx]; exact hk3) (sn_db_nextd hd1 hb3 hnx) hl hP hD hS
                          · omega
                        · have hpe : nv (d - 1) = Z (pa (d - 1) - 1) := by rw [hp1] at h4; exact h4
                          refine lv_iinc (k := 3) (v := nI (d - 1)) (lv' := [(4, .int (nI (d - 1))), (0, .ref (b 0)), (1, .long h), (3, .int (nI m)), (5, .int (nI i))]) hx hb d_Mo_digest_203 hl rfl (sn_dec (by omega)) (by decide) rfl (fun ls hl => ?_)
                          refine lv_goto (tgt := 172) hx hb d_Mo_digest_206 (by decide) ?_
                          have hl := lv_sub (l' := [(0, .ref (b 0)), (1, .long h), (3, .int (nI m)), (4, .int (nI (d - 1))), (5, .int (nI i))]) hl [1, 2, 3, 0, 4] rfl
                          exact ih3 A9 pa nv (d - 1) m h _ _ _ (by omega) (by rw [← sn_rw_popd hd1 hp.1 hpe]; exact hk3) (sn_db_popd hd1 hb3) (by rw [← sn_rw_popd hd1 hp.1 hpe]; exact hm3) hl hP hD hS
                  refine lv_iload hx hb d_Mo_digest_64 (lv_at hl 6 rfl) ?_
                  refine sn_ifz_ne (tgt := 81) hx hb d_Mo_digest_66 (by decide) (fun h3 => ?_) (fun h3 => ?_)
                  · have hlt : L t ≠ 0 := h3
                    have hv1 : sn_v2 L N t = lN (L t - 1) := if_neg h3
                    have hL6 := hrep.2.2 t
                    have hm1 : sn_m1 A9 (L t - 1) = A9 (L t) := by show A9 (L t - 1 + 1) = A9 (L t); rw [show L t - 1 + 1 = L t by omega]
                    have hAm := hb2.2.1 (L t)
                    have hmm := sn_db_m hb2
                    refine lv_aload_n hx hb d_Mo_digest_81 rfl (lv_at hl 0 rfl) ?_
                    refine va_get (D := D) (ci := 6) (v := .ref (b 8)) (C := R_Mo) (T := F_Mo) (N := 15) hx hb hts in_Mo hown hK hP 0 rfl rfl 7 (by decide) (hts _ tw_661) (fun _ h9 => h9) rfl d_Mo_digest_82 ?_
                    refine lv_lload hx hb d_Mo_digest_85 (lv_at hl 5 rfl) ?_
                    refine lv_l2i (v := nI (L t - 1)) hx hb d_Mo_digest_87 (by rw [hv1]; exact lN_i _) ?_
                    refine sn_iald nI (sn_m1 A9) (L t - 1) hx hb hK hP 7 rfl (by omega) (by decide) d_Mo_digest_88 ?_
                    refine sn_if_le (by omega) (tgt := 115) hx hb d_Mo_digest_89 (by decide) (fun h4 => ?_) (fun h4 => ?_)
                    · have hA0 : A9 (L t) = 0 := by omega
                      have hdn := sn_db_new hb2 (by omega) hL6 hA0
                      have hzz := hZ (L t - 1)
                      refine lv_iinc (k := 2) (v := nI (m + 1)) (lv' := [(3, .int (nI (m + 1))), (0, .ref (b 0)), (1, .long h), (4, .int (nI d)), (5, .int (nI i)), (6, .long (sn_v2 L N t)), (8, .int (zb (decide (L t ≠ 0))))]) hx hb d_Mo_digest_115 hl rfl (sn_inc _) (by decide) rfl (fun ls hl => ?_)
                      refine lv_aload_n hx hb d_Mo_digest_118 rfl (lv_at hl 1 rfl) ?_
                      refine va_get (D := D) (ci := 6) (v := .ref (b 8)) (C := R_Mo) (T := F_Mo) (N := 15) hx hb hts in_Mo hown hK hP 0 rfl rfl 7 (by decide) (hts _ tw_661) (fun _ h9 => h9) rfl d_Mo_digest_119 ?_
                      refine lv_lload hx hb d_Mo_digest_122 (lv_at hl 5 rfl) ?_
                      refine lv_l2i (v := nI (L t - 1)) hx hb d_Mo_digest_124 (by rw [hv1]; exact lN_i _) ?_
                      refine lv_iload_n hx hb d_Mo_digest_125 rfl (lv_at hl 0 rfl) ?_
                      refine sn_iast nI (sn_m1 A9) (L t - 1) (m + 1) hx hb hK hP hD hS 7 rfl (by omega) (by decide) d_Mo_digest_126 (fun H locs hP hD hS => ?_)
                      have hP : va_P D classes [cr0 b md pc re ce 0 tp, aL K (b 1) 10240 vv, aL K (b 2) 16 rv, aZ K (b 3) 10240 vr, aZ K (b 4) 16 rr, aI K (b 6) 640 Z, aI K (b 7) 640 (sn_p1 pa), aI K (b 8) 640 (va_up (sn_m1 A9) (L t - 1) (m + 1)), aI K (b 9) 640 nv] H := hP
                      have hD : va_D A [cr0 b md pc re ce 0 tp, aL K (b 1) 10240 vv, aL K (b 2) 16 rv, aZ K (b 3) 10240 vr, aZ K (b 4) 16 rr, aI K (b 6) 640 Z, aI K (b 7) 640 (sn_p1 pa), aI K (b 8) 640 (va_up (sn_m1 A9) (L t - 1) (m + 1)), aI K (b 9) 640 nv] := hD
                      refine lv_ldc2 (v := 31) hx hb hown (hts _ tw_769) d_Mo_digest_127 ?_
                      refine lv_ldc2 (v := 31) hx hb hown (hts _ tw_769) d_Mo_digest_130 ?_
                      refine lv_lload_n hx hb d_Mo_digest_133 rfl (lv_at hl 2 rfl) ?_
                      refine lv_lmul hx hb d_Mo_digest_134 ?_
                      refine lv_ldc2 (v := 3) hx hb hown (hts _ tw_771) d_Mo_digest_135 ?_
                      refine lv_ladd hx hb d_Mo_digest_138 ?_
                      refine lv_lmul hx hb d_Mo_digest_139 ?_
                      refine lv_aload_n hx hb d_Mo_digest_140 rfl (lv_at hl 1 rfl) ?_
                      refine va_get (D := D) (ci := 6) (v := .ref (b 6)) (C := R_Mo) (T := F_Mo) (N := 15) hx hb hts in_Mo hown hK hP 0 rfl rfl 5 (by decide) (hts _ tw_659) (fun _ h9 => h9) rfl d_Mo_digest_141 ?_
                      refine lv_lload hx hb d_Mo_digest_144 (lv_at hl 5 rfl) ?_
                      refine lv_l2i (v := nI (L t - 1)) hx hb d_Mo_digest_146 (by rw [hv1]; exact lN_i _) ?_
                      refine sn_iald nI Z (L t - 1) hx hb hK hP 5 rfl (by omega) (by decide) d_Mo_digest_147 ?_
                      refine lv_i2l (v := lN (Z (L t - 1))) hx hb d_Mo_digest_148 (nI_l (by omega)) ?_
                      refine lv_ladd hx hb d_Mo_digest_149 ?_
                      refine lv_lstore_n (lv' := [(1, .long ((31 * ((31 * h) + 3)) + lN (Z (L t - 1)))), (3, .int (nI (m + 1))), (0, .ref (b 0)), (4, .int (nI d)), (5, .int (nI i)), (6, .long (sn_v2 L N t)), (8, .int (zb (decide (L t ≠ 0))))]) hx hb d_Mo_digest_150 rfl hl (by decide) rfl (fun ls hl => ?_)
                      refine lv_aload_n hx hb d_Mo_digest_151 rfl (lv_at hl 2 rfl) ?_
                      refine va_get (D := D) (ci := 6) (v := .ref (b 7)) (C := R_Mo) (T := F_Mo) (N := 15) hx hb hts in_Mo hown hK hP 0 rfl rfl 6 (by decide) (hts _ tw_660) (fun _ h9 => h9) rfl d_Mo_digest_152 ?_
                      refine lv_iload hx hb d_Mo_digest_155 (lv_at hl 3 rfl) ?_
                      refine lv_lload hx hb d_Mo_digest_157 (lv_at hl 5 rfl) ?_
                      refine lv_l2i (v := nI (L t - 1)) hx hb d_Mo_digest_159 (by rw [hv1]; exact lN_i _) ?_
                      refine sn_iast nI (sn_p1 pa) d (L t - 1) hx hb hK hP hD hS 6 rfl (by omega) (by decide) d_Mo_digest_160 (fun H locs hP hD hS => ?_)
                      have hP : va_P D classes [cr0 b md pc re ce 0 tp, aL K (b 1) 10240 vv, aL K (b 2) 16 rv, aZ K (b 3) 10240 vr, aZ K (b 4) 16 rr, aI K (b 6) 640 Z, aI K (b 7) 640 (va_up (sn_p1 pa) d (L t - 1)), aI K (b 8) 640 (va_up (sn_m1 A9) (L t - 1) (m + 1)), aI K (b 9) 640 nv] H := hP
                      have hD : va_D A [cr0 b md pc re ce 0 tp, aL K (b 1) 10240 vv, aL K (b 2) 16 rv, aZ K (b 3) 10240 vr, aZ K (b 4) 16 rr, aI K (b 6) 640 Z, aI K (b 7) 640 (va_up (sn_p1 pa) d (L t - 1)), aI K (b 8) 640 (va_up (sn_m1 A9) (L t - 1) (m + 1)), aI K (b 9) 640 nv] := hD
                      refine lv_aload_n hx hb d_Mo_digest_161 rfl (lv_at hl 2 rfl) ?_
                      refine va_get (D := D) (ci := 6) (v := .ref (b 9)) (C := R_Mo) (T := F_Mo) (N := 15) hx hb hts in_Mo hown hK hP 0 rfl rfl 8 (by decide) (hts _ tw_662) (fun _ h9 => h9) rfl d_Mo_digest_162 ?_
                      refine lv_iload hx hb d_Mo_digest_165 (lv_at hl 3 rfl) ?_
                      refine lv_iconst (v := nI 0) hx hb d_Mo_digest_167 (by decide) ?_
                      refine sn_iast nI nv d 0 hx hb hK hP hD hS 8 rfl (by omega) (by decide) d_Mo_digest_168 (fun H locs hP hD hS => ?_)
                      have hP : va_P D classes [cr0 b md pc re ce 0 tp, aL K (b 1) 10240 vv, aL K (b 2) 16 rv, aZ K (b 3) 10240 vr, aZ K (b 4) 16 rr, aI K (b 6) 640 Z, aI K (b 7) 640 (va_up (sn_p1 pa) d (L t - 1)), aI K (b 8) 640 (va_up (sn_m1 A9) (L t - 1) (m + 1)), aI K (b 9) 640 (va_up nv d 0)] H := hP
                      have hD : va_D A [cr0 b md pc re ce 0 tp, aL K (b 1) 10240 vv, aL K (b 2) 16 rv, aZ K (b 3) 10240 vr, aZ K (b 4) 16 rr, aI K (b 6) 640 Z, aI K (b 7) 640 (va_up (sn_p1 pa) d (L t - 1)), aI K (b 8) 640 (va_up (sn_m1 A9) (L t - 1) (m + 1)), aI K (b 9) 640 (va_up nv d 0)] := hD
                      refine lv_iinc (k := 3) (v := nI (d + 1)) (lv' := [(4, .int (nI (d + 1))), (1, .long ((31 * ((31 * h) + 3)) + lN (Z (L t - 1)))), (3, .int (nI (m + 1))), (0, .ref (b 0)), (5, .int (nI i)), (6, .long (sn_v2 L N t)), (8, .int (zb (decide (L t ≠ 0))))]) hx hb d_Mo_digest_169 hl rfl (sn_inc _) (by decide) rfl (fun ls hl => ?_)
                      have hP : va_P D classes [cr0 b md pc re ce 0 tp, aL K (b 1) 10240 vv, aL K (b 2) 16 rv, aZ K (b 3) 10240 vr, aZ K (b 4) 16 rr, aI K (b 6) 640 Z, aI K (b 7) 640 (sn_p1 (va_up pa d (L t))), aI K (b 8) 640 (sn_m1 (va_up A9 (L t) (m + 1))), aI K (b 9) 640 (va_up nv d 0)] H := by rw [sn_m1_up A9 (by omega), sn_p1_up]; exact hP
                      have hD : va_D A [cr0 b md pc re ce 0 tp, aL K (b 1) 10240 vv, aL K (b 2) 16 rv, aZ K (b 3) 10240 vr, aZ K (b 4) 16 rr, aI K (b 6) 640 Z, aI K (b 7) 640 (sn_p1 (va_up pa d (L t))), aI K (b 8) 640 (sn_m1 (va_up A9 (L t) (m + 1))), aI K (b 9) 640 (va_up nv d 0)] := by rw [sn_m1_up A9 (by omega), sn_p1_up]; exact hD
                      have hl := lv_sub (l' := [(0, .ref (b 0)), (1, .long ((31 * ((31 * h) + 3)) + lN (Z (L t - 1)))), (3, .int (nI (m + 1))), (4, .int (nI (d + 1))), (5, .int (nI i))]) hl [3, 1, 2, 0, 4] rfl
                      exact loop3 _ (va_up A9 (L t) (m + 1)) (va_up pa d (L t)) (va_up nv d 0) (d + 1) (m + 1) ((31 * ((31 * h) + 3)) + lN (Z (L t - 1))) _ _ _ (Nat.lt_succ_self _) (by rw [sn_rw_new Z L N pa nv d i (by omega)]; exact sn_dk_new hk2 hlt hA0) (hdn.2.2) (by rw [sn_rw_new Z L N pa nv d i (by omega)]; exact sn_dmu_new hL6 hA0 hmu2) hl hP hD hS
                    · have hA1 : 0 < A9 (L t) := by omega
                      refine lv_ldc2 (v := 31) hx hb hown (hts _ tw_769) d_Mo_digest_92 ?_
                      refine lv_lload_n hx hb d_Mo_digest_95 rfl (lv_at hl 1 rfl) ?_
                      refine lv_lmul hx hb d_Mo_digest_96 ?_
                      refine lv_ldc2 (v := 2) hx hb hown (hts _ tw_770) d_Mo_digest_97 ?_
                      refine lv_ladd hx hb d_Mo_digest_100 ?_
                      refine lv_aload_n hx hb d_Mo_digest_101 rfl (lv_at hl 0 rfl) ?_
                      refine va_get (D := D) (ci := 6) (v := .ref (b 8)) (C := R_Mo) (T := F_Mo) (N := 15) hx hb hts in_Mo hown hK hP 0 rfl rfl 7 (by decide) (hts _ tw_661) (fun _ h9 => h9) rfl d_Mo_digest_102 ?_
                      refine lv_lload hx hb d_Mo_digest_105 (lv_at hl 5 rfl) ?_
                      refine lv_l2i (v := nI (L t - 1)) hx hb d_Mo_digest_107 (by rw [hv1]; exact lN_i _) ?_
                      refine sn_iald nI (sn_m1 A9) (L t - 1) hx hb hK hP 7 rfl (by omega) (by decide) d_Mo_digest_108 ?_
                      refine lv_i2l (v := lN ((sn_m1 A9) (L t - 1))) hx hb d_Mo_digest_109 (nI_l (by omega)) ?_
                      refine lv_ladd hx hb d_Mo_digest_110 ?_
                      refine sn_topl (by rw [hm1] : _ = (31 * h + 2) + lN (A9 (L t))) ?_
                      refine lv_lstore_n (lv' := [(1, .long ((31 * h + 2) + lN (A9 (L t)))), (0, .ref (b 0)), (3, .int (nI m)), (4, .int (nI d)), (5, .int (nI i)), (6, .long (sn_v2 L N t)), (8, .int (zb (decide (L t ≠ 0))))]) hx hb d_Mo_digest_111 rfl hl (by decide) rfl (fun ls hl => ?_)
                      refine lv_goto (tgt := 172) hx hb d_Mo_digest_112 (by decide) ?_
                      have hl := lv_sub (l' := [(0, .ref (b 0)), (1, .long ((31 * h + 2) + lN (A9 (L t)))), (3, .int (nI m)), (4, .int (nI d)), (5, .int (nI i))]) hl [1, 0, 2, 3, 4] rfl
                      exact loop3 _ A9 pa nv d m ((31 * h + 2) + lN (A9 (L t))) _ _ _ (Nat.lt_succ_self _) (sn_dk_old hk2 hlt hA1) (hb2) (sn_dmu_num hmu2) hl hP hD hS
                  · have hl0 : L t = 0 := Classical.byContradiction h3
                    have hv0 : sn_v2 L N t = N t := if_pos hl0
                    refine lv_ldc2 (v := 31) hx hb hown (hts _ tw_769) d_Mo_digest_69 ?_
                    refine lv_lload_n hx hb d_Mo_digest_72 rfl (lv_at hl 1 rfl) ?_
                    refine lv_lmul hx hb d_Mo_digest_73 ?_
                    refine lv_lload hx hb d_Mo_digest_74 (lv_at hl 5 rfl) ?_
                    refine lv_ladd hx hb d_Mo_digest_76 ?_
                    refine sn_topl (by rw [hv0] : _ = 31 * h + N t) ?_
                    refine lv_lstore_n (lv' := [(1, .long (31 * h + N t)), (0, .ref (b 0)), (3, .int (nI m)), (4, .int (nI d)), (5, .int (nI i)), (6, .long (sn_v2 L N t)), (8, .int (zb (decide (L t ≠ 0))))]) hx hb d_Mo_digest_77 rfl hl (by decide) rfl (fun ls hl => ?_)
                    refine lv_goto (tgt := 172) hx hb d_Mo_digest_78 (by decide) ?_
                    have hl := lv_sub (l' := [(0, .ref (b 0)), (1, .long (31 * h + N t)), (3, .int (nI m)), (4, .int (nI d)), (5, .int (nI i))]) hl [1, 0, 2, 3, 4] rfl
                    exact loop3 _ A9 pa nv d m (31 * h + N t) _ _ _ (Nat.lt_succ_self _) (sn_dk_num hk2 hl0) (hb2) (sn_dmu_num hmu2) hl hP hD hS
              have hl := lv_sub (l' := [(0, .ref (b 0)), (1, .long h), (3, .int (nI m)), (4, .int (nI 0)), (5, .int (nI i)), (6, .long (sn_v2 L N i)), (8, .int (zb (decide (L i ≠ 0))))]) hl [2, 3, 4, 5, 6, 1, 0] rfl
              exact loop2 _ i A9 pa nv 0 m h _ _ _ (Nat.lt_succ_self _) (by rw [sn_rw_0, ← sn_vl_16 L N (by omega)]; exact hk) (hb1) hl hP hD hS
        have hP : va_P D classes [cr0 b md pc re ce 0 tp, aL K (b 1) 10240 vv, aL K (b 2) 16 rv, aZ K (b 3) 10240 vr, aZ K (b 4) 16 rr, aI K (b 6) 640 Z, aI K (b 7) 640 (sn_p1 (fun k => Td k + 1)), aI K (b 8) 640 (sn_m1 (fun _ => 0)), aI K (b 9) 640 Nx] H := by rw [sn_p1_0]; exact hP
        have hD : va_D A [cr0 b md pc re ce 0 tp, aL K (b 1) 10240 vv, aL K (b 2) 16 rv, aZ K (b 3) 10240 vr, aZ K (b 4) 16 rr, aI K (b 6) 640 Z, aI K (b 7) 640 (sn_p1 (fun k => Td k + 1)), aI K (b 8) 640 (sn_m1 (fun _ => 0)), aI K (b 9) 640 Nx] := by rw [sn_p1_0]; exact hD
        have hl := lv_sub (l' := [(0, .ref (b 0)), (1, .long 7), (3, .int (nI 0)), (4, .int (nI 0)), (5, .int (nI 0))]) hl [4, 3, 2, 1, 0] rfl
        exact loop1 _ 0 (fun _ => 0) (fun k => Td k + 1) Nx 0 7 _ _ _ (Nat.lt_succ_self _) (by omega) (sn_dk_0 Z L N) (sn_db_0 _ _ _) hl hP hD hS
      · refine lv_aload_n hx hb d_Mo_digest_14 rfl (lv_at hl 0 rfl) ?_
        refine va_get (D := D) (ci := 6) (v := .ref (b 8)) (C := R_Mo) (T := F_Mo) (N := 15) hx hb hts in_Mo hown hK hP 0 rfl rfl 7 (by decide) (hts _ tw_661) (fun _ h9 => h9) rfl d_Mo_digest_15 ?_
        refine lv_iload_n hx hb d_Mo_digest_18 rfl (lv_at hl 1 rfl) ?_
        refine lv_iconst (v := nI 0) hx hb d_Mo_digest_19 (by decide) ?_
        refine sn_iast nI (sn_clr Mt 0 i 0) i 0 hx hb hK hP hD hS 7 rfl (by omega) (by decide) d_Mo_digest_20 (fun H locs hP hD hS => ?_)
        have hP : va_P D classes [cr0 b md pc re ce 0 tp, aL K (b 1) 10240 vv, aL K (b 2) 16 rv, aZ K (b 3) 10240 vr, aZ K (b 4) 16 rr, aI K (b 6) 640 Z, aI K (b 7) 640 Td, aI K (b 8) 640 (va_up (sn_clr Mt 0 i 0) i 0), aI K (b 9) 640 Nx] H := hP
        have hD : va_D A [cr0 b md pc re ce 0 tp, aL K (b 1) 10240 vv, aL K (b 2) 16 rv, aZ K (b 3) 10240 vr, aZ K (b 4) 16 rr, aI K (b 6) 640 Z, aI K (b 7) 640 Td, aI K (b 8) 640 (va_up (sn_clr Mt 0 i 0) i 0), aI K (b 9) 640 Nx] := hD
        refine lv_iinc (k := 1) (v := nI (i + 1)) (lv' := [(1, .int (nI (i + 1))), (0, .ref (b 0))]) hx hb d_Mo_digest_21 hl rfl (sn_inc _) (by decide) rfl (fun ls hl => ?_)
        refine lv_goto (tgt := 7) hx hb d_Mo_digest_24 (by decide) ?_
        have hP : va_P D classes [cr0 b md pc re ce 0 tp, aL K (b 1) 10240 vv, aL K (b 2) 16 rv, aZ K (b 3) 10240 vr, aZ K (b 4) 16 rr, aI K (b 6) 640 Z, aI K (b 7) 640 Td, aI K (b 8) 640 (sn_clr Mt 0 (i + 1) 0), aI K (b 9) 640 Nx] H := by rw [← sn_clr_s0]; exact hP
        have hD : va_D A [cr0 b md pc re ce 0 tp, aL K (b 1) 10240 vv, aL K (b 2) 16 rv, aZ K (b 3) 10240 vr, aZ K (b 4) 16 rr, aI K (b 6) 640 Z, aI K (b 7) 640 Td, aI K (b 8) 640 (sn_clr Mt 0 (i + 1) 0), aI K (b 9) 640 Nx] := by rw [← sn_clr_s0]; exact hD
        have hl := lv_sub (l' := [(0, .ref (b 0)), (1, .int (nI (i + 1)))]) hl [1, 0] rfl
        exact ih0 (i + 1) _ _ _ (by omega) (by omega) hl hP hD hS
  have hP : va_P D classes [cr0 b md pc re ce 0 tp, aL K (b 1) 10240 vv, aL K (b 2) 16 rv, aZ K (b 3) 10240 vr, aZ K (b 4) 16 rr, aI K (b 6) 640 Z, aI K (b 7) 640 Td, aI K (b 8) 640 (sn_clr Mt 0 0 0), aI K (b 9) 640 Nx] H := by rw [sn_clr_0]; exact hP
  have hD : va_D A [cr0 b md pc re ce 0 tp, aL K (b 1) 10240 vv, aL K (b 2) 16 rv, aZ K (b 3) 10240 vr, aZ K (b 4) 16 rr, aI K (b 6) 640 Z, aI K (b 7) 640 Td, aI K (b 8) 640 (sn_clr Mt 0 0 0), aI K (b 9) 640 Nx] := by rw [sn_clr_0]; exact hD
  have hl := lv_sub (l' := [(0, .ref (b 0)), (1, .int (nI 0))]) hl [1, 0] rfl
  exact loop0 _ 0 _ _ _ (Nat.lt_succ_self _) (by omega) hl hP hD hS
