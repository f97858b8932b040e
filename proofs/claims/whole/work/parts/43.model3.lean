set_option maxHeartbeats 1000000 in
set_option maxRecDepth 100000 in
theorem c_Mo_tuple (l : Launch) (D : va_G) (K : Nat → ClassId) (b : Nat → Nat) (md : Nat) (pc : Nat) (re : Nat) (ce : Nat) (th : Nat) (tp : Nat) (vv : Nat → Int64) (rv : Nat → Int64) (vr : Nat → Bool) (rr : Nat → Bool) (Ir : Nat → Bool) (Z : Nat → Nat) (Td : Nat → Nat) (L : Nat → Nat) (r : Nat) (n : Nat) (k : Nat) (hrep : sn_rep rv rr vv vr L) (hZ : ∀ k, Z k ≤ 16) (hr : r < 16) (hn : n ≤ 16) (hc : sn_cc Z (sn_xf Z L Td) + n + 2 ≤ 1200) (hk6 : k < 640) (hkf : (sn_xf Z L Td).1 (k + 1) = 0) (hkm : ∀ j, j < k → (sn_xf Z L Td).1 (j + 1) ≠ 0) : Met l y_Mo_tuple w_Mo_tuple ({ frames := 2, cells := 0, slots := 0, locals := 45 }) (va_Pc [.ref (b 0), .int (nI r), .int (nI n)] (sn_BW D K [cr0 b md pc re ce th tp, aL K (b 1) 10240 vv, aL K (b 2) 16 rv, aZ K (b 3) 10240 vr, aZ K (b 4) 16 rr, aZ K (b 5) 640 Ir, aI K (b 6) 640 Z, aI K (b 7) 640 Td])) (sn_Q D [cr0 b md pc re ce th tp, aL K (b 1) 10240 vv, aL K (b 2) 16 rv, aZ K (b 3) 10240 vr, aZ K (b 4) 16 rr, aZ K (b 5) 640 Ir, aI K (b 6) 640 Z, aI K (b 7) 640 Td] [cr0 b (md + 1) pc (sn_cr (sn_xf Z L Td)) (sn_cc Z (sn_xf Z L Td)) 0 ((sn_xf Z L Td).2.2), aL K (b 1) 10240 (sn_clr vv (16 * k) 16 0), aL K (b 2) 16 (va_up rv r (lN k)), aZ K (b 3) 10240 (sn_clr vr (16 * k) 16 false), aZ K (b 4) 16 (va_up rr r true), aZ K (b 5) 640 (sn_ir (sn_xf Z L Td)), aI K (b 6) 640 (va_up Z k n), aI K (b 7) 640 (sn_td (sn_xf Z L Td))] (some (.int (nI (md + 1))))) 0 0 (sn_A [cr0 b md pc re ce th tp, aL K (b 1) 10240 vv, aL K (b 2) 16 rv, aZ K (b 3) 10240 vr, aZ K (b 4) 16 rr, aZ K (b 5) 640 Ir, aI K (b 6) 640 Z, aI K (b 7) 640 Td]) := by
  refine sn_met (own := R_Mo) (by decide +kernel) rfl rfl (Nat.le_of_ble_eq_true rfl) ?_
  intro P9 E9 s9 m9 args below M9 c9 ls Q hQ hx hb hml hrt hlk hts hown hnm hl hB
  obtain ⟨⟨hP, hK, hN⟩, hD⟩ := hB
  have hl : lv_has ls 5 [(0, .ref (b 0)), (1, .int (nI r)), (2, .int (nI n))] := hl
  have hD := sn_DA hD
  have hS : va_S (sn_A [cr0 b md pc re ce th tp, aL K (b 1) 10240 vv, aL K (b 2) 16 rv, aZ K (b 3) 10240 vr, aZ K (b 4) 16 rr, aZ K (b 5) 640 Ir, aI K (b 6) 640 Z, aI K (b 7) 640 Td]) s9.heap s9.heap [] := va_S.rf
  generalize hAe : sn_A [cr0 b md pc re ce th tp, aL K (b 1) 10240 vv, aL K (b 2) 16 rv, aZ K (b 3) 10240 vr, aZ K (b 4) 16 rr, aZ K (b 5) 640 Ir, aI K (b 6) 640 Z, aI K (b 7) 640 Td] = A at hD hS
  refine lv_aload_n hx hb d_Mo_tuple_0 rfl (lv_at hl 0 rfl) ?_
  refine lv_iload_n hx hb d_Mo_tuple_1 rfl (lv_at hl 1 rfl) ?_
  refine sn_rd (st1 := [.int (zb (decide (True))), .ref (b 0)]) (va_runS (As := [.int (nI r)]) (rest := [.ref (b 0)]) ⟨hx, hb, hml, hown, hts⟩ (c_Mo_isRoot l D K r (by omega)) ⟨callB_of 1 hts (tw_in cm_Mo_isRoot) rfl rfl rfl (hts _ gn_Mo) (hts _ tw_709) hd_Mo_isRoot ⟨Nat.le_of_ble_eq_true rfl, Nat.le_of_ble_eq_true rfl⟩, hts _ gt_Mo_isRoot⟩ (sn_preS hK hN hP [] rfl) rfl rfl hl.1 rfl (lv_room (Nat.le_of_ble_eq_true rfl)) d_Mo_tuple_2 ⟨Nat.zero_le _, Nat.zero_le _⟩) rfl ?_
  refine sn_ifz_ne (tgt := 12) hx hb d_Mo_tuple_5 (by decide) (fun h1 => ?_) (fun h1 => ?_)
  · refine lv_iload_n hx hb d_Mo_tuple_12 rfl (lv_at hl 2 rfl) ?_
    refine sn_if_lt (by omega) (tgt := 22) hx hb d_Mo_tuple_13 (by decide) ?_
    refine lv_iload_n hx hb d_Mo_tuple_16 rfl (lv_at hl 2 rfl) ?_
    refine lv_bipush (v := nI 16) hx hb d_Mo_tuple_17 (by decide) ?_
    refine sn_icmp_le (by omega) (by omega) (tgt := 26) hx hb d_Mo_tuple_19 (by decide) (fun h3 => ?_) (fun h3 => ?_)
    · refine lv_iconst (v := nI 0) hx hb d_Mo_tuple_26 (by decide) ?_
      refine va_put (D := D) (ci := 6) (v := .int (nI 0)) (ty := .int) (C := R_Mo) (T := F_Mo) (N := 15) hx hb hts in_Mo t_Mo t_Mo_ok n_Mo hown hK hP hD hS 0 rfl rfl 13 (by decide) (hts _ tw_667) (fun _ h9 => h9) rfl (by decide +kernel) rfl rfl (Nat.le_of_ble_eq_true rfl) d_Mo_tuple_27 (fun H locs hP hD hS => ?_)
      have hP : va_P D classes [cr0 b md pc re ce 0 tp, aL K (b 1) 10240 vv, aL K (b 2) 16 rv, aZ K (b 3) 10240 vr, aZ K (b 4) 16 rr, aZ K (b 5) 640 Ir, aI K (b 6) 640 Z, aI K (b 7) 640 Td] H := hP
      have hD : va_D A [cr0 b md pc re ce 0 tp, aL K (b 1) 10240 vv, aL K (b 2) 16 rv, aZ K (b 3) 10240 vr, aZ K (b 4) 16 rr, aZ K (b 5) 640 Ir, aI K (b 6) 640 Z, aI K (b 7) 640 Td] := hD
      refine lv_aload_n hx hb d_Mo_tuple_30 rfl (lv_at hl 0 rfl) ?_
      refine va_get (D := D) (ci := 6) (v := .int (nI 0)) (C := R_Mo) (T := F_Mo) (N := 15) hx hb hts in_Mo hown hK hP 0 rfl rfl 13 (by decide) (hts _ tw_667) (fun _ h9 => h9) rfl d_Mo_tuple_31 ?_
      refine sn_if_le (by omega) (tgt := 39) hx hb d_Mo_tuple_34 (by decide) (fun h4 => ?_) (fun h4 => ?_)
      · refine lv_aload_n hx hb d_Mo_tuple_39 rfl (lv_at hl 0 rfl) ?_
        refine sn_wrt (st1 := []) (w1 := [cr0 b md pc (sn_cr (sn_xf Z L Td)) (sn_cc Z (sn_xf Z L Td)) 0 ((sn_xf Z L Td).2.2), aL K (b 1) 10240 vv, aL K (b 2) 16 rv, aZ K (b 3) 10240 vr, aZ K (b 4) 16 rr, aZ K (b 5) 640 (sn_ir (sn_xf Z L Td)), aI K (b 6) 640 Z, aI K (b 7) 640 (sn_td (sn_xf Z L Td))]) (va_runV (As := []) (rest := []) ⟨hx, hb, hml, hown, hts⟩ (c_Mo_reachAll l D K b md pc re ce 0 tp vv rv vr rr Ir Z Td L (hrep) (hZ)) ⟨callB_of 0 hts (tw_in cm_Mo_reachAll) rfl rfl rfl (hts _ gn_Mo) (hts _ tw_712) hd_Mo_reachAll ⟨Nat.le_of_ble_eq_true rfl, Nat.le_of_ble_eq_true rfl⟩, hts _ gi_Mo_reachAll, hts _ gs_Mo_reachAll⟩ (sn_preVW hK hN hP hD 0 rfl rfl [0, 1, 2, 3, 4, 5, 6, 7] rfl rfl) rfl rfl hl.1 rfl (lv_room (Nat.le_of_ble_eq_true rfl)) d_Mo_tuple_40 ⟨Nat.zero_le _, Nat.zero_le _⟩) rfl hP hD hS [0, 1, 2, 3, 4, 5, 6, 7] rfl rfl (fun H locs hP hD hS => ?_)
        have hP : va_P D classes [cr0 b md pc (sn_cr (sn_xf Z L Td)) (sn_cc Z (sn_xf Z L Td)) 0 ((sn_xf Z L Td).2.2), aL K (b 1) 10240 vv, aL K (b 2) 16 rv, aZ K (b 3) 10240 vr, aZ K (b 4) 16 rr, aZ K (b 5) 640 (sn_ir (sn_xf Z L Td)), aI K (b 6) 640 Z, aI K (b 7) 640 (sn_td (sn_xf Z L Td))] H := hP
        have hD : va_D A [cr0 b md pc (sn_cr (sn_xf Z L Td)) (sn_cc Z (sn_xf Z L Td)) 0 ((sn_xf Z L Td).2.2), aL K (b 1) 10240 vv, aL K (b 2) 16 rv, aZ K (b 3) 10240 vr, aZ K (b 4) 16 rr, aZ K (b 5) 640 (sn_ir (sn_xf Z L Td)), aI K (b 6) 640 Z, aI K (b 7) 640 (sn_td (sn_xf Z L Td))] := hD
        refine lv_aload_n hx hb d_Mo_tuple_43 rfl (lv_at hl 0 rfl) ?_
        refine va_get (D := D) (ci := 6) (v := .int (nI (sn_cc Z (sn_xf Z L Td)))) (C := R_Mo) (T := F_Mo) (N := 15) hx hb hts in_Mo hown hK hP 0 rfl rfl 12 (by decide) (hts _ tw_666) (fun _ h9 => h9) rfl d_Mo_tuple_44 ?_
        refine lv_iload_n hx hb d_Mo_tuple_47 rfl (lv_at hl 2 rfl) ?_
        refine lv_iadd hx hb d_Mo_tuple_48 ?_
        refine sn_topi (nI_add _ _) ?_
        refine lv_iconst (v := nI 2) hx hb d_Mo_tuple_49 (by decide) ?_
        refine lv_iadd hx hb d_Mo_tuple_50 ?_
        refine sn_topi (nI_add _ _) ?_
        refine lv_sipush (v := nI 1200) hx hb d_Mo_tuple_51 (by decide) ?_
        refine sn_icmp_le (by omega) (by omega) (tgt := 64) hx hb d_Mo_tuple_54 (by decide) (fun h5 => ?_) (fun h5 => ?_)
        · refine lv_iconst (v := nI 0) hx hb d_Mo_tuple_64 (by decide) ?_
          refine lv_istore_n (lv' := [(3, .int (nI 0)), (0, .ref (b 0)), (1, .int (nI r)), (2, .int (nI n))]) hx hb d_Mo_tuple_65 rfl hl (by decide) rfl (fun ls hl => ?_)
          have loop0 : ∀ (nn : Nat) (i : Nat) (ls : Array Slot) (H : Heap) (locs : List Loc), k - i < nn → (i ≤ k) → lv_has ls 5 [(0, .ref (b 0)), (1, .int (nI r)), (2, .int (nI n)), (3, .int (nI i))] → va_P D classes [cr0 b md pc (sn_cr (sn_xf Z L Td)) (sn_cc Z (sn_xf Z L Td)) 0 ((sn_xf Z L Td).2.2), aL K (b 1) 10240 vv, aL K (b 2) 16 rv, aZ K (b 3) 10240 vr, aZ K (b 4) 16 rr, aZ K (b 5) 640 (sn_ir (sn_xf Z L Td)), aI K (b 6) 640 Z, aI K (b 7) 640 (sn_td (sn_xf Z L Td))] H → va_D A [cr0 b md pc (sn_cr (sn_xf Z L Td)) (sn_cc Z (sn_xf Z L Td)) 0 ((sn_xf Z L Td).2.2), aL K (b 1) 10240 vv, aL K (b 2) 16 rv, aZ K (b 3) 10240 vr, aZ K (b 4) 16 rr, aZ K (b 5) 640 (sn_ir (sn_xf Z L Td)), aI K (b 6) 640 Z, aI K (b 7) 640 (sn_td (sn_xf Z L Td))] → va_S A s9.heap H locs → W P9 l E9 ({ frames := 2, cells := 0, slots := 0, locals := 45 }) s9 m9 args below M9 c9 H locs 0 0 Q (F0 m9 66 ls []) := by
            intro nn
            induction nn with
            | zero => intro i ls H locs hn; exact absurd hn (Nat.not_lt_zero _)
            | succ nn ih0 =>
              intro i ls H locs hmu hi hl hP hD hS
              refine lv_aload_n hx hb d_Mo_tuple_66 rfl (lv_at hl 0 rfl) ?_
              refine va_get (D := D) (ci := 6) (v := .ref (b 5)) (C := R_Mo) (T := F_Mo) (N := 15) hx hb hts in_Mo hown hK hP 0 rfl rfl 4 (by decide) (hts _ tw_658) (fun _ h9 => h9) rfl d_Mo_tuple_67 ?_
              refine lv_iload_n hx hb d_Mo_tuple_70 rfl (lv_at hl 3 rfl) ?_
              refine sn_zald (sn_ir (sn_xf Z L Td)) i hx hb hK hP 5 rfl (by omega) (by decide) d_Mo_tuple_71 ?_
              refine sn_ifb_eq (tgt := 81) hx hb d_Mo_tuple_72 (by decide) (fun h6 => ?_) (fun h6 => ?_)
              · have hik : k = i := by have h8 : decide ((sn_xf Z L Td).1 (i + 1) ≠ 0) = false := h6; have h7 : (sn_xf Z L Td).1 (i + 1) = 0 := Classical.byContradiction (fun h9 => by rw [decide_eq_true h9] at h8; cases h8); exact Classical.byContradiction (fun h9 => hkm i (by omega) h7)
                subst hik
                have hl : lv_has ls 5 [(3, .int (nI k)), (0, .ref (b 0)), (1, .int (nI r)), (2, .int (nI n))] := lv_sub hl [3, 0, 1, 2] rfl
                refine lv_aload_n hx hb d_Mo_tuple_81 rfl (lv_at hl 1 rfl) ?_
                refine va_get (D := D) (ci := 6) (v := .ref (b 6)) (C := R_Mo) (T := F_Mo) (N := 15) hx hb hts in_Mo hown hK hP 0 rfl rfl 5 (by decide) (hts _ tw_659) (fun _ h9 => h9) rfl d_Mo_tuple_82 ?_
                refine lv_iload_n hx hb d_Mo_tuple_85 rfl (lv_at hl 0 rfl) ?_
                refine lv_iload_n hx hb d_Mo_tuple_86 rfl (lv_at hl 3 rfl) ?_
                refine sn_iast nI Z k n hx hb hK hP hD hS 6 rfl (by omega) (by decide) d_Mo_tuple_87 (fun H locs hP hD hS => ?_)
                have hP : va_P D classes [cr0 b md pc (sn_cr (sn_xf Z L Td)) (sn_cc Z (sn_xf Z L Td)) 0 ((sn_xf Z L Td).2.2), aL K (b 1) 10240 vv, aL K (b 2) 16 rv, aZ K (b 3) 10240 vr, aZ K (b 4) 16 rr, aZ K (b 5) 640 (sn_ir (sn_xf Z L Td)), aI K (b 6) 640 (va_up Z k n), aI K (b 7) 640 (sn_td (sn_xf Z L Td))] H := hP
                have hD : va_D A [cr0 b md pc (sn_cr (sn_xf Z L Td)) (sn_cc Z (sn_xf Z L Td)) 0 ((sn_xf Z L Td).2.2), aL K (b 1) 10240 vv, aL K (b 2) 16 rv, aZ K (b 3) 10240 vr, aZ K (b 4) 16 rr, aZ K (b 5) 640 (sn_ir (sn_xf Z L Td)), aI K (b 6) 640 (va_up Z k n), aI K (b 7) 640 (sn_td (sn_xf Z L Td))] := hD
                refine lv_bipush (v := nI 16) hx hb d_Mo_tuple_88 (by decide) ?_
                refine lv_iload_n hx hb d_Mo_tuple_90 rfl (lv_at hl 0 rfl) ?_
                refine lv_imul hx hb d_Mo_tuple_91 ?_
                refine sn_topi (pk_mul _ _) ?_
                refine lv_istore (lv' := [(4, .int (nI (16 * k))), (3, .int (nI k)), (0, .ref (b 0)), (1, .int (nI r)), (2, .int (nI n))]) hx hb d_Mo_tuple_92 hl (by decide) rfl (fun ls hl => ?_)
                have loop1 : ∀ (nn : Nat) (j : Nat) (ls : Array Slot) (H : Heap) (locs : List Loc), 16 - j < nn → (j ≤ 16) → lv_has ls 5 [(0, .ref (b 0)), (1, .int (nI r)), (2, .int (nI n)), (3, .int (nI k)), (4, .int (nI (16 * k + j)))] → va_P D classes [cr0 b md pc (sn_cr (sn_xf Z L Td)) (sn_cc Z (sn_xf Z L Td)) 0 ((sn_xf Z L Td).2.2), aL K (b 1) 10240 (sn_clr vv (16 * k) j 0), aL K (b 2) 16 rv, aZ K (b 3) 10240 (sn_clr vr (16 * k) j false), aZ K (b 4) 16 rr, aZ K (b 5) 640 (sn_ir (sn_xf Z L Td)), aI K (b 6) 640 (va_up Z k n), aI K (b 7) 640 (sn_td (sn_xf Z L Td))] H → va_D A [cr0 b md pc (sn_cr (sn_xf Z L Td)) (sn_cc Z (sn_xf Z L Td)) 0 ((sn_xf Z L Td).2.2), aL K (b 1) 10240 (sn_clr vv (16 * k) j 0), aL K (b 2) 16 rv, aZ K (b 3) 10240 (sn_clr vr (16 * k) j false), aZ K (b 4) 16 rr, aZ K (b 5) 640 (sn_ir (sn_xf Z L Td)), aI K (b 6) 640 (va_up Z k n), aI K (b 7) 640 (sn_td (sn_xf Z L Td))] → va_S A s9.heap H locs → W P9 l E9 ({ frames := 2, cells := 0, slots := 0, locals := 45 }) s9 m9 args below M9 c9 H locs 0 0 Q (F0 m9 94 ls []) := by
                  intro nn
                  induction nn with
                  | zero => intro j ls H locs hn; exact absurd hn (Nat.not_lt_zero _)
                  | succ nn ih1 =>
                    intro j ls H locs hmu hj hl hP hD hS
                    refine lv_iload hx hb d_Mo_tuple_94 (lv_at hl 4 rfl) ?_
                    refine lv_bipush (v := nI 16) hx hb d_Mo_tuple_96 (by decide) ?_
                    refine lv_iload_n hx hb d_Mo_tuple_98 rfl (lv_at hl 3 rfl) ?_
                    refine lv_imul hx hb d_Mo_tuple_99 ?_
                    refine sn_topi (pk_mul _ _) ?_
                    refine lv_bipush (v := nI 16) hx hb d_Mo_tuple_100 (by decide) ?_
                    refine lv_iadd hx hb d_Mo_tuple_102 ?_
                    refine sn_topi (nI_add _ _) ?_
                    refine sn_icmp_ge (by omega) (by omega) (tgt := 128) hx hb d_Mo_tuple_103 (by decide) (fun h7 => ?_) (fun h7 => ?_)
                    · have ej : 16 = j := by omega
                      subst ej
                      refine lv_aload_n hx hb d_Mo_tuple_128 rfl (lv_at hl 0 rfl) ?_
                      refine va_get (D := D) (ci := 6) (v := .ref (b 2)) (C := R_Mo) (T := F_Mo) (N := 15) hx hb hts in_Mo hown hK hP 0 rfl rfl 1 (by decide) (hts _ tw_655) (fun _ h9 => h9) rfl d_Mo_tuple_129 ?_
                      refine lv_iload_n hx hb d_Mo_tuple_132 rfl (lv_at hl 1 rfl) ?_
                      refine lv_iload_n hx hb d_Mo_tuple_133 rfl (lv_at hl 3 rfl) ?_
                      refine lv_i2l (v := lN k) hx hb d_Mo_tuple_134 (nI_l (by omega)) ?_
                      refine sn_last rv r (lN k) hx hb hK hP hD hS 2 rfl (by omega) (by decide) d_Mo_tuple_135 (fun H locs hP hD hS => ?_)
                      have hP : va_P D classes [cr0 b md pc (sn_cr (sn_xf Z L Td)) (sn_cc Z (sn_xf Z L Td)) 0 ((sn_xf Z L Td).2.2), aL K (b 1) 10240 (sn_clr vv (16 * k) 16 0), aL K (b 2) 16 (va_up rv r (lN k)), aZ K (b 3) 10240 (sn_clr vr (16 * k) 16 false), aZ K (b 4) 16 rr, aZ K (b 5) 640 (sn_ir (sn_xf Z L Td)), aI K (b 6) 640 (va_up Z k n), aI K (b 7) 640 (sn_td (sn_xf Z L Td))] H := hP
                      have hD : va_D A [cr0 b md pc (sn_cr (sn_xf Z L Td)) (sn_cc Z (sn_xf Z L Td)) 0 ((sn_xf Z L Td).2.2), aL K (b 1) 10240 (sn_clr vv (16 * k) 16 0), aL K (b 2) 16 (va_up rv r (lN k)), aZ K (b 3) 10240 (sn_clr vr (16 * k) 16 false), aZ K (b 4) 16 rr, aZ K (b 5) 640 (sn_ir (sn_xf Z L Td)), aI K (b 6) 640 (va_up Z k n), aI K (b 7) 640 (sn_td (sn_xf Z L Td))] := hD
                      refine lv_aload_n hx hb d_Mo_tuple_136 rfl (lv_at hl 0 rfl) ?_
                      refine va_get (D := D) (ci := 6) (v := .ref (b 4)) (C := R_Mo) (T := F_Mo) (N := 15) hx hb hts in_Mo hown hK hP 0 rfl rfl 3 (by decide) (hts _ tw_657) (fun _ h9 => h9) rfl d_Mo_tuple_137 ?_
                      refine lv_iload_n hx hb d_Mo_tuple_140 rfl (lv_at hl 1 rfl) ?_
                      refine lv_iconst (v := nI 1) hx hb d_Mo_tuple_141 (by decide) ?_
                      refine sn_zast rr r true hx hb hK hP hD hS 4 rfl (by omega) (by decide) d_Mo_tuple_142 (fun H locs hP hD hS => ?_)
                      have hP : va_P D classes [cr0 b md pc (sn_cr (sn_xf Z L Td)) (sn_cc Z (sn_xf Z L Td)) 0 ((sn_xf Z L Td).2.2), aL K (b 1) 10240 (sn_clr vv (16 * k) 16 0), aL K (b 2) 16 (va_up rv r (lN k)), aZ K (b 3) 10240 (sn_clr vr (16 * k) 16 false), aZ K (b 4) 16 (va_up rr r true), aZ K (b 5) 640 (sn_ir (sn_xf Z L Td)), aI K (b 6) 640 (va_up Z k n), aI K (b 7) 640 (sn_td (sn_xf Z L Td))] H := hP
                      have hD : va_D A [cr0 b md pc (sn_cr (sn_xf Z L Td)) (sn_cc Z (sn_xf Z L Td)) 0 ((sn_xf Z L Td).2.2), aL K (b 1) 10240 (sn_clr vv (16 * k) 16 0), aL K (b 2) 16 (va_up rv r (lN k)), aZ K (b 3) 10240 (sn_clr vr (16 * k) 16 false), aZ K (b 4) 16 (va_up rr r true), aZ K (b 5) 640 (sn_ir (sn_xf Z L Td)), aI K (b 6) 640 (va_up Z k n), aI K (b 7) 640 (sn_td (sn_xf Z L Td))] := hD
                      refine lv_aload_n hx hb d_Mo_tuple_143 rfl (lv_at hl 0 rfl) ?_
                      refine lv_dup hx hb d_Mo_tuple_144 rfl ?_
                      refine va_get (D := D) (ci := 6) (v := .int (nI md)) (C := R_Mo) (T := F_Mo) (N := 15) hx hb hts in_Mo hown hK hP 0 rfl rfl 9 (by decide) (hts _ tw_663) (fun _ h9 => h9) rfl d_Mo_tuple_145 ?_
                      refine lv_iconst (v := nI 1) hx hb d_Mo_tuple_148 (by decide) ?_
                      refine lv_iadd hx hb d_Mo_tuple_149 ?_
                      refine sn_topi (nI_add _ _) ?_
                      refine va_put (D := D) (ci := 6) (v := .int (nI (md + 1))) (ty := .int) (C := R_Mo) (T := F_Mo) (N := 15) hx hb hts in_Mo t_Mo t_Mo_ok n_Mo hown hK hP hD hS 0 rfl rfl 9 (by decide) (hts _ tw_663) (fun _ h9 => h9) rfl (by decide +kernel) rfl rfl (Nat.le_of_ble_eq_true rfl) d_Mo_tuple_150 (fun H locs hP hD hS => ?_)
                      have hP : va_P D classes [cr0 b (md + 1) pc (sn_cr (sn_xf Z L Td)) (sn_cc Z (sn_xf Z L Td)) 0 ((sn_xf Z L Td).2.2), aL K (b 1) 10240 (sn_clr vv (16 * k) 16 0), aL K (b 2) 16 (va_up rv r (lN k)), aZ K (b 3) 10240 (sn_clr vr (16 * k) 16 false), aZ K (b 4) 16 (va_up rr r true), aZ K (b 5) 640 (sn_ir (sn_xf Z L Td)), aI K (b 6) 640 (va_up Z k n), aI K (b 7) 640 (sn_td (sn_xf Z L Td))] H := hP
                      have hD : va_D A [cr0 b (md + 1) pc (sn_cr (sn_xf Z L Td)) (sn_cc Z (sn_xf Z L Td)) 0 ((sn_xf Z L Td).2.2), aL K (b 1) 10240 (sn_clr vv (16 * k) 16 0), aL K (b 2) 16 (va_up rv r (lN k)), aZ K (b 3) 10240 (sn_clr vr (16 * k) 16 false), aZ K (b 4) 16 (va_up rr r true), aZ K (b 5) 640 (sn_ir (sn_xf Z L Td)), aI K (b 6) 640 (va_up Z k n), aI K (b 7) 640 (sn_td (sn_xf Z L Td))] := hD
                      refine lv_aload_n hx hb d_Mo_tuple_153 rfl (lv_at hl 0 rfl) ?_
                      refine va_get (D := D) (ci := 6) (v := .int (nI (md + 1))) (C := R_Mo) (T := F_Mo) (N := 15) hx hb hts in_Mo hown hK hP 0 rfl rfl 9 (by decide) (hts _ tw_663) (fun _ h9 => h9) rfl d_Mo_tuple_154 ?_
                      subst hAe
                      exact sx_wi hQ hx hb hrt hlk (rfl) hP hS d_Mo_tuple_157
                    · refine lv_aload_n hx hb d_Mo_tuple_106 rfl (lv_at hl 0 rfl) ?_
                      refine va_get (D := D) (ci := 6) (v := .ref (b 1)) (C := R_Mo) (T := F_Mo) (N := 15) hx hb hts in_Mo hown hK hP 0 rfl rfl 0 (by decide) (hts _ tw_654) (fun _ h9 => h9) rfl d_Mo_tuple_107 ?_
                      refine lv_iload hx hb d_Mo_tuple_110 (lv_at hl 4 rfl) ?_
                      refine lv_lconst (v := 0) hx hb d_Mo_tuple_112 (by decide) ?_
                      refine sn_last (sn_clr vv (16 * k) j 0) (16 * k + j) 0 hx hb hK hP hD hS 1 rfl (by omega) (by decide) d_Mo_tuple_113 (fun H locs hP hD hS => ?_)
                      have hP : va_P D classes [cr0 b md pc (sn_cr (sn_xf Z L Td)) (sn_cc Z (sn_xf Z L Td)) 0 ((sn_xf Z L Td).2.2), aL K (b 1) 10240 (va_up (sn_clr vv (16 * k) j 0) (16 * k + j) 0), aL K (b 2) 16 rv, aZ K (b 3) 10240 (sn_clr vr (16 * k) j false), aZ K (b 4) 16 rr, aZ K (b 5) 640 (sn_ir (sn_xf Z L Td)), aI K (b 6) 640 (va_up Z k n), aI K (b 7) 640 (sn_td (sn_xf Z L Td))] H := hP
                      have hD : va_D A [cr0 b md pc (sn_cr (sn_xf Z L Td)) (sn_cc Z (sn_xf Z L Td)) 0 ((sn_xf Z L Td).2.2), aL K (b 1) 10240 (va_up (sn_clr vv (16 * k) j 0) (16 * k + j) 0), aL K (b 2) 16 rv, aZ K (b 3) 10240 (sn_clr vr (16 * k) j false), aZ K (b 4) 16 rr, aZ K (b 5) 640 (sn_ir (sn_xf Z L Td)), aI K (b 6) 640 (va_up Z k n), aI K (b 7) 640 (sn_td (sn_xf Z L Td))] := hD
                      refine lv_aload_n hx hb d_Mo_tuple_114 rfl (lv_at hl 0 rfl) ?_
                      refine va_get (D := D) (ci := 6) (v := .ref (b 3)) (C := R_Mo) (T := F_Mo) (N := 15) hx hb hts in_Mo hown hK hP 0 rfl rfl 2 (by decide) (hts _ tw_656) (fun _ h9 => h9) rfl d_Mo_tuple_115 ?_
                      refine lv_iload hx hb d_Mo_tuple_118 (lv_at hl 4 rfl) ?_
                      refine lv_iconst (v := nI 0) hx hb d_Mo_tuple_120 (by decide) ?_
                      refine sn_zast (sn_clr vr (16 * k) j false) (16 * k + j) false hx hb hK hP hD hS 3 rfl (by omega) (by decide) d_Mo_tuple_121 (fun H locs hP hD hS => ?_)
                      have hP : va_P D classes [cr0 b md pc (sn_cr (sn_xf Z L Td)) (sn_cc Z (sn_xf Z L Td)) 0 ((sn_xf Z L Td).2.2), aL K (b 1) 10240 (va_up (sn_clr vv (16 * k) j 0) (16 * k + j) 0), aL K (b 2) 16 rv, aZ K (b 3) 10240 (va_up (sn_clr vr (16 * k) j false) (16 * k + j) false), aZ K (b 4) 16 rr, aZ K (b 5) 640 (sn_ir (sn_xf Z L Td)), aI K (b 6) 640 (va_up Z k n), aI K (b 7) 640 (sn_td (sn_xf Z L Td))] H := hP
                      have hD : va_D A [cr0 b md pc (sn_cr (sn_xf Z L Td)) (sn_cc Z (sn_xf Z L Td)) 0 ((sn_xf Z L Td).2.2), aL K (b 1) 10240 (va_up (sn_clr vv (16 * k) j 0) (16 * k + j) 0), aL K (b 2) 16 rv, aZ K (b 3) 10240 (va_up (sn_clr vr (16 * k) j false) (16 * k + j) false), aZ K (b 4) 16 rr, aZ K (b 5) 640 (sn_ir (sn_xf Z L Td)), aI K (b 6) 640 (va_up Z k n), aI K (b 7) 640 (sn_td (sn_xf Z L Td))] := hD
                      refine lv_iinc (k := 4) (v := nI ((16 * k + j) + 1)) (lv' := [(4, .int (nI ((16 * k + j) + 1))), (0, .ref (b 0)), (1, .int (nI r)), (2, .int (nI n)), (3, .int (nI k))]) hx hb d_Mo_tuple_122 hl rfl (sn_inc _) (by decide) rfl (fun ls hl => ?_)
                      refine lv_goto (tgt := 94) hx hb d_Mo_tuple_125 (by decide) ?_
                      have hP : va_P D classes [cr0 b md pc (sn_cr (sn_xf Z L Td)) (sn_cc Z (sn_xf Z L Td)) 0 ((sn_xf Z L Td).2.2), aL K (b 1) 10240 (sn_clr vv (16 * k) (j + 1) 0), aL K (b 2) 16 rv, aZ K (b 3) 10240 (sn_clr vr (16 * k) (j + 1) false), aZ K (b 4) 16 rr, aZ K (b 5) 640 (sn_ir (sn_xf Z L Td)), aI K (b 6) 640 (va_up Z k n), aI K (b 7) 640 (sn_td (sn_xf Z L Td))] H := by rw [← sn_clr_s, ← sn_clr_s]; exact hP
                      have hD : va_D A [cr0 b md pc (sn_cr (sn_xf Z L Td)) (sn_cc Z (sn_xf Z L Td)) 0 ((sn_xf Z L Td).2.2), aL K (b 1) 10240 (sn_clr vv (16 * k) (j + 1) 0), aL K (b 2) 16 rv, aZ K (b 3) 10240 (sn_clr vr (16 * k) (j + 1) false), aZ K (b 4) 16 rr, aZ K (b 5) 640 (sn_ir (sn_xf Z L Td)), aI K (b 6) 640 (va_up Z k n), aI K (b 7) 640 (sn_td (sn_xf Z L Td))] := by rw [← sn_clr_s, ← sn_clr_s]; exact hD
                      have hl := lv_sub (l' := [(0, .ref (b 0)), (1, .int (nI r)), (2, .int (nI n)), (3, .int (nI k)), (4, .int (nI (16 * k + (j + 1))))]) hl [1, 2, 3, 4, 0] rfl
                      exact ih1 (j + 1) _ _ _ (by omega) (by omega) hl hP hD hS
                have hP : va_P D classes [cr0 b md pc (sn_cr (sn_xf Z L Td)) (sn_cc Z (sn_xf Z L Td)) 0 ((sn_xf Z L Td).2.2), aL K (b 1) 10240 (sn_clr vv (16 * k) 0 0), aL K (b 2) 16 rv, aZ K (b 3) 10240 (sn_clr vr (16 * k) 0 false), aZ K (b 4) 16 rr, aZ K (b 5) 640 (sn_ir (sn_xf Z L Td)), aI K (b 6) 640 (va_up Z k n), aI K (b 7) 640 (sn_td (sn_xf Z L Td))] H := by rw [sn_clr_0, sn_clr_0]; exact hP
                have hD : va_D A [cr0 b md pc (sn_cr (sn_xf Z L Td)) (sn_cc Z (sn_xf Z L Td)) 0 ((sn_xf Z L Td).2.2), aL K (b 1) 10240 (sn_clr vv (16 * k) 0 0), aL K (b 2) 16 rv, aZ K (b 3) 10240 (sn_clr vr (16 * k) 0 false), aZ K (b 4) 16 rr, aZ K (b 5) 640 (sn_ir (sn_xf Z L Td)), aI K (b 6) 640 (va_up Z k n), aI K (b 7) 640 (sn_td (sn_xf Z L Td))] := by rw [sn_clr_0, sn_clr_0]; exact hD
                have hl := lv_sub (l' := [(0, .ref (b 0)), (1, .int (nI r)), (2, .int (nI n)), (3, .int (nI k)), (4, .int (nI (16 * k + 0)))]) hl [2, 3, 4, 1, 0] rfl
                exact loop1 _ 0 _ _ _ (Nat.lt_succ_self _) (by omega) hl hP hD hS
              · have hik : i ≠ k := by intro h9; have h8 : decide ((sn_xf Z L Td).1 (i + 1) ≠ 0) = true := h6; rw [h9] at h8; exact (of_decide_eq_true h8) hkf
                refine lv_iinc (k := 3) (v := nI (i + 1)) (lv' := [(3, .int (nI (i + 1))), (0, .ref (b 0)), (1, .int (nI r)), (2, .int (nI n))]) hx hb d_Mo_tuple_75 hl rfl (sn_inc _) (by decide) rfl (fun ls hl => ?_)
                refine lv_goto (tgt := 66) hx hb d_Mo_tuple_78 (by decide) ?_
                have hl := lv_sub (l' := [(0, .ref (b 0)), (1, .int (nI r)), (2, .int (nI n)), (3, .int (nI (i + 1)))]) hl [1, 2, 3, 0] rfl
                exact ih0 (i + 1) _ _ _ (by omega) (by omega) hl hP hD hS
          have hl := lv_sub (l' := [(0, .ref (b 0)), (1, .int (nI r)), (2, .int (nI n)), (3, .int (nI 0))]) hl [1, 2, 3, 0] rfl
          exact loop0 _ 0 _ _ _ (Nat.lt_succ_self _) (by omega) hl hP hD hS
        · omega
      · omega
    · omega
  · exact absurd trivial h1
set_option maxHeartbeats 1000000 in
set_option maxRecDepth 100000 in
theorem c_Mo_tuple_b3 (l : Launch) (D : va_G) (K : Nat → ClassId) (b : Nat → Nat) (md : Nat) (pc : Nat) (re : Nat) (ce : Nat) (th : Nat) (tp : Nat) (vv : Nat → Int64) (rv : Nat → Int64) (vr : Nat → Bool) (rr : Nat → Bool) (Ir : Nat → Bool) (Z : Nat → Nat) (Td : Nat → Nat) (L : Nat → Nat) (r : Nat) (n : Nat) (hrep : sn_rep rv rr vv vr L) (hZ : ∀ k, Z k ≤ 16) (hr : r < 16) (hn : n ≤ 16) (hc : 1200 < sn_cc Z (sn_xf Z L Td) + n + 2) (hc2 : sn_cc Z (sn_xf Z L Td) ≤ 20000) : Met l y_Mo_tuple w_Mo_tuple ({ frames := 2, cells := 0, slots := 0, locals := 45 }) (va_Pc [.ref (b 0), .int (nI r), .int (nI n)] (sn_BW D K [cr0 b md pc re ce th tp, aL K (b 1) 10240 vv, aL K (b 2) 16 rv, aZ K (b 3) 10240 vr, aZ K (b 4) 16 rr, aZ K (b 5) 640 Ir, aI K (b 6) 640 Z, aI K (b 7) 640 Td])) (sn_Q D [cr0 b md pc re ce th tp, aL K (b 1) 10240 vv, aL K (b 2) 16 rv, aZ K (b 3) 10240 vr, aZ K (b 4) 16 rr, aZ K (b 5) 640 Ir, aI K (b 6) 640 Z, aI K (b 7) 640 Td] [cr0 b md pc (sn_cr (sn_xf Z L Td)) (sn_cc Z (sn_xf Z L Td)) 3 ((sn_xf Z L Td).2.2), aL K (b 1) 10240 vv, aL K (b 2) 16 rv, aZ K (b 3) 10240 vr, aZ K (b 4) 16 rr, aZ K (b 5) 640 (sn_ir (sn_xf Z L Td)), aI K (b 6) 640 Z, aI K (b 7) 640 (sn_td (sn_xf Z L Td))] (some (.int (nI 0)))) 0 0 (sn_A [cr0 b md pc re ce th tp, aL K (b 1) 10240 vv, aL K (b 2) 16 rv, aZ K (b 3) 10240 vr, aZ K (b 4) 16 rr, aZ K (b 5) 640 Ir, aI K (b 6) 640 Z, aI K (b 7) 640 Td]) := by
  refine sn_met (own := R_Mo) (by decide +kernel) rfl rfl (Nat.le_of_ble_eq_true rfl) ?_
  intro P9 E9 s9 m9 args below M9 c9 ls Q hQ hx hb hml hrt hlk hts hown hnm hl hB
  obtain ⟨⟨hP, hK, hN⟩, hD⟩ := hB
  have hl : lv_has ls 5 [(0, .ref (b 0)), (1, .int (nI r)), (2, .int (nI n))] := hl
  have hD := sn_DA hD
  have hS : va_S (sn_A [cr0 b md pc re ce th tp, aL K (b 1) 10240 vv, aL K (b 2) 16 rv, aZ K (b 3) 10240 vr, aZ K (b 4) 16 rr, aZ K (b 5) 640 Ir, aI K (b 6) 640 Z, aI K (b 7) 640 Td]) s9.heap s9.heap [] := va_S.rf
  generalize hAe : sn_A [cr0 b md pc re ce th tp, aL K (b 1) 10240 vv, aL K (b 2) 16 rv, aZ K (b 3) 10240 vr, aZ K (b 4) 16 rr, aZ K (b 5) 640 Ir, aI K (b 6) 640 Z, aI K (b 7) 640 Td] = A at hD hS
  refine lv_aload_n hx hb d_Mo_tuple_0 rfl (lv_at hl 0 rfl) ?_
  refine lv_iload_n hx hb d_Mo_tuple_1 rfl (lv_at hl 1 rfl) ?_
  refine sn_rd (st1 := [.int (zb (decide (True))), .ref (b 0)]) (va_runS (As := [.int (nI r)]) (rest := [.ref (b 0)]) ⟨hx, hb, hml, hown, hts⟩ (c_Mo_isRoot l D K r (by omega)) ⟨callB_of 1 hts (tw_in cm_Mo_isRoot) rfl rfl rfl (hts _ gn_Mo) (hts _ tw_709) hd_Mo_isRoot ⟨Nat.le_of_ble_eq_true rfl, Nat.le_of_ble_eq_true rfl⟩, hts _ gt_Mo_isRoot⟩ (sn_preS hK hN hP [] rfl) rfl rfl hl.1 rfl (lv_room (Nat.le_of_ble_eq_true rfl)) d_Mo_tuple_2 ⟨Nat.zero_le _, Nat.zero_le _⟩) rfl ?_
  refine sn_ifz_ne (tgt := 12) hx hb d_Mo_tuple_5 (by decide) (fun h1 => ?_) (fun h1 => ?_)
  · refine lv_iload_n hx hb d_Mo_tuple_12 rfl (lv_at hl 2 rfl) ?_
    refine sn_if_lt (by omega) (tgt := 22) hx hb d_Mo_tuple_13 (by decide) ?_
    refine lv_iload_n hx hb d_Mo_tuple_16 rfl (lv_at hl 2 rfl) ?_
    refine lv_bipush (v := nI 16) hx hb d_Mo_tuple_17 (by decide) ?_
    refine sn_icmp_le (by omega) (by omega) (tgt := 26) hx hb d_Mo_tuple_19 (by decide) (fun h3 => ?_) (fun h3 => ?_)
    · refine lv_iconst (v := nI 0) hx hb d_Mo_tuple_26 (by decide) ?_
      refine va_put (D := D) (ci := 6) (v := .int (nI 0)) (ty := .int) (C := R_Mo) (T := F_Mo) (N := 15) hx hb hts in_Mo t_Mo t_Mo_ok n_Mo hown hK hP hD hS 0 rfl rfl 13 (by decide) (hts _ tw_667) (fun _ h9 => h9) rfl (by decide +kernel) rfl rfl (Nat.le_of_ble_eq_true rfl) d_Mo_tuple_27 (fun H locs hP hD hS => ?_)
      have hP : va_P D classes [cr0 b md pc re ce 0 tp, aL K (b 1) 10240 vv, aL K (b 2) 16 rv, aZ K (b 3) 10240 vr, aZ K (b 4) 16 rr, aZ K (b 5) 640 Ir, aI K (b 6) 640 Z, aI K (b 7) 640 Td] H := hP
      have hD : va_D A [cr0 b md pc re ce 0 tp, aL K (b 1) 10240 vv, aL K (b 2) 16 rv, aZ K (b 3) 10240 vr, aZ K (b 4) 16 rr, aZ K (b 5) 640 Ir, aI K (b 6) 640 Z, aI K (b 7) 640 Td] := hD
      refine lv_aload_n hx hb d_Mo_tuple_30 rfl (lv_at hl 0 rfl) ?_
      refine va_get (D := D) (ci := 6) (v := .int (nI 0)) (C := R_Mo) (T := F_Mo) (N := 15) hx hb hts in_Mo hown hK hP 0 rfl rfl 13 (by decide) (hts _ tw_667) (fun _ h9 => h9) rfl d_Mo_tuple_31 ?_
      refine sn_if_le (by omega) (tgt := 39) hx hb d_Mo_tuple_34 (by decide) (fun h4 => ?_) (fun h4 => ?_)
      · refine lv_aload_n hx hb d_Mo_tuple_39 rfl (lv_at hl 0 rfl) ?_
        refine sn_wrt (st1 := []) (w1 := [cr0 b md pc (sn_cr (sn_xf Z L Td)) (sn_cc Z (sn_xf Z L Td)) 0 ((sn_xf Z L Td).2.2), aL K (b 1) 10240 vv, aL K (b 2) 16 rv, aZ K (b 3) 10240 vr, aZ K (b 4) 16 rr, aZ K (b 5) 640 (sn_ir (sn_xf Z L Td)), aI K (b 6) 640 Z, aI K (b 7) 640 (sn_td (sn_xf Z L Td))]) (va_runV (As := []) (rest := []) ⟨hx, hb, hml, hown, hts⟩ (c_Mo_reachAll l D K b md pc re ce 0 tp vv rv vr rr Ir Z Td L (hrep) (hZ)) ⟨callB_of 0 hts (tw_in cm_Mo_reachAll) rfl rfl rfl (hts _ gn_Mo) (hts _ tw_712) hd_Mo_reachAll ⟨Nat.le_of_ble_eq_true rfl, Nat.le_of_ble_eq_true rfl⟩, hts _ gi_Mo_reachAll, hts _ gs_Mo_reachAll⟩ (sn_preVW hK hN hP hD 0 rfl rfl [0, 1, 2, 3, 4, 5, 6, 7] rfl rfl) rfl rfl hl.1 rfl (lv_room (Nat.le_of_ble_eq_true rfl)) d_Mo_tuple_40 ⟨Nat.zero_le _, Nat.zero_le _⟩) rfl hP hD hS [0, 1, 2, 3, 4, 5, 6, 7] rfl rfl (fun H locs hP hD hS => ?_)
        have hP : va_P D classes [cr0 b md pc (sn_cr (sn_xf Z L Td)) (sn_cc Z (sn_xf Z L Td)) 0 ((sn_xf Z L Td).2.2), aL K (b 1) 10240 vv, aL K (b 2) 16 rv, aZ K (b 3) 10240 vr, aZ K (b 4) 16 rr, aZ K (b 5) 640 (sn_ir (sn_xf Z L Td)), aI K (b 6) 640 Z, aI K (b 7) 640 (sn_td (sn_xf Z L Td))] H := hP
        have hD : va_D A [cr0 b md pc (sn_cr (sn_xf Z L Td)) (sn_cc Z (sn_xf Z L Td)) 0 ((sn_xf Z L Td).2.2), aL K (b 1) 10240 vv, aL K (b 2) 16 rv, aZ K (b 3) 10240 vr, aZ K (b 4) 16 rr, aZ K (b 5) 640 (sn_ir (sn_xf Z L Td)), aI K (b 6) 640 Z, aI K (b 7) 640 (sn_td (sn_xf Z L Td))] := hD
        refine lv_aload_n hx hb d_Mo_tuple_43 rfl (lv_at hl 0 rfl) ?_
        refine va_get (D := D) (ci := 6) (v := .int (nI (sn_cc Z (sn_xf Z L Td)))) (C := R_Mo) (T := F_Mo) (N := 15) hx hb hts in_Mo hown hK hP 0 rfl rfl 12 (by decide) (hts _ tw_666) (fun _ h9 => h9) rfl d_Mo_tuple_44 ?_
        refine lv_iload_n hx hb d_Mo_tuple_47 rfl (lv_at hl 2 rfl) ?_
        refine lv_iadd hx hb d_Mo_tuple_48 ?_
        refine sn_topi (nI_add _ _) ?_
        refine lv_iconst (v := nI 2) hx hb d_Mo_tuple_49 (by decide) ?_
        refine lv_iadd hx hb d_Mo_tuple_50 ?_
        refine sn_topi (nI_add _ _) ?_
        refine lv_sipush (v := nI 1200) hx hb d_Mo_tuple_51 (by decide) ?_
        refine sn_icmp_le (by omega) (by omega) (tgt := 64) hx hb d_Mo_tuple_54 (by decide) (fun h5 => ?_) (fun h5 => ?_)
        · omega
        · refine lv_aload_n hx hb d_Mo_tuple_57 rfl (lv_at hl 0 rfl) ?_
          refine lv_iconst (v := nI 3) hx hb d_Mo_tuple_58 (by decide) ?_
          refine va_put (D := D) (ci := 6) (v := .int (nI 3)) (ty := .int) (C := R_Mo) (T := F_Mo) (N := 15) hx hb hts in_Mo t_Mo t_Mo_ok n_Mo hown hK hP hD hS 0 rfl rfl 13 (by decide) (hts _ tw_667) (fun _ h9 => h9) rfl (by decide +kernel) rfl rfl (Nat.le_of_ble_eq_true rfl) d_Mo_tuple_59 (fun H locs hP hD hS => ?_)
          have hP : va_P D classes [cr0 b md pc (sn_cr (sn_xf Z L Td)) (sn_cc Z (sn_xf Z L Td)) 3 ((sn_xf Z L Td).2.2), aL K (b 1) 10240 vv, aL K (b 2) 16 rv, aZ K (b 3) 10240 vr, aZ K (b 4) 16 rr, aZ K (b 5) 640 (sn_ir (sn_xf Z L Td)), aI K (b 6) 640 Z, aI K (b 7) 640 (sn_td (sn_xf Z L Td))] H := hP
          have hD : va_D A [cr0 b md pc (sn_cr (sn_xf Z L Td)) (sn_cc Z (sn_xf Z L Td)) 3 ((sn_xf Z L Td).2.2), aL K (b 1) 10240 vv, aL K (b 2) 16 rv, aZ K (b 3) 10240 vr, aZ K (b 4) 16 rr, aZ K (b 5) 640 (sn_ir (sn_xf Z L Td)), aI K (b 6) 640 Z, aI K (b 7) 640 (sn_td (sn_xf Z L Td))] := hD
          refine lv_iconst (v := nI 0) hx hb d_Mo_tuple_62 (by decide) ?_
          subst hAe
          exact sx_wi hQ hx hb hrt hlk (rfl) hP hS d_Mo_tuple_63
      · omega
    · omega
  · exact absurd trivial h1
set_option maxHeartbeats 1000000 in
set_option maxRecDepth 100000 in
theorem c_Mo_tuple_b1 (l : Launch) (D : va_G) (K : Nat → ClassId) (b : Nat → Nat) (md : Nat) (pc : Nat) (re : Nat) (ce : Nat) (th : Nat) (tp : Nat) (r : Int32) (n : Int32) (hb9 : r < 0 ∨ nI 16 ≤ r) : Met l y_Mo_tuple w_Mo_tuple ({ frames := 1, cells := 0, slots := 0, locals := 20 }) (va_Pc [.ref (b 0), .int r, .int n] (sn_BW D K [cr0 b md pc re ce th tp])) (sn_Q D [cr0 b md pc re ce th tp] [cr0 b md pc re ce 1 tp] (some (.int (nI 0)))) 0 0 (sn_A [cr0 b md pc re ce th tp]) := by
  refine sn_met (own := R_Mo) (by decide +kernel) rfl rfl (Nat.le_of_ble_eq_true rfl) ?_
  intro P9 E9 s9 m9 args below M9 c9 ls Q hQ hx hb hml hrt hlk hts hown hnm hl hB
  obtain ⟨⟨hP, hK, hN⟩, hD⟩ := hB
  have hl : lv_has ls 5 [(0, .ref (b 0)), (1, .int r), (2, .int n)] := hl
  have hD := sn_DA hD
  have hS : va_S (sn_A [cr0 b md pc re ce th tp]) s9.heap s9.heap [] := va_S.rf
  generalize hAe : sn_A [cr0 b md pc re ce th tp] = A at hD hS
  refine lv_aload_n hx hb d_Mo_tuple_0 rfl (lv_at hl 0 rfl) ?_
  refine lv_iload_n hx hb d_Mo_tuple_1 rfl (lv_at hl 1 rfl) ?_
  refine sn_rd (st1 := [.int (zb (decide (False))), .ref (b 0)]) (va_runS (As := [.int r]) (rest := [.ref (b 0)]) ⟨hx, hb, hml, hown, hts⟩ (c_Mo_isRoot_b l D K r (hb9)) ⟨callB_of 1 hts (tw_in cm_Mo_isRoot) rfl rfl rfl (hts _ gn_Mo) (hts _ tw_709) hd_Mo_isRoot ⟨Nat.le_of_ble_eq_true rfl, Nat.le_of_ble_eq_true rfl⟩, hts _ gt_Mo_isRoot⟩ (sn_preS hK hN hP [] rfl) rfl rfl hl.1 rfl (lv_room (Nat.le_of_ble_eq_true rfl)) d_Mo_tuple_2 ⟨Nat.zero_le _, Nat.zero_le _⟩) rfl ?_
  refine sn_ifz_ne (tgt := 12) hx hb d_Mo_tuple_5 (by decide) (fun h1 => ?_) (fun h1 => ?_)
  · exact h1.elim
  · refine lv_iconst (v := nI 1) hx hb d_Mo_tuple_8 (by decide) ?_
    refine lv_goto (tgt := 27) hx hb d_Mo_tuple_9 (by decide) ?_
    refine va_put (D := D) (ci := 6) (v := .int (nI 1)) (ty := .int) (C := R_Mo) (T := F_Mo) (N := 15) hx hb hts in_Mo t_Mo t_Mo_ok n_Mo hown hK hP hD hS 0 rfl rfl 13 (by decide) (hts _ tw_667) (fun _ h9 => h9) rfl (by decide +kernel) rfl rfl (Nat.le_of_ble_eq_true rfl) d_Mo_tuple_27 (fun H locs hP hD hS => ?_)
    have hP : va_P D classes [cr0 b md pc re ce 1 tp] H := hP
    have hD : va_D A [cr0 b md pc re ce 1 tp] := hD
    refine lv_aload_n hx hb d_Mo_tuple_30 rfl (lv_at hl 0 rfl) ?_
    refine va_get (D := D) (ci := 6) (v := .int (nI 1)) (C := R_Mo) (T := F_Mo) (N := 15) hx hb hts in_Mo hown hK hP 0 rfl rfl 13 (by decide) (hts _ tw_667) (fun _ h9 => h9) rfl d_Mo_tuple_31 ?_
    refine sn_if_le (by omega) (tgt := 39) hx hb d_Mo_tuple_34 (by decide) (fun h2 => ?_) (fun h2 => ?_)
    · omega
    · refine lv_iconst (v := nI 0) hx hb d_Mo_tuple_37 (by decide) ?_
      subst hAe
      exact sx_wi hQ hx hb hrt hlk (rfl) hP hS d_Mo_tuple_38
set_option maxHeartbeats 1000000 in
set_option maxRecDepth 100000 in
theorem c_Mo_tuple_b2 (l : Launch) (D : va_G) (K : Nat → ClassId) (b : Nat → Nat) (md : Nat) (pc : Nat) (re : Nat) (ce : Nat) (th : Nat) (tp : Nat) (r : Nat) (n : Int32) (hr : r < 16) (hb9 : n < 0 ∨ ¬ n ≤ nI 16) : Met l y_Mo_tuple w_Mo_tuple ({ frames := 1, cells := 0, slots := 0, locals := 20 }) (va_Pc [.ref (b 0), .int (nI r), .int n] (sn_BW D K [cr0 b md pc re ce th tp])) (sn_Q D [cr0 b md pc re ce th tp] [cr0 b md pc re ce 2 tp] (some (.int (nI 0)))) 0 0 (sn_A [cr0 b md pc re ce th tp]) := by
  refine sn_met (own := R_Mo) (by decide +kernel) rfl rfl (Nat.le_of_ble_eq_true rfl) ?_
  intro P9 E9 s9 m9 args below M9 c9 ls Q hQ hx hb hml hrt hlk hts hown hnm hl hB
  obtain ⟨⟨hP, hK, hN⟩, hD⟩ := hB
  have hl : lv_has ls 5 [(0, .ref (b 0)), (1, .int (nI r)), (2, .int n)] := hl
  have hD := sn_DA hD
  have hS : va_S (sn_A [cr0 b md pc re ce th tp]) s9.heap s9.heap [] := va_S.rf
  generalize hAe : sn_A [cr0 b md pc re ce th tp] = A at hD hS
  refine lv_aload_n hx hb d_Mo_tuple_0 rfl (lv_at hl 0 rfl) ?_
  refine lv_iload_n hx hb d_Mo_tuple_1 rfl (lv_at hl 1 rfl) ?_
  refine sn_rd (st1 := [.int (zb (decide (True))), .ref (b 0)]) (va_runS (As := [.int (nI r)]) (rest := [.ref (b 0)]) ⟨hx, hb, hml, hown, hts⟩ (c_Mo_isRoot l D K r (by omega)) ⟨callB_of 1 hts (tw_in cm_Mo_isRoot) rfl rfl rfl (hts _ gn_Mo) (hts _ tw_709) hd_Mo_isRoot ⟨Nat.le_of_ble_eq_true rfl, Nat.le_of_ble_eq_true rfl⟩, hts _ gt_Mo_isRoot⟩ (sn_preS hK hN hP [] rfl) rfl rfl hl.1 rfl (lv_room (Nat.le_of_ble_eq_true rfl)) d_Mo_tuple_2 ⟨Nat.zero_le _, Nat.zero_le _⟩) rfl ?_
  refine sn_ifz_ne (tgt := 12) hx hb d_Mo_tuple_5 (by decide) (fun h1 => ?_) (fun h1 => ?_)
  · refine lv_iload_n hx hb d_Mo_tuple_12 rfl (lv_at hl 2 rfl) ?_
    refine lv_if_lt (tgt := 22) hx hb d_Mo_tuple_13 (by decide) (fun h2 => ?_) (fun h2 => ?_)
    · refine lv_iconst (v := nI 2) hx hb d_Mo_tuple_22 (by decide) ?_
      refine lv_goto (tgt := 27) hx hb d_Mo_tuple_23 (by decide) ?_
      refine va_put (D := D) (ci := 6) (v := .int (nI 2)) (ty := .int) (C := R_Mo) (T := F_Mo) (N := 15) hx hb hts in_Mo t_Mo t_Mo_ok n_Mo hown hK hP hD hS 0 rfl rfl 13 (by decide) (hts _ tw_667) (fun _ h9 => h9) rfl (by decide +kernel) rfl rfl (Nat.le_of_ble_eq_true rfl) d_Mo_tuple_27 (fun H locs hP hD hS => ?_)
      have hP : va_P D classes [cr0 b md pc re ce 2 tp] H := hP
      have hD : va_D A [cr0 b md pc re ce 2 tp] := hD
      refine lv_aload_n hx hb d_Mo_tuple_30 rfl (lv_at hl 0 rfl) ?_
      refine va_get (D := D) (ci := 6) (v := .int (nI 2)) (C := R_Mo) (T := F_Mo) (N := 15) hx hb hts in_Mo hown hK hP 0 rfl rfl 13 (by decide) (hts _ tw_667) (fun _ h9 => h9) rfl d_Mo_tuple_31 ?_
      refine sn_if_le (by omega) (tgt := 39) hx hb d_Mo_tuple_34 (by decide) (fun h3 => ?_) (fun h3 => ?_)
      · omega
      · refine lv_iconst (v := nI 0) hx hb d_Mo_tuple_37 (by decide) ?_
        subst hAe
        exact sx_wi hQ hx hb hrt hlk (rfl) hP hS d_Mo_tuple_38
    · refine lv_iload_n hx hb d_Mo_tuple_16 rfl (lv_at hl 2 rfl) ?_
      refine lv_bipush (v := nI 16) hx hb d_Mo_tuple_17 (by decide) ?_
      refine lv_icmp_le (tgt := 26) hx hb d_Mo_tuple_19 (by decide) (fun h3 => ?_) (fun h3 => ?_)
      · exact (hb9.elim h2 (fun h9 => h9 h3)).elim
      · refine lv_iconst (v := nI 2) hx hb d_Mo_tuple_22 (by decide) ?_
        refine lv_goto (tgt := 27) hx hb d_Mo_tuple_23 (by decide) ?_
        refine va_put (D := D) (ci := 6) (v := .int (nI 2)) (ty := .int) (C := R_Mo) (T := F_Mo) (N := 15) hx hb hts in_Mo t_Mo t_Mo_ok n_Mo hown hK hP hD hS 0 rfl rfl 13 (by decide) (hts _ tw_667) (fun _ h9 => h9) rfl (by decide +kernel) rfl rfl (Nat.le_of_ble_eq_true rfl) d_Mo_tuple_27 (fun H locs hP hD hS => ?_)
        have hP : va_P D classes [cr0 b md pc re ce 2 tp] H := hP
        have hD : va_D A [cr0 b md pc re ce 2 tp] := hD
        refine lv_aload_n hx hb d_Mo_tuple_30 rfl (lv_at hl 0 rfl) ?_
        refine va_get (D := D) (ci := 6) (v := .int (nI 2)) (C := R_Mo) (T := F_Mo) (N := 15) hx hb hts in_Mo hown hK hP 0 rfl rfl 13 (by decide) (hts _ tw_667) (fun _ h9 => h9) rfl d_Mo_tuple_31 ?_
        refine sn_if_le (by omega) (tgt := 39) hx hb d_Mo_tuple_34 (by decide) (fun h4 => ?_) (fun h4 => ?_)
        · omega
        · refine lv_iconst (v := nI 0) hx hb d_Mo_tuple_37 (by decide) ?_
          subst hAe
          exact sx_wi hQ hx hb hrt hlk (rfl) hP hS d_Mo_tuple_38
  · exact absurd trivial h1
