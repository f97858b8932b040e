set_option maxHeartbeats 4000000 in
set_option maxRecDepth 100000 in
theorem c_St_countHolders (l : Launch) (D : va_G) (K : Nat → ClassId) (a : Nat → Nat) (S : Nat → Option Nat) (rl : Nat → Nat) (rc : Nat) (tp : Nat) (uc : Nat) (y : Nat) (Wh : Nat → Nat) (hSz : ∀ q n, S q = some n → n ≤ 16) (htp : tp ≤ 600) (hrc : rc ≤ 600) (hrl : ∀ i, i < rc → rl i ≤ 600) : Met l y_St_countHolders w_St_countHolders ({ frames := 2, cells := 0, slots := 0, locals := 42 }) (va_Pc [.ref (a 0), .ref y] (sn_BW D K [ce0 a rc tp uc, aS K (a 1) 601 S, aI K (a 4) 600 rl, aI K y 601 Wh])) (sn_Q D [ce0 a rc tp uc, aS K (a 1) 601 S, aI K (a 4) 600 rl, aI K y 601 Wh] [ce0 a rc tp uc, aS K (a 1) 601 S, aI K (a 4) 600 rl, aI K y 601 (sn_h2 rl (sn_h1 S Wh tp) rc)] none) 0 0 (sn_A [ce0 a rc tp uc, aS K (a 1) 601 S, aI K (a 4) 600 rl, aI K y 601 Wh]) := by
  refine sn_met (own := R_St) (by decide +kernel) rfl rfl (Nat.le_of_ble_eq_true rfl) ?_
  intro P9 E9 s9 m9 args below M9 c9 ls Q hQ hx hb hml hrt hlk hts hown hnm hl hB
  obtain ⟨⟨hP, hK, hN⟩, hD⟩ := hB
  have hl : lv_has ls 3 [(0, .ref (a 0)), (1, .ref y)] := hl
  have hD := sn_DA hD
  have hS : va_S (sn_A [ce0 a rc tp uc, aS K (a 1) 601 S, aI K (a 4) 600 rl, aI K y 601 Wh]) s9.heap s9.heap [] := va_S.rf
  generalize hAe : sn_A [ce0 a rc tp uc, aS K (a 1) 601 S, aI K (a 4) 600 rl, aI K y 601 Wh] = A at hD hS
  refine lv_iconst (v := nI 1) hx hb d_St_countHolders_0 (by decide) ?_
  refine lv_istore_n (lv' := [(2, .int (nI 1)), (0, .ref (a 0)), (1, .ref y)]) hx hb d_St_countHolders_1 rfl hl (by decide) rfl (fun ls hl => ?_)
  have loop0 : ∀ (nn : Nat) (i : Nat) (ls : Array Slot) (H : Heap) (locs : List Loc), tp - i < nn → (i ≤ tp) → lv_has ls 3 [(0, .ref (a 0)), (1, .ref y), (2, .int (nI (i + 1)))] → va_P D classes [ce0 a rc tp uc, aS K (a 1) 601 S, aI K (a 4) 600 rl, aI K y 601 (sn_h1 S Wh i)] H → va_D A [ce0 a rc tp uc, aS K (a 1) 601 S, aI K (a 4) 600 rl, aI K y 601 (sn_h1 S Wh i)] → va_S A s9.heap H locs → W P9 l E9 ({ frames := 2, cells := 0, slots := 0, locals := 42 }) s9 m9 args below M9 c9 H locs 0 0 Q (F0 m9 2 ls []) := by
    intro nn
    induction nn with
    | zero => intro i ls H locs hn; exact absurd hn (Nat.not_lt_zero _)
    | succ nn ih0 =>
      intro i ls H locs hmu hi hl hP hD hS
      refine lv_iload_n hx hb d_St_countHolders_2 rfl (lv_at hl 2 rfl) ?_
      refine lv_aload_n hx hb d_St_countHolders_3 rfl (lv_at hl 0 rfl) ?_
      refine va_get (D := D) (ci := 0) (v := .int (nI tp)) (C := R_St) (T := F_St) (N := 7) hx hb hts in_St hown hK hP 0 rfl rfl 5 (by decide) (hts _ tw_41) (fun _ h9 => h9) rfl d_St_countHolders_4 ?_
      refine sn_icmp_gt (by omega) (by omega) (tgt := 38) hx hb d_St_countHolders_7 (by decide) (fun h1 => ?_) (fun h1 => ?_)
      · have ei : tp = i := by omega
        subst ei
        refine lv_iconst (v := nI 0) hx hb d_St_countHolders_38 (by decide) ?_
        refine lv_istore_n (lv' := [(2, .int (nI 0)), (0, .ref (a 0)), (1, .ref y)]) hx hb d_St_countHolders_39 rfl hl (by decide) rfl (fun ls hl => ?_)
        have loop1 : ∀ (nn : Nat) (i : Nat) (ls : Array Slot) (H : Heap) (locs : List Loc), rc - i < nn → (i ≤ rc) → lv_has ls 3 [(0, .ref (a 0)), (1, .ref y), (2, .int (nI i))] → va_P D classes [ce0 a rc tp uc, aS K (a 1) 601 S, aI K (a 4) 600 rl, aI K y 601 (sn_h2 rl (sn_h1 S Wh tp) i)] H → va_D A [ce0 a rc tp uc, aS K (a 1) 601 S, aI K (a 4) 600 rl, aI K y 601 (sn_h2 rl (sn_h1 S Wh tp) i)] → va_S A s9.heap H locs → W P9 l E9 ({ frames := 2, cells := 0, slots := 0, locals := 42 }) s9 m9 args below M9 c9 H locs 0 0 Q (F0 m9 40 ls []) := by
          intro nn
          induction nn with
          | zero => intro i ls H locs hn; exact absurd hn (Nat.not_lt_zero _)
          | succ nn ih1 =>
            intro i ls H locs hmu hi hl hP hD hS
            refine lv_iload_n hx hb d_St_countHolders_40 rfl (lv_at hl 2 rfl) ?_
            refine lv_aload_n hx hb d_St_countHolders_41 rfl (lv_at hl 0 rfl) ?_
            refine va_get (D := D) (ci := 0) (v := .int (nI rc)) (C := R_St) (T := F_St) (N := 7) hx hb hts in_St hown hK hP 0 rfl rfl 4 (by decide) (hts _ tw_40) (fun _ h9 => h9) rfl d_St_countHolders_42 ?_
            refine sn_icmp_ge (by omega) (by omega) (tgt := 77) hx hb d_St_countHolders_45 (by decide) (fun h2 => ?_) (fun h2 => ?_)
            · have ei : rc = i := by omega
              subst ei
              subst hAe
              exact sx_wv hQ hx hb hrt hlk hP hS d_St_countHolders_77
            · have hri := hrl i (by omega)
              refine lv_aload_n hx hb d_St_countHolders_48 rfl (lv_at hl 0 rfl) ?_
              refine va_get (D := D) (ci := 0) (v := .ref (a 4)) (C := R_St) (T := F_St) (N := 7) hx hb hts in_St hown hK hP 0 rfl rfl 3 (by decide) (hts _ tw_39) (fun _ h9 => h9) rfl d_St_countHolders_49 ?_
              refine lv_iload_n hx hb d_St_countHolders_52 rfl (lv_at hl 2 rfl) ?_
              refine sn_iald nI rl i hx hb hK hP 2 rfl (by omega) (by decide) d_St_countHolders_53 ?_
              refine lv_aload_n hx hb d_St_countHolders_54 rfl (lv_at hl 1 rfl) ?_
              refine va_alen (v := nI 601) hx hb hK hP 3 0 rfl rfl rfl d_St_countHolders_55 ?_
              refine sn_icmp_ge (by omega) (by omega) (tgt := 71) hx hb d_St_countHolders_56 (by decide) (fun h3 => ?_) (fun h3 => ?_)
              · omega
              · refine lv_aload_n hx hb d_St_countHolders_59 rfl (lv_at hl 1 rfl) ?_
                refine lv_aload_n hx hb d_St_countHolders_60 rfl (lv_at hl 0 rfl) ?_
                refine va_get (D := D) (ci := 0) (v := .ref (a 4)) (C := R_St) (T := F_St) (N := 7) hx hb hts in_St hown hK hP 0 rfl rfl 3 (by decide) (hts _ tw_39) (fun _ h9 => h9) rfl d_St_countHolders_61 ?_
                refine lv_iload_n hx hb d_St_countHolders_64 rfl (lv_at hl 2 rfl) ?_
                refine sn_iald nI rl i hx hb hK hP 2 rfl (by omega) (by decide) d_St_countHolders_65 ?_
                refine lv_dup2_11 hx hb d_St_countHolders_66 rfl rfl ?_
                refine sn_iald nI (sn_h2 rl (sn_h1 S Wh tp) i) (rl i) hx hb hK hP 3 rfl (by omega) (by decide) d_St_countHolders_67 ?_
                refine lv_iconst (v := nI 1) hx hb d_St_countHolders_68 (by decide) ?_
                refine lv_iadd hx hb d_St_countHolders_69 ?_
                refine sn_topi (nI_add _ _) ?_
                refine sn_iast nI (sn_h2 rl (sn_h1 S Wh tp) i) (rl i) ((sn_h2 rl (sn_h1 S Wh tp) i) (rl i) + 1) hx hb hK hP hD hS 3 rfl (by omega) (by decide) d_St_countHolders_70 (fun H locs hP hD hS => ?_)
                have hP : va_P D classes [ce0 a rc tp uc, aS K (a 1) 601 S, aI K (a 4) 600 rl, aI K y 601 (va_up (sn_h2 rl (sn_h1 S Wh tp) i) (rl i) ((sn_h2 rl (sn_h1 S Wh tp) i) (rl i) + 1))] H := hP
                have hD : va_D A [ce0 a rc tp uc, aS K (a 1) 601 S, aI K (a 4) 600 rl, aI K y 601 (va_up (sn_h2 rl (sn_h1 S Wh tp) i) (rl i) ((sn_h2 rl (sn_h1 S Wh tp) i) (rl i) + 1))] := hD
                refine lv_iinc (k := 2) (v := nI (i + 1)) (lv' := [(2, .int (nI (i + 1))), (0, .ref (a 0)), (1, .ref y)]) hx hb d_St_countHolders_71 hl rfl (sn_inc _) (by decide) rfl (fun ls hl => ?_)
                refine lv_goto (tgt := 40) hx hb d_St_countHolders_74 (by decide) ?_
                have hP : va_P D classes [ce0 a rc tp uc, aS K (a 1) 601 S, aI K (a 4) 600 rl, aI K y 601 (sn_h2 rl (sn_h1 S Wh tp) (i + 1))] H := by rw [← sn_h2_s]; exact hP
                have hD : va_D A [ce0 a rc tp uc, aS K (a 1) 601 S, aI K (a 4) 600 rl, aI K y 601 (sn_h2 rl (sn_h1 S Wh tp) (i + 1))] := by rw [← sn_h2_s]; exact hD
                have hl := lv_sub (l' := [(0, .ref (a 0)), (1, .ref y), (2, .int (nI (i + 1)))]) hl [1, 2, 0] rfl
                exact ih1 (i + 1) _ _ _ (by omega) (by omega) hl hP hD hS
        have hP : va_P D classes [ce0 a rc tp uc, aS K (a 1) 601 S, aI K (a 4) 600 rl, aI K y 601 (sn_h2 rl (sn_h1 S Wh tp) 0)] H := by rw [sn_h2_0]; exact hP
        have hD : va_D A [ce0 a rc tp uc, aS K (a 1) 601 S, aI K (a 4) 600 rl, aI K y 601 (sn_h2 rl (sn_h1 S Wh tp) 0)] := by rw [sn_h2_0]; exact hD
        have hl := lv_sub (l' := [(0, .ref (a 0)), (1, .ref y), (2, .int (nI 0))]) hl [1, 2, 0] rfl
        exact loop1 _ 0 _ _ _ (Nat.lt_succ_self _) (by omega) hl hP hD hS
      · refine lv_iload_n hx hb d_St_countHolders_10 rfl (lv_at hl 2 rfl) ?_
        refine lv_aload_n hx hb d_St_countHolders_11 rfl (lv_at hl 1 rfl) ?_
        refine va_alen (v := nI 601) hx hb hK hP 3 0 rfl rfl rfl d_St_countHolders_12 ?_
        refine sn_icmp_ge (by omega) (by omega) (tgt := 38) hx hb d_St_countHolders_13 (by decide) (fun h2 => ?_) (fun h2 => ?_)
        · omega
        · refine lv_aload_n hx hb d_St_countHolders_16 rfl (lv_at hl 1 rfl) ?_
          refine lv_iload_n hx hb d_St_countHolders_17 rfl (lv_at hl 2 rfl) ?_
          refine lv_aload_n hx hb d_St_countHolders_18 rfl (lv_at hl 0 rfl) ?_
          refine lv_iload_n hx hb d_St_countHolders_19 rfl (lv_at hl 2 rfl) ?_
          refine sn_rd (st1 := [.int (zb (decide (0 < (i + 1) ∧ (i + 1) ≤ 600 ∧ S (i + 1) = none))), .int (nI (i + 1)), .ref y]) (va_runV (As := [.int (nI (i + 1))]) (rest := [.int (nI (i + 1)), .ref y]) ⟨hx, hb, hml, hown, hts⟩ (c_St_isFree l D K a S rc tp uc (i + 1) (by omega) (hSz)) ⟨callB_of 1 hts (tw_in cm_St_isFree) rfl rfl rfl (hts _ gn_St) (hts _ tw_335) hd_St_isFree ⟨Nat.le_of_ble_eq_true rfl, Nat.le_of_ble_eq_true rfl⟩, hts _ gi_St_isFree, hts _ gs_St_isFree⟩ (sn_preV hK hN hP 0 rfl rfl [0, 1] rfl) rfl rfl hl.1 rfl (lv_room (Nat.le_of_ble_eq_true rfl)) d_St_countHolders_20 ⟨Nat.zero_le _, Nat.zero_le _⟩) rfl ?_
          refine sn_ifz_eq (tgt := 30) hx hb d_St_countHolders_23 (by decide) (fun h3 => ?_) (fun h3 => ?_)
          · refine lv_iconst (v := nI 1) hx hb d_St_countHolders_30 (by decide) ?_
            refine sn_iast nI (sn_h1 S Wh i) (i + 1) 1 hx hb hK hP hD hS 3 rfl (by omega) (by decide) d_St_countHolders_31 (fun H locs hP hD hS => ?_)
            have hP : va_P D classes [ce0 a rc tp uc, aS K (a 1) 601 S, aI K (a 4) 600 rl, aI K y 601 (va_up (sn_h1 S Wh i) (i + 1) 1)] H := hP
            have hD : va_D A [ce0 a rc tp uc, aS K (a 1) 601 S, aI K (a 4) 600 rl, aI K y 601 (va_up (sn_h1 S Wh i) (i + 1) 1)] := hD
            refine lv_iinc (k := 2) (v := nI ((i + 1) + 1)) (lv' := [(2, .int (nI ((i + 1) + 1))), (0, .ref (a 0)), (1, .ref y)]) hx hb d_St_countHolders_32 hl rfl (sn_inc _) (by decide) rfl (fun ls hl => ?_)
            refine lv_goto (tgt := 2) hx hb d_St_countHolders_35 (by decide) ?_
            rw [sn_h1_b (fun h9 => h3 ⟨by omega, by omega, h9⟩)] at hP hD
            have hP : va_P D classes [ce0 a rc tp uc, aS K (a 1) 601 S, aI K (a 4) 600 rl, aI K y 601 (sn_h1 S Wh (i + 1))] H := hP
            have hD : va_D A [ce0 a rc tp uc, aS K (a 1) 601 S, aI K (a 4) 600 rl, aI K y 601 (sn_h1 S Wh (i + 1))] := hD
            have hl := lv_sub (l' := [(0, .ref (a 0)), (1, .ref y), (2, .int (nI ((i + 1) + 1)))]) hl [1, 2, 0] rfl
            exact ih0 (i + 1) _ _ _ (by omega) (by omega) hl hP hD hS
          · refine lv_iconst (v := nI 0) hx hb d_St_countHolders_26 (by decide) ?_
            refine lv_goto (tgt := 31) hx hb d_St_countHolders_27 (by decide) ?_
            refine sn_iast nI (sn_h1 S Wh i) (i + 1) 0 hx hb hK hP hD hS 3 rfl (by omega) (by decide) d_St_countHolders_31 (fun H locs hP hD hS => ?_)
            have hP : va_P D classes [ce0 a rc tp uc, aS K (a 1) 601 S, aI K (a 4) 600 rl, aI K y 601 (va_up (sn_h1 S Wh i) (i + 1) 0)] H := hP
            have hD : va_D A [ce0 a rc tp uc, aS K (a 1) 601 S, aI K (a 4) 600 rl, aI K y 601 (va_up (sn_h1 S Wh i) (i + 1) 0)] := hD
            refine lv_iinc (k := 2) (v := nI ((i + 1) + 1)) (lv' := [(2, .int (nI ((i + 1) + 1))), (0, .ref (a 0)), (1, .ref y)]) hx hb d_St_countHolders_32 hl rfl (sn_inc _) (by decide) rfl (fun ls hl => ?_)
            refine lv_goto (tgt := 2) hx hb d_St_countHolders_35 (by decide) ?_
            rw [sn_h1_a h3.2.2] at hP hD
            have hP : va_P D classes [ce0 a rc tp uc, aS K (a 1) 601 S, aI K (a 4) 600 rl, aI K y 601 (sn_h1 S Wh (i + 1))] H := hP
            have hD : va_D A [ce0 a rc tp uc, aS K (a 1) 601 S, aI K (a 4) 600 rl, aI K y 601 (sn_h1 S Wh (i + 1))] := hD
            have hl := lv_sub (l' := [(0, .ref (a 0)), (1, .ref y), (2, .int (nI ((i + 1) + 1)))]) hl [1, 2, 0] rfl
            exact ih0 (i + 1) _ _ _ (by omega) (by omega) hl hP hD hS
  have hP : va_P D classes [ce0 a rc tp uc, aS K (a 1) 601 S, aI K (a 4) 600 rl, aI K y 601 (sn_h1 S Wh 0)] s9.heap := by rw [sn_h1_0]; exact hP
  have hD : va_D A [ce0 a rc tp uc, aS K (a 1) 601 S, aI K (a 4) 600 rl, aI K y 601 (sn_h1 S Wh 0)] := by rw [sn_h1_0]; exact hD
  have hl := lv_sub (l' := [(0, .ref (a 0)), (1, .ref y), (2, .int (nI (0 + 1)))]) hl [1, 2, 0] rfl
  exact loop0 _ 0 _ _ _ (Nat.lt_succ_self _) (by omega) hl hP hD hS
set_option maxHeartbeats 4000000 in
set_option maxRecDepth 100000 in
theorem c_Au_isMarkInUse (l : Launch) (D : va_G) (K : Nat → ClassId) (ad : Nat → Nat) (a : Nat → Nat) (ph : Nat) (cu : Nat) (p : Nat) (hph : ph < 3) (hcu : ph = 2 → cu < 2 ^ 31) (hp : p < 2 ^ 31) : Met l y_Au_isMarkInUse w_Au_isMarkInUse ({ frames := 1, cells := 0, slots := 0, locals := 21 }) (va_Pc [.ref (a 13), .int (nI p)] (sn_BP D K ad [cc0 a ad ph cu, ca0 a])) (sn_QR (some (.int (zb (decide (ph = 1 ∨ (ph = 2 ∧ cu ≤ p))))))) 0 0 (fun _ => False) := by
  refine sn_met (own := R_Au) (by decide +kernel) rfl rfl (Nat.le_of_ble_eq_true rfl) ?_
  intro P9 E9 s9 m9 args below M9 c9 ls Q hQ hx hb hml hrt hlk hts hown hnm hl hB
  obtain ⟨⟨hP, hK, hN⟩, hE⟩ := hB
  have hl : lv_has ls 2 [(0, .ref (a 13)), (1, .int (nI p))] := hl
  have hS : va_S (fun _ => False) s9.heap s9.heap [] := va_S.rf
  refine lv_aload_n hx hb d_Au_isMarkInUse_0 rfl (lv_at hl 0 rfl) ?_
  refine va_get (D := D) (ci := 4) (v := .ref (a 8)) (C := R_Au) (T := F_Au) (N := 5) hx hb hts in_Au hown hK hP 1 rfl rfl 1 (by decide) (hts _ tw_140) (fun _ h9 => h9) rfl d_Au_isMarkInUse_1 ?_
  refine sn_rd (st1 := [.ref (ad ph)]) (va_runV (As := []) (rest := []) ⟨hx, hb, hml, hown, hts⟩ (c_Co_phase l D K ad a ph cu) ⟨callB_of 0 hts (tw_in cm_Co_phase) rfl rfl rfl (hts _ gn_Co) (hts _ tw_351) hd_Co_phase ⟨Nat.le_of_ble_eq_true rfl, Nat.le_of_ble_eq_true rfl⟩, hts _ gi_Co_phase, hts _ gs_Co_phase⟩ (sn_preV hK hN hP 0 rfl rfl [0] rfl) rfl rfl hl.1 rfl (lv_room (Nat.le_of_ble_eq_true rfl)) d_Au_isMarkInUse_4 ⟨Nat.zero_le _, Nat.zero_le _⟩) rfl ?_
  refine va_gets (C := "SnapshotHeap$Phase") (n := "MARKING") (d := "LSnapshotHeap$Phase;") (v := .ref (ad 1)) hx hb (hE.1 1 (by decide)).1 hS hown (hts _ tw_355) (fun _ h9 => h9) d_Au_isMarkInUse_7 ?_
  refine lv_acmp_eq (rx := some (ad ph)) (ry := some (ad 1)) (tgt := 24) hx hb d_Au_isMarkInUse_10 (by decide) (fun h1 => ?_) (fun h1 => ?_)
  · have h1 : ph = 1 := hE.2 _ _ (by show _ < 3; omega) (by show _ < 3; omega) (Option.some.inj h1)
    refine lv_iconst (v := nI 1) hx hb d_Au_isMarkInUse_24 (by decide) ?_
    refine lv_goto (tgt := 29) hx hb d_Au_isMarkInUse_25 (by decide) ?_
    exact sx_rz hQ hx hb hrt hlk (zb_yes (by first | exact Or.inl h1 | exact Or.inr h2)) d_Au_isMarkInUse_29
  · have h1 : ph ≠ 1 := fun h9 => h1 (by rw [h9])
    refine lv_aload_n hx hb d_Au_isMarkInUse_13 rfl (lv_at hl 0 rfl) ?_
    refine va_get (D := D) (ci := 4) (v := .ref (a 8)) (C := R_Au) (T := F_Au) (N := 5) hx hb hts in_Au hown hK hP 1 rfl rfl 1 (by decide) (hts _ tw_140) (fun _ h9 => h9) rfl d_Au_isMarkInUse_14 ?_
    refine lv_iload_n hx hb d_Au_isMarkInUse_17 rfl (lv_at hl 1 rfl) ?_
    refine sn_rd (st1 := [.int (zb (decide (ph = 2 ∧ cu ≤ p)))]) (va_runV (As := [.int (nI p)]) (rest := []) ⟨hx, hb, hml, hown, hts⟩ (c_Co_isYetToBeSwept l D K ad a ph cu p (hph) (hcu) (by omega)) ⟨callB_of 1 hts (tw_in cm_Co_isYetToBeSwept) rfl rfl rfl (hts _ gn_Co) (hts _ tw_369) hd_Co_isYetToBeSwept ⟨Nat.le_of_ble_eq_true rfl, Nat.le_of_ble_eq_true rfl⟩, hts _ gi_Co_isYetToBeSwept, hts _ gs_Co_isYetToBeSwept⟩ (sn_preVP hK hN hP hE hS 0 rfl rfl [0] rfl) rfl rfl hl.1 rfl (lv_room (Nat.le_of_ble_eq_true rfl)) d_Au_isMarkInUse_18 ⟨Nat.zero_le _, Nat.zero_le _⟩) rfl ?_
    refine sn_ifz_eq (tgt := 28) hx hb d_Au_isMarkInUse_21 (by decide) (fun h2 => ?_) (fun h2 => ?_)
    · refine lv_iconst (v := nI 0) hx hb d_Au_isMarkInUse_28 (by decide) ?_
      exact sx_rz hQ hx hb hrt hlk (zb_no (fun h9 => h9.elim h1 h2)) d_Au_isMarkInUse_29
    · refine lv_iconst (v := nI 1) hx hb d_Au_isMarkInUse_24 (by decide) ?_
      refine lv_goto (tgt := 29) hx hb d_Au_isMarkInUse_25 (by decide) ?_
      exact sx_rz hQ hx hb hrt hlk (zb_yes (by first | exact Or.inl h1 | exact Or.inr h2)) d_Au_isMarkInUse_29
set_option maxHeartbeats 4000000 in
set_option maxRecDepth 100000 in
theorem c_Au_isMarkWrong (l : Launch) (D : va_G) (K : Nat → ClassId) (ad : Nat → Nat) (a : Nat → Nat) (S : Nat → Option Nat) (rc : Nat) (tp : Nat) (uc : Nat) (X : SnM) (ph : Nat) (cu : Nat) (T : SnM) (d : Nat) (m : Nat) (c : Nat) (h : Int64) (F : Nat → Nat) (p : Nat) (h0 : 0 < p) (h6 : p ≤ 600) (hph : ph < 3) (hcu : ph = 2 → cu < 2 ^ 31) (hSz : ∀ q n, S q = some n → n ≤ 16) (hC : ∀ q, X.1 q ≤ 2) (hT : ∀ q, T.1 q ≤ 2) (hF : F p < 2 ^ 31) (k1 : (S p = none ∨ ¬ (ph = 1 ∨ (ph = 2 ∧ cu ≤ p))) → X.1 p = 0) (k2 : (ph = 1 ∨ (ph = 2 ∧ cu ≤ p)) → T.1 p ≠ 1 ∧ (0 < F p → T.1 p = 2)) : Met l y_Au_isMarkWrong w_Au_isMarkWrong ({ frames := 2, cells := 0, slots := 0, locals := 42 }) (va_Pc [.ref (a 13), .int (nI p)] (sn_BP D K ad [ce0 a rc tp uc, aS K (a 1) 601 S, cm0 a (a 5) (a 6) (a 7) X.2.2, aI K (a 6) 601 X.1, cc0 a ad ph cu, cw0 a d m c h, aI K (a 10) 601 F, ca0 a, cm0 a (a 14) (a 15) (a 16) T.2.2, aI K (a 15) 601 T.1])) (sn_QR (some (.int (zb (decide (False)))))) 0 0 (fun _ => False) := by
  refine sn_met (own := R_Au) (by decide +kernel) rfl rfl (Nat.le_of_ble_eq_true rfl) ?_
  intro P9 E9 s9 m9 args below M9 c9 ls Q hQ hx hb hml hrt hlk hts hown hnm hl hB
  obtain ⟨⟨hP, hK, hN⟩, hE⟩ := hB
  have hl : lv_has ls 2 [(0, .ref (a 13)), (1, .int (nI p))] := hl
  have hS : va_S (fun _ => False) s9.heap s9.heap [] := va_S.rf
  refine lv_aload_n hx hb d_Au_isMarkWrong_0 rfl (lv_at hl 0 rfl) ?_
  refine va_get (D := D) (ci := 4) (v := .ref (a 0)) (C := R_Au) (T := F_Au) (N := 5) hx hb hts in_Au hown hK hP 7 rfl rfl 0 (by decide) (hts _ tw_139) (fun _ h9 => h9) rfl d_Au_isMarkWrong_1 ?_
  refine lv_iload_n hx hb d_Au_isMarkWrong_4 rfl (lv_at hl 1 rfl) ?_
  refine sn_rd (st1 := [.int (zb (decide (0 < p ∧ p ≤ 600 ∧ S p = none)))]) (va_runV (As := [.int (nI p)]) (rest := []) ⟨hx, hb, hml, hown, hts⟩ (c_St_isFree l D K a S rc tp uc p (by omega) (hSz)) ⟨callB_of 1 hts (tw_in cm_St_isFree) rfl rfl rfl (hts _ gn_St) (hts _ tw_360) hd_St_isFree ⟨Nat.le_of_ble_eq_true rfl, Nat.le_of_ble_eq_true rfl⟩, hts _ gi_St_isFree, hts _ gs_St_isFree⟩ (sn_preV hK hN hP 0 rfl rfl [0, 1] rfl) rfl rfl hl.1 rfl (lv_room (Nat.le_of_ble_eq_true rfl)) d_Au_isMarkWrong_5 ⟨Nat.zero_le _, Nat.zero_le _⟩) rfl ?_
  refine sn_ifz_ne (tgt := 19) hx hb d_Au_isMarkWrong_8 (by decide) (fun h1 => ?_) (fun h1 => ?_)
  · refine lv_aload_n hx hb d_Au_isMarkWrong_19 rfl (lv_at hl 0 rfl) ?_
    refine va_get (D := D) (ci := 4) (v := .ref (a 8)) (C := R_Au) (T := F_Au) (N := 5) hx hb hts in_Au hown hK hP 7 rfl rfl 1 (by decide) (hts _ tw_140) (fun _ h9 => h9) rfl d_Au_isMarkWrong_20 ?_
    refine sn_rd (st1 := [.ref (a 5)]) (va_runV (As := []) (rest := []) ⟨hx, hb, hml, hown, hts⟩ (c_Co_marking l D K ad a ph cu) ⟨callB_of 0 hts (tw_in cm_Co_marking) rfl rfl rfl (hts _ gn_Co) (hts _ tw_340) hd_Co_marking ⟨Nat.le_of_ble_eq_true rfl, Nat.le_of_ble_eq_true rfl⟩, hts _ gi_Co_marking, hts _ gs_Co_marking⟩ (sn_preV hK hN hP 4 rfl rfl [4] rfl) rfl rfl hl.1 rfl (lv_room (Nat.le_of_ble_eq_true rfl)) d_Au_isMarkWrong_23 ⟨Nat.zero_le _, Nat.zero_le _⟩) rfl ?_
    refine lv_iload_n hx hb d_Au_isMarkWrong_26 rfl (lv_at hl 1 rfl) ?_
    refine sn_rd (st1 := [.int (zb (decide (0 < p ∧ p ≤ 600 ∧ X.1 p = 0)))]) (va_runV (As := [.int (nI p)]) (rest := []) ⟨hx, hb, hml, hown, hts⟩ (c_Ma_isWhite l D K a (a 5) (a 6) (a 7) X.1 X.2.2 rc tp uc p (hC) (by omega)) ⟨callB_of 1 hts (tw_in cm_Ma_isWhite) rfl rfl rfl (hts _ gn_Ma) (hts _ tw_373) hd_Ma_isWhite ⟨Nat.le_of_ble_eq_true rfl, Nat.le_of_ble_eq_true rfl⟩, hts _ gi_Ma_isWhite, hts _ gs_Ma_isWhite⟩ (sn_preV hK hN hP 2 rfl rfl [0, 2, 3] rfl) rfl rfl hl.1 rfl (lv_room (Nat.le_of_ble_eq_true rfl)) d_Au_isMarkWrong_27 ⟨Nat.zero_le _, Nat.zero_le _⟩) rfl ?_
    refine sn_ifz_ne (tgt := 37) hx hb d_Au_isMarkWrong_30 (by decide) (fun h2 => ?_) (fun h2 => ?_)
    · refine lv_iconst (v := nI 0) hx hb d_Au_isMarkWrong_37 (by decide) ?_
      exact sx_rz hQ hx hb hrt hlk (zb_no (fun h9 => h9)) d_Au_isMarkWrong_38
    · refine lv_iconst (v := nI 1) hx hb d_Au_isMarkWrong_33 (by decide) ?_
      refine lv_goto (tgt := 38) hx hb d_Au_isMarkWrong_34 (by decide) ?_
      exact sx_rz hQ hx hb hrt hlk (zb_yes (by first | exact h2 ⟨h0, h6, k1 (Or.inl h1.2.2)⟩ | exact h3 ⟨h0, h6, k1 (Or.inr h2)⟩ | exact (k2 h2).1 h3.2.2 | exact h5 ⟨h0, h6, (k2 h2).2 h4.2.2⟩)) d_Au_isMarkWrong_38
  · refine lv_aload_n hx hb d_Au_isMarkWrong_11 rfl (lv_at hl 0 rfl) ?_
    refine lv_iload_n hx hb d_Au_isMarkWrong_12 rfl (lv_at hl 1 rfl) ?_
    refine sn_rd (st1 := [.int (zb (decide (ph = 1 ∨ (ph = 2 ∧ cu ≤ p))))]) (va_runV (As := [.int (nI p)]) (rest := []) ⟨hx, hb, hml, hown, hts⟩ (c_Au_isMarkInUse l D K ad a ph cu p (hph) (hcu) (by omega)) ⟨callB_of 1 hts (tw_in cm_Au_isMarkInUse) rfl rfl rfl (hts _ gn_Au) (hts _ tw_365) hd_Au_isMarkInUse ⟨Nat.le_of_ble_eq_true rfl, Nat.le_of_ble_eq_true rfl⟩, hts _ gi_Au_isMarkInUse, hts _ gs_Au_isMarkInUse⟩ (sn_preVP hK hN hP hE hS 7 rfl rfl [4, 7] rfl) rfl rfl hl.1 rfl (lv_room (Nat.le_of_ble_eq_true rfl)) d_Au_isMarkWrong_13 ⟨Nat.zero_le _, Nat.zero_le _⟩) rfl ?_
    refine sn_ifz_ne (tgt := 39) hx hb d_Au_isMarkWrong_16 (by decide) (fun h2 => ?_) (fun h2 => ?_)
    · refine lv_aload_n hx hb d_Au_isMarkWrong_39 rfl (lv_at hl 0 rfl) ?_
      refine va_get (D := D) (ci := 4) (v := .ref (a 14)) (C := R_Au) (T := F_Au) (N := 5) hx hb hts in_Au hown hK hP 7 rfl rfl 3 (by decide) (hts _ tw_142) (fun _ h9 => h9) rfl d_Au_isMarkWrong_40 ?_
      refine lv_iload_n hx hb d_Au_isMarkWrong_43 rfl (lv_at hl 1 rfl) ?_
      refine sn_rd (st1 := [.int (zb (decide (0 < p ∧ p ≤ 600 ∧ T.1 p = 1)))]) (va_runV (As := [.int (nI p)]) (rest := []) ⟨hx, hb, hml, hown, hts⟩ (c_Ma_isGrey l D K a (a 14) (a 15) (a 16) T.1 T.2.2 rc tp uc p (hT) (by omega)) ⟨callB_of 1 hts (tw_in cm_Ma_isGrey) rfl rfl rfl (hts _ gn_Ma) (hts _ tw_377) hd_Ma_isGrey ⟨Nat.le_of_ble_eq_true rfl, Nat.le_of_ble_eq_true rfl⟩, hts _ gi_Ma_isGrey, hts _ gs_Ma_isGrey⟩ (sn_preV hK hN hP 8 rfl rfl [0, 8, 9] rfl) rfl rfl hl.1 rfl (lv_room (Nat.le_of_ble_eq_true rfl)) d_Au_isMarkWrong_44 ⟨Nat.zero_le _, Nat.zero_le _⟩) rfl ?_
      refine sn_ifz_ne (tgt := 72) hx hb d_Au_isMarkWrong_47 (by decide) (fun h3 => ?_) (fun h3 => ?_)
      · refine lv_iconst (v := nI 1) hx hb d_Au_isMarkWrong_72 (by decide) ?_
        refine lv_goto (tgt := 77) hx hb d_Au_isMarkWrong_73 (by decide) ?_
        exact sx_rz hQ hx hb hrt hlk (zb_yes (by first | exact h2 ⟨h0, h6, k1 (Or.inl h1.2.2)⟩ | exact h3 ⟨h0, h6, k1 (Or.inr h2)⟩ | exact (k2 h2).1 h3.2.2 | exact h5 ⟨h0, h6, (k2 h2).2 h4.2.2⟩)) d_Au_isMarkWrong_77
      · refine lv_aload_n hx hb d_Au_isMarkWrong_50 rfl (lv_at hl 0 rfl) ?_
        refine va_get (D := D) (ci := 4) (v := .ref (a 9)) (C := R_Au) (T := F_Au) (N := 5) hx hb hts in_Au hown hK hP 7 rfl rfl 2 (by decide) (hts _ tw_141) (fun _ h9 => h9) rfl d_Au_isMarkWrong_51 ?_
        refine lv_iload_n hx hb d_Au_isMarkWrong_54 rfl (lv_at hl 1 rfl) ?_
        refine sn_rd (st1 := [.int (zb (decide (0 < p ∧ p ≤ 600 ∧ 0 < F p)))]) (va_runV (As := [.int (nI p)]) (rest := []) ⟨hx, hb, hml, hown, hts⟩ (c_Wa_hasMet l D K a d m c h F rc tp uc p (by omega) (by omega)) ⟨callB_of 1 hts (tw_in cm_Wa_hasMet) rfl rfl rfl (hts _ gn_Wa) (hts _ tw_359) hd_Wa_hasMet ⟨Nat.le_of_ble_eq_true rfl, Nat.le_of_ble_eq_true rfl⟩, hts _ gi_Wa_hasMet, hts _ gs_Wa_hasMet⟩ (sn_preV hK hN hP 5 rfl rfl [0, 5, 6] rfl) rfl rfl hl.1 rfl (lv_room (Nat.le_of_ble_eq_true rfl)) d_Au_isMarkWrong_55 ⟨Nat.zero_le _, Nat.zero_le _⟩) rfl ?_
        refine sn_ifz_eq (tgt := 76) hx hb d_Au_isMarkWrong_58 (by decide) (fun h4 => ?_) (fun h4 => ?_)
        · refine lv_iconst (v := nI 0) hx hb d_Au_isMarkWrong_76 (by decide) ?_
          exact sx_rz hQ hx hb hrt hlk (zb_no (fun h9 => h9)) d_Au_isMarkWrong_77
        · refine lv_aload_n hx hb d_Au_isMarkWrong_61 rfl (lv_at hl 0 rfl) ?_
          refine va_get (D := D) (ci := 4) (v := .ref (a 14)) (C := R_Au) (T := F_Au) (N := 5) hx hb hts in_Au hown hK hP 7 rfl rfl 3 (by decide) (hts _ tw_142) (fun _ h9 => h9) rfl d_Au_isMarkWrong_62 ?_
          refine lv_iload_n hx hb d_Au_isMarkWrong_65 rfl (lv_at hl 1 rfl) ?_
          refine sn_rd (st1 := [.int (zb (decide (0 < p ∧ p ≤ 600 ∧ T.1 p = 2)))]) (va_runV (As := [.int (nI p)]) (rest := []) ⟨hx, hb, hml, hown, hts⟩ (c_Ma_isBlack l D K a (a 14) (a 15) (a 16) T.1 T.2.2 rc tp uc p (hT) (by omega)) ⟨callB_of 1 hts (tw_in cm_Ma_isBlack) rfl rfl rfl (hts _ gn_Ma) (hts _ tw_381) hd_Ma_isBlack ⟨Nat.le_of_ble_eq_true rfl, Nat.le_of_ble_eq_true rfl⟩, hts _ gi_Ma_isBlack, hts _ gs_Ma_isBlack⟩ (sn_preV hK hN hP 8 rfl rfl [0, 8, 9] rfl) rfl rfl hl.1 rfl (lv_room (Nat.le_of_ble_eq_true rfl)) d_Au_isMarkWrong_66 ⟨Nat.zero_le _, Nat.zero_le _⟩) rfl ?_
          refine sn_ifz_ne (tgt := 76) hx hb d_Au_isMarkWrong_69 (by decide) (fun h5 => ?_) (fun h5 => ?_)
          · refine lv_iconst (v := nI 0) hx hb d_Au_isMarkWrong_76 (by decide) ?_
            exact sx_rz hQ hx hb hrt hlk (zb_no (fun h9 => h9)) d_Au_isMarkWrong_77
          · refine lv_iconst (v := nI 1) hx hb d_Au_isMarkWrong_72 (by decide) ?_
            refine lv_goto (tgt := 77) hx hb d_Au_isMarkWrong_73 (by decide) ?_
            exact sx_rz hQ hx hb hrt hlk (zb_yes (by first | exact h2 ⟨h0, h6, k1 (Or.inl h1.2.2)⟩ | exact h3 ⟨h0, h6, k1 (Or.inr h2)⟩ | exact (k2 h2).1 h3.2.2 | exact h5 ⟨h0, h6, (k2 h2).2 h4.2.2⟩)) d_Au_isMarkWrong_77
    · refine lv_aload_n hx hb d_Au_isMarkWrong_19 rfl (lv_at hl 0 rfl) ?_
      refine va_get (D := D) (ci := 4) (v := .ref (a 8)) (C := R_Au) (T := F_Au) (N := 5) hx hb hts in_Au hown hK hP 7 rfl rfl 1 (by decide) (hts _ tw_140) (fun _ h9 => h9) rfl d_Au_isMarkWrong_20 ?_
      refine sn_rd (st1 := [.ref (a 5)]) (va_runV (As := []) (rest := []) ⟨hx, hb, hml, hown, hts⟩ (c_Co_marking l D K ad a ph cu) ⟨callB_of 0 hts (tw_in cm_Co_marking) rfl rfl rfl (hts _ gn_Co) (hts _ tw_340) hd_Co_marking ⟨Nat.le_of_ble_eq_true rfl, Nat.le_of_ble_eq_true rfl⟩, hts _ gi_Co_marking, hts _ gs_Co_marking⟩ (sn_preV hK hN hP 4 rfl rfl [4] rfl) rfl rfl hl.1 rfl (lv_room (Nat.le_of_ble_eq_true rfl)) d_Au_isMarkWrong_23 ⟨Nat.zero_le _, Nat.zero_le _⟩) rfl ?_
      refine lv_iload_n hx hb d_Au_isMarkWrong_26 rfl (lv_at hl 1 rfl) ?_
      refine sn_rd (st1 := [.int (zb (decide (0 < p ∧ p ≤ 600 ∧ X.1 p = 0)))]) (va_runV (As := [.int (nI p)]) (rest := []) ⟨hx, hb, hml, hown, hts⟩ (c_Ma_isWhite l D K a (a 5) (a 6) (a 7) X.1 X.2.2 rc tp uc p (hC) (by omega)) ⟨callB_of 1 hts (tw_in cm_Ma_isWhite) rfl rfl rfl (hts _ gn_Ma) (hts _ tw_373) hd_Ma_isWhite ⟨Nat.le_of_ble_eq_true rfl, Nat.le_of_ble_eq_true rfl⟩, hts _ gi_Ma_isWhite, hts _ gs_Ma_isWhite⟩ (sn_preV hK hN hP 2 rfl rfl [0, 2, 3] rfl) rfl rfl hl.1 rfl (lv_room (Nat.le_of_ble_eq_true rfl)) d_Au_isMarkWrong_27 ⟨Nat.zero_le _, Nat.zero_le _⟩) rfl ?_
      refine sn_ifz_ne (tgt := 37) hx hb d_Au_isMarkWrong_30 (by decide) (fun h3 => ?_) (fun h3 => ?_)
      · refine lv_iconst (v := nI 0) hx hb d_Au_isMarkWrong_37 (by decide) ?_
        exact sx_rz hQ hx hb hrt hlk (zb_no (fun h9 => h9)) d_Au_isMarkWrong_38
      · refine lv_iconst (v := nI 1) hx hb d_Au_isMarkWrong_33 (by decide) ?_
        refine lv_goto (tgt := 38) hx hb d_Au_isMarkWrong_34 (by decide) ?_
        exact sx_rz hQ hx hb hrt hlk (zb_yes (by first | exact h2 ⟨h0, h6, k1 (Or.inl h1.2.2)⟩ | exact h3 ⟨h0, h6, k1 (Or.inr h2)⟩ | exact (k2 h2).1 h3.2.2 | exact h5 ⟨h0, h6, (k2 h2).2 h4.2.2⟩)) d_Au_isMarkWrong_38
set_option maxHeartbeats 4000000 in
set_option maxRecDepth 100000 in
theorem c_Au_markToTheEnd (l : Launch) (D : va_G) (K : Nat → ClassId) (ad : Nat → Nat) (a : Nat → Nat) (S : Nat → Option Nat) (L : Nat → Nat) (rc : Nat) (tp : Nat) (uc : Nat) (X : SnM) (ph : Nat) (cu : Nat) (T : SnM) (Y : SnM) (hph : ph < 3) (hSz : ∀ q n, S q = some n → n ≤ 16) (hL : ∀ s, L s ≤ 600) (hX : (∀ q, X.1 q ≤ 2) ∧ X.2.2 ≤ 600) (hwl : ph = 1 → sn_wl 600 X) (hy1 : ph = 1 → Y = sn_mloop 600 S L 600 X) (hy0 : ph ≠ 1 → Y = X) : Met l y_Au_markToTheEnd w_Au_markToTheEnd ({ frames := 4, cells := 0, slots := 0, locals := 86 }) (va_Pc [.ref (a 13)] (sn_BE D K ad [ce0 a rc tp uc, aS K (a 1) 601 S, aI K (a 2) 9616 L, cm0 a (a 5) (a 6) (a 7) X.2.2, aI K (a 6) 601 X.1, aI K (a 7) 600 X.2.1, cc0 a ad ph cu, ca0 a, cm0 a (a 14) (a 15) (a 16) T.2.2, aI K (a 15) 601 T.1, aI K (a 16) 600 T.2.1])) (sn_Q D [ce0 a rc tp uc, aS K (a 1) 601 S, aI K (a 2) 9616 L, cm0 a (a 5) (a 6) (a 7) X.2.2, aI K (a 6) 601 X.1, aI K (a 7) 600 X.2.1, cc0 a ad ph cu, ca0 a, cm0 a (a 14) (a 15) (a 16) T.2.2, aI K (a 15) 601 T.1, aI K (a 16) 600 T.2.1] [ce0 a rc tp uc, aS K (a 1) 601 S, aI K (a 2) 9616 L, cm0 a (a 5) (a 6) (a 7) X.2.2, aI K (a 6) 601 X.1, aI K (a 7) 600 X.2.1, cc0 a ad ph cu, ca0 a, cm0 a (a 14) (a 15) (a 16) Y.2.2, aI K (a 15) 601 Y.1, aI K (a 16) 600 Y.2.1] none) 0 0 (sn_A [ce0 a rc tp uc, aS K (a 1) 601 S, aI K (a 2) 9616 L, cm0 a (a 5) (a 6) (a 7) X.2.2, aI K (a 6) 601 X.1, aI K (a 7) 600 X.2.1, cc0 a ad ph cu, ca0 a, cm0 a (a 14) (a 15) (a 16) T.2.2, aI K (a 15) 601 T.1, aI K (a 16) 600 T.2.1]) := by
  refine sn_met (own := R_Au) (by decide +kernel) rfl rfl (Nat.le_of_ble_eq_true rfl) ?_
  intro P9 E9 s9 m9 args below M9 c9 ls Q hQ hx hb hml hrt hlk hts hown hnm hl hB
  obtain ⟨⟨⟨hP, hK, hN⟩, hD⟩, hE⟩ := hB
  have hl : lv_has ls 3 [(0, .ref (a 13))] := hl
  have hD := sn_DA hD
  have hS : va_S (sn_A [ce0 a rc tp uc, aS K (a 1) 601 S, aI K (a 2) 9616 L, cm0 a (a 5) (a 6) (a 7) X.2.2, aI K (a 6) 601 X.1, aI K (a 7) 600 X.2.1, cc0 a ad ph cu, ca0 a, cm0 a (a 14) (a 15) (a 16) T.2.2, aI K (a 15) 601 T.1, aI K (a 16) 600 T.2.1]) s9.heap s9.heap [] := va_S.rf
  generalize hAe : sn_A [ce0 a rc tp uc, aS K (a 1) 601 S, aI K (a 2) 9616 L, cm0 a (a 5) (a 6) (a 7) X.2.2, aI K (a 6) 601 X.1, aI K (a 7) 600 X.2.1, cc0 a ad ph cu, ca0 a, cm0 a (a 14) (a 15) (a 16) T.2.2, aI K (a 15) 601 T.1, aI K (a 16) 600 T.2.1] = A at hE hD hS
  refine lv_aload_n hx hb d_Au_markToTheEnd_0 rfl (lv_at hl 0 rfl) ?_
  refine va_get (D := D) (ci := 4) (v := .ref (a 14)) (C := R_Au) (T := F_Au) (N := 5) hx hb hts in_Au hown hK hP 7 rfl rfl 3 (by decide) (hts _ tw_142) (fun _ h9 => h9) rfl d_Au_markToTheEnd_1 ?_
  refine lv_aload_n hx hb d_Au_markToTheEnd_4 rfl (lv_at hl 0 rfl) ?_
  refine va_get (D := D) (ci := 4) (v := .ref (a 8)) (C := R_Au) (T := F_Au) (N := 5) hx hb hts in_Au hown hK hP 7 rfl rfl 1 (by decide) (hts _ tw_140) (fun _ h9 => h9) rfl d_Au_markToTheEnd_5 ?_
  refine sn_rd (st1 := [.ref (a 5), .ref (a 14)]) (va_runV (As := []) (rest := [.ref (a 14)]) ⟨hx, hb, hml, hown, hts⟩ (c_Co_marking l D K ad a ph cu) ⟨callB_of 0 hts (tw_in cm_Co_marking) rfl rfl rfl (hts _ gn_Co) (hts _ tw_340) hd_Co_marking ⟨Nat.le_of_ble_eq_true rfl, Nat.le_of_ble_eq_true rfl⟩, hts _ gi_Co_marking, hts _ gs_Co_marking⟩ (sn_preV hK hN hP 6 rfl rfl [6] rfl) rfl rfl hl.1 rfl (lv_room (Nat.le_of_ble_eq_true rfl)) d_Au_markToTheEnd_8 ⟨Nat.zero_le _, Nat.zero_le _⟩) rfl ?_
  refine sn_wrt (st1 := []) (w1 := [cm0 a (a 14) (a 15) (a 16) X.2.2, aI K (a 15) 601 X.1, aI K (a 16) 600 X.2.1, cm0 a (a 5) (a 6) (a 7) X.2.2, aI K (a 6) 601 X.1, aI K (a 7) 600 X.2.1]) (va_runV (As := [.ref (a 5)]) (rest := []) ⟨hx, hb, hml, hown, hts⟩ (c_Ma_imitate l D K a (a 14) (a 15) (a 16) T (a 5) (a 6) (a 7) X) ⟨callB_of 1 hts (tw_in cm_Ma_imitate) rfl rfl rfl (hts _ gn_Ma) (hts _ tw_344) hd_Ma_imitate ⟨Nat.le_of_ble_eq_true rfl, Nat.le_of_ble_eq_true rfl⟩, hts _ gi_Ma_imitate, hts _ gs_Ma_imitate⟩ (sn_preVW hK hN hP hD 8 rfl rfl [8, 9, 10, 3, 4, 5] rfl rfl) rfl rfl hl.1 rfl (lv_room (Nat.le_of_ble_eq_true rfl)) d_Au_markToTheEnd_11 ⟨Nat.zero_le _, Nat.zero_le _⟩) rfl hP hD hS [8, 9, 10, 3, 4, 5] rfl rfl (fun H locs hP hD hS => ?_)
  have hP : va_P D classes [ce0 a rc tp uc, aS K (a 1) 601 S, aI K (a 2) 9616 L, cm0 a (a 5) (a 6) (a 7) X.2.2, aI K (a 6) 601 X.1, aI K (a 7) 600 X.2.1, cc0 a ad ph cu, ca0 a, cm0 a (a 14) (a 15) (a 16) X.2.2, aI K (a 15) 601 X.1, aI K (a 16) 600 X.2.1] H := hP
  have hD : va_D A [ce0 a rc tp uc, aS K (a 1) 601 S, aI K (a 2) 9616 L, cm0 a (a 5) (a 6) (a 7) X.2.2, aI K (a 6) 601 X.1, aI K (a 7) 600 X.2.1, cc0 a ad ph cu, ca0 a, cm0 a (a 14) (a 15) (a 16) X.2.2, aI K (a 15) 601 X.1, aI K (a 16) 600 X.2.1] := hD
  refine lv_aload_n hx hb d_Au_markToTheEnd_14 rfl (lv_at hl 0 rfl) ?_
  refine va_get (D := D) (ci := 4) (v := .ref (a 8)) (C := R_Au) (T := F_Au) (N := 5) hx hb hts in_Au hown hK hP 7 rfl rfl 1 (by decide) (hts _ tw_140) (fun _ h9 => h9) rfl d_Au_markToTheEnd_15 ?_
  refine sn_rd (st1 := [.ref (ad ph)]) (va_runV (As := []) (rest := []) ⟨hx, hb, hml, hown, hts⟩ (c_Co_phase l D K ad a ph cu) ⟨callB_of 0 hts (tw_in cm_Co_phase) rfl rfl rfl (hts _ gn_Co) (hts _ tw_351) hd_Co_phase ⟨Nat.le_of_ble_eq_true rfl, Nat.le_of_ble_eq_true rfl⟩, hts _ gi_Co_phase, hts _ gs_Co_phase⟩ (sn_preV hK hN hP 6 rfl rfl [6] rfl) rfl rfl hl.1 rfl (lv_room (Nat.le_of_ble_eq_true rfl)) d_Au_markToTheEnd_18 ⟨Nat.zero_le _, Nat.zero_le _⟩) rfl ?_
  refine va_gets (C := "SnapshotHeap$Phase") (n := "MARKING") (d := "LSnapshotHeap$Phase;") (v := .ref (ad 1)) hx hb (hE.1 1 (by decide)).1 hS hown (hts _ tw_355) (fun _ h9 => h9) d_Au_markToTheEnd_21 ?_
  refine lv_acmp_ne (rx := some (ad ph)) (ry := some (ad 1)) (tgt := 31) hx hb d_Au_markToTheEnd_24 (by decide) (fun h1 => ?_) (fun h1 => ?_)
  · have h1 : ph ≠ 1 := fun h9 => h1 (by rw [h9])
    refine lv_iconst (v := nI 0) hx hb d_Au_markToTheEnd_31 (by decide) ?_
    refine lv_istore_n (lv' := [(1, .int (nI 0)), (0, .ref (a 13))]) hx hb d_Au_markToTheEnd_32 rfl hl (by decide) rfl (fun ls hl => ?_)
    refine lv_iconst (v := nI 0) hx hb d_Au_markToTheEnd_33 (by decide) ?_
    refine lv_istore_n (lv' := [(2, .int (nI 0)), (1, .int (nI 0)), (0, .ref (a 13))]) hx hb d_Au_markToTheEnd_34 rfl hl (by decide) rfl (fun ls hl => ?_)
    refine lv_iload_n hx hb d_Au_markToTheEnd_35 rfl (lv_at hl 1 rfl) ?_
    refine sn_if_eq (by omega) (tgt := 69) hx hb d_Au_markToTheEnd_36 (by decide) (fun h2 => ?_) (fun h2 => ?_)
    · rw [hy0 h1] at hQ
      subst hAe
      exact sx_wv hQ hx hb hrt hlk hP hS d_Au_markToTheEnd_69
    · omega
  · have h1 : ph = 1 := hE.2 _ _ (by show _ < 3; omega) (by show _ < 3; omega) (Option.some.inj h1)
    refine lv_iconst (v := nI 1) hx hb d_Au_markToTheEnd_27 (by decide) ?_
    refine lv_goto (tgt := 32) hx hb d_Au_markToTheEnd_28 (by decide) ?_
    refine lv_istore_n (lv' := [(1, .int (nI 1)), (0, .ref (a 13))]) hx hb d_Au_markToTheEnd_32 rfl hl (by decide) rfl (fun ls hl => ?_)
    refine lv_iconst (v := nI 0) hx hb d_Au_markToTheEnd_33 (by decide) ?_
    refine lv_istore_n (lv' := [(2, .int (nI 0)), (1, .int (nI 1)), (0, .ref (a 13))]) hx hb d_Au_markToTheEnd_34 rfl hl (by decide) rfl (fun ls hl => ?_)
    have loop0 : ∀ (nn : Nat) (i : Nat) (y : SnM) (ls : Array Slot) (H : Heap) (locs : List Loc), 600 - i < nn → (i ≤ 600) → (sn_wl 600 y) → (∀ q, y.1 q ≤ 2) → (sn_mloop 600 S L (600 - i) y = Y) → lv_has ls 3 [(0, .ref (a 13)), (1, .int (nI 1)), (2, .int (nI i))] → va_P D classes [ce0 a rc tp uc, aS K (a 1) 601 S, aI K (a 2) 9616 L, cm0 a (a 5) (a 6) (a 7) X.2.2, aI K (a 6) 601 X.1, aI K (a 7) 600 X.2.1, cc0 a ad ph cu, ca0 a, cm0 a (a 14) (a 15) (a 16) y.2.2, aI K (a 15) 601 y.1, aI K (a 16) 600 y.2.1] H → va_D A [ce0 a rc tp uc, aS K (a 1) 601 S, aI K (a 2) 9616 L, cm0 a (a 5) (a 6) (a 7) X.2.2, aI K (a 6) 601 X.1, aI K (a 7) 600 X.2.1, cc0 a ad ph cu, ca0 a, cm0 a (a 14) (a 15) (a 16) y.2.2, aI K (a 15) 601 y.1, aI K (a 16) 600 y.2.1] → va_S A s9.heap H locs → W P9 l E9 ({ frames := 4, cells := 0, slots := 0, locals := 86 }) s9 m9 args below M9 c9 H locs 0 0 Q (F0 m9 35 ls []) := by
      intro nn
      induction nn with
      | zero => intro i y ls H locs hn; exact absurd hn (Nat.not_lt_zero _)
      | succ nn ih0 =>
        intro i y ls H locs hmu hi hy hy2 ew hl hP hD hS
        have hyw := sn_wl_le hy
        have hyX : (∀ q, y.1 q ≤ 2) ∧ y.2.2 ≤ 600 := ⟨hy2, hyw⟩
        refine lv_iload_n hx hb d_Au_markToTheEnd_35 rfl (lv_at hl 1 rfl) ?_
        refine sn_if_eq (by omega) (tgt := 69) hx hb d_Au_markToTheEnd_36 (by decide) (fun h2 => ?_) (fun h2 => ?_)
        · omega
        · refine lv_iload_n hx hb d_Au_markToTheEnd_39 rfl (lv_at hl 2 rfl) ?_
          refine lv_sipush (v := nI 600) hx hb d_Au_markToTheEnd_40 (by decide) ?_
          refine sn_icmp_ge (by omega) (by omega) (tgt := 69) hx hb d_Au_markToTheEnd_43 (by decide) (fun h3 => ?_) (fun h3 => ?_)
          · have ei : i = 600 := by omega
            rw [ei, Nat.sub_self] at ew
            have ew : y = Y := ew
            rw [← ew] at hQ
            subst hAe
            exact sx_wv hQ hx hb hrt hlk hP hS d_Au_markToTheEnd_69
          · refine lv_aload_n hx hb d_Au_markToTheEnd_46 rfl (lv_at hl 0 rfl) ?_
            refine va_get (D := D) (ci := 4) (v := .ref (a 14)) (C := R_Au) (T := F_Au) (N := 5) hx hb hts in_Au hown hK hP 7 rfl rfl 3 (by decide) (hts _ tw_142) (fun _ h9 => h9) rfl d_Au_markToTheEnd_47 ?_
            refine sn_rd (st1 := [.int (zb (decide (y.2.2 = 0)))]) (va_runV (As := []) (rest := []) ⟨hx, hb, hml, hown, hts⟩ (c_Ma_isDone l D K a (a 14) (a 15) (a 16) y.2.2 (hyw)) ⟨callB_of 0 hts (tw_in cm_Ma_isDone) rfl rfl rfl (hts _ gn_Ma) (hts _ tw_356) hd_Ma_isDone ⟨Nat.le_of_ble_eq_true rfl, Nat.le_of_ble_eq_true rfl⟩, hts _ gi_Ma_isDone, hts _ gs_Ma_isDone⟩ (sn_preV hK hN hP 8 rfl rfl [8] rfl) rfl rfl hl.1 rfl (lv_room (Nat.le_of_ble_eq_true rfl)) d_Au_markToTheEnd_50 ⟨Nat.zero_le _, Nat.zero_le _⟩) rfl ?_
            refine sn_ifz_ne (tgt := 69) hx hb d_Au_markToTheEnd_53 (by decide) (fun h4 => ?_) (fun h4 => ?_)
            · have ew2 : y = Y := by rw [← ew]; exact (sn_mloop_0 _ h4).symm
              rw [← ew2] at hQ
              subst hAe
              exact sx_wv hQ hx hb hrt hlk hP hS d_Au_markToTheEnd_69
            · have hwy : 0 < y.2.2 := by omega
              have htp0 := (hy.2.1 (y.2.2 - 1) (by omega)).2
              have hmk := sn_mark1_2 (S := S) hL hy hy2 hwy
              refine lv_aload_n hx hb d_Au_markToTheEnd_56 rfl (lv_at hl 0 rfl) ?_
              refine va_get (D := D) (ci := 4) (v := .ref (a 14)) (C := R_Au) (T := F_Au) (N := 5) hx hb hts in_Au hown hK hP 7 rfl rfl 3 (by decide) (hts _ tw_142) (fun _ h9 => h9) rfl d_Au_markToTheEnd_57 ?_
              refine sn_wrt (st1 := []) (w1 := [ce0 a rc tp uc, aS K (a 1) 601 S, aI K (a 2) 9616 L, cm0 a (a 14) (a 15) (a 16) ((sn_mark1 600 S L y).2.2), aI K (a 15) 601 ((sn_mark1 600 S L y).1), aI K (a 16) 600 ((sn_mark1 600 S L y).2.1)]) (va_runV (As := []) (rest := []) ⟨hx, hb, hml, hown, hts⟩ (c_Ma_markOne l D K a S L rc tp uc (a 14) (a 15) (a 16) y (hyX) (hwy) (htp0.1) (htp0.2) (hSz) (hL)) ⟨callB_of 0 hts (tw_in cm_Ma_markOne) rfl rfl rfl (hts _ gn_Ma) (hts _ tw_357) hd_Ma_markOne ⟨Nat.le_of_ble_eq_true rfl, Nat.le_of_ble_eq_true rfl⟩, hts _ gi_Ma_markOne, hts _ gs_Ma_markOne⟩ (sn_preVW hK hN hP hD 8 rfl rfl [0, 1, 2, 8, 9, 10] rfl rfl) rfl rfl hl.1 rfl (lv_room (Nat.le_of_ble_eq_true rfl)) d_Au_markToTheEnd_60 ⟨Nat.zero_le _, Nat.zero_le _⟩) rfl hP hD hS [0, 1, 2, 8, 9, 10] rfl rfl (fun H locs hP hD hS => ?_)
              have hP : va_P D classes [ce0 a rc tp uc, aS K (a 1) 601 S, aI K (a 2) 9616 L, cm0 a (a 5) (a 6) (a 7) X.2.2, aI K (a 6) 601 X.1, aI K (a 7) 600 X.2.1, cc0 a ad ph cu, ca0 a, cm0 a (a 14) (a 15) (a 16) ((sn_mark1 600 S L y).2.2), aI K (a 15) 601 ((sn_mark1 600 S L y).1), aI K (a 16) 600 ((sn_mark1 600 S L y).2.1)] H := hP
              have hD : va_D A [ce0 a rc tp uc, aS K (a 1) 601 S, aI K (a 2) 9616 L, cm0 a (a 5) (a 6) (a 7) X.2.2, aI K (a 6) 601 X.1, aI K (a 7) 600 X.2.1, cc0 a ad ph cu, ca0 a, cm0 a (a 14) (a 15) (a 16) ((sn_mark1 600 S L y).2.2), aI K (a 15) 601 ((sn_mark1 600 S L y).1), aI K (a 16) 600 ((sn_mark1 600 S L y).2.1)] := hD
              refine lv_iinc (k := 2) (v := nI (i + 1)) (lv' := [(2, .int (nI (i + 1))), (0, .ref (a 13)), (1, .int (nI 1))]) hx hb d_Au_markToTheEnd_63 hl rfl (sn_inc _) (by decide) rfl (fun ls hl => ?_)
              refine lv_goto (tgt := 35) hx hb d_Au_markToTheEnd_66 (by decide) ?_
              have hl := lv_sub (l' := [(0, .ref (a 13)), (1, .int (nI 1)), (2, .int (nI (i + 1)))]) hl [1, 2, 0] rfl
              exact ih0 (i + 1) (sn_mark1 600 S L y) _ _ _ (by omega) (by omega) (hmk.1) (hmk.2) (by rw [← ew, show 600 - i = (600 - (i + 1)) + 1 by omega]; exact (if_pos (by omega)).symm) hl hP hD hS
    have hl := lv_sub (l' := [(0, .ref (a 13)), (1, .int (nI 1)), (2, .int (nI 0))]) hl [2, 1, 0] rfl
    exact loop0 _ 0 X _ _ _ (Nat.lt_succ_self _) (by omega) (hwl h1) (hX.1) ((hy1 h1).symm) hl hP hD hS
set_option maxHeartbeats 4000000 in
set_option maxRecDepth 100000 in
theorem c_Au_faults (l : Launch) (D : va_G) (K : Nat → ClassId) (ad : Nat → Nat) (a : Nat → Nat) (x : SnG) (z : SnW) (T : SnM) (Wh : Nat → Nat) (hg : sn_gc x) : Met l y_Au_faults w_Au_faults ({ frames := 5, cells := 0, slots := 0, locals := 109 }) (va_Pc [.ref (a 13)] (sn_BE D K ad [ce0 a (sn_rc x.1) (sn_tp x.1) (sn_uc x.1), aS K (a 1) 601 (sn_S x.1), aI K (a 2) 9616 (sn_L x.1), aL K (a 3) 9616 (sn_Nm x.1), aI K (a 4) 600 (sn_rl x.1), cm0 a (a 5) (a 6) (a 7) x.2.1.2.2, aI K (a 6) 601 x.2.1.1, aI K (a 7) 600 x.2.1.2.1, cc0 a ad x.2.2.1 x.2.2.2, cw0 a z.2.2.2.1 z.2.2.2.2.1 z.2.2.2.2.2.1 z.2.2.2.2.2.2, aI K (a 10) 601 z.1, aI K (a 11) 601 z.2.1, aI K (a 12) 601 z.2.2.1, ca0 a, cm0 a (a 14) (a 15) (a 16) T.2.2, aI K (a 15) 601 T.1, aI K (a 16) 600 T.2.1, aI K (a 17) 601 Wh])) (sn_Q D [ce0 a (sn_rc x.1) (sn_tp x.1) (sn_uc x.1), aS K (a 1) 601 (sn_S x.1), aI K (a 2) 9616 (sn_L x.1), aL K (a 3) 9616 (sn_Nm x.1), aI K (a 4) 600 (sn_rl x.1), cm0 a (a 5) (a 6) (a 7) x.2.1.2.2, aI K (a 6) 601 x.2.1.1, aI K (a 7) 600 x.2.1.2.1, cc0 a ad x.2.2.1 x.2.2.2, cw0 a z.2.2.2.1 z.2.2.2.2.1 z.2.2.2.2.2.1 z.2.2.2.2.2.2, aI K (a 10) 601 z.1, aI K (a 11) 601 z.2.1, aI K (a 12) 601 z.2.2.1, ca0 a, cm0 a (a 14) (a 15) (a 16) T.2.2, aI K (a 15) 601 T.1, aI K (a 16) 600 T.2.1, aI K (a 17) 601 Wh] [ce0 a (sn_rc x.1) (sn_tp x.1) (sn_uc x.1), aS K (a 1) 601 (sn_S x.1), aI K (a 2) 9616 (sn_L x.1), aL K (a 3) 9616 (sn_Nm x.1), aI K (a 4) 600 (sn_rl x.1), cm0 a (a 5) (a 6) (a 7) x.2.1.2.2, aI K (a 6) 601 x.2.1.1, aI K (a 7) 600 x.2.1.2.1, cc0 a ad x.2.2.1 x.2.2.2, cw0 a ((sn_wrun (sn_S x.1) (sn_L x.1) (sn_Nm x.1) 10217 ((fun _ => 0, va_up z.2.1 0 0, va_up z.2.2.1 0 0, 1, 0, 0, 7) : SnW)).2.2.2.1) ((sn_wrun (sn_S x.1) (sn_L x.1) (sn_Nm x.1) 10217 ((fun _ => 0, va_up z.2.1 0 0, va_up z.2.2.1 0 0, 1, 0, 0, 7) : SnW)).2.2.2.2.1) ((sn_wrun (sn_S x.1) (sn_L x.1) (sn_Nm x.1) 10217 ((fun _ => 0, va_up z.2.1 0 0, va_up z.2.2.1 0 0, 1, 0, 0, 7) : SnW)).2.2.2.2.2.1) ((sn_wrun (sn_S x.1) (sn_L x.1) (sn_Nm x.1) 10217 ((fun _ => 0, va_up z.2.1 0 0, va_up z.2.2.1 0 0, 1, 0, 0, 7) : SnW)).2.2.2.2.2.2), aI K (a 10) 601 ((sn_wrun (sn_S x.1) (sn_L x.1) (sn_Nm x.1) 10217 ((fun _ => 0, va_up z.2.1 0 0, va_up z.2.2.1 0 0, 1, 0, 0, 7) : SnW)).1), aI K (a 11) 601 ((sn_wrun (sn_S x.1) (sn_L x.1) (sn_Nm x.1) 10217 ((fun _ => 0, va_up z.2.1 0 0, va_up z.2.2.1 0 0, 1, 0, 0, 7) : SnW)).2.1), aI K (a 12) 601 ((sn_wrun (sn_S x.1) (sn_L x.1) (sn_Nm x.1) 10217 ((fun _ => 0, va_up z.2.1 0 0, va_up z.2.2.1 0 0, 1, 0, 0, 7) : SnW)).2.2.1), ca0 a, cm0 a (a 14) (a 15) (a 16) ((sn_trial x).2.2), aI K (a 15) 601 ((sn_trial x).1), aI K (a 16) 600 ((sn_trial x).2.1), aI K (a 17) 601 (sn_h2 (sn_rl x.1) (sn_h1 (sn_S x.1) Wh (sn_tp x.1)) (sn_rc x.1))] (some (.int (nI 0)))) 0 0 (sn_A [ce0 a (sn_rc x.1) (sn_tp x.1) (sn_uc x.1), aS K (a 1) 601 (sn_S x.1), aI K (a 2) 9616 (sn_L x.1), aL K (a 3) 9616 (sn_Nm x.1), aI K (a 4) 600 (sn_rl x.1), cm0 a (a 5) (a 6) (a 7) x.2.1.2.2, aI K (a 6) 601 x.2.1.1, aI K (a 7) 600 x.2.1.2.1, cc0 a ad x.2.2.1 x.2.2.2, cw0 a z.2.2.2.1 z.2.2.2.2.1 z.2.2.2.2.2.1 z.2.2.2.2.2.2, aI K (a 10) 601 z.1, aI K (a 11) 601 z.2.1, aI K (a 12) 601 z.2.2.1, ca0 a, cm0 a (a 14) (a 15) (a 16) T.2.2, aI K (a 15) 601 T.1, aI K (a 16) 600 T.2.1, aI K (a 17) 601 Wh]) := by
  refine sn_met (own := R_Au) (by decide +kernel) rfl rfl (Nat.le_of_ble_eq_true rfl) ?_
  intro P9 E9 s9 m9 args below M9 c9 ls Q hQ hx hb hml hrt hlk hts hown hnm hl hB
  obtain ⟨⟨⟨hP, hK, hN⟩, hD⟩, hE⟩ := hB
  have hl : lv_has ls 4 [(0, .ref (a 13))] := hl
  have hD := sn_DA hD
  have hS : va_S (sn_A [ce0 a (sn_rc x.1) (sn_tp x.1) (sn_uc x.1), aS K (a 1) 601 (sn_S x.1), aI K (a 2) 9616 (sn_L x.1), aL K (a 3) 9616 (sn_Nm x.1), aI K (a 4) 600 (sn_rl x.1), cm0 a (a 5) (a 6) (a 7) x.2.1.2.2, aI K (a 6) 601 x.2.1.1, aI K (a 7) 600 x.2.1.2.1, cc0 a ad x.2.2.1 x.2.2.2, cw0 a z.2.2.2.1 z.2.2.2.2.1 z.2.2.2.2.2.1 z.2.2.2.2.2.2, aI K (a 10) 601 z.1, aI K (a 11) 601 z.2.1, aI K (a 12) 601 z.2.2.1, ca0 a, cm0 a (a 14) (a 15) (a 16) T.2.2, aI K (a 15) 601 T.1, aI K (a 16) 600 T.2.1, aI K (a 17) 601 Wh]) s9.heap s9.heap [] := va_S.rf
  generalize hAe : sn_A [ce0 a (sn_rc x.1) (sn_tp x.1) (sn_uc x.1), aS K (a 1) 601 (sn_S x.1), aI K (a 2) 9616 (sn_L x.1), aL K (a 3) 9616 (sn_Nm x.1), aI K (a 4) 600 (sn_rl x.1), cm0 a (a 5) (a 6) (a 7) x.2.1.2.2, aI K (a 6) 601 x.2.1.1, aI K (a 7) 600 x.2.1.2.1, cc0 a ad x.2.2.1 x.2.2.2, cw0 a z.2.2.2.1 z.2.2.2.2.1 z.2.2.2.2.2.1 z.2.2.2.2.2.2, aI K (a 10) 601 z.1, aI K (a 11) 601 z.2.1, aI K (a 12) 601 z.2.2.1, ca0 a, cm0 a (a 14) (a 15) (a 16) T.2.2, aI K (a 15) 601 T.1, aI K (a 16) 600 T.2.1, aI K (a 17) 601 Wh] = A at hE hD hS
  have hSz := sn_gc_hSz hg
  have hL := sn_gc_hL hg
  have hX := sn_gc_hX hg
  have hph := sn_gc_ph hg
  have hC := hX.1
  have hw := hX.2
  have htp := hg.1.2.2.1
  have hrc := sn_st_rc hg.1
  have hwb := sn_wrun_wb hg z
  have hcu := sn_gc_cu2 hg
  refine lv_aload_n hx hb d_Au_faults_0 rfl (lv_at hl 0 rfl) ?_
  refine va_get (D := D) (ci := 4) (v := .ref (a 9)) (C := R_Au) (T := F_Au) (N := 5) hx hb hts in_Au hown hK hP 13 rfl rfl 2 (by decide) (hts _ tw_141) (fun _ h9 => h9) rfl d_Au_faults_1 ?_
  refine sn_wrt (st1 := []) (w1 := [ce0 a (sn_rc x.1) (sn_tp x.1) (sn_uc x.1), aS K (a 1) 601 (sn_S x.1), aI K (a 2) 9616 (sn_L x.1), aL K (a 3) 9616 (sn_Nm x.1), cw0 a ((sn_wrun (sn_S x.1) (sn_L x.1) (sn_Nm x.1) 10217 ((fun _ => 0, va_up z.2.1 0 0, va_up z.2.2.1 0 0, 1, 0, 0, 7) : SnW)).2.2.2.1) ((sn_wrun (sn_S x.1) (sn_L x.1) (sn_Nm x.1) 10217 ((fun _ => 0, va_up z.2.1 0 0, va_up z.2.2.1 0 0, 1, 0, 0, 7) : SnW)).2.2.2.2.1) ((sn_wrun (sn_S x.1) (sn_L x.1) (sn_Nm x.1) 10217 ((fun _ => 0, va_up z.2.1 0 0, va_up z.2.2.1 0 0, 1, 0, 0, 7) : SnW)).2.2.2.2.2.1) ((sn_wrun (sn_S x.1) (sn_L x.1) (sn_Nm x.1) 10217 ((fun _ => 0, va_up z.2.1 0 0, va_up z.2.2.1 0 0, 1, 0, 0, 7) : SnW)).2.2.2.2.2.2), aI K (a 10) 601 ((sn_wrun (sn_S x.1) (sn_L x.1) (sn_Nm x.1) 10217 ((fun _ => 0, va_up z.2.1 0 0, va_up z.2.2.1 0 0, 1, 0, 0, 7) : SnW)).1), aI K (a 11) 601 ((sn_wrun (sn_S x.1) (sn_L x.1) (sn_Nm x.1) 10217 ((fun _ => 0, va_up z.2.1 0 0, va_up z.2.2.1 0 0, 1, 0, 0, 7) : SnW)).2.1), aI K (a 12) 601 ((sn_wrun (sn_S x.1) (sn_L x.1) (sn_Nm x.1) 10217 ((fun _ => 0, va_up z.2.1 0 0, va_up z.2.2.1 0 0, 1, 0, 0, 7) : SnW)).2.2.1)]) (va_runV (As := []) (rest := []) ⟨hx, hb, hml, hown, hts⟩ (c_Wa_run l D K a (sn_S x.1) (sn_L x.1) (sn_Nm x.1) (sn_rc x.1) (sn_tp x.1) (sn_uc x.1) z (hL) (hSz)) ⟨callB_of 0 hts (tw_in cm_Wa_run) rfl rfl rfl (hts _ gn_Wa) (hts _ tw_330) hd_Wa_run ⟨Nat.le_of_ble_eq_true rfl, Nat.le_of_ble_eq_true rfl⟩, hts _ gi_Wa_run, hts _ gs_Wa_run⟩ (sn_preVW hK hN hP hD 9 rfl rfl [0, 1, 2, 3, 9, 10, 11, 12] rfl rfl) rfl rfl hl.1 rfl (lv_room (Nat.le_of_ble_eq_true rfl)) d_Au_faults_4 ⟨Nat.zero_le _, Nat.zero_le _⟩) rfl hP hD hS [0, 1, 2, 3, 9, 10, 11, 12] rfl rfl (fun H locs hP hD hS => ?_)
  have hP : va_P D classes [ce0 a (sn_rc x.1) (sn_tp x.1) (sn_uc x.1), aS K (a 1) 601 (sn_S x.1), aI K (a 2) 9616 (sn_L x.1), aL K (a 3) 9616 (sn_Nm x.1), aI K (a 4) 600 (sn_rl x.1), cm0 a (a 5) (a 6) (a 7) x.2.1.2.2, aI K (a 6) 601 x.2.1.1, aI K (a 7) 600 x.2.1.2.1, cc0 a ad x.2.2.1 x.2.2.2, cw0 a ((sn_wrun (sn_S x.1) (sn_L x.1) (sn_Nm x.1) 10217 ((fun _ => 0, va_up z.2.1 0 0, va_up z.2.2.1 0 0, 1, 0, 0, 7) : SnW)).2.2.2.1) ((sn_wrun (sn_S x.1) (sn_L x.1) (sn_Nm x.1) 10217 ((fun _ => 0, va_up z.2.1 0 0, va_up z.2.2.1 0 0, 1, 0, 0, 7) : SnW)).2.2.2.2.1) ((sn_wrun (sn_S x.1) (sn_L x.1) (sn_Nm x.1) 10217 ((fun _ => 0, va_up z.2.1 0 0, va_up z.2.2.1 0 0, 1, 0, 0, 7) : SnW)).2.2.2.2.2.1) ((sn_wrun (sn_S x.1) (sn_L x.1) (sn_Nm x.1) 10217 ((fun _ => 0, va_up z.2.1 0 0, va_up z.2.2.1 0 0, 1, 0, 0, 7) : SnW)).2.2.2.2.2.2), aI K (a 10) 601 ((sn_wrun (sn_S x.1) (sn_L x.1) (sn_Nm x.1) 10217 ((fun _ => 0, va_up z.2.1 0 0, va_up z.2.2.1 0 0, 1, 0, 0, 7) : SnW)).1), aI K (a 11) 601 ((sn_wrun (sn_S x.1) (sn_L x.1) (sn_Nm x.1) 10217 ((fun _ => 0, va_up z.2.1 0 0, va_up z.2.2.1 0 0, 1, 0, 0, 7) : SnW)).2.1), aI K (a 12) 601 ((sn_wrun (sn_S x.1) (sn_L x.1) (sn_Nm x.1) 10217 ((fun _ => 0, va_up z.2.1 0 0, va_up z.2.2.1 0 0, 1, 0, 0, 7) : SnW)).2.2.1), ca0 a, cm0 a (a 14) (a 15) (a 16) T.2.2, aI K (a 15) 601 T.1, aI K (a 16) 600 T.2.1, aI K (a 17) 601 Wh] H := hP
  have hD : va_D A [ce0 a (sn_rc x.1) (sn_tp x.1) (sn_uc x.1), aS K (a 1) 601 (sn_S x.1), aI K (a 2) 9616 (sn_L x.1), aL K (a 3) 9616 (sn_Nm x.1), aI K (a 4) 600 (sn_rl x.1), cm0 a (a 5) (a 6) (a 7) x.2.1.2.2, aI K (a 6) 601 x.2.1.1, aI K (a 7) 600 x.2.1.2.1, cc0 a ad x.2.2.1 x.2.2.2, cw0 a ((sn_wrun (sn_S x.1) (sn_L x.1) (sn_Nm x.1) 10217 ((fun _ => 0, va_up z.2.1 0 0, va_up z.2.2.1 0 0, 1, 0, 0, 7) : SnW)).2.2.2.1) ((sn_wrun (sn_S x.1) (sn_L x.1) (sn_Nm x.1) 10217 ((fun _ => 0, va_up z.2.1 0 0, va_up z.2.2.1 0 0, 1, 0, 0, 7) : SnW)).2.2.2.2.1) ((sn_wrun (sn_S x.1) (sn_L x.1) (sn_Nm x.1) 10217 ((fun _ => 0, va_up z.2.1 0 0, va_up z.2.2.1 0 0, 1, 0, 0, 7) : SnW)).2.2.2.2.2.1) ((sn_wrun (sn_S x.1) (sn_L x.1) (sn_Nm x.1) 10217 ((fun _ => 0, va_up z.2.1 0 0, va_up z.2.2.1 0 0, 1, 0, 0, 7) : SnW)).2.2.2.2.2.2), aI K (a 10) 601 ((sn_wrun (sn_S x.1) (sn_L x.1) (sn_Nm x.1) 10217 ((fun _ => 0, va_up z.2.1 0 0, va_up z.2.2.1 0 0, 1, 0, 0, 7) : SnW)).1), aI K (a 11) 601 ((sn_wrun (sn_S x.1) (sn_L x.1) (sn_Nm x.1) 10217 ((fun _ => 0, va_up z.2.1 0 0, va_up z.2.2.1 0 0, 1, 0, 0, 7) : SnW)).2.1), aI K (a 12) 601 ((sn_wrun (sn_S x.1) (sn_L x.1) (sn_Nm x.1) 10217 ((fun _ => 0, va_up z.2.1 0 0, va_up z.2.2.1 0 0, 1, 0, 0, 7) : SnW)).2.2.1), ca0 a, cm0 a (a 14) (a 15) (a 16) T.2.2, aI K (a 15) 601 T.1, aI K (a 16) 600 T.2.1, aI K (a 17) 601 Wh] := hD
  have hme := sn_walk_met hg z
  have hwi := (sn_walk_end hg z).choose_spec.2.2.2
  generalize hzz : sn_wrun (sn_S x.1) (sn_L x.1) (sn_Nm x.1) 10217 ((fun _ => 0, va_up z.2.1 0 0, va_up z.2.2.1 0 0, 1, 0, 0, 7) : SnW) = zz at hP hD hQ hme hwi
  rw [hzz] at hwb
  refine lv_aload_n hx hb d_Au_faults_7 rfl (lv_at hl 0 rfl) ?_
  refine va_get (D := D) (ci := 4) (v := .ref (a 0)) (C := R_Au) (T := F_Au) (N := 5) hx hb hts in_Au hown hK hP 13 rfl rfl 0 (by decide) (hts _ tw_139) (fun _ h9 => h9) rfl d_Au_faults_8 ?_
  refine lv_aload_n hx hb d_Au_faults_11 rfl (lv_at hl 0 rfl) ?_
  refine va_get (D := D) (ci := 4) (v := .ref (a 17)) (C := R_Au) (T := F_Au) (N := 5) hx hb hts in_Au hown hK hP 13 rfl rfl 4 (by decide) (hts _ tw_143) (fun _ h9 => h9) rfl d_Au_faults_12 ?_
  refine sn_wrt (st1 := []) (w1 := [ce0 a (sn_rc x.1) (sn_tp x.1) (sn_uc x.1), aS K (a 1) 601 (sn_S x.1), aI K (a 4) 600 (sn_rl x.1), aI K (a 17) 601 (sn_h2 (sn_rl x.1) (sn_h1 (sn_S x.1) Wh (sn_tp x.1)) (sn_rc x.1))]) (va_runV (As := [.ref (a 17)]) (rest := []) ⟨hx, hb, hml, hown, hts⟩ (c_St_countHolders l D K a (sn_S x.1) (sn_rl x.1) (sn_rc x.1) (sn_tp x.1) (sn_uc x.1) (a 17) Wh (hSz) (by omega) (by omega) (fun i hi => by have := (hg.1.2.2.2.2.2.2.2.1 i hi).2.1; omega)) ⟨callB_of 1 hts (tw_in cm_St_countHolders) rfl rfl rfl (hts _ gn_St) (hts _ tw_331) hd_St_countHolders ⟨Nat.le_of_ble_eq_true rfl, Nat.le_of_ble_eq_true rfl⟩, hts _ gi_St_countHolders, hts _ gs_St_countHolders⟩ (sn_preVW hK hN hP hD 0 rfl rfl [0, 1, 4, 17] rfl rfl) rfl rfl hl.1 rfl (lv_room (Nat.le_of_ble_eq_true rfl)) d_Au_faults_15 ⟨Nat.zero_le _, Nat.zero_le _⟩) rfl hP hD hS [0, 1, 4, 17] rfl rfl (fun H locs hP hD hS => ?_)
  have hP : va_P D classes [ce0 a (sn_rc x.1) (sn_tp x.1) (sn_uc x.1), aS K (a 1) 601 (sn_S x.1), aI K (a 2) 9616 (sn_L x.1), aL K (a 3) 9616 (sn_Nm x.1), aI K (a 4) 600 (sn_rl x.1), cm0 a (a 5) (a 6) (a 7) x.2.1.2.2, aI K (a 6) 601 x.2.1.1, aI K (a 7) 600 x.2.1.2.1, cc0 a ad x.2.2.1 x.2.2.2, cw0 a zz.2.2.2.1 zz.2.2.2.2.1 zz.2.2.2.2.2.1 zz.2.2.2.2.2.2, aI K (a 10) 601 zz.1, aI K (a 11) 601 zz.2.1, aI K (a 12) 601 zz.2.2.1, ca0 a, cm0 a (a 14) (a 15) (a 16) T.2.2, aI K (a 15) 601 T.1, aI K (a 16) 600 T.2.1, aI K (a 17) 601 (sn_h2 (sn_rl x.1) (sn_h1 (sn_S x.1) Wh (sn_tp x.1)) (sn_rc x.1))] H := hP
  have hD : va_D A [ce0 a (sn_rc x.1) (sn_tp x.1) (sn_uc x.1), aS K (a 1) 601 (sn_S x.1), aI K (a 2) 9616 (sn_L x.1), aL K (a 3) 9616 (sn_Nm x.1), aI K (a 4) 600 (sn_rl x.1), cm0 a (a 5) (a 6) (a 7) x.2.1.2.2, aI K (a 6) 601 x.2.1.1, aI K (a 7) 600 x.2.1.2.1, cc0 a ad x.2.2.1 x.2.2.2, cw0 a zz.2.2.2.1 zz.2.2.2.2.1 zz.2.2.2.2.2.1 zz.2.2.2.2.2.2, aI K (a 10) 601 zz.1, aI K (a 11) 601 zz.2.1, aI K (a 12) 601 zz.2.2.1, ca0 a, cm0 a (a 14) (a 15) (a 16) T.2.2, aI K (a 15) 601 T.1, aI K (a 16) 600 T.2.1, aI K (a 17) 601 (sn_h2 (sn_rl x.1) (sn_h1 (sn_S x.1) Wh (sn_tp x.1)) (sn_rc x.1))] := hD
  refine lv_aload_n hx hb d_Au_faults_18 rfl (lv_at hl 0 rfl) ?_
  refine sn_wrt (st1 := []) (w1 := [ce0 a (sn_rc x.1) (sn_tp x.1) (sn_uc x.1), aS K (a 1) 601 (sn_S x.1), aI K (a 2) 9616 (sn_L x.1), cm0 a (a 5) (a 6) (a 7) x.2.1.2.2, aI K (a 6) 601 x.2.1.1, aI K (a 7) 600 x.2.1.2.1, cc0 a ad x.2.2.1 x.2.2.2, ca0 a, cm0 a (a 14) (a 15) (a 16) ((sn_trial x).2.2), aI K (a 15) 601 ((sn_trial x).1), aI K (a 16) 600 ((sn_trial x).2.1)]) (va_runV (As := []) (rest := []) ⟨hx, hb, hml, hown, hts⟩ (c_Au_markToTheEnd l D K ad a (sn_S x.1) (sn_L x.1) (sn_rc x.1) (sn_tp x.1) (sn_uc x.1) x.2.1 x.2.2.1 x.2.2.2 T (sn_trial x) (hph) (hSz) (hL) (hX) (sn_gc_wl hg) (fun h9 => if_pos h9) (fun h9 => if_neg h9)) ⟨callB_of 0 hts (tw_in cm_Au_markToTheEnd) rfl rfl rfl (hts _ gn_Au) (hts _ tw_336) hd_Au_markToTheEnd ⟨Nat.le_of_ble_eq_true rfl, Nat.le_of_ble_eq_true rfl⟩, hts _ gi_Au_markToTheEnd, hts _ gs_Au_markToTheEnd⟩ (sn_preVE hK hN hP hD hE hS 13 rfl rfl [0, 1, 2, 5, 6, 7, 8, 13, 14, 15, 16] rfl rfl) rfl rfl hl.1 rfl (lv_room (Nat.le_of_ble_eq_true rfl)) d_Au_faults_19 ⟨Nat.zero_le _, Nat.zero_le _⟩) rfl hP hD hS [0, 1, 2, 5, 6, 7, 8, 13, 14, 15, 16] rfl rfl (fun H locs hP hD hS => ?_)
  have hP : va_P D classes [ce0 a (sn_rc x.1) (sn_tp x.1) (sn_uc x.1), aS K (a 1) 601 (sn_S x.1), aI K (a 2) 9616 (sn_L x.1), aL K (a 3) 9616 (sn_Nm x.1), aI K (a 4) 600 (sn_rl x.1), cm0 a (a 5) (a 6) (a 7) x.2.1.2.2, aI K (a 6) 601 x.2.1.1, aI K (a 7) 600 x.2.1.2.1, cc0 a ad x.2.2.1 x.2.2.2, cw0 a zz.2.2.2.1 zz.2.2.2.2.1 zz.2.2.2.2.2.1 zz.2.2.2.2.2.2, aI K (a 10) 601 zz.1, aI K (a 11) 601 zz.2.1, aI K (a 12) 601 zz.2.2.1, ca0 a, cm0 a (a 14) (a 15) (a 16) ((sn_trial x).2.2), aI K (a 15) 601 ((sn_trial x).1), aI K (a 16) 600 ((sn_trial x).2.1), aI K (a 17) 601 (sn_h2 (sn_rl x.1) (sn_h1 (sn_S x.1) Wh (sn_tp x.1)) (sn_rc x.1))] H := hP
  have hD : va_D A [ce0 a (sn_rc x.1) (sn_tp x.1) (sn_uc x.1), aS K (a 1) 601 (sn_S x.1), aI K (a 2) 9616 (sn_L x.1), aL K (a 3) 9616 (sn_Nm x.1), aI K (a 4) 600 (sn_rl x.1), cm0 a (a 5) (a 6) (a 7) x.2.1.2.2, aI K (a 6) 601 x.2.1.1, aI K (a 7) 600 x.2.1.2.1, cc0 a ad x.2.2.1 x.2.2.2, cw0 a zz.2.2.2.1 zz.2.2.2.2.1 zz.2.2.2.2.2.1 zz.2.2.2.2.2.2, aI K (a 10) 601 zz.1, aI K (a 11) 601 zz.2.1, aI K (a 12) 601 zz.2.2.1, ca0 a, cm0 a (a 14) (a 15) (a 16) ((sn_trial x).2.2), aI K (a 15) 601 ((sn_trial x).1), aI K (a 16) 600 ((sn_trial x).2.1), aI K (a 17) 601 (sn_h2 (sn_rl x.1) (sn_h1 (sn_S x.1) Wh (sn_tp x.1)) (sn_rc x.1))] := hD
  refine lv_iconst (v := nI 0) hx hb d_Au_faults_22 (by decide) ?_
  refine lv_istore_n (lv' := [(1, .int (nI 0)), (0, .ref (a 13))]) hx hb d_Au_faults_23 rfl hl (by decide) rfl (fun ls hl => ?_)
  refine lv_aload_n hx hb d_Au_faults_24 rfl (lv_at hl 1 rfl) ?_
  refine va_get (D := D) (ci := 4) (v := .ref (a 0)) (C := R_Au) (T := F_Au) (N := 5) hx hb hts in_Au hown hK hP 13 rfl rfl 0 (by decide) (hts _ tw_139) (fun _ h9 => h9) rfl d_Au_faults_25 ?_
  refine sn_rd (st1 := [.int (nI (sn_tp x.1))]) (va_runV (As := []) (rest := []) ⟨hx, hb, hml, hown, hts⟩ (c_St_top l D K a (sn_rc x.1) (sn_tp x.1) (sn_uc x.1)) ⟨callB_of 0 hts (tw_in cm_St_top) rfl rfl rfl (hts _ gn_St) (hts _ tw_358) hd_St_top ⟨Nat.le_of_ble_eq_true rfl, Nat.le_of_ble_eq_true rfl⟩, hts _ gi_St_top, hts _ gs_St_top⟩ (sn_preV hK hN hP 0 rfl rfl [0] rfl) rfl rfl hl.1 rfl (lv_room (Nat.le_of_ble_eq_true rfl)) d_Au_faults_28 ⟨Nat.zero_le _, Nat.zero_le _⟩) rfl ?_
  refine lv_istore_n (lv' := [(2, .int (nI (sn_tp x.1))), (1, .int (nI 0)), (0, .ref (a 13))]) hx hb d_Au_faults_31 rfl hl (by decide) rfl (fun ls hl => ?_)
  refine lv_iconst (v := nI 1) hx hb d_Au_faults_32 (by decide) ?_
  refine lv_istore_n (lv' := [(3, .int (nI 1)), (2, .int (nI (sn_tp x.1))), (1, .int (nI 0)), (0, .ref (a 13))]) hx hb d_Au_faults_33 rfl hl (by decide) rfl (fun ls hl => ?_)
  have loop0 : ∀ (nn : Nat) (i : Nat) (ls : Array Slot) (H : Heap) (locs : List Loc), sn_tp x.1 - i < nn → (i ≤ sn_tp x.1) → lv_has ls 4 [(0, .ref (a 13)), (1, .int (nI 0)), (2, .int (nI (sn_tp x.1))), (3, .int (nI (i + 1)))] → va_P D classes [ce0 a (sn_rc x.1) (sn_tp x.1) (sn_uc x.1), aS K (a 1) 601 (sn_S x.1), aI K (a 2) 9616 (sn_L x.1), aL K (a 3) 9616 (sn_Nm x.1), aI K (a 4) 600 (sn_rl x.1), cm0 a (a 5) (a 6) (a 7) x.2.1.2.2, aI K (a 6) 601 x.2.1.1, aI K (a 7) 600 x.2.1.2.1, cc0 a ad x.2.2.1 x.2.2.2, cw0 a zz.2.2.2.1 zz.2.2.2.2.1 zz.2.2.2.2.2.1 zz.2.2.2.2.2.2, aI K (a 10) 601 zz.1, aI K (a 11) 601 zz.2.1, aI K (a 12) 601 zz.2.2.1, ca0 a, cm0 a (a 14) (a 15) (a 16) ((sn_trial x).2.2), aI K (a 15) 601 ((sn_trial x).1), aI K (a 16) 600 ((sn_trial x).2.1), aI K (a 17) 601 (sn_h2 (sn_rl x.1) (sn_h1 (sn_S x.1) Wh (sn_tp x.1)) (sn_rc x.1))] H → va_D A [ce0 a (sn_rc x.1) (sn_tp x.1) (sn_uc x.1), aS K (a 1) 601 (sn_S x.1), aI K (a 2) 9616 (sn_L x.1), aL K (a 3) 9616 (sn_Nm x.1), aI K (a 4) 600 (sn_rl x.1), cm0 a (a 5) (a 6) (a 7) x.2.1.2.2, aI K (a 6) 601 x.2.1.1, aI K (a 7) 600 x.2.1.2.1, cc0 a ad x.2.2.1 x.2.2.2, cw0 a zz.2.2.2.1 zz.2.2.2.2.1 zz.2.2.2.2.2.1 zz.2.2.2.2.2.2, aI K (a 10) 601 zz.1, aI K (a 11) 601 zz.2.1, aI K (a 12) 601 zz.2.2.1, ca0 a, cm0 a (a 14) (a 15) (a 16) ((sn_trial x).2.2), aI K (a 15) 601 ((sn_trial x).1), aI K (a 16) 600 ((sn_trial x).2.1), aI K (a 17) 601 (sn_h2 (sn_rl x.1) (sn_h1 (sn_S x.1) Wh (sn_tp x.1)) (sn_rc x.1))] → va_S A s9.heap H locs → W P9 l E9 ({ frames := 5, cells := 0, slots := 0, locals := 109 }) s9 m9 args below M9 c9 H locs 0 0 Q (F0 m9 34 ls []) := by
    intro nn
    induction nn with
    | zero => intro i ls H locs hn; exact absurd hn (Nat.not_lt_zero _)
    | succ nn ih0 =>
      intro i ls H locs hmu hi hl hP hD hS
      refine lv_iload_n hx hb d_Au_faults_34 rfl (lv_at hl 3 rfl) ?_
      refine lv_iload_n hx hb d_Au_faults_35 rfl (lv_at hl 2 rfl) ?_
      refine sn_icmp_gt (by omega) (by omega) (tgt := 118) hx hb d_Au_faults_36 (by decide) (fun h1 => ?_) (fun h1 => ?_)
      · have ei : sn_tp x.1 = i := by omega
        refine lv_iload_n hx hb d_Au_faults_118 rfl (lv_at hl 1 rfl) ?_
        subst hAe
        exact sx_wi hQ hx hb hrt hlk (rfl) hP hS d_Au_faults_119
      · have hh1 := sn_hold1 hg Wh (p := i + 1) (by omega) (by omega)
        have hmk := sn_marks hg (i + 1)
        have hF6 : zz.1 (i + 1) ≤ 600 := Nat.le_trans (hwb.1 _) (sn_wi_m hwi)
        refine lv_iload_n hx hb d_Au_faults_39 rfl (lv_at hl 3 rfl) ?_
        refine lv_aload_n hx hb d_Au_faults_40 rfl (lv_at hl 0 rfl) ?_
        refine va_get (D := D) (ci := 4) (v := .ref (a 17)) (C := R_Au) (T := F_Au) (N := 5) hx hb hts in_Au hown hK hP 13 rfl rfl 4 (by decide) (hts _ tw_143) (fun _ h9 => h9) rfl d_Au_faults_41 ?_
        refine va_alen (v := nI 601) hx hb hK hP 17 0 rfl rfl rfl d_Au_faults_44 ?_
        refine sn_icmp_ge (by omega) (by omega) (tgt := 118) hx hb d_Au_faults_45 (by decide) (fun h2 => ?_) (fun h2 => ?_)
        · omega
        · refine lv_iload_n hx hb d_Au_faults_48 rfl (lv_at hl 1 rfl) ?_
          refine lv_aload_n hx hb d_Au_faults_49 rfl (lv_at hl 0 rfl) ?_
          refine va_get (D := D) (ci := 4) (v := .ref (a 9)) (C := R_Au) (T := F_Au) (N := 5) hx hb hts in_Au hown hK hP 13 rfl rfl 2 (by decide) (hts _ tw_141) (fun _ h9 => h9) rfl d_Au_faults_50 ?_
          refine lv_iload_n hx hb d_Au_faults_53 rfl (lv_at hl 3 rfl) ?_
          refine sn_rd (st1 := [.int (zb (decide (0 < (i + 1) ∧ (i + 1) ≤ 600 ∧ 0 < zz.1 (i + 1)))), .int (nI 0)]) (va_runV (As := [.int (nI (i + 1))]) (rest := [.int (nI 0)]) ⟨hx, hb, hml, hown, hts⟩ (c_Wa_hasMet l D K a zz.2.2.2.1 zz.2.2.2.2.1 zz.2.2.2.2.2.1 zz.2.2.2.2.2.2 zz.1 (sn_rc x.1) (sn_tp x.1) (sn_uc x.1) (i + 1) (by omega) (by omega)) ⟨callB_of 1 hts (tw_in cm_Wa_hasMet) rfl rfl rfl (hts _ gn_Wa) (hts _ tw_359) hd_Wa_hasMet ⟨Nat.le_of_ble_eq_true rfl, Nat.le_of_ble_eq_true rfl⟩, hts _ gi_Wa_hasMet, hts _ gs_Wa_hasMet⟩ (sn_preV hK hN hP 9 rfl rfl [0, 9, 10] rfl) rfl rfl hl.1 rfl (lv_room (Nat.le_of_ble_eq_true rfl)) d_Au_faults_54 ⟨Nat.zero_le _, Nat.zero_le _⟩) rfl ?_
          refine sn_ifz_eq (tgt := 75) hx hb d_Au_faults_57 (by decide) (fun h3 => ?_) (fun h3 => ?_)
          · refine lv_iconst (v := nI 0) hx hb d_Au_faults_75 (by decide) ?_
            refine lv_iadd hx hb d_Au_faults_76 ?_
            refine sn_topi (nI_add _ _) ?_
            refine lv_istore_n (lv' := [(1, .int (nI (0 + 0))), (0, .ref (a 13)), (2, .int (nI (sn_tp x.1))), (3, .int (nI (i + 1)))]) hx hb d_Au_faults_77 rfl hl (by decide) rfl (fun ls hl => ?_)
            refine lv_iload_n hx hb d_Au_faults_78 rfl (lv_at hl 0 rfl) ?_
            refine lv_aload_n hx hb d_Au_faults_79 rfl (lv_at hl 1 rfl) ?_
            refine va_get (D := D) (ci := 4) (v := .ref (a 17)) (C := R_Au) (T := F_Au) (N := 5) hx hb hts in_Au hown hK hP 13 rfl rfl 4 (by decide) (hts _ tw_143) (fun _ h9 => h9) rfl d_Au_faults_80 ?_
            refine lv_iload_n hx hb d_Au_faults_83 rfl (lv_at hl 3 rfl) ?_
            refine sn_iald nI (sn_h2 (sn_rl x.1) (sn_h1 (sn_S x.1) Wh (sn_tp x.1)) (sn_rc x.1)) (i + 1) hx hb hK hP 17 rfl (by omega) (by decide) d_Au_faults_84 ?_
            refine lv_iconst (v := nI 1) hx hb d_Au_faults_85 (by decide) ?_
            refine sn_icmp_ne (by omega) (by omega) (tgt := 93) hx hb d_Au_faults_86 (by decide) (fun h4 => ?_) (fun h4 => ?_)
            · omega
            · refine lv_iconst (v := nI 0) hx hb d_Au_faults_89 (by decide) ?_
              refine lv_goto (tgt := 94) hx hb d_Au_faults_90 (by decide) ?_
              refine lv_iadd hx hb d_Au_faults_94 ?_
              refine sn_topi (nI_add _ _) ?_
              refine lv_istore_n (lv' := [(1, .int (nI ((0 + 0) + 0))), (0, .ref (a 13)), (2, .int (nI (sn_tp x.1))), (3, .int (nI (i + 1)))]) hx hb d_Au_faults_95 rfl hl (by decide) rfl (fun ls hl => ?_)
              refine lv_iload_n hx hb d_Au_faults_96 rfl (lv_at hl 0 rfl) ?_
              refine lv_aload_n hx hb d_Au_faults_97 rfl (lv_at hl 1 rfl) ?_
              refine lv_iload_n hx hb d_Au_faults_98 rfl (lv_at hl 3 rfl) ?_
              refine sn_rd (st1 := [.int (zb (decide (False))), .int (nI ((0 + 0) + 0))]) (va_runV (As := [.int (nI (i + 1))]) (rest := [.int (nI ((0 + 0) + 0))]) ⟨hx, hb, hml, hown, hts⟩ (c_Au_isMarkWrong l D K ad a (sn_S x.1) (sn_rc x.1) (sn_tp x.1) (sn_uc x.1) x.2.1 x.2.2.1 x.2.2.2 (sn_trial x) zz.2.2.2.1 zz.2.2.2.2.1 zz.2.2.2.2.2.1 zz.2.2.2.2.2.2 zz.1 (i + 1) (by omega) (by omega) (hph) (hcu) (hSz) (hC) (sn_trial_2 hg) (by omega) (hmk.1) (fun h9 => ⟨(hmk.2 h9).1, fun h8 => (hmk.2 h9).2 ((hme _).mp (by omega))⟩)) ⟨callB_of 1 hts (tw_in cm_Au_isMarkWrong) rfl rfl rfl (hts _ gn_Au) (hts _ tw_361) hd_Au_isMarkWrong ⟨Nat.le_of_ble_eq_true rfl, Nat.le_of_ble_eq_true rfl⟩, hts _ gi_Au_isMarkWrong, hts _ gs_Au_isMarkWrong⟩ (sn_preVP hK hN hP hE hS 13 rfl rfl [0, 1, 5, 6, 8, 9, 10, 13, 14, 15] rfl) rfl rfl hl.1 rfl (lv_room (Nat.le_of_ble_eq_true rfl)) d_Au_faults_99 ⟨Nat.zero_le _, Nat.zero_le _⟩) rfl ?_
              refine sn_ifz_eq (tgt := 109) hx hb d_Au_faults_102 (by decide) (fun h5 => ?_) (fun h5 => ?_)
              · refine lv_iconst (v := nI 0) hx hb d_Au_faults_109 (by decide) ?_
                refine lv_iadd hx hb d_Au_faults_110 ?_
                refine sn_topi (nI_add _ _) ?_
                refine lv_istore_n (lv' := [(1, .int (nI (((0 + 0) + 0) + 0))), (0, .ref (a 13)), (2, .int (nI (sn_tp x.1))), (3, .int (nI (i + 1)))]) hx hb d_Au_faults_111 rfl hl (by decide) rfl (fun ls hl => ?_)
                refine lv_iinc (k := 3) (v := nI ((i + 1) + 1)) (lv' := [(3, .int (nI ((i + 1) + 1))), (1, .int (nI (((0 + 0) + 0) + 0))), (0, .ref (a 13)), (2, .int (nI (sn_tp x.1)))]) hx hb d_Au_faults_112 hl rfl (sn_inc _) (by decide) rfl (fun ls hl => ?_)
                refine lv_goto (tgt := 34) hx hb d_Au_faults_115 (by decide) ?_
                have hl := lv_sub (l' := [(0, .ref (a 13)), (1, .int (nI 0)), (2, .int (nI (sn_tp x.1))), (3, .int (nI ((i + 1) + 1)))]) hl [2, 1, 3, 0] rfl
                exact ih0 (i + 1) _ _ _ (by omega) (by omega) hl hP hD hS
              · exact h5.elim
          · refine lv_aload_n hx hb d_Au_faults_60 rfl (lv_at hl 0 rfl) ?_
            refine va_get (D := D) (ci := 4) (v := .ref (a 0)) (C := R_Au) (T := F_Au) (N := 5) hx hb hts in_Au hown hK hP 13 rfl rfl 0 (by decide) (hts _ tw_139) (fun _ h9 => h9) rfl d_Au_faults_61 ?_
            refine lv_iload_n hx hb d_Au_faults_64 rfl (lv_at hl 3 rfl) ?_
            refine sn_rd (st1 := [.int (zb (decide (0 < (i + 1) ∧ (i + 1) ≤ 600 ∧ (sn_S x.1) (i + 1) = none))), .int (nI 0)]) (va_runV (As := [.int (nI (i + 1))]) (rest := [.int (nI 0)]) ⟨hx, hb, hml, hown, hts⟩ (c_St_isFree l D K a (sn_S x.1) (sn_rc x.1) (sn_tp x.1) (sn_uc x.1) (i + 1) (by omega) (hSz)) ⟨callB_of 1 hts (tw_in cm_St_isFree) rfl rfl rfl (hts _ gn_St) (hts _ tw_360) hd_St_isFree ⟨Nat.le_of_ble_eq_true rfl, Nat.le_of_ble_eq_true rfl⟩, hts _ gi_St_isFree, hts _ gs_St_isFree⟩ (sn_preV hK hN hP 0 rfl rfl [0, 1] rfl) rfl rfl hl.1 rfl (lv_room (Nat.le_of_ble_eq_true rfl)) d_Au_faults_65 ⟨Nat.zero_le _, Nat.zero_le _⟩) rfl ?_
            refine sn_ifz_eq (tgt := 75) hx hb d_Au_faults_68 (by decide) (fun h4 => ?_) (fun h4 => ?_)
            · refine lv_iconst (v := nI 0) hx hb d_Au_faults_75 (by decide) ?_
              refine lv_iadd hx hb d_Au_faults_76 ?_
              refine sn_topi (nI_add _ _) ?_
              refine lv_istore_n (lv' := [(1, .int (nI (0 + 0))), (0, .ref (a 13)), (2, .int (nI (sn_tp x.1))), (3, .int (nI (i + 1)))]) hx hb d_Au_faults_77 rfl hl (by decide) rfl (fun ls hl => ?_)
              refine lv_iload_n hx hb d_Au_faults_78 rfl (lv_at hl 0 rfl) ?_
              refine lv_aload_n hx hb d_Au_faults_79 rfl (lv_at hl 1 rfl) ?_
              refine va_get (D := D) (ci := 4) (v := .ref (a 17)) (C := R_Au) (T := F_Au) (N := 5) hx hb hts in_Au hown hK hP 13 rfl rfl 4 (by decide) (hts _ tw_143) (fun _ h9 => h9) rfl d_Au_faults_80 ?_
              refine lv_iload_n hx hb d_Au_faults_83 rfl (lv_at hl 3 rfl) ?_
              refine sn_iald nI (sn_h2 (sn_rl x.1) (sn_h1 (sn_S x.1) Wh (sn_tp x.1)) (sn_rc x.1)) (i + 1) hx hb hK hP 17 rfl (by omega) (by decide) d_Au_faults_84 ?_
              refine lv_iconst (v := nI 1) hx hb d_Au_faults_85 (by decide) ?_
              refine sn_icmp_ne (by omega) (by omega) (tgt := 93) hx hb d_Au_faults_86 (by decide) (fun h5 => ?_) (fun h5 => ?_)
              · omega
              · refine lv_iconst (v := nI 0) hx hb d_Au_faults_89 (by decide) ?_
                refine lv_goto (tgt := 94) hx hb d_Au_faults_90 (by decide) ?_
                refine lv_iadd hx hb d_Au_faults_94 ?_
                refine sn_topi (nI_add _ _) ?_
                refine lv_istore_n (lv' := [(1, .int (nI ((0 + 0) + 0))), (0, .ref (a 13)), (2, .int (nI (sn_tp x.1))), (3, .int (nI (i + 1)))]) hx hb d_Au_faults_95 rfl hl (by decide) rfl (fun ls hl => ?_)
                refine lv_iload_n hx hb d_Au_faults_96 rfl (lv_at hl 0 rfl) ?_
                refine lv_aload_n hx hb d_Au_faults_97 rfl (lv_at hl 1 rfl) ?_
                refine lv_iload_n hx hb d_Au_faults_98 rfl (lv_at hl 3 rfl) ?_
                refine sn_rd (st1 := [.int (zb (decide (False))), .int (nI ((0 + 0) + 0))]) (va_runV (As := [.int (nI (i + 1))]) (rest := [.int (nI ((0 + 0) + 0))]) ⟨hx, hb, hml, hown, hts⟩ (c_Au_isMarkWrong l D K ad a (sn_S x.1) (sn_rc x.1) (sn_tp x.1) (sn_uc x.1) x.2.1 x.2.2.1 x.2.2.2 (sn_trial x) zz.2.2.2.1 zz.2.2.2.2.1 zz.2.2.2.2.2.1 zz.2.2.2.2.2.2 zz.1 (i + 1) (by omega) (by omega) (hph) (hcu) (hSz) (hC) (sn_trial_2 hg) (by omega) (hmk.1) (fun h9 => ⟨(hmk.2 h9).1, fun h8 => (hmk.2 h9).2 ((hme _).mp (by omega))⟩)) ⟨callB_of 1 hts (tw_in cm_Au_isMarkWrong) rfl rfl rfl (hts _ gn_Au) (hts _ tw_361) hd_Au_isMarkWrong ⟨Nat.le_of_ble_eq_true rfl, Nat.le_of_ble_eq_true rfl⟩, hts _ gi_Au_isMarkWrong, hts _ gs_Au_isMarkWrong⟩ (sn_preVP hK hN hP hE hS 13 rfl rfl [0, 1, 5, 6, 8, 9, 10, 13, 14, 15] rfl) rfl rfl hl.1 rfl (lv_room (Nat.le_of_ble_eq_true rfl)) d_Au_faults_99 ⟨Nat.zero_le _, Nat.zero_le _⟩) rfl ?_
                refine sn_ifz_eq (tgt := 109) hx hb d_Au_faults_102 (by decide) (fun h6 => ?_) (fun h6 => ?_)
                · refine lv_iconst (v := nI 0) hx hb d_Au_faults_109 (by decide) ?_
                  refine lv_iadd hx hb d_Au_faults_110 ?_
                  refine sn_topi (nI_add _ _) ?_
                  refine lv_istore_n (lv' := [(1, .int (nI (((0 + 0) + 0) + 0))), (0, .ref (a 13)), (2, .int (nI (sn_tp x.1))), (3, .int (nI (i + 1)))]) hx hb d_Au_faults_111 rfl hl (by decide) rfl (fun ls hl => ?_)
                  refine lv_iinc (k := 3) (v := nI ((i + 1) + 1)) (lv' := [(3, .int (nI ((i + 1) + 1))), (1, .int (nI (((0 + 0) + 0) + 0))), (0, .ref (a 13)), (2, .int (nI (sn_tp x.1)))]) hx hb d_Au_faults_112 hl rfl (sn_inc _) (by decide) rfl (fun ls hl => ?_)
                  refine lv_goto (tgt := 34) hx hb d_Au_faults_115 (by decide) ?_
                  have hl := lv_sub (l' := [(0, .ref (a 13)), (1, .int (nI 0)), (2, .int (nI (sn_tp x.1))), (3, .int (nI ((i + 1) + 1)))]) hl [2, 1, 3, 0] rfl
                  exact ih0 (i + 1) _ _ _ (by omega) (by omega) hl hP hD hS
                · exact h6.elim
            · exact absurd h4.2.2 (hg.2.1 _ ((hme _).mp (by omega)))
  have hl := lv_sub (l' := [(0, .ref (a 13)), (1, .int (nI 0)), (2, .int (nI (sn_tp x.1))), (3, .int (nI (0 + 1)))]) hl [3, 2, 1, 0] rfl
  exact loop0 _ 0 _ _ _ (Nat.lt_succ_self _) (by omega) hl hP hD hS
