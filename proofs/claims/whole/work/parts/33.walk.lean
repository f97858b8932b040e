set_option maxHeartbeats 4000000 in
set_option maxRecDepth 100000 in
theorem c_Wa_tuples (l : Launch) (D : va_G) (K : Nat → ClassId) (a : Nat → Nat) (d : Nat) (m : Nat) (c : Nat) (h : Int64)  : Met l y_Wa_tuples w_Wa_tuples ({ frames := 0, cells := 0, slots := 0, locals := 0 }) (va_Pc [.ref (a 9)] (sn_B D K [cw0 a d m c h])) (sn_QR (some (.int (nI m)))) 0 0 (fun _ => False) := by
  refine sn_met (own := R_Wa) (by decide +kernel) rfl rfl (Nat.le_of_ble_eq_true rfl) ?_
  intro P9 E9 s9 m9 args below M9 c9 ls Q hQ hx hb hml hrt hlk hts hown hnm hl hB
  obtain ⟨hP, hK, hN⟩ := hB
  have hl : lv_has ls 1 [(0, .ref (a 9))] := hl
  refine lv_aload_n hx hb d_Wa_tuples_0 rfl (lv_at hl 0 rfl) ?_
  refine va_get (D := D) (ci := 3) (v := .int (nI m)) (C := R_Wa) (T := F_Wa) (N := 8) hx hb hts in_Wa hown hK hP 0 rfl rfl 5 (by decide) (hts _ tw_111) (fun _ h9 => h9) rfl d_Wa_tuples_1 ?_
  exact sx_ri hQ hx hb hrt hlk (rfl) d_Wa_tuples_4
set_option maxHeartbeats 4000000 in
set_option maxRecDepth 100000 in
theorem c_Wa_cells (l : Launch) (D : va_G) (K : Nat → ClassId) (a : Nat → Nat) (d : Nat) (m : Nat) (c : Nat) (h : Int64)  : Met l y_Wa_cells w_Wa_cells ({ frames := 0, cells := 0, slots := 0, locals := 0 }) (va_Pc [.ref (a 9)] (sn_B D K [cw0 a d m c h])) (sn_QR (some (.int (nI c)))) 0 0 (fun _ => False) := by
  refine sn_met (own := R_Wa) (by decide +kernel) rfl rfl (Nat.le_of_ble_eq_true rfl) ?_
  intro P9 E9 s9 m9 args below M9 c9 ls Q hQ hx hb hml hrt hlk hts hown hnm hl hB
  obtain ⟨hP, hK, hN⟩ := hB
  have hl : lv_has ls 1 [(0, .ref (a 9))] := hl
  refine lv_aload_n hx hb d_Wa_cells_0 rfl (lv_at hl 0 rfl) ?_
  refine va_get (D := D) (ci := 3) (v := .int (nI c)) (C := R_Wa) (T := F_Wa) (N := 8) hx hb hts in_Wa hown hK hP 0 rfl rfl 6 (by decide) (hts _ tw_112) (fun _ h9 => h9) rfl d_Wa_cells_1 ?_
  exact sx_ri hQ hx hb hrt hlk (rfl) d_Wa_cells_4
set_option maxHeartbeats 4000000 in
set_option maxRecDepth 100000 in
theorem c_Wa_hash (l : Launch) (D : va_G) (K : Nat → ClassId) (a : Nat → Nat) (d : Nat) (m : Nat) (c : Nat) (h : Int64)  : Met l y_Wa_hash w_Wa_hash ({ frames := 0, cells := 0, slots := 0, locals := 0 }) (va_Pc [.ref (a 9)] (sn_B D K [cw0 a d m c h])) (sn_QR (some (.long h))) 0 0 (fun _ => False) := by
  refine sn_met (own := R_Wa) (by decide +kernel) rfl rfl (Nat.le_of_ble_eq_true rfl) ?_
  intro P9 E9 s9 m9 args below M9 c9 ls Q hQ hx hb hml hrt hlk hts hown hnm hl hB
  obtain ⟨hP, hK, hN⟩ := hB
  have hl : lv_has ls 1 [(0, .ref (a 9))] := hl
  refine lv_aload_n hx hb d_Wa_hash_0 rfl (lv_at hl 0 rfl) ?_
  refine va_get (D := D) (ci := 3) (v := .long h) (C := R_Wa) (T := F_Wa) (N := 8) hx hb hts in_Wa hown hK hP 0 rfl rfl 7 (by decide) (hts _ tw_113) (fun _ h9 => h9) rfl d_Wa_hash_1 ?_
  exact sx_rl hQ hx hb hrt hlk rfl d_Wa_hash_4
set_option maxHeartbeats 4000000 in
set_option maxRecDepth 100000 in
theorem c_Wa_hasMet (l : Launch) (D : va_G) (K : Nat → ClassId) (a : Nat → Nat) (d : Nat) (m : Nat) (c : Nat) (h : Int64) (F : Nat → Nat) (rc : Nat) (tp : Nat) (uc : Nat) (p : Nat) (hp : p < 2 ^ 31) (hF : F p < 2 ^ 31) : Met l y_Wa_hasMet w_Wa_hasMet ({ frames := 1, cells := 0, slots := 0, locals := 21 }) (va_Pc [.ref (a 9), .int (nI p)] (sn_B D K [ce0 a rc tp uc, cw0 a d m c h, aI K (a 10) 601 F])) (sn_QR (some (.int (zb (decide (0 < p ∧ p ≤ 600 ∧ 0 < F p)))))) 0 0 (fun _ => False) := by
  refine sn_met (own := R_Wa) (by decide +kernel) rfl rfl (Nat.le_of_ble_eq_true rfl) ?_
  intro P9 E9 s9 m9 args below M9 c9 ls Q hQ hx hb hml hrt hlk hts hown hnm hl hB
  obtain ⟨hP, hK, hN⟩ := hB
  have hl : lv_has ls 2 [(0, .ref (a 9)), (1, .int (nI p))] := hl
  refine lv_aload_n hx hb d_Wa_hasMet_0 rfl (lv_at hl 0 rfl) ?_
  refine va_get (D := D) (ci := 3) (v := .ref (a 0)) (C := R_Wa) (T := F_Wa) (N := 8) hx hb hts in_Wa hown hK hP 1 rfl rfl 0 (by decide) (hts _ tw_106) (fun _ h9 => h9) rfl d_Wa_hasMet_1 ?_
  refine lv_iload_n hx hb d_Wa_hasMet_4 rfl (lv_at hl 1 rfl) ?_
  refine sn_rd (st1 := [.int (zb (decide (0 < p ∧ p ≤ 600)))]) (va_runV (As := [.int (nI p)]) (rest := []) ⟨hx, hb, hml, hown, hts⟩ (c_St_isTuplePlace l D K a p (by omega)) ⟨callB_of 1 hts (tw_in cm_St_isTuplePlace) rfl rfl rfl (hts _ gn_St) (hts _ tw_280) hd_St_isTuplePlace ⟨Nat.le_of_ble_eq_true rfl, Nat.le_of_ble_eq_true rfl⟩, hts _ gi_St_isTuplePlace, hts _ gs_St_isTuplePlace⟩ (sn_preV hK hN hP 0 rfl rfl [] rfl) rfl rfl hl.1 rfl (lv_room (Nat.le_of_ble_eq_true rfl)) d_Wa_hasMet_5 ⟨Nat.zero_le _, Nat.zero_le _⟩) rfl ?_
  refine sn_ifz_eq (tgt := 24) hx hb d_Wa_hasMet_8 (by decide) (fun h1 => ?_) (fun h1 => ?_)
  · refine lv_iconst (v := nI 0) hx hb d_Wa_hasMet_24 (by decide) ?_
    exact sx_rz hQ hx hb hrt hlk (zb_no (by first | exact fun h9 => h1 ⟨h9.1, h9.2.1⟩ | omega)) d_Wa_hasMet_25
  · refine lv_aload_n hx hb d_Wa_hasMet_11 rfl (lv_at hl 0 rfl) ?_
    refine va_get (D := D) (ci := 3) (v := .ref (a 10)) (C := R_Wa) (T := F_Wa) (N := 8) hx hb hts in_Wa hown hK hP 1 rfl rfl 1 (by decide) (hts _ tw_107) (fun _ h9 => h9) rfl d_Wa_hasMet_12 ?_
    refine lv_iload_n hx hb d_Wa_hasMet_15 rfl (lv_at hl 1 rfl) ?_
    refine sn_iald nI F p hx hb hK hP 2 rfl (by omega) (by decide) d_Wa_hasMet_16 ?_
    refine sn_if_le (by omega) (tgt := 24) hx hb d_Wa_hasMet_17 (by decide) (fun h2 => ?_) (fun h2 => ?_)
    · refine lv_iconst (v := nI 0) hx hb d_Wa_hasMet_24 (by decide) ?_
      exact sx_rz hQ hx hb hrt hlk (zb_no (by first | exact fun h9 => h1 ⟨h9.1, h9.2.1⟩ | omega)) d_Wa_hasMet_25
    · refine lv_iconst (v := nI 1) hx hb d_Wa_hasMet_20 (by decide) ?_
      refine lv_goto (tgt := 25) hx hb d_Wa_hasMet_21 (by decide) ?_
      exact sx_rz hQ hx hb hrt hlk (zb_yes (⟨h1.1, h1.2, h2⟩)) d_Wa_hasMet_25
set_option maxHeartbeats 4000000 in
set_option maxRecDepth 100000 in
theorem c_Wa_mix (l : Launch) (D : va_G) (K : Nat → ClassId) (a : Nat → Nat) (d : Nat) (m : Nat) (c : Nat) (h : Int64) (v : Int64)  : Met l y_Wa_mix w_Wa_mix ({ frames := 0, cells := 0, slots := 0, locals := 0 }) (va_Pc [.ref (a 9), .long v] (sn_BW D K [cw0 a d m c h])) (sn_Q D [cw0 a d m c h] [cw0 a d m c ((31 * h) + v)] none) 0 0 (sn_A [cw0 a d m c h]) := by
  refine sn_met (own := R_Wa) (by decide +kernel) rfl rfl (Nat.le_of_ble_eq_true rfl) ?_
  intro P9 E9 s9 m9 args below M9 c9 ls Q hQ hx hb hml hrt hlk hts hown hnm hl hB
  obtain ⟨⟨hP, hK, hN⟩, hD⟩ := hB
  have hl : lv_has ls 3 [(0, .ref (a 9)), (1, .long v)] := hl
  have hD := sn_DA hD
  have hS : va_S (sn_A [cw0 a d m c h]) s9.heap s9.heap [] := va_S.rf
  generalize hAe : sn_A [cw0 a d m c h] = A at hD hS
  refine lv_aload_n hx hb d_Wa_mix_0 rfl (lv_at hl 0 rfl) ?_
  refine lv_ldc2 (v := 31) hx hb hown (hts _ tw_289) d_Wa_mix_1 ?_
  refine lv_aload_n hx hb d_Wa_mix_4 rfl (lv_at hl 0 rfl) ?_
  refine va_get (D := D) (ci := 3) (v := .long h) (C := R_Wa) (T := F_Wa) (N := 8) hx hb hts in_Wa hown hK hP 0 rfl rfl 7 (by decide) (hts _ tw_113) (fun _ h9 => h9) rfl d_Wa_mix_5 ?_
  refine lv_lmul hx hb d_Wa_mix_8 ?_
  refine lv_lload_n hx hb d_Wa_mix_9 rfl (lv_at hl 1 rfl) ?_
  refine lv_ladd hx hb d_Wa_mix_10 ?_
  refine va_put (D := D) (ci := 3) (v := .long ((31 * h) + v)) (ty := .long) (C := R_Wa) (T := F_Wa) (N := 8) hx hb hts in_Wa t_Wa t_Wa_ok n_Wa hown hK hP hD hS 0 rfl rfl 7 (by decide) (hts _ tw_113) (fun _ h9 => h9) rfl (by decide +kernel) rfl rfl (Nat.le_of_ble_eq_true rfl) d_Wa_mix_11 (fun H locs hP hD hS => ?_)
  have hP : va_P D classes [cw0 a d m c ((31 * h) + v)] H := hP
  have hD : va_D A [cw0 a d m c ((31 * h) + v)] := hD
  subst hAe
  exact sx_wv hQ hx hb hrt hlk hP hS d_Wa_mix_14
set_option maxHeartbeats 4000000 in
set_option maxRecDepth 100000 in
theorem c_Wa_goInto (l : Launch) (D : va_G) (K : Nat → ClassId) (a : Nat → Nat) (d : Nat) (m : Nat) (c : Nat) (h : Int64) (P : Nat → Nat) (V : Nat → Nat) (p : Nat) (hd : d < 601) : Met l y_Wa_goInto w_Wa_goInto ({ frames := 0, cells := 0, slots := 0, locals := 0 }) (va_Pc [.ref (a 9), .int (nI p)] (sn_BW D K [cw0 a d m c h, aI K (a 11) 601 P, aI K (a 12) 601 V])) (sn_Q D [cw0 a d m c h, aI K (a 11) 601 P, aI K (a 12) 601 V] [cw0 a (d + 1) m c h, aI K (a 11) 601 (va_up P d p), aI K (a 12) 601 (va_up V d 0)] none) 0 0 (sn_A [cw0 a d m c h, aI K (a 11) 601 P, aI K (a 12) 601 V]) := by
  refine sn_met (own := R_Wa) (by decide +kernel) rfl rfl (Nat.le_of_ble_eq_true rfl) ?_
  intro P9 E9 s9 m9 args below M9 c9 ls Q hQ hx hb hml hrt hlk hts hown hnm hl hB
  obtain ⟨⟨hP, hK, hN⟩, hD⟩ := hB
  have hl : lv_has ls 2 [(0, .ref (a 9)), (1, .int (nI p))] := hl
  have hD := sn_DA hD
  have hS : va_S (sn_A [cw0 a d m c h, aI K (a 11) 601 P, aI K (a 12) 601 V]) s9.heap s9.heap [] := va_S.rf
  generalize hAe : sn_A [cw0 a d m c h, aI K (a 11) 601 P, aI K (a 12) 601 V] = A at hD hS
  refine lv_aload_n hx hb d_Wa_goInto_0 rfl (lv_at hl 0 rfl) ?_
  refine va_get (D := D) (ci := 3) (v := .int (nI d)) (C := R_Wa) (T := F_Wa) (N := 8) hx hb hts in_Wa hown hK hP 0 rfl rfl 4 (by decide) (hts _ tw_110) (fun _ h9 => h9) rfl d_Wa_goInto_1 ?_
  refine lv_aload_n hx hb d_Wa_goInto_4 rfl (lv_at hl 0 rfl) ?_
  refine va_get (D := D) (ci := 3) (v := .ref (a 11)) (C := R_Wa) (T := F_Wa) (N := 8) hx hb hts in_Wa hown hK hP 0 rfl rfl 2 (by decide) (hts _ tw_108) (fun _ h9 => h9) rfl d_Wa_goInto_5 ?_
  refine va_alen (v := nI 601) hx hb hK hP 1 0 rfl rfl rfl d_Wa_goInto_8 ?_
  refine sn_icmp_ge (by omega) (by omega) (tgt := 42) hx hb d_Wa_goInto_9 (by decide) (fun h1 => ?_) (fun h1 => ?_)
  · omega
  · refine lv_aload_n hx hb d_Wa_goInto_12 rfl (lv_at hl 0 rfl) ?_
    refine va_get (D := D) (ci := 3) (v := .ref (a 11)) (C := R_Wa) (T := F_Wa) (N := 8) hx hb hts in_Wa hown hK hP 0 rfl rfl 2 (by decide) (hts _ tw_108) (fun _ h9 => h9) rfl d_Wa_goInto_13 ?_
    refine lv_aload_n hx hb d_Wa_goInto_16 rfl (lv_at hl 0 rfl) ?_
    refine va_get (D := D) (ci := 3) (v := .int (nI d)) (C := R_Wa) (T := F_Wa) (N := 8) hx hb hts in_Wa hown hK hP 0 rfl rfl 4 (by decide) (hts _ tw_110) (fun _ h9 => h9) rfl d_Wa_goInto_17 ?_
    refine lv_iload_n hx hb d_Wa_goInto_20 rfl (lv_at hl 1 rfl) ?_
    refine sn_iast nI P d p hx hb hK hP hD hS 1 rfl (by omega) (by decide) d_Wa_goInto_21 (fun H locs hP hD hS => ?_)
    have hP : va_P D classes [cw0 a d m c h, aI K (a 11) 601 (va_up P d p), aI K (a 12) 601 V] H := hP
    have hD : va_D A [cw0 a d m c h, aI K (a 11) 601 (va_up P d p), aI K (a 12) 601 V] := hD
    refine lv_aload_n hx hb d_Wa_goInto_22 rfl (lv_at hl 0 rfl) ?_
    refine va_get (D := D) (ci := 3) (v := .ref (a 12)) (C := R_Wa) (T := F_Wa) (N := 8) hx hb hts in_Wa hown hK hP 0 rfl rfl 3 (by decide) (hts _ tw_109) (fun _ h9 => h9) rfl d_Wa_goInto_23 ?_
    refine lv_aload_n hx hb d_Wa_goInto_26 rfl (lv_at hl 0 rfl) ?_
    refine va_get (D := D) (ci := 3) (v := .int (nI d)) (C := R_Wa) (T := F_Wa) (N := 8) hx hb hts in_Wa hown hK hP 0 rfl rfl 4 (by decide) (hts _ tw_110) (fun _ h9 => h9) rfl d_Wa_goInto_27 ?_
    refine lv_iconst (v := nI 0) hx hb d_Wa_goInto_30 (by decide) ?_
    refine sn_iast nI V d 0 hx hb hK hP hD hS 2 rfl (by omega) (by decide) d_Wa_goInto_31 (fun H locs hP hD hS => ?_)
    have hP : va_P D classes [cw0 a d m c h, aI K (a 11) 601 (va_up P d p), aI K (a 12) 601 (va_up V d 0)] H := hP
    have hD : va_D A [cw0 a d m c h, aI K (a 11) 601 (va_up P d p), aI K (a 12) 601 (va_up V d 0)] := hD
    refine lv_aload_n hx hb d_Wa_goInto_32 rfl (lv_at hl 0 rfl) ?_
    refine lv_dup hx hb d_Wa_goInto_33 rfl ?_
    refine va_get (D := D) (ci := 3) (v := .int (nI d)) (C := R_Wa) (T := F_Wa) (N := 8) hx hb hts in_Wa hown hK hP 0 rfl rfl 4 (by decide) (hts _ tw_110) (fun _ h9 => h9) rfl d_Wa_goInto_34 ?_
    refine lv_iconst (v := nI 1) hx hb d_Wa_goInto_37 (by decide) ?_
    refine lv_iadd hx hb d_Wa_goInto_38 ?_
    refine sn_topi (nI_add _ _) ?_
    refine va_put (D := D) (ci := 3) (v := .int (nI (d + 1))) (ty := .int) (C := R_Wa) (T := F_Wa) (N := 8) hx hb hts in_Wa t_Wa t_Wa_ok n_Wa hown hK hP hD hS 0 rfl rfl 4 (by decide) (hts _ tw_110) (fun _ h9 => h9) rfl (by decide +kernel) rfl rfl (Nat.le_of_ble_eq_true rfl) d_Wa_goInto_39 (fun H locs hP hD hS => ?_)
    have hP : va_P D classes [cw0 a (d + 1) m c h, aI K (a 11) 601 (va_up P d p), aI K (a 12) 601 (va_up V d 0)] H := hP
    have hD : va_D A [cw0 a (d + 1) m c h, aI K (a 11) 601 (va_up P d p), aI K (a 12) 601 (va_up V d 0)] := hD
    subst hAe
    exact sx_wv hQ hx hb hrt hlk hP hS d_Wa_goInto_42
set_option maxHeartbeats 4000000 in
set_option maxRecDepth 100000 in
theorem c_Wa_meetFirst (l : Launch) (D : va_G) (K : Nat → ClassId) (a : Nat → Nat) (d : Nat) (m : Nat) (c : Nat) (h : Int64) (F : Nat → Nat) (P : Nat → Nat) (V : Nat → Nat) (S : Nat → Option Nat) (rc : Nat) (tp : Nat) (uc : Nat) (p : Nat) (hp : p ≤ 600) (hd : d < 601) (hSz : ∀ q n, S q = some n → n ≤ 16) : Met l y_Wa_meetFirst w_Wa_meetFirst ({ frames := 1, cells := 0, slots := 0, locals := 22 }) (va_Pc [.ref (a 9), .int (nI p)] (sn_BW D K [ce0 a rc tp uc, aS K (a 1) 601 S, cw0 a d m c h, aI K (a 10) 601 F, aI K (a 11) 601 P, aI K (a 12) 601 V])) (sn_Q D [ce0 a rc tp uc, aS K (a 1) 601 S, cw0 a d m c h, aI K (a 10) 601 F, aI K (a 11) 601 P, aI K (a 12) 601 V] [ce0 a rc tp uc, aS K (a 1) 601 S, cw0 a (d + 1) (m + 1) (c + (sn_sz S p + 2)) ((31 * ((31 * h) + 3)) + lN (sn_sz S p)), aI K (a 10) 601 (va_up F p (m + 1)), aI K (a 11) 601 (va_up P d p), aI K (a 12) 601 (va_up V d 0)] none) 0 0 (sn_A [ce0 a rc tp uc, aS K (a 1) 601 S, cw0 a d m c h, aI K (a 10) 601 F, aI K (a 11) 601 P, aI K (a 12) 601 V]) := by
  refine sn_met (own := R_Wa) (by decide +kernel) rfl rfl (Nat.le_of_ble_eq_true rfl) ?_
  intro P9 E9 s9 m9 args below M9 c9 ls Q hQ hx hb hml hrt hlk hts hown hnm hl hB
  obtain ⟨⟨hP, hK, hN⟩, hD⟩ := hB
  have hl : lv_has ls 3 [(0, .ref (a 9)), (1, .int (nI p))] := hl
  have hD := sn_DA hD
  have hS : va_S (sn_A [ce0 a rc tp uc, aS K (a 1) 601 S, cw0 a d m c h, aI K (a 10) 601 F, aI K (a 11) 601 P, aI K (a 12) 601 V]) s9.heap s9.heap [] := va_S.rf
  generalize hAe : sn_A [ce0 a rc tp uc, aS K (a 1) 601 S, cw0 a d m c h, aI K (a 10) 601 F, aI K (a 11) 601 P, aI K (a 12) 601 V] = A at hD hS
  have hz := sn_sz_le hSz p
  refine lv_aload_n hx hb d_Wa_meetFirst_0 rfl (lv_at hl 0 rfl) ?_
  refine va_get (D := D) (ci := 3) (v := .ref (a 0)) (C := R_Wa) (T := F_Wa) (N := 8) hx hb hts in_Wa hown hK hP 2 rfl rfl 0 (by decide) (hts _ tw_106) (fun _ h9 => h9) rfl d_Wa_meetFirst_1 ?_
  refine lv_iload_n hx hb d_Wa_meetFirst_4 rfl (lv_at hl 1 rfl) ?_
  refine sn_rd (st1 := [.int (nI (sn_sz S p))]) (va_runV (As := [.int (nI p)]) (rest := []) ⟨hx, hb, hml, hown, hts⟩ (c_St_valuesOf l D K a S rc tp uc p (by omega) (hSz)) ⟨callB_of 1 hts (tw_in cm_St_valuesOf) rfl rfl rfl (hts _ gn_St) (hts _ tw_273) hd_St_valuesOf ⟨Nat.le_of_ble_eq_true rfl, Nat.le_of_ble_eq_true rfl⟩, hts _ gi_St_valuesOf, hts _ gs_St_valuesOf⟩ (sn_preV hK hN hP 0 rfl rfl [0, 1] rfl) rfl rfl hl.1 rfl (lv_room (Nat.le_of_ble_eq_true rfl)) d_Wa_meetFirst_5 ⟨Nat.zero_le _, Nat.zero_le _⟩) rfl ?_
  refine lv_istore_n (lv' := [(2, .int (nI (sn_sz S p))), (0, .ref (a 9)), (1, .int (nI p))]) hx hb d_Wa_meetFirst_8 rfl hl (by decide) rfl (fun ls hl => ?_)
  refine lv_aload_n hx hb d_Wa_meetFirst_9 rfl (lv_at hl 1 rfl) ?_
  refine lv_dup hx hb d_Wa_meetFirst_10 rfl ?_
  refine va_get (D := D) (ci := 3) (v := .int (nI m)) (C := R_Wa) (T := F_Wa) (N := 8) hx hb hts in_Wa hown hK hP 2 rfl rfl 5 (by decide) (hts _ tw_111) (fun _ h9 => h9) rfl d_Wa_meetFirst_11 ?_
  refine lv_iconst (v := nI 1) hx hb d_Wa_meetFirst_14 (by decide) ?_
  refine lv_iadd hx hb d_Wa_meetFirst_15 ?_
  refine sn_topi (nI_add _ _) ?_
  refine va_put (D := D) (ci := 3) (v := .int (nI (m + 1))) (ty := .int) (C := R_Wa) (T := F_Wa) (N := 8) hx hb hts in_Wa t_Wa t_Wa_ok n_Wa hown hK hP hD hS 2 rfl rfl 5 (by decide) (hts _ tw_111) (fun _ h9 => h9) rfl (by decide +kernel) rfl rfl (Nat.le_of_ble_eq_true rfl) d_Wa_meetFirst_16 (fun H locs hP hD hS => ?_)
  have hP : va_P D classes [ce0 a rc tp uc, aS K (a 1) 601 S, cw0 a d (m + 1) c h, aI K (a 10) 601 F, aI K (a 11) 601 P, aI K (a 12) 601 V] H := hP
  have hD : va_D A [ce0 a rc tp uc, aS K (a 1) 601 S, cw0 a d (m + 1) c h, aI K (a 10) 601 F, aI K (a 11) 601 P, aI K (a 12) 601 V] := hD
  refine lv_aload_n hx hb d_Wa_meetFirst_19 rfl (lv_at hl 1 rfl) ?_
  refine va_get (D := D) (ci := 3) (v := .ref (a 10)) (C := R_Wa) (T := F_Wa) (N := 8) hx hb hts in_Wa hown hK hP 2 rfl rfl 1 (by decide) (hts _ tw_107) (fun _ h9 => h9) rfl d_Wa_meetFirst_20 ?_
  refine lv_iload_n hx hb d_Wa_meetFirst_23 rfl (lv_at hl 2 rfl) ?_
  refine lv_aload_n hx hb d_Wa_meetFirst_24 rfl (lv_at hl 1 rfl) ?_
  refine va_get (D := D) (ci := 3) (v := .int (nI (m + 1))) (C := R_Wa) (T := F_Wa) (N := 8) hx hb hts in_Wa hown hK hP 2 rfl rfl 5 (by decide) (hts _ tw_111) (fun _ h9 => h9) rfl d_Wa_meetFirst_25 ?_
  refine sn_iast nI F p (m + 1) hx hb hK hP hD hS 3 rfl (by omega) (by decide) d_Wa_meetFirst_28 (fun H locs hP hD hS => ?_)
  have hP : va_P D classes [ce0 a rc tp uc, aS K (a 1) 601 S, cw0 a d (m + 1) c h, aI K (a 10) 601 (va_up F p (m + 1)), aI K (a 11) 601 P, aI K (a 12) 601 V] H := hP
  have hD : va_D A [ce0 a rc tp uc, aS K (a 1) 601 S, cw0 a d (m + 1) c h, aI K (a 10) 601 (va_up F p (m + 1)), aI K (a 11) 601 P, aI K (a 12) 601 V] := hD
  refine lv_aload_n hx hb d_Wa_meetFirst_29 rfl (lv_at hl 1 rfl) ?_
  refine lv_dup hx hb d_Wa_meetFirst_30 rfl ?_
  refine va_get (D := D) (ci := 3) (v := .int (nI c)) (C := R_Wa) (T := F_Wa) (N := 8) hx hb hts in_Wa hown hK hP 2 rfl rfl 6 (by decide) (hts _ tw_112) (fun _ h9 => h9) rfl d_Wa_meetFirst_31 ?_
  refine lv_iload_n hx hb d_Wa_meetFirst_34 rfl (lv_at hl 0 rfl) ?_
  refine sn_rd (st1 := [.int (nI (sn_sz S p + 2)), .int (nI c), .ref (a 9)]) (va_runS (As := [.int (nI (sn_sz S p))]) (rest := [.int (nI c), .ref (a 9)]) ⟨hx, hb, hml, hown, hts⟩ (c_St_cellsFor l D K (sn_sz S p)) ⟨callB_of 1 hts (tw_in cm_St_cellsFor) rfl rfl rfl (hts _ gn_St) (hts _ tw_299) hd_St_cellsFor ⟨Nat.le_of_ble_eq_true rfl, Nat.le_of_ble_eq_true rfl⟩, hts _ gt_St_cellsFor⟩ (sn_preS hK hN hP [] rfl) rfl rfl hl.1 rfl (lv_room (Nat.le_of_ble_eq_true rfl)) d_Wa_meetFirst_35 ⟨Nat.zero_le _, Nat.zero_le _⟩) rfl ?_
  refine lv_iadd hx hb d_Wa_meetFirst_38 ?_
  refine sn_topi (nI_add _ _) ?_
  refine va_put (D := D) (ci := 3) (v := .int (nI (c + (sn_sz S p + 2)))) (ty := .int) (C := R_Wa) (T := F_Wa) (N := 8) hx hb hts in_Wa t_Wa t_Wa_ok n_Wa hown hK hP hD hS 2 rfl rfl 6 (by decide) (hts _ tw_112) (fun _ h9 => h9) rfl (by decide +kernel) rfl rfl (Nat.le_of_ble_eq_true rfl) d_Wa_meetFirst_39 (fun H locs hP hD hS => ?_)
  have hP : va_P D classes [ce0 a rc tp uc, aS K (a 1) 601 S, cw0 a d (m + 1) (c + (sn_sz S p + 2)) h, aI K (a 10) 601 (va_up F p (m + 1)), aI K (a 11) 601 P, aI K (a 12) 601 V] H := hP
  have hD : va_D A [ce0 a rc tp uc, aS K (a 1) 601 S, cw0 a d (m + 1) (c + (sn_sz S p + 2)) h, aI K (a 10) 601 (va_up F p (m + 1)), aI K (a 11) 601 P, aI K (a 12) 601 V] := hD
  refine lv_aload_n hx hb d_Wa_meetFirst_42 rfl (lv_at hl 1 rfl) ?_
  refine lv_ldc2 (v := 3) hx hb hown (hts _ tw_300) d_Wa_meetFirst_43 ?_
  refine sn_wrt (st1 := []) (w1 := [cw0 a d (m + 1) (c + (sn_sz S p + 2)) ((31 * h) + 3)]) (va_runV (As := [.long 3]) (rest := []) ⟨hx, hb, hml, hown, hts⟩ (c_Wa_mix l D K a d (m + 1) (c + (sn_sz S p + 2)) h 3) ⟨callB_of 1 hts (tw_in cm_Wa_mix) rfl rfl rfl (hts _ gn_Wa) (hts _ tw_285) hd_Wa_mix ⟨Nat.le_of_ble_eq_true rfl, Nat.le_of_ble_eq_true rfl⟩, hts _ gi_Wa_mix, hts _ gs_Wa_mix⟩ (sn_preVW hK hN hP hD 2 rfl rfl [2] rfl rfl) rfl rfl hl.1 rfl (lv_room (Nat.le_of_ble_eq_true rfl)) d_Wa_meetFirst_46 ⟨Nat.zero_le _, Nat.zero_le _⟩) rfl hP hD hS [2] rfl rfl (fun H locs hP hD hS => ?_)
  have hP : va_P D classes [ce0 a rc tp uc, aS K (a 1) 601 S, cw0 a d (m + 1) (c + (sn_sz S p + 2)) ((31 * h) + 3), aI K (a 10) 601 (va_up F p (m + 1)), aI K (a 11) 601 P, aI K (a 12) 601 V] H := hP
  have hD : va_D A [ce0 a rc tp uc, aS K (a 1) 601 S, cw0 a d (m + 1) (c + (sn_sz S p + 2)) ((31 * h) + 3), aI K (a 10) 601 (va_up F p (m + 1)), aI K (a 11) 601 P, aI K (a 12) 601 V] := hD
  refine lv_aload_n hx hb d_Wa_meetFirst_49 rfl (lv_at hl 1 rfl) ?_
  refine lv_iload_n hx hb d_Wa_meetFirst_50 rfl (lv_at hl 0 rfl) ?_
  refine lv_i2l (v := lN (sn_sz S p)) hx hb d_Wa_meetFirst_51 (nI_l (by omega)) ?_
  refine sn_wrt (st1 := []) (w1 := [cw0 a d (m + 1) (c + (sn_sz S p + 2)) ((31 * ((31 * h) + 3)) + lN (sn_sz S p))]) (va_runV (As := [.long (lN (sn_sz S p))]) (rest := []) ⟨hx, hb, hml, hown, hts⟩ (c_Wa_mix l D K a d (m + 1) (c + (sn_sz S p + 2)) ((31 * h) + 3) (lN (sn_sz S p))) ⟨callB_of 1 hts (tw_in cm_Wa_mix) rfl rfl rfl (hts _ gn_Wa) (hts _ tw_285) hd_Wa_mix ⟨Nat.le_of_ble_eq_true rfl, Nat.le_of_ble_eq_true rfl⟩, hts _ gi_Wa_mix, hts _ gs_Wa_mix⟩ (sn_preVW hK hN hP hD 2 rfl rfl [2] rfl rfl) rfl rfl hl.1 rfl (lv_room (Nat.le_of_ble_eq_true rfl)) d_Wa_meetFirst_52 ⟨Nat.zero_le _, Nat.zero_le _⟩) rfl hP hD hS [2] rfl rfl (fun H locs hP hD hS => ?_)
  have hP : va_P D classes [ce0 a rc tp uc, aS K (a 1) 601 S, cw0 a d (m + 1) (c + (sn_sz S p + 2)) ((31 * ((31 * h) + 3)) + lN (sn_sz S p)), aI K (a 10) 601 (va_up F p (m + 1)), aI K (a 11) 601 P, aI K (a 12) 601 V] H := hP
  have hD : va_D A [ce0 a rc tp uc, aS K (a 1) 601 S, cw0 a d (m + 1) (c + (sn_sz S p + 2)) ((31 * ((31 * h) + 3)) + lN (sn_sz S p)), aI K (a 10) 601 (va_up F p (m + 1)), aI K (a 11) 601 P, aI K (a 12) 601 V] := hD
  refine lv_aload_n hx hb d_Wa_meetFirst_55 rfl (lv_at hl 1 rfl) ?_
  refine lv_iload_n hx hb d_Wa_meetFirst_56 rfl (lv_at hl 2 rfl) ?_
  refine sn_wrt (st1 := []) (w1 := [cw0 a (d + 1) (m + 1) (c + (sn_sz S p + 2)) ((31 * ((31 * h) + 3)) + lN (sn_sz S p)), aI K (a 11) 601 (va_up P d p), aI K (a 12) 601 (va_up V d 0)]) (va_runV (As := [.int (nI p)]) (rest := []) ⟨hx, hb, hml, hown, hts⟩ (c_Wa_goInto l D K a d (m + 1) (c + (sn_sz S p + 2)) ((31 * ((31 * h) + 3)) + lN (sn_sz S p)) P V p (by omega)) ⟨callB_of 1 hts (tw_in cm_Wa_goInto) rfl rfl rfl (hts _ gn_Wa) (hts _ tw_265) hd_Wa_goInto ⟨Nat.le_of_ble_eq_true rfl, Nat.le_of_ble_eq_true rfl⟩, hts _ gi_Wa_goInto, hts _ gs_Wa_goInto⟩ (sn_preVW hK hN hP hD 2 rfl rfl [2, 4, 5] rfl rfl) rfl rfl hl.1 rfl (lv_room (Nat.le_of_ble_eq_true rfl)) d_Wa_meetFirst_57 ⟨Nat.zero_le _, Nat.zero_le _⟩) rfl hP hD hS [2, 4, 5] rfl rfl (fun H locs hP hD hS => ?_)
  have hP : va_P D classes [ce0 a rc tp uc, aS K (a 1) 601 S, cw0 a (d + 1) (m + 1) (c + (sn_sz S p + 2)) ((31 * ((31 * h) + 3)) + lN (sn_sz S p)), aI K (a 10) 601 (va_up F p (m + 1)), aI K (a 11) 601 (va_up P d p), aI K (a 12) 601 (va_up V d 0)] H := hP
  have hD : va_D A [ce0 a rc tp uc, aS K (a 1) 601 S, cw0 a (d + 1) (m + 1) (c + (sn_sz S p + 2)) ((31 * ((31 * h) + 3)) + lN (sn_sz S p)), aI K (a 10) 601 (va_up F p (m + 1)), aI K (a 11) 601 (va_up P d p), aI K (a 12) 601 (va_up V d 0)] := hD
  subst hAe
  exact sx_wv hQ hx hb hrt hlk hP hS d_Wa_meetFirst_60
set_option maxHeartbeats 4000000 in
set_option maxRecDepth 100000 in
theorem c_Wa_meet (l : Launch) (D : va_G) (K : Nat → ClassId) (a : Nat → Nat) (S : Nat → Option Nat) (L : Nat → Nat) (N : Nat → Int64) (rc : Nat) (tp : Nat) (uc : Nat) (z : SnW) (t : Nat) (hL : ∀ s, L s ≤ 600) (hSz : ∀ q n, S q = some n → n ≤ 16) (hz : sn_wi z) (hwb : sn_wb z) (ht : t < 9616) : Met l y_Wa_meet w_Wa_meet ({ frames := 2, cells := 0, slots := 0, locals := 44 }) (va_Pc [.ref (a 9), .int (nI t)] (sn_BW D K [ce0 a rc tp uc, aS K (a 1) 601 S, aI K (a 2) 9616 L, aL K (a 3) 9616 N, cw0 a z.2.2.2.1 z.2.2.2.2.1 z.2.2.2.2.2.1 z.2.2.2.2.2.2, aI K (a 10) 601 z.1, aI K (a 11) 601 z.2.1, aI K (a 12) 601 z.2.2.1])) (sn_Q D [ce0 a rc tp uc, aS K (a 1) 601 S, aI K (a 2) 9616 L, aL K (a 3) 9616 N, cw0 a z.2.2.2.1 z.2.2.2.2.1 z.2.2.2.2.2.1 z.2.2.2.2.2.2, aI K (a 10) 601 z.1, aI K (a 11) 601 z.2.1, aI K (a 12) 601 z.2.2.1] [ce0 a rc tp uc, aS K (a 1) 601 S, aI K (a 2) 9616 L, aL K (a 3) 9616 N, cw0 a ((sn_wmeet S L N z t).2.2.2.1) ((sn_wmeet S L N z t).2.2.2.2.1) ((sn_wmeet S L N z t).2.2.2.2.2.1) ((sn_wmeet S L N z t).2.2.2.2.2.2), aI K (a 10) 601 ((sn_wmeet S L N z t).1), aI K (a 11) 601 ((sn_wmeet S L N z t).2.1), aI K (a 12) 601 ((sn_wmeet S L N z t).2.2.1)] none) 0 0 (sn_A [ce0 a rc tp uc, aS K (a 1) 601 S, aI K (a 2) 9616 L, aL K (a 3) 9616 N, cw0 a z.2.2.2.1 z.2.2.2.2.1 z.2.2.2.2.2.1 z.2.2.2.2.2.2, aI K (a 10) 601 z.1, aI K (a 11) 601 z.2.1, aI K (a 12) 601 z.2.2.1]) := by
  refine sn_met (own := R_Wa) (by decide +kernel) rfl rfl (Nat.le_of_ble_eq_true rfl) ?_
  intro P9 E9 s9 m9 args below M9 c9 ls Q hQ hx hb hml hrt hlk hts hown hnm hl hB
  obtain ⟨⟨hP, hK, hN⟩, hD⟩ := hB
  have hl : lv_has ls 3 [(0, .ref (a 9)), (1, .int (nI t))] := hl
  have hD := sn_DA hD
  have hS : va_S (sn_A [ce0 a rc tp uc, aS K (a 1) 601 S, aI K (a 2) 9616 L, aL K (a 3) 9616 N, cw0 a z.2.2.2.1 z.2.2.2.2.1 z.2.2.2.2.2.1 z.2.2.2.2.2.2, aI K (a 10) 601 z.1, aI K (a 11) 601 z.2.1, aI K (a 12) 601 z.2.2.1]) s9.heap s9.heap [] := va_S.rf
  generalize hAe : sn_A [ce0 a rc tp uc, aS K (a 1) 601 S, aI K (a 2) 9616 L, aL K (a 3) 9616 N, cw0 a z.2.2.2.1 z.2.2.2.2.1 z.2.2.2.2.2.1 z.2.2.2.2.2.2, aI K (a 10) 601 z.1, aI K (a 11) 601 z.2.1, aI K (a 12) 601 z.2.2.1] = A at hD hS
  have hLt := hL t
  have hFt := hwb.1 (L t)
  have hm6 := sn_wi_m hz
  refine lv_aload_n hx hb d_Wa_meet_0 rfl (lv_at hl 0 rfl) ?_
  refine va_get (D := D) (ci := 3) (v := .ref (a 0)) (C := R_Wa) (T := F_Wa) (N := 8) hx hb hts in_Wa hown hK hP 4 rfl rfl 0 (by decide) (hts _ tw_106) (fun _ h9 => h9) rfl d_Wa_meet_1 ?_
  refine lv_iload_n hx hb d_Wa_meet_4 rfl (lv_at hl 1 rfl) ?_
  refine sn_rd (st1 := [.int (nI (L t))]) (va_runV (As := [.int (nI t)]) (rest := []) ⟨hx, hb, hml, hown, hts⟩ (c_St_placeAt l D K a L rc tp uc t (by omega)) ⟨callB_of 1 hts (tw_in cm_St_placeAt) rfl rfl rfl (hts _ gn_St) (hts _ tw_279) hd_St_placeAt ⟨Nat.le_of_ble_eq_true rfl, Nat.le_of_ble_eq_true rfl⟩, hts _ gi_St_placeAt, hts _ gs_St_placeAt⟩ (sn_preV hK hN hP 0 rfl rfl [0, 2] rfl) rfl rfl hl.1 rfl (lv_room (Nat.le_of_ble_eq_true rfl)) d_Wa_meet_5 ⟨Nat.zero_le _, Nat.zero_le _⟩) rfl ?_
  refine lv_istore_n (lv' := [(2, .int (nI (L t))), (0, .ref (a 9)), (1, .int (nI t))]) hx hb d_Wa_meet_8 rfl hl (by decide) rfl (fun ls hl => ?_)
  refine lv_aload_n hx hb d_Wa_meet_9 rfl (lv_at hl 1 rfl) ?_
  refine va_get (D := D) (ci := 3) (v := .ref (a 0)) (C := R_Wa) (T := F_Wa) (N := 8) hx hb hts in_Wa hown hK hP 4 rfl rfl 0 (by decide) (hts _ tw_106) (fun _ h9 => h9) rfl d_Wa_meet_10 ?_
  refine lv_iload_n hx hb d_Wa_meet_13 rfl (lv_at hl 0 rfl) ?_
  refine sn_rd (st1 := [.int (zb (decide (0 < (L t) ∧ (L t) ≤ 600)))]) (va_runV (As := [.int (nI (L t))]) (rest := []) ⟨hx, hb, hml, hown, hts⟩ (c_St_isTuplePlace l D K a (L t) (by omega)) ⟨callB_of 1 hts (tw_in cm_St_isTuplePlace) rfl rfl rfl (hts _ gn_St) (hts _ tw_280) hd_St_isTuplePlace ⟨Nat.le_of_ble_eq_true rfl, Nat.le_of_ble_eq_true rfl⟩, hts _ gi_St_isTuplePlace, hts _ gs_St_isTuplePlace⟩ (sn_preV hK hN hP 0 rfl rfl [] rfl) rfl rfl hl.1 rfl (lv_room (Nat.le_of_ble_eq_true rfl)) d_Wa_meet_14 ⟨Nat.zero_le _, Nat.zero_le _⟩) rfl ?_
  refine sn_ifz_ne (tgt := 35) hx hb d_Wa_meet_17 (by decide) (fun h1 => ?_) (fun h1 => ?_)
  · refine lv_aload_n hx hb d_Wa_meet_35 rfl (lv_at hl 1 rfl) ?_
    refine lv_iload_n hx hb d_Wa_meet_36 rfl (lv_at hl 0 rfl) ?_
    refine sn_rd (st1 := [.int (zb (decide (0 < (L t) ∧ (L t) ≤ 600 ∧ 0 < z.1 (L t))))]) (va_runV (As := [.int (nI (L t))]) (rest := []) ⟨hx, hb, hml, hown, hts⟩ (c_Wa_hasMet l D K a z.2.2.2.1 z.2.2.2.2.1 z.2.2.2.2.2.1 z.2.2.2.2.2.2 z.1 rc tp uc (L t) (by omega) (by omega)) ⟨callB_of 1 hts (tw_in cm_Wa_hasMet) rfl rfl rfl (hts _ gn_Wa) (hts _ tw_290) hd_Wa_hasMet ⟨Nat.le_of_ble_eq_true rfl, Nat.le_of_ble_eq_true rfl⟩, hts _ gi_Wa_hasMet, hts _ gs_Wa_hasMet⟩ (sn_preV hK hN hP 4 rfl rfl [0, 4, 5] rfl) rfl rfl hl.1 rfl (lv_room (Nat.le_of_ble_eq_true rfl)) d_Wa_meet_37 ⟨Nat.zero_le _, Nat.zero_le _⟩) rfl ?_
    refine sn_ifz_eq (tgt := 61) hx hb d_Wa_meet_40 (by decide) (fun h2 => ?_) (fun h2 => ?_)
    · have hd6 := sn_wi_d hz (l := L t) h1 (fun h9 => h2 ⟨h1.1, h1.2, h9⟩)
      refine lv_aload_n hx hb d_Wa_meet_61 rfl (lv_at hl 1 rfl) ?_
      refine lv_iload_n hx hb d_Wa_meet_62 rfl (lv_at hl 0 rfl) ?_
      refine sn_wrt (st1 := []) (w1 := [ce0 a rc tp uc, aS K (a 1) 601 S, cw0 a (z.2.2.2.1 + 1) (z.2.2.2.2.1 + 1) (z.2.2.2.2.2.1 + (sn_sz S (L t) + 2)) ((31 * ((31 * z.2.2.2.2.2.2) + 3)) + lN (sn_sz S (L t))), aI K (a 10) 601 (va_up z.1 (L t) (z.2.2.2.2.1 + 1)), aI K (a 11) 601 (va_up z.2.1 z.2.2.2.1 (L t)), aI K (a 12) 601 (va_up z.2.2.1 z.2.2.2.1 0)]) (va_runV (As := [.int (nI (L t))]) (rest := []) ⟨hx, hb, hml, hown, hts⟩ (c_Wa_meetFirst l D K a z.2.2.2.1 z.2.2.2.2.1 z.2.2.2.2.2.1 z.2.2.2.2.2.2 z.1 z.2.1 z.2.2.1 S rc tp uc (L t) (by omega) (by omega) (hSz)) ⟨callB_of 1 hts (tw_in cm_Wa_meetFirst) rfl rfl rfl (hts _ gn_Wa) (hts _ tw_295) hd_Wa_meetFirst ⟨Nat.le_of_ble_eq_true rfl, Nat.le_of_ble_eq_true rfl⟩, hts _ gi_Wa_meetFirst, hts _ gs_Wa_meetFirst⟩ (sn_preVW hK hN hP hD 4 rfl rfl [0, 1, 4, 5, 6, 7] rfl rfl) rfl rfl hl.1 rfl (lv_room (Nat.le_of_ble_eq_true rfl)) d_Wa_meet_63 ⟨Nat.zero_le _, Nat.zero_le _⟩) rfl hP hD hS [0, 1, 4, 5, 6, 7] rfl rfl (fun H locs hP hD hS => ?_)
      have hP : va_P D classes [ce0 a rc tp uc, aS K (a 1) 601 S, aI K (a 2) 9616 L, aL K (a 3) 9616 N, cw0 a (z.2.2.2.1 + 1) (z.2.2.2.2.1 + 1) (z.2.2.2.2.2.1 + (sn_sz S (L t) + 2)) ((31 * ((31 * z.2.2.2.2.2.2) + 3)) + lN (sn_sz S (L t))), aI K (a 10) 601 (va_up z.1 (L t) (z.2.2.2.2.1 + 1)), aI K (a 11) 601 (va_up z.2.1 z.2.2.2.1 (L t)), aI K (a 12) 601 (va_up z.2.2.1 z.2.2.2.1 0)] H := hP
      have hD : va_D A [ce0 a rc tp uc, aS K (a 1) 601 S, aI K (a 2) 9616 L, aL K (a 3) 9616 N, cw0 a (z.2.2.2.1 + 1) (z.2.2.2.2.1 + 1) (z.2.2.2.2.2.1 + (sn_sz S (L t) + 2)) ((31 * ((31 * z.2.2.2.2.2.2) + 3)) + lN (sn_sz S (L t))), aI K (a 10) 601 (va_up z.1 (L t) (z.2.2.2.2.1 + 1)), aI K (a 11) 601 (va_up z.2.1 z.2.2.2.1 (L t)), aI K (a 12) 601 (va_up z.2.2.1 z.2.2.2.1 0)] := hD
      rw [sn_wmeet_new h1 (fun h9 => h2 ⟨h1.1, h1.2, h9⟩) hd6] at hQ
      subst hAe
      exact sx_wv hQ hx hb hrt hlk hP hS d_Wa_meet_66
    · refine lv_aload_n hx hb d_Wa_meet_43 rfl (lv_at hl 1 rfl) ?_
      refine lv_ldc2 (v := 2) hx hb hown (hts _ tw_294) d_Wa_meet_44 ?_
      refine lv_aload_n hx hb d_Wa_meet_47 rfl (lv_at hl 1 rfl) ?_
      refine va_get (D := D) (ci := 3) (v := .ref (a 10)) (C := R_Wa) (T := F_Wa) (N := 8) hx hb hts in_Wa hown hK hP 4 rfl rfl 1 (by decide) (hts _ tw_107) (fun _ h9 => h9) rfl d_Wa_meet_48 ?_
      refine lv_iload_n hx hb d_Wa_meet_51 rfl (lv_at hl 0 rfl) ?_
      refine sn_iald nI z.1 (L t) hx hb hK hP 5 rfl (by omega) (by decide) d_Wa_meet_52 ?_
      refine lv_i2l (v := lN (z.1 (L t))) hx hb d_Wa_meet_53 (nI_l (by omega)) ?_
      refine lv_ladd hx hb d_Wa_meet_54 ?_
      refine sn_wrt (st1 := []) (w1 := [cw0 a z.2.2.2.1 z.2.2.2.2.1 z.2.2.2.2.2.1 ((31 * z.2.2.2.2.2.2) + (2 + lN (z.1 (L t))))]) (va_runV (As := [.long (2 + lN (z.1 (L t)))]) (rest := []) ⟨hx, hb, hml, hown, hts⟩ (c_Wa_mix l D K a z.2.2.2.1 z.2.2.2.2.1 z.2.2.2.2.2.1 z.2.2.2.2.2.2 (2 + lN (z.1 (L t)))) ⟨callB_of 1 hts (tw_in cm_Wa_mix) rfl rfl rfl (hts _ gn_Wa) (hts _ tw_285) hd_Wa_mix ⟨Nat.le_of_ble_eq_true rfl, Nat.le_of_ble_eq_true rfl⟩, hts _ gi_Wa_mix, hts _ gs_Wa_mix⟩ (sn_preVW hK hN hP hD 4 rfl rfl [4] rfl rfl) rfl rfl hl.1 rfl (lv_room (Nat.le_of_ble_eq_true rfl)) d_Wa_meet_55 ⟨Nat.zero_le _, Nat.zero_le _⟩) rfl hP hD hS [4] rfl rfl (fun H locs hP hD hS => ?_)
      have hP : va_P D classes [ce0 a rc tp uc, aS K (a 1) 601 S, aI K (a 2) 9616 L, aL K (a 3) 9616 N, cw0 a z.2.2.2.1 z.2.2.2.2.1 z.2.2.2.2.2.1 ((31 * z.2.2.2.2.2.2) + (2 + lN (z.1 (L t)))), aI K (a 10) 601 z.1, aI K (a 11) 601 z.2.1, aI K (a 12) 601 z.2.2.1] H := hP
      have hD : va_D A [ce0 a rc tp uc, aS K (a 1) 601 S, aI K (a 2) 9616 L, aL K (a 3) 9616 N, cw0 a z.2.2.2.1 z.2.2.2.2.1 z.2.2.2.2.2.1 ((31 * z.2.2.2.2.2.2) + (2 + lN (z.1 (L t)))), aI K (a 10) 601 z.1, aI K (a 11) 601 z.2.1, aI K (a 12) 601 z.2.2.1] := hD
      refine lv_goto (tgt := 66) hx hb d_Wa_meet_58 (by decide) ?_
      rw [sn_wmeet_old h1 h2.2.2, show lN (2 + z.1 (L t)) = 2 + lN (z.1 (L t)) from by rw [← lN_add]; rfl] at hQ
      subst hAe
      exact sx_wv hQ hx hb hrt hlk hP hS d_Wa_meet_66
  · refine lv_aload_n hx hb d_Wa_meet_20 rfl (lv_at hl 1 rfl) ?_
    refine lv_aload_n hx hb d_Wa_meet_21 rfl (lv_at hl 1 rfl) ?_
    refine va_get (D := D) (ci := 3) (v := .ref (a 0)) (C := R_Wa) (T := F_Wa) (N := 8) hx hb hts in_Wa hown hK hP 4 rfl rfl 0 (by decide) (hts _ tw_106) (fun _ h9 => h9) rfl d_Wa_meet_22 ?_
    refine lv_iload_n hx hb d_Wa_meet_25 rfl (lv_at hl 2 rfl) ?_
    refine sn_rd (st1 := [.long (N t), .ref (a 9)]) (va_runV (As := [.int (nI t)]) (rest := [.ref (a 9)]) ⟨hx, hb, hml, hown, hts⟩ (c_St_numberAt l D K a N rc tp uc t (by omega)) ⟨callB_of 1 hts (tw_in cm_St_numberAt) rfl rfl rfl (hts _ gn_St) (hts _ tw_281) hd_St_numberAt ⟨Nat.le_of_ble_eq_true rfl, Nat.le_of_ble_eq_true rfl⟩, hts _ gi_St_numberAt, hts _ gs_St_numberAt⟩ (sn_preV hK hN hP 0 rfl rfl [0, 3] rfl) rfl rfl hl.1 rfl (lv_room (Nat.le_of_ble_eq_true rfl)) d_Wa_meet_26 ⟨Nat.zero_le _, Nat.zero_le _⟩) rfl ?_
    refine sn_wrt (st1 := []) (w1 := [cw0 a z.2.2.2.1 z.2.2.2.2.1 z.2.2.2.2.2.1 ((31 * z.2.2.2.2.2.2) + N t)]) (va_runV (As := [.long (N t)]) (rest := []) ⟨hx, hb, hml, hown, hts⟩ (c_Wa_mix l D K a z.2.2.2.1 z.2.2.2.2.1 z.2.2.2.2.2.1 z.2.2.2.2.2.2 (N t)) ⟨callB_of 1 hts (tw_in cm_Wa_mix) rfl rfl rfl (hts _ gn_Wa) (hts _ tw_285) hd_Wa_mix ⟨Nat.le_of_ble_eq_true rfl, Nat.le_of_ble_eq_true rfl⟩, hts _ gi_Wa_mix, hts _ gs_Wa_mix⟩ (sn_preVW hK hN hP hD 4 rfl rfl [4] rfl rfl) rfl rfl hl.1 rfl (lv_room (Nat.le_of_ble_eq_true rfl)) d_Wa_meet_29 ⟨Nat.zero_le _, Nat.zero_le _⟩) rfl hP hD hS [4] rfl rfl (fun H locs hP hD hS => ?_)
    have hP : va_P D classes [ce0 a rc tp uc, aS K (a 1) 601 S, aI K (a 2) 9616 L, aL K (a 3) 9616 N, cw0 a z.2.2.2.1 z.2.2.2.2.1 z.2.2.2.2.2.1 ((31 * z.2.2.2.2.2.2) + N t), aI K (a 10) 601 z.1, aI K (a 11) 601 z.2.1, aI K (a 12) 601 z.2.2.1] H := hP
    have hD : va_D A [ce0 a rc tp uc, aS K (a 1) 601 S, aI K (a 2) 9616 L, aL K (a 3) 9616 N, cw0 a z.2.2.2.1 z.2.2.2.2.1 z.2.2.2.2.2.1 ((31 * z.2.2.2.2.2.2) + N t), aI K (a 10) 601 z.1, aI K (a 11) 601 z.2.1, aI K (a 12) 601 z.2.2.1] := hD
    refine lv_goto (tgt := 66) hx hb d_Wa_meet_32 (by decide) ?_
    rw [sn_wmeet_num h1] at hQ
    subst hAe
    exact sx_wv hQ hx hb hrt hlk hP hS d_Wa_meet_66
set_option maxHeartbeats 4000000 in
set_option maxRecDepth 100000 in
theorem c_Wa_goOn (l : Launch) (D : va_G) (K : Nat → ClassId) (a : Nat → Nat) (S : Nat → Option Nat) (L : Nat → Nat) (N : Nat → Int64) (rc : Nat) (tp : Nat) (uc : Nat) (z : SnW) (hL : ∀ s, L s ≤ 600) (hSz : ∀ q n, S q = some n → n ≤ 16) (hz : sn_wi z) (hwb : sn_wb z) (hd0 : 0 < z.2.2.2.1) : Met l y_Wa_goOn w_Wa_goOn ({ frames := 3, cells := 0, slots := 0, locals := 66 }) (va_Pc [.ref (a 9)] (sn_BW D K [ce0 a rc tp uc, aS K (a 1) 601 S, aI K (a 2) 9616 L, aL K (a 3) 9616 N, cw0 a z.2.2.2.1 z.2.2.2.2.1 z.2.2.2.2.2.1 z.2.2.2.2.2.2, aI K (a 10) 601 z.1, aI K (a 11) 601 z.2.1, aI K (a 12) 601 z.2.2.1])) (sn_Q D [ce0 a rc tp uc, aS K (a 1) 601 S, aI K (a 2) 9616 L, aL K (a 3) 9616 N, cw0 a z.2.2.2.1 z.2.2.2.2.1 z.2.2.2.2.2.1 z.2.2.2.2.2.2, aI K (a 10) 601 z.1, aI K (a 11) 601 z.2.1, aI K (a 12) 601 z.2.2.1] [ce0 a rc tp uc, aS K (a 1) 601 S, aI K (a 2) 9616 L, aL K (a 3) 9616 N, cw0 a ((sn_goon S L N z).2.2.2.1) ((sn_goon S L N z).2.2.2.2.1) ((sn_goon S L N z).2.2.2.2.2.1) ((sn_goon S L N z).2.2.2.2.2.2), aI K (a 10) 601 ((sn_goon S L N z).1), aI K (a 11) 601 ((sn_goon S L N z).2.1), aI K (a 12) 601 ((sn_goon S L N z).2.2.1)] none) 0 0 (sn_A [ce0 a rc tp uc, aS K (a 1) 601 S, aI K (a 2) 9616 L, aL K (a 3) 9616 N, cw0 a z.2.2.2.1 z.2.2.2.2.1 z.2.2.2.2.2.1 z.2.2.2.2.2.2, aI K (a 10) 601 z.1, aI K (a 11) 601 z.2.1, aI K (a 12) 601 z.2.2.1]) := by
  refine sn_met (own := R_Wa) (by decide +kernel) rfl rfl (Nat.le_of_ble_eq_true rfl) ?_
  intro P9 E9 s9 m9 args below M9 c9 ls Q hQ hx hb hml hrt hlk hts hown hnm hl hB
  obtain ⟨⟨hP, hK, hN⟩, hD⟩ := hB
  have hl : lv_has ls 3 [(0, .ref (a 9))] := hl
  have hD := sn_DA hD
  have hS : va_S (sn_A [ce0 a rc tp uc, aS K (a 1) 601 S, aI K (a 2) 9616 L, aL K (a 3) 9616 N, cw0 a z.2.2.2.1 z.2.2.2.2.1 z.2.2.2.2.2.1 z.2.2.2.2.2.2, aI K (a 10) 601 z.1, aI K (a 11) 601 z.2.1, aI K (a 12) 601 z.2.2.1]) s9.heap s9.heap [] := va_S.rf
  generalize hAe : sn_A [ce0 a rc tp uc, aS K (a 1) 601 S, aI K (a 2) 9616 L, aL K (a 3) 9616 N, cw0 a z.2.2.2.1 z.2.2.2.2.1 z.2.2.2.2.2.1 z.2.2.2.2.2.2, aI K (a 10) 601 z.1, aI K (a 11) 601 z.2.1, aI K (a 12) 601 z.2.2.1] = A at hD hS
  have hd6 : z.2.2.2.1 ≤ 601 := by have := sn_wi_m hz; have := hz.2.1; omega
  have hpn := hwb.2.1 (z.2.2.2.1 - 1) (by omega)
  have hzz := sn_sz_le hSz (z.2.1 (z.2.2.2.1 - 1))
  refine lv_aload_n hx hb d_Wa_goOn_0 rfl (lv_at hl 0 rfl) ?_
  refine va_get (D := D) (ci := 3) (v := .ref (a 11)) (C := R_Wa) (T := F_Wa) (N := 8) hx hb hts in_Wa hown hK hP 4 rfl rfl 2 (by decide) (hts _ tw_108) (fun _ h9 => h9) rfl d_Wa_goOn_1 ?_
  refine lv_aload_n hx hb d_Wa_goOn_4 rfl (lv_at hl 0 rfl) ?_
  refine va_get (D := D) (ci := 3) (v := .int (nI z.2.2.2.1)) (C := R_Wa) (T := F_Wa) (N := 8) hx hb hts in_Wa hown hK hP 4 rfl rfl 4 (by decide) (hts _ tw_110) (fun _ h9 => h9) rfl d_Wa_goOn_5 ?_
  refine lv_iconst (v := nI 1) hx hb d_Wa_goOn_8 (by decide) ?_
  refine lv_isub hx hb d_Wa_goOn_9 ?_
  refine sn_topi (pk_sub (by omega)) ?_
  refine sn_iald nI z.2.1 (z.2.2.2.1 - 1) hx hb hK hP 6 rfl (by omega) (by decide) d_Wa_goOn_10 ?_
  refine lv_istore_n (lv' := [(1, .int (nI (z.2.1 (z.2.2.2.1 - 1)))), (0, .ref (a 9))]) hx hb d_Wa_goOn_11 rfl hl (by decide) rfl (fun ls hl => ?_)
  refine lv_aload_n hx hb d_Wa_goOn_12 rfl (lv_at hl 1 rfl) ?_
  refine va_get (D := D) (ci := 3) (v := .ref (a 12)) (C := R_Wa) (T := F_Wa) (N := 8) hx hb hts in_Wa hown hK hP 4 rfl rfl 3 (by decide) (hts _ tw_109) (fun _ h9 => h9) rfl d_Wa_goOn_13 ?_
  refine lv_aload_n hx hb d_Wa_goOn_16 rfl (lv_at hl 1 rfl) ?_
  refine va_get (D := D) (ci := 3) (v := .int (nI z.2.2.2.1)) (C := R_Wa) (T := F_Wa) (N := 8) hx hb hts in_Wa hown hK hP 4 rfl rfl 4 (by decide) (hts _ tw_110) (fun _ h9 => h9) rfl d_Wa_goOn_17 ?_
  refine lv_iconst (v := nI 1) hx hb d_Wa_goOn_20 (by decide) ?_
  refine lv_isub hx hb d_Wa_goOn_21 ?_
  refine sn_topi (pk_sub (by omega)) ?_
  refine sn_iald nI z.2.2.1 (z.2.2.2.1 - 1) hx hb hK hP 7 rfl (by omega) (by decide) d_Wa_goOn_22 ?_
  refine lv_istore_n (lv' := [(2, .int (nI (z.2.2.1 (z.2.2.2.1 - 1)))), (1, .int (nI (z.2.1 (z.2.2.2.1 - 1)))), (0, .ref (a 9))]) hx hb d_Wa_goOn_23 rfl hl (by decide) rfl (fun ls hl => ?_)
  refine lv_iload_n hx hb d_Wa_goOn_24 rfl (lv_at hl 0 rfl) ?_
  refine lv_aload_n hx hb d_Wa_goOn_25 rfl (lv_at hl 2 rfl) ?_
  refine va_get (D := D) (ci := 3) (v := .ref (a 0)) (C := R_Wa) (T := F_Wa) (N := 8) hx hb hts in_Wa hown hK hP 4 rfl rfl 0 (by decide) (hts _ tw_106) (fun _ h9 => h9) rfl d_Wa_goOn_26 ?_
  refine lv_iload_n hx hb d_Wa_goOn_29 rfl (lv_at hl 1 rfl) ?_
  refine sn_rd (st1 := [.int (nI (sn_sz S (z.2.1 (z.2.2.2.1 - 1)))), .int (nI (z.2.2.1 (z.2.2.2.1 - 1)))]) (va_runV (As := [.int (nI (z.2.1 (z.2.2.2.1 - 1)))]) (rest := [.int (nI (z.2.2.1 (z.2.2.2.1 - 1)))]) ⟨hx, hb, hml, hown, hts⟩ (c_St_valuesOf l D K a S rc tp uc (z.2.1 (z.2.2.2.1 - 1)) (by omega) (hSz)) ⟨callB_of 1 hts (tw_in cm_St_valuesOf) rfl rfl rfl (hts _ gn_St) (hts _ tw_273) hd_St_valuesOf ⟨Nat.le_of_ble_eq_true rfl, Nat.le_of_ble_eq_true rfl⟩, hts _ gi_St_valuesOf, hts _ gs_St_valuesOf⟩ (sn_preV hK hN hP 0 rfl rfl [0, 1] rfl) rfl rfl hl.1 rfl (lv_room (Nat.le_of_ble_eq_true rfl)) d_Wa_goOn_30 ⟨Nat.zero_le _, Nat.zero_le _⟩) rfl ?_
  refine sn_icmp_ge (by omega) (by omega) (tgt := 62) hx hb d_Wa_goOn_33 (by decide) (fun h1 => ?_) (fun h1 => ?_)
  · refine lv_aload_n hx hb d_Wa_goOn_62 rfl (lv_at hl 2 rfl) ?_
    refine lv_dup hx hb d_Wa_goOn_63 rfl ?_
    refine va_get (D := D) (ci := 3) (v := .int (nI z.2.2.2.1)) (C := R_Wa) (T := F_Wa) (N := 8) hx hb hts in_Wa hown hK hP 4 rfl rfl 4 (by decide) (hts _ tw_110) (fun _ h9 => h9) rfl d_Wa_goOn_64 ?_
    refine lv_iconst (v := nI 1) hx hb d_Wa_goOn_67 (by decide) ?_
    refine lv_isub hx hb d_Wa_goOn_68 ?_
    refine sn_topi (pk_sub (by omega)) ?_
    refine va_put (D := D) (ci := 3) (v := .int (nI (z.2.2.2.1 - 1))) (ty := .int) (C := R_Wa) (T := F_Wa) (N := 8) hx hb hts in_Wa t_Wa t_Wa_ok n_Wa hown hK hP hD hS 4 rfl rfl 4 (by decide) (hts _ tw_110) (fun _ h9 => h9) rfl (by decide +kernel) rfl rfl (Nat.le_of_ble_eq_true rfl) d_Wa_goOn_69 (fun H locs hP hD hS => ?_)
    have hP : va_P D classes [ce0 a rc tp uc, aS K (a 1) 601 S, aI K (a 2) 9616 L, aL K (a 3) 9616 N, cw0 a (z.2.2.2.1 - 1) z.2.2.2.2.1 z.2.2.2.2.2.1 z.2.2.2.2.2.2, aI K (a 10) 601 z.1, aI K (a 11) 601 z.2.1, aI K (a 12) 601 z.2.2.1] H := hP
    have hD : va_D A [ce0 a rc tp uc, aS K (a 1) 601 S, aI K (a 2) 9616 L, aL K (a 3) 9616 N, cw0 a (z.2.2.2.1 - 1) z.2.2.2.2.1 z.2.2.2.2.2.1 z.2.2.2.2.2.2, aI K (a 10) 601 z.1, aI K (a 11) 601 z.2.1, aI K (a 12) 601 z.2.2.1] := hD
    rw [show sn_goon S L N z = (z.1, z.2.1, z.2.2.1, z.2.2.2.1 - 1, z.2.2.2.2) from if_neg (by omega)] at hQ
    subst hAe
    exact sx_wv hQ hx hb hrt hlk hP hS d_Wa_goOn_72
  · refine lv_aload_n hx hb d_Wa_goOn_36 rfl (lv_at hl 2 rfl) ?_
    refine va_get (D := D) (ci := 3) (v := .ref (a 12)) (C := R_Wa) (T := F_Wa) (N := 8) hx hb hts in_Wa hown hK hP 4 rfl rfl 3 (by decide) (hts _ tw_109) (fun _ h9 => h9) rfl d_Wa_goOn_37 ?_
    refine lv_aload_n hx hb d_Wa_goOn_40 rfl (lv_at hl 2 rfl) ?_
    refine va_get (D := D) (ci := 3) (v := .int (nI z.2.2.2.1)) (C := R_Wa) (T := F_Wa) (N := 8) hx hb hts in_Wa hown hK hP 4 rfl rfl 4 (by decide) (hts _ tw_110) (fun _ h9 => h9) rfl d_Wa_goOn_41 ?_
    refine lv_iconst (v := nI 1) hx hb d_Wa_goOn_44 (by decide) ?_
    refine lv_isub hx hb d_Wa_goOn_45 ?_
    refine sn_topi (pk_sub (by omega)) ?_
    refine lv_iload_n hx hb d_Wa_goOn_46 rfl (lv_at hl 0 rfl) ?_
    refine lv_iconst (v := nI 1) hx hb d_Wa_goOn_47 (by decide) ?_
    refine lv_iadd hx hb d_Wa_goOn_48 ?_
    refine sn_topi (nI_add _ _) ?_
    refine sn_iast nI z.2.2.1 (z.2.2.2.1 - 1) (z.2.2.1 (z.2.2.2.1 - 1) + 1) hx hb hK hP hD hS 7 rfl (by omega) (by decide) d_Wa_goOn_49 (fun H locs hP hD hS => ?_)
    have hP : va_P D classes [ce0 a rc tp uc, aS K (a 1) 601 S, aI K (a 2) 9616 L, aL K (a 3) 9616 N, cw0 a z.2.2.2.1 z.2.2.2.2.1 z.2.2.2.2.2.1 z.2.2.2.2.2.2, aI K (a 10) 601 z.1, aI K (a 11) 601 z.2.1, aI K (a 12) 601 (va_up z.2.2.1 (z.2.2.2.1 - 1) (z.2.2.1 (z.2.2.2.1 - 1) + 1))] H := hP
    have hD : va_D A [ce0 a rc tp uc, aS K (a 1) 601 S, aI K (a 2) 9616 L, aL K (a 3) 9616 N, cw0 a z.2.2.2.1 z.2.2.2.2.1 z.2.2.2.2.2.1 z.2.2.2.2.2.2, aI K (a 10) 601 z.1, aI K (a 11) 601 z.2.1, aI K (a 12) 601 (va_up z.2.2.1 (z.2.2.2.1 - 1) (z.2.2.1 (z.2.2.2.1 - 1) + 1))] := hD
    refine lv_aload_n hx hb d_Wa_goOn_50 rfl (lv_at hl 2 rfl) ?_
    refine lv_iload_n hx hb d_Wa_goOn_51 rfl (lv_at hl 1 rfl) ?_
    refine lv_iload_n hx hb d_Wa_goOn_52 rfl (lv_at hl 0 rfl) ?_
    refine sn_rd (st1 := [.int (nI (16 * (z.2.1 (z.2.2.2.1 - 1)) + (z.2.2.1 (z.2.2.2.1 - 1)))), .ref (a 9)]) (va_runSN (As := [.int (nI (z.2.1 (z.2.2.2.1 - 1))), .int (nI (z.2.2.1 (z.2.2.2.1 - 1)))]) (rest := [.ref (a 9)]) ⟨hx, hb, hml, hown, hts⟩ (c_Sh_slotOf l D K (z.2.1 (z.2.2.2.1 - 1)) (z.2.2.1 (z.2.2.2.1 - 1))) ⟨va_cnB 2 hts (tw_in cm_Sh_slotOf) rfl rfl rfl hN.2.1 (hts _ gn_Sh) hd_Sh_slotOf ⟨Nat.le_of_ble_eq_true rfl, Nat.le_of_ble_eq_true rfl⟩, hts _ gt_Sh_slotOf, trivial⟩ (sn_preS hK hN hP [] rfl) rfl rfl hl.1 rfl (lv_room (Nat.le_of_ble_eq_true rfl)) d_Wa_goOn_53 ⟨Nat.zero_le _, Nat.zero_le _⟩) rfl ?_
    have hP : va_P D classes [ce0 a rc tp uc, aS K (a 1) 601 S, aI K (a 2) 9616 L, aL K (a 3) 9616 N, cw0 a (((z.1, z.2.1, va_up z.2.2.1 (z.2.2.2.1 - 1) (z.2.2.1 (z.2.2.2.1 - 1) + 1), z.2.2.2) : SnW).2.2.2.1) (((z.1, z.2.1, va_up z.2.2.1 (z.2.2.2.1 - 1) (z.2.2.1 (z.2.2.2.1 - 1) + 1), z.2.2.2) : SnW).2.2.2.2.1) (((z.1, z.2.1, va_up z.2.2.1 (z.2.2.2.1 - 1) (z.2.2.1 (z.2.2.2.1 - 1) + 1), z.2.2.2) : SnW).2.2.2.2.2.1) (((z.1, z.2.1, va_up z.2.2.1 (z.2.2.2.1 - 1) (z.2.2.1 (z.2.2.2.1 - 1) + 1), z.2.2.2) : SnW).2.2.2.2.2.2), aI K (a 10) 601 (((z.1, z.2.1, va_up z.2.2.1 (z.2.2.2.1 - 1) (z.2.2.1 (z.2.2.2.1 - 1) + 1), z.2.2.2) : SnW).1), aI K (a 11) 601 (((z.1, z.2.1, va_up z.2.2.1 (z.2.2.2.1 - 1) (z.2.2.1 (z.2.2.2.1 - 1) + 1), z.2.2.2) : SnW).2.1), aI K (a 12) 601 (((z.1, z.2.1, va_up z.2.2.1 (z.2.2.2.1 - 1) (z.2.2.1 (z.2.2.2.1 - 1) + 1), z.2.2.2) : SnW).2.2.1)] H := hP
    have hD : va_D A [ce0 a rc tp uc, aS K (a 1) 601 S, aI K (a 2) 9616 L, aL K (a 3) 9616 N, cw0 a (((z.1, z.2.1, va_up z.2.2.1 (z.2.2.2.1 - 1) (z.2.2.1 (z.2.2.2.1 - 1) + 1), z.2.2.2) : SnW).2.2.2.1) (((z.1, z.2.1, va_up z.2.2.1 (z.2.2.2.1 - 1) (z.2.2.1 (z.2.2.2.1 - 1) + 1), z.2.2.2) : SnW).2.2.2.2.1) (((z.1, z.2.1, va_up z.2.2.1 (z.2.2.2.1 - 1) (z.2.2.1 (z.2.2.2.1 - 1) + 1), z.2.2.2) : SnW).2.2.2.2.2.1) (((z.1, z.2.1, va_up z.2.2.1 (z.2.2.2.1 - 1) (z.2.2.1 (z.2.2.2.1 - 1) + 1), z.2.2.2) : SnW).2.2.2.2.2.2), aI K (a 10) 601 (((z.1, z.2.1, va_up z.2.2.1 (z.2.2.2.1 - 1) (z.2.2.1 (z.2.2.2.1 - 1) + 1), z.2.2.2) : SnW).1), aI K (a 11) 601 (((z.1, z.2.1, va_up z.2.2.1 (z.2.2.2.1 - 1) (z.2.2.1 (z.2.2.2.1 - 1) + 1), z.2.2.2) : SnW).2.1), aI K (a 12) 601 (((z.1, z.2.1, va_up z.2.2.1 (z.2.2.2.1 - 1) (z.2.2.1 (z.2.2.2.1 - 1) + 1), z.2.2.2) : SnW).2.2.1)] := hD
    refine sn_wrt (st1 := []) (w1 := [ce0 a rc tp uc, aS K (a 1) 601 S, aI K (a 2) 9616 L, aL K (a 3) 9616 N, cw0 a ((sn_wmeet S L N ((z.1, z.2.1, va_up z.2.2.1 (z.2.2.2.1 - 1) (z.2.2.1 (z.2.2.2.1 - 1) + 1), z.2.2.2) : SnW) (16 * (z.2.1 (z.2.2.2.1 - 1)) + (z.2.2.1 (z.2.2.2.1 - 1)))).2.2.2.1) ((sn_wmeet S L N ((z.1, z.2.1, va_up z.2.2.1 (z.2.2.2.1 - 1) (z.2.2.1 (z.2.2.2.1 - 1) + 1), z.2.2.2) : SnW) (16 * (z.2.1 (z.2.2.2.1 - 1)) + (z.2.2.1 (z.2.2.2.1 - 1)))).2.2.2.2.1) ((sn_wmeet S L N ((z.1, z.2.1, va_up z.2.2.1 (z.2.2.2.1 - 1) (z.2.2.1 (z.2.2.2.1 - 1) + 1), z.2.2.2) : SnW) (16 * (z.2.1 (z.2.2.2.1 - 1)) + (z.2.2.1 (z.2.2.2.1 - 1)))).2.2.2.2.2.1) ((sn_wmeet S L N ((z.1, z.2.1, va_up z.2.2.1 (z.2.2.2.1 - 1) (z.2.2.1 (z.2.2.2.1 - 1) + 1), z.2.2.2) : SnW) (16 * (z.2.1 (z.2.2.2.1 - 1)) + (z.2.2.1 (z.2.2.2.1 - 1)))).2.2.2.2.2.2), aI K (a 10) 601 ((sn_wmeet S L N ((z.1, z.2.1, va_up z.2.2.1 (z.2.2.2.1 - 1) (z.2.2.1 (z.2.2.2.1 - 1) + 1), z.2.2.2) : SnW) (16 * (z.2.1 (z.2.2.2.1 - 1)) + (z.2.2.1 (z.2.2.2.1 - 1)))).1), aI K (a 11) 601 ((sn_wmeet S L N ((z.1, z.2.1, va_up z.2.2.1 (z.2.2.2.1 - 1) (z.2.2.1 (z.2.2.2.1 - 1) + 1), z.2.2.2) : SnW) (16 * (z.2.1 (z.2.2.2.1 - 1)) + (z.2.2.1 (z.2.2.2.1 - 1)))).2.1), aI K (a 12) 601 ((sn_wmeet S L N ((z.1, z.2.1, va_up z.2.2.1 (z.2.2.2.1 - 1) (z.2.2.1 (z.2.2.2.1 - 1) + 1), z.2.2.2) : SnW) (16 * (z.2.1 (z.2.2.2.1 - 1)) + (z.2.2.1 (z.2.2.2.1 - 1)))).2.2.1)]) (va_runV (As := [.int (nI (16 * (z.2.1 (z.2.2.2.1 - 1)) + (z.2.2.1 (z.2.2.2.1 - 1))))]) (rest := []) ⟨hx, hb, hml, hown, hts⟩ (c_Wa_meet l D K a S L N rc tp uc ((z.1, z.2.1, va_up z.2.2.1 (z.2.2.2.1 - 1) (z.2.2.1 (z.2.2.2.1 - 1) + 1), z.2.2.2) : SnW) (16 * (z.2.1 (z.2.2.2.1 - 1)) + (z.2.2.1 (z.2.2.2.1 - 1))) (hL) (hSz) (hz) (sn_wb_nv hwb hd0 (by omega)) (by omega)) ⟨callB_of 1 hts (tw_in cm_Wa_meet) rfl rfl rfl (hts _ gn_Wa) (hts _ tw_275) hd_Wa_meet ⟨Nat.le_of_ble_eq_true rfl, Nat.le_of_ble_eq_true rfl⟩, hts _ gi_Wa_meet, hts _ gs_Wa_meet⟩ (sn_preVW hK hN hP hD 4 rfl rfl [0, 1, 2, 3, 4, 5, 6, 7] rfl rfl) rfl rfl hl.1 rfl (lv_room (Nat.le_of_ble_eq_true rfl)) d_Wa_goOn_56 ⟨Nat.zero_le _, Nat.zero_le _⟩) rfl hP hD hS [0, 1, 2, 3, 4, 5, 6, 7] rfl rfl (fun H locs hP hD hS => ?_)
    have hP : va_P D classes [ce0 a rc tp uc, aS K (a 1) 601 S, aI K (a 2) 9616 L, aL K (a 3) 9616 N, cw0 a ((sn_wmeet S L N ((z.1, z.2.1, va_up z.2.2.1 (z.2.2.2.1 - 1) (z.2.2.1 (z.2.2.2.1 - 1) + 1), z.2.2.2) : SnW) (16 * (z.2.1 (z.2.2.2.1 - 1)) + (z.2.2.1 (z.2.2.2.1 - 1)))).2.2.2.1) ((sn_wmeet S L N ((z.1, z.2.1, va_up z.2.2.1 (z.2.2.2.1 - 1) (z.2.2.1 (z.2.2.2.1 - 1) + 1), z.2.2.2) : SnW) (16 * (z.2.1 (z.2.2.2.1 - 1)) + (z.2.2.1 (z.2.2.2.1 - 1)))).2.2.2.2.1) ((sn_wmeet S L N ((z.1, z.2.1, va_up z.2.2.1 (z.2.2.2.1 - 1) (z.2.2.1 (z.2.2.2.1 - 1) + 1), z.2.2.2) : SnW) (16 * (z.2.1 (z.2.2.2.1 - 1)) + (z.2.2.1 (z.2.2.2.1 - 1)))).2.2.2.2.2.1) ((sn_wmeet S L N ((z.1, z.2.1, va_up z.2.2.1 (z.2.2.2.1 - 1) (z.2.2.1 (z.2.2.2.1 - 1) + 1), z.2.2.2) : SnW) (16 * (z.2.1 (z.2.2.2.1 - 1)) + (z.2.2.1 (z.2.2.2.1 - 1)))).2.2.2.2.2.2), aI K (a 10) 601 ((sn_wmeet S L N ((z.1, z.2.1, va_up z.2.2.1 (z.2.2.2.1 - 1) (z.2.2.1 (z.2.2.2.1 - 1) + 1), z.2.2.2) : SnW) (16 * (z.2.1 (z.2.2.2.1 - 1)) + (z.2.2.1 (z.2.2.2.1 - 1)))).1), aI K (a 11) 601 ((sn_wmeet S L N ((z.1, z.2.1, va_up z.2.2.1 (z.2.2.2.1 - 1) (z.2.2.1 (z.2.2.2.1 - 1) + 1), z.2.2.2) : SnW) (16 * (z.2.1 (z.2.2.2.1 - 1)) + (z.2.2.1 (z.2.2.2.1 - 1)))).2.1), aI K (a 12) 601 ((sn_wmeet S L N ((z.1, z.2.1, va_up z.2.2.1 (z.2.2.2.1 - 1) (z.2.2.1 (z.2.2.2.1 - 1) + 1), z.2.2.2) : SnW) (16 * (z.2.1 (z.2.2.2.1 - 1)) + (z.2.2.1 (z.2.2.2.1 - 1)))).2.2.1)] H := hP
    have hD : va_D A [ce0 a rc tp uc, aS K (a 1) 601 S, aI K (a 2) 9616 L, aL K (a 3) 9616 N, cw0 a ((sn_wmeet S L N ((z.1, z.2.1, va_up z.2.2.1 (z.2.2.2.1 - 1) (z.2.2.1 (z.2.2.2.1 - 1) + 1), z.2.2.2) : SnW) (16 * (z.2.1 (z.2.2.2.1 - 1)) + (z.2.2.1 (z.2.2.2.1 - 1)))).2.2.2.1) ((sn_wmeet S L N ((z.1, z.2.1, va_up z.2.2.1 (z.2.2.2.1 - 1) (z.2.2.1 (z.2.2.2.1 - 1) + 1), z.2.2.2) : SnW) (16 * (z.2.1 (z.2.2.2.1 - 1)) + (z.2.2.1 (z.2.2.2.1 - 1)))).2.2.2.2.1) ((sn_wmeet S L N ((z.1, z.2.1, va_up z.2.2.1 (z.2.2.2.1 - 1) (z.2.2.1 (z.2.2.2.1 - 1) + 1), z.2.2.2) : SnW) (16 * (z.2.1 (z.2.2.2.1 - 1)) + (z.2.2.1 (z.2.2.2.1 - 1)))).2.2.2.2.2.1) ((sn_wmeet S L N ((z.1, z.2.1, va_up z.2.2.1 (z.2.2.2.1 - 1) (z.2.2.1 (z.2.2.2.1 - 1) + 1), z.2.2.2) : SnW) (16 * (z.2.1 (z.2.2.2.1 - 1)) + (z.2.2.1 (z.2.2.2.1 - 1)))).2.2.2.2.2.2), aI K (a 10) 601 ((sn_wmeet S L N ((z.1, z.2.1, va_up z.2.2.1 (z.2.2.2.1 - 1) (z.2.2.1 (z.2.2.2.1 - 1) + 1), z.2.2.2) : SnW) (16 * (z.2.1 (z.2.2.2.1 - 1)) + (z.2.2.1 (z.2.2.2.1 - 1)))).1), aI K (a 11) 601 ((sn_wmeet S L N ((z.1, z.2.1, va_up z.2.2.1 (z.2.2.2.1 - 1) (z.2.2.1 (z.2.2.2.1 - 1) + 1), z.2.2.2) : SnW) (16 * (z.2.1 (z.2.2.2.1 - 1)) + (z.2.2.1 (z.2.2.2.1 - 1)))).2.1), aI K (a 12) 601 ((sn_wmeet S L N ((z.1, z.2.1, va_up z.2.2.1 (z.2.2.2.1 - 1) (z.2.2.1 (z.2.2.2.1 - 1) + 1), z.2.2.2) : SnW) (16 * (z.2.1 (z.2.2.2.1 - 1)) + (z.2.2.1 (z.2.2.2.1 - 1)))).2.2.1)] := hD
    refine lv_goto (tgt := 72) hx hb d_Wa_goOn_59 (by decide) ?_
    rw [show sn_goon S L N z = sn_wmeet S L N (z.1, z.2.1, va_up z.2.2.1 (z.2.2.2.1 - 1) (z.2.2.1 (z.2.2.2.1 - 1) + 1), z.2.2.2) (16 * z.2.1 (z.2.2.2.1 - 1) + z.2.2.1 (z.2.2.2.1 - 1)) from if_pos h1] at hQ
    subst hAe
    exact sx_wv hQ hx hb hrt hlk hP hS d_Wa_goOn_72
set_option maxHeartbeats 4000000 in
set_option maxRecDepth 100000 in
theorem c_Wa_run (l : Launch) (D : va_G) (K : Nat → ClassId) (a : Nat → Nat) (S : Nat → Option Nat) (L : Nat → Nat) (N : Nat → Int64) (rc : Nat) (tp : Nat) (uc : Nat) (z : SnW) (hL : ∀ s, L s ≤ 600) (hSz : ∀ q n, S q = some n → n ≤ 16) : Met l y_Wa_run w_Wa_run ({ frames := 4, cells := 0, slots := 0, locals := 88 }) (va_Pc [.ref (a 9)] (sn_BW D K [ce0 a rc tp uc, aS K (a 1) 601 S, aI K (a 2) 9616 L, aL K (a 3) 9616 N, cw0 a z.2.2.2.1 z.2.2.2.2.1 z.2.2.2.2.2.1 z.2.2.2.2.2.2, aI K (a 10) 601 z.1, aI K (a 11) 601 z.2.1, aI K (a 12) 601 z.2.2.1])) (sn_Q D [ce0 a rc tp uc, aS K (a 1) 601 S, aI K (a 2) 9616 L, aL K (a 3) 9616 N, cw0 a z.2.2.2.1 z.2.2.2.2.1 z.2.2.2.2.2.1 z.2.2.2.2.2.2, aI K (a 10) 601 z.1, aI K (a 11) 601 z.2.1, aI K (a 12) 601 z.2.2.1] [ce0 a rc tp uc, aS K (a 1) 601 S, aI K (a 2) 9616 L, aL K (a 3) 9616 N, cw0 a ((sn_wrun S L N 10217 ((fun _ => 0, va_up z.2.1 0 0, va_up z.2.2.1 0 0, 1, 0, 0, 7) : SnW)).2.2.2.1) ((sn_wrun S L N 10217 ((fun _ => 0, va_up z.2.1 0 0, va_up z.2.2.1 0 0, 1, 0, 0, 7) : SnW)).2.2.2.2.1) ((sn_wrun S L N 10217 ((fun _ => 0, va_up z.2.1 0 0, va_up z.2.2.1 0 0, 1, 0, 0, 7) : SnW)).2.2.2.2.2.1) ((sn_wrun S L N 10217 ((fun _ => 0, va_up z.2.1 0 0, va_up z.2.2.1 0 0, 1, 0, 0, 7) : SnW)).2.2.2.2.2.2), aI K (a 10) 601 ((sn_wrun S L N 10217 ((fun _ => 0, va_up z.2.1 0 0, va_up z.2.2.1 0 0, 1, 0, 0, 7) : SnW)).1), aI K (a 11) 601 ((sn_wrun S L N 10217 ((fun _ => 0, va_up z.2.1 0 0, va_up z.2.2.1 0 0, 1, 0, 0, 7) : SnW)).2.1), aI K (a 12) 601 ((sn_wrun S L N 10217 ((fun _ => 0, va_up z.2.1 0 0, va_up z.2.2.1 0 0, 1, 0, 0, 7) : SnW)).2.2.1)] none) 0 0 (sn_A [ce0 a rc tp uc, aS K (a 1) 601 S, aI K (a 2) 9616 L, aL K (a 3) 9616 N, cw0 a z.2.2.2.1 z.2.2.2.2.1 z.2.2.2.2.2.1 z.2.2.2.2.2.2, aI K (a 10) 601 z.1, aI K (a 11) 601 z.2.1, aI K (a 12) 601 z.2.2.1]) := by
  refine sn_met (own := R_Wa) (by decide +kernel) rfl rfl (Nat.le_of_ble_eq_true rfl) ?_
  intro P9 E9 s9 m9 args below M9 c9 ls Q hQ hx hb hml hrt hlk hts hown hnm hl hB
  obtain ⟨⟨hP, hK, hN⟩, hD⟩ := hB
  have hl : lv_has ls 2 [(0, .ref (a 9))] := hl
  have hD := sn_DA hD
  have hS : va_S (sn_A [ce0 a rc tp uc, aS K (a 1) 601 S, aI K (a 2) 9616 L, aL K (a 3) 9616 N, cw0 a z.2.2.2.1 z.2.2.2.2.1 z.2.2.2.2.2.1 z.2.2.2.2.2.2, aI K (a 10) 601 z.1, aI K (a 11) 601 z.2.1, aI K (a 12) 601 z.2.2.1]) s9.heap s9.heap [] := va_S.rf
  generalize hAe : sn_A [ce0 a rc tp uc, aS K (a 1) 601 S, aI K (a 2) 9616 L, aL K (a 3) 9616 N, cw0 a z.2.2.2.1 z.2.2.2.2.1 z.2.2.2.2.2.1 z.2.2.2.2.2.2, aI K (a 10) 601 z.1, aI K (a 11) 601 z.2.1, aI K (a 12) 601 z.2.2.1] = A at hD hS
  refine lv_aload_n hx hb d_Wa_run_0 rfl (lv_at hl 0 rfl) ?_
  refine va_get (D := D) (ci := 3) (v := .ref (a 10)) (C := R_Wa) (T := F_Wa) (N := 8) hx hb hts in_Wa hown hK hP 4 rfl rfl 1 (by decide) (hts _ tw_107) (fun _ h9 => h9) rfl d_Wa_run_1 ?_
  refine lv_iconst (v := nI 0) hx hb d_Wa_run_4 (by decide) ?_
  refine sn_wrt (st1 := []) (w1 := [aI K (a 10) 601 (fun _ => 0)]) (va_runS (As := [.ref (a 10), .int (nI 0)]) (rest := []) ⟨hx, hb, hml, hown, hts⟩ (c_Ar_fill l D K Nat nI z.1 0 (a 10) 601 (by decide)) ⟨callB_of 2 hts (tw_in cm_Ar_fill) rfl rfl rfl (hts _ gn_Ar) (hts _ tw_263) hd_Ar_fill ⟨Nat.le_of_ble_eq_true rfl, Nat.le_of_ble_eq_true rfl⟩, hts _ gt_Ar_fill⟩ (sn_preSW hK hN hP hD [5] rfl rfl) rfl rfl hl.1 rfl (lv_room (Nat.le_of_ble_eq_true rfl)) d_Wa_run_5 ⟨Nat.zero_le _, Nat.zero_le _⟩) rfl hP hD hS [5] rfl rfl (fun H locs hP hD hS => ?_)
  have hP : va_P D classes [ce0 a rc tp uc, aS K (a 1) 601 S, aI K (a 2) 9616 L, aL K (a 3) 9616 N, cw0 a z.2.2.2.1 z.2.2.2.2.1 z.2.2.2.2.2.1 z.2.2.2.2.2.2, aI K (a 10) 601 (fun _ => 0), aI K (a 11) 601 z.2.1, aI K (a 12) 601 z.2.2.1] H := hP
  have hD : va_D A [ce0 a rc tp uc, aS K (a 1) 601 S, aI K (a 2) 9616 L, aL K (a 3) 9616 N, cw0 a z.2.2.2.1 z.2.2.2.2.1 z.2.2.2.2.2.1 z.2.2.2.2.2.2, aI K (a 10) 601 (fun _ => 0), aI K (a 11) 601 z.2.1, aI K (a 12) 601 z.2.2.1] := hD
  refine lv_aload_n hx hb d_Wa_run_8 rfl (lv_at hl 0 rfl) ?_
  refine lv_iconst (v := nI 0) hx hb d_Wa_run_9 (by decide) ?_
  refine va_put (D := D) (ci := 3) (v := .int (nI 0)) (ty := .int) (C := R_Wa) (T := F_Wa) (N := 8) hx hb hts in_Wa t_Wa t_Wa_ok n_Wa hown hK hP hD hS 4 rfl rfl 5 (by decide) (hts _ tw_111) (fun _ h9 => h9) rfl (by decide +kernel) rfl rfl (Nat.le_of_ble_eq_true rfl) d_Wa_run_10 (fun H locs hP hD hS => ?_)
  have hP : va_P D classes [ce0 a rc tp uc, aS K (a 1) 601 S, aI K (a 2) 9616 L, aL K (a 3) 9616 N, cw0 a z.2.2.2.1 0 z.2.2.2.2.2.1 z.2.2.2.2.2.2, aI K (a 10) 601 (fun _ => 0), aI K (a 11) 601 z.2.1, aI K (a 12) 601 z.2.2.1] H := hP
  have hD : va_D A [ce0 a rc tp uc, aS K (a 1) 601 S, aI K (a 2) 9616 L, aL K (a 3) 9616 N, cw0 a z.2.2.2.1 0 z.2.2.2.2.2.1 z.2.2.2.2.2.2, aI K (a 10) 601 (fun _ => 0), aI K (a 11) 601 z.2.1, aI K (a 12) 601 z.2.2.1] := hD
  refine lv_aload_n hx hb d_Wa_run_13 rfl (lv_at hl 0 rfl) ?_
  refine lv_iconst (v := nI 0) hx hb d_Wa_run_14 (by decide) ?_
  refine va_put (D := D) (ci := 3) (v := .int (nI 0)) (ty := .int) (C := R_Wa) (T := F_Wa) (N := 8) hx hb hts in_Wa t_Wa t_Wa_ok n_Wa hown hK hP hD hS 4 rfl rfl 6 (by decide) (hts _ tw_112) (fun _ h9 => h9) rfl (by decide +kernel) rfl rfl (Nat.le_of_ble_eq_true rfl) d_Wa_run_15 (fun H locs hP hD hS => ?_)
  have hP : va_P D classes [ce0 a rc tp uc, aS K (a 1) 601 S, aI K (a 2) 9616 L, aL K (a 3) 9616 N, cw0 a z.2.2.2.1 0 0 z.2.2.2.2.2.2, aI K (a 10) 601 (fun _ => 0), aI K (a 11) 601 z.2.1, aI K (a 12) 601 z.2.2.1] H := hP
  have hD : va_D A [ce0 a rc tp uc, aS K (a 1) 601 S, aI K (a 2) 9616 L, aL K (a 3) 9616 N, cw0 a z.2.2.2.1 0 0 z.2.2.2.2.2.2, aI K (a 10) 601 (fun _ => 0), aI K (a 11) 601 z.2.1, aI K (a 12) 601 z.2.2.1] := hD
  refine lv_aload_n hx hb d_Wa_run_18 rfl (lv_at hl 0 rfl) ?_
  refine lv_ldc2 (v := 7) hx hb hown (hts _ tw_264) d_Wa_run_19 ?_
  refine va_put (D := D) (ci := 3) (v := .long 7) (ty := .long) (C := R_Wa) (T := F_Wa) (N := 8) hx hb hts in_Wa t_Wa t_Wa_ok n_Wa hown hK hP hD hS 4 rfl rfl 7 (by decide) (hts _ tw_113) (fun _ h9 => h9) rfl (by decide +kernel) rfl rfl (Nat.le_of_ble_eq_true rfl) d_Wa_run_22 (fun H locs hP hD hS => ?_)
  have hP : va_P D classes [ce0 a rc tp uc, aS K (a 1) 601 S, aI K (a 2) 9616 L, aL K (a 3) 9616 N, cw0 a z.2.2.2.1 0 0 7, aI K (a 10) 601 (fun _ => 0), aI K (a 11) 601 z.2.1, aI K (a 12) 601 z.2.2.1] H := hP
  have hD : va_D A [ce0 a rc tp uc, aS K (a 1) 601 S, aI K (a 2) 9616 L, aL K (a 3) 9616 N, cw0 a z.2.2.2.1 0 0 7, aI K (a 10) 601 (fun _ => 0), aI K (a 11) 601 z.2.1, aI K (a 12) 601 z.2.2.1] := hD
  refine lv_aload_n hx hb d_Wa_run_25 rfl (lv_at hl 0 rfl) ?_
  refine lv_iconst (v := nI 0) hx hb d_Wa_run_26 (by decide) ?_
  refine va_put (D := D) (ci := 3) (v := .int (nI 0)) (ty := .int) (C := R_Wa) (T := F_Wa) (N := 8) hx hb hts in_Wa t_Wa t_Wa_ok n_Wa hown hK hP hD hS 4 rfl rfl 4 (by decide) (hts _ tw_110) (fun _ h9 => h9) rfl (by decide +kernel) rfl rfl (Nat.le_of_ble_eq_true rfl) d_Wa_run_27 (fun H locs hP hD hS => ?_)
  have hP : va_P D classes [ce0 a rc tp uc, aS K (a 1) 601 S, aI K (a 2) 9616 L, aL K (a 3) 9616 N, cw0 a 0 0 0 7, aI K (a 10) 601 (fun _ => 0), aI K (a 11) 601 z.2.1, aI K (a 12) 601 z.2.2.1] H := hP
  have hD : va_D A [ce0 a rc tp uc, aS K (a 1) 601 S, aI K (a 2) 9616 L, aL K (a 3) 9616 N, cw0 a 0 0 0 7, aI K (a 10) 601 (fun _ => 0), aI K (a 11) 601 z.2.1, aI K (a 12) 601 z.2.2.1] := hD
  refine lv_aload_n hx hb d_Wa_run_30 rfl (lv_at hl 0 rfl) ?_
  refine lv_iconst (v := nI 0) hx hb d_Wa_run_31 (by decide) ?_
  refine sn_wrt (st1 := []) (w1 := [cw0 a (0 + 1) 0 0 7, aI K (a 11) 601 (va_up z.2.1 0 0), aI K (a 12) 601 (va_up z.2.2.1 0 0)]) (va_runV (As := [.int (nI 0)]) (rest := []) ⟨hx, hb, hml, hown, hts⟩ (c_Wa_goInto l D K a 0 0 0 7 z.2.1 z.2.2.1 0 (by omega)) ⟨callB_of 1 hts (tw_in cm_Wa_goInto) rfl rfl rfl (hts _ gn_Wa) (hts _ tw_265) hd_Wa_goInto ⟨Nat.le_of_ble_eq_true rfl, Nat.le_of_ble_eq_true rfl⟩, hts _ gi_Wa_goInto, hts _ gs_Wa_goInto⟩ (sn_preVW hK hN hP hD 4 rfl rfl [4, 6, 7] rfl rfl) rfl rfl hl.1 rfl (lv_room (Nat.le_of_ble_eq_true rfl)) d_Wa_run_32 ⟨Nat.zero_le _, Nat.zero_le _⟩) rfl hP hD hS [4, 6, 7] rfl rfl (fun H locs hP hD hS => ?_)
  have hP : va_P D classes [ce0 a rc tp uc, aS K (a 1) 601 S, aI K (a 2) 9616 L, aL K (a 3) 9616 N, cw0 a (0 + 1) 0 0 7, aI K (a 10) 601 (fun _ => 0), aI K (a 11) 601 (va_up z.2.1 0 0), aI K (a 12) 601 (va_up z.2.2.1 0 0)] H := hP
  have hD : va_D A [ce0 a rc tp uc, aS K (a 1) 601 S, aI K (a 2) 9616 L, aL K (a 3) 9616 N, cw0 a (0 + 1) 0 0 7, aI K (a 10) 601 (fun _ => 0), aI K (a 11) 601 (va_up z.2.1 0 0), aI K (a 12) 601 (va_up z.2.2.1 0 0)] := hD
  refine lv_iconst (v := nI 0) hx hb d_Wa_run_35 (by decide) ?_
  refine lv_istore_n (lv' := [(1, .int (nI 0)), (0, .ref (a 9))]) hx hb d_Wa_run_36 rfl hl (by decide) rfl (fun ls hl => ?_)
  have loop0 : ∀ (nn : Nat) (i : Nat) (y : SnW) (ls : Array Slot) (H : Heap) (locs : List Loc), 10217 - i < nn → (i ≤ 10217) → (sn_wi y) → (sn_wb y) → (sn_wrun S L N (10217 - i) y = sn_wrun S L N 10217 ((fun _ => 0, va_up z.2.1 0 0, va_up z.2.2.1 0 0, 1, 0, 0, 7) : SnW)) → lv_has ls 2 [(0, .ref (a 9)), (1, .int (nI i))] → va_P D classes [ce0 a rc tp uc, aS K (a 1) 601 S, aI K (a 2) 9616 L, aL K (a 3) 9616 N, cw0 a y.2.2.2.1 y.2.2.2.2.1 y.2.2.2.2.2.1 y.2.2.2.2.2.2, aI K (a 10) 601 y.1, aI K (a 11) 601 y.2.1, aI K (a 12) 601 y.2.2.1] H → va_D A [ce0 a rc tp uc, aS K (a 1) 601 S, aI K (a 2) 9616 L, aL K (a 3) 9616 N, cw0 a y.2.2.2.1 y.2.2.2.2.1 y.2.2.2.2.2.1 y.2.2.2.2.2.2, aI K (a 10) 601 y.1, aI K (a 11) 601 y.2.1, aI K (a 12) 601 y.2.2.1] → va_S A s9.heap H locs → W P9 l E9 ({ frames := 4, cells := 0, slots := 0, locals := 88 }) s9 m9 args below M9 c9 H locs 0 0 Q (F0 m9 37 ls []) := by
    intro nn
    induction nn with
    | zero => intro i y ls H locs hn; exact absurd hn (Nat.not_lt_zero _)
    | succ nn ih0 =>
      intro i y ls H locs hmu hi hy hyb ew hl hP hD hS
      have hm6 := sn_wi_m hy
      have hdm := hy.2.1
      refine lv_iload_n hx hb d_Wa_run_37 rfl (lv_at hl 1 rfl) ?_
      refine lv_sipush (v := nI 10217) hx hb d_Wa_run_38 (by decide) ?_
      refine sn_icmp_ge (by omega) (by omega) (tgt := 61) hx hb d_Wa_run_41 (by decide) (fun h1 => ?_) (fun h1 => ?_)
      · have ei : i = 10217 := by omega
        rw [ei, Nat.sub_self] at ew
        have ew : y = _ := ew
        rw [← ew] at hQ
        subst hAe
        exact sx_wv hQ hx hb hrt hlk hP hS d_Wa_run_61
      · refine lv_aload_n hx hb d_Wa_run_44 rfl (lv_at hl 0 rfl) ?_
        refine va_get (D := D) (ci := 3) (v := .int (nI y.2.2.2.1)) (C := R_Wa) (T := F_Wa) (N := 8) hx hb hts in_Wa hown hK hP 4 rfl rfl 4 (by decide) (hts _ tw_110) (fun _ h9 => h9) rfl d_Wa_run_45 ?_
        refine sn_if_le (by omega) (tgt := 61) hx hb d_Wa_run_48 (by decide) (fun h2 => ?_) (fun h2 => ?_)
        · have ew2 : y = sn_wrun S L N 10217 ((fun _ => 0, va_up z.2.1 0 0, va_up z.2.2.1 0 0, 1, 0, 0, 7) : SnW) := by rw [← ew]; exact (sn_wrun_0 S L N _ h2).symm
          rw [← ew2] at hQ
          subst hAe
          exact sx_wv hQ hx hb hrt hlk hP hS d_Wa_run_61
        · refine lv_aload_n hx hb d_Wa_run_51 rfl (lv_at hl 0 rfl) ?_
          refine sn_wrt (st1 := []) (w1 := [ce0 a rc tp uc, aS K (a 1) 601 S, aI K (a 2) 9616 L, aL K (a 3) 9616 N, cw0 a ((sn_goon S L N y).2.2.2.1) ((sn_goon S L N y).2.2.2.2.1) ((sn_goon S L N y).2.2.2.2.2.1) ((sn_goon S L N y).2.2.2.2.2.2), aI K (a 10) 601 ((sn_goon S L N y).1), aI K (a 11) 601 ((sn_goon S L N y).2.1), aI K (a 12) 601 ((sn_goon S L N y).2.2.1)]) (va_runV (As := []) (rest := []) ⟨hx, hb, hml, hown, hts⟩ (c_Wa_goOn l D K a S L N rc tp uc y (hL) (hSz) (hy) (hyb) (h2)) ⟨callB_of 0 hts (tw_in cm_Wa_goOn) rfl rfl rfl (hts _ gn_Wa) (hts _ tw_269) hd_Wa_goOn ⟨Nat.le_of_ble_eq_true rfl, Nat.le_of_ble_eq_true rfl⟩, hts _ gi_Wa_goOn, hts _ gs_Wa_goOn⟩ (sn_preVW hK hN hP hD 4 rfl rfl [0, 1, 2, 3, 4, 5, 6, 7] rfl rfl) rfl rfl hl.1 rfl (lv_room (Nat.le_of_ble_eq_true rfl)) d_Wa_run_52 ⟨Nat.zero_le _, Nat.zero_le _⟩) rfl hP hD hS [0, 1, 2, 3, 4, 5, 6, 7] rfl rfl (fun H locs hP hD hS => ?_)
          have hP : va_P D classes [ce0 a rc tp uc, aS K (a 1) 601 S, aI K (a 2) 9616 L, aL K (a 3) 9616 N, cw0 a ((sn_goon S L N y).2.2.2.1) ((sn_goon S L N y).2.2.2.2.1) ((sn_goon S L N y).2.2.2.2.2.1) ((sn_goon S L N y).2.2.2.2.2.2), aI K (a 10) 601 ((sn_goon S L N y).1), aI K (a 11) 601 ((sn_goon S L N y).2.1), aI K (a 12) 601 ((sn_goon S L N y).2.2.1)] H := hP
          have hD : va_D A [ce0 a rc tp uc, aS K (a 1) 601 S, aI K (a 2) 9616 L, aL K (a 3) 9616 N, cw0 a ((sn_goon S L N y).2.2.2.1) ((sn_goon S L N y).2.2.2.2.1) ((sn_goon S L N y).2.2.2.2.2.1) ((sn_goon S L N y).2.2.2.2.2.2), aI K (a 10) 601 ((sn_goon S L N y).1), aI K (a 11) 601 ((sn_goon S L N y).2.1), aI K (a 12) 601 ((sn_goon S L N y).2.2.1)] := hD
          refine lv_iinc (k := 1) (v := nI (i + 1)) (lv' := [(1, .int (nI (i + 1))), (0, .ref (a 9))]) hx hb d_Wa_run_55 hl rfl (sn_inc _) (by decide) rfl (fun ls hl => ?_)
          refine lv_goto (tgt := 37) hx hb d_Wa_run_58 (by decide) ?_
          have hl := lv_sub (l' := [(0, .ref (a 9)), (1, .int (nI (i + 1)))]) hl [1, 0] rfl
          exact ih0 (i + 1) (sn_goon S L N y) _ _ _ (by omega) (by omega) ((sn_goon_ok (S := S) (N := N) hL hy h2).1) (sn_goon_wb hL hSz hy hyb h2) (by rw [← ew, show 10217 - i = (10217 - (i + 1)) + 1 by omega]; exact (if_pos h2).symm) hl hP hD hS
  have hP : va_P D classes [ce0 a rc tp uc, aS K (a 1) 601 S, aI K (a 2) 9616 L, aL K (a 3) 9616 N, cw0 a (((fun _ => 0, va_up z.2.1 0 0, va_up z.2.2.1 0 0, 1, 0, 0, 7) : SnW).2.2.2.1) (((fun _ => 0, va_up z.2.1 0 0, va_up z.2.2.1 0 0, 1, 0, 0, 7) : SnW).2.2.2.2.1) (((fun _ => 0, va_up z.2.1 0 0, va_up z.2.2.1 0 0, 1, 0, 0, 7) : SnW).2.2.2.2.2.1) (((fun _ => 0, va_up z.2.1 0 0, va_up z.2.2.1 0 0, 1, 0, 0, 7) : SnW).2.2.2.2.2.2), aI K (a 10) 601 (((fun _ => 0, va_up z.2.1 0 0, va_up z.2.2.1 0 0, 1, 0, 0, 7) : SnW).1), aI K (a 11) 601 (((fun _ => 0, va_up z.2.1 0 0, va_up z.2.2.1 0 0, 1, 0, 0, 7) : SnW).2.1), aI K (a 12) 601 (((fun _ => 0, va_up z.2.1 0 0, va_up z.2.2.1 0 0, 1, 0, 0, 7) : SnW).2.2.1)] H := hP
  have hD : va_D A [ce0 a rc tp uc, aS K (a 1) 601 S, aI K (a 2) 9616 L, aL K (a 3) 9616 N, cw0 a (((fun _ => 0, va_up z.2.1 0 0, va_up z.2.2.1 0 0, 1, 0, 0, 7) : SnW).2.2.2.1) (((fun _ => 0, va_up z.2.1 0 0, va_up z.2.2.1 0 0, 1, 0, 0, 7) : SnW).2.2.2.2.1) (((fun _ => 0, va_up z.2.1 0 0, va_up z.2.2.1 0 0, 1, 0, 0, 7) : SnW).2.2.2.2.2.1) (((fun _ => 0, va_up z.2.1 0 0, va_up z.2.2.1 0 0, 1, 0, 0, 7) : SnW).2.2.2.2.2.2), aI K (a 10) 601 (((fun _ => 0, va_up z.2.1 0 0, va_up z.2.2.1 0 0, 1, 0, 0, 7) : SnW).1), aI K (a 11) 601 (((fun _ => 0, va_up z.2.1 0 0, va_up z.2.2.1 0 0, 1, 0, 0, 7) : SnW).2.1), aI K (a 12) 601 (((fun _ => 0, va_up z.2.1 0 0, va_up z.2.2.1 0 0, 1, 0, 0, 7) : SnW).2.2.1)] := hD
  have hl := lv_sub (l' := [(0, .ref (a 9)), (1, .int (nI 0))]) hl [1, 0] rfl
  exact loop0 _ 0 ((fun _ => 0, va_up z.2.1 0 0, va_up z.2.2.1 0 0, 1, 0, 0, 7) : SnW) _ _ _ (Nat.lt_succ_self _) (by omega) (sn_wi_0 z) (sn_wb_0 z) (rfl) hl hP hD hS
