set_option maxHeartbeats 4000000 in
set_option maxRecDepth 100000 in
theorem c_Sh_slotOf (l : Launch) (D : va_G) (K : Nat → ClassId) (p : Nat) (i : Nat)  : Met l y_Sh_slotOf w_Sh_slotOf ({ frames := 0, cells := 0, slots := 0, locals := 0 }) (va_Pc [.int (nI p), .int (nI i)] (sn_B D K [])) (sn_QR (some (.int (nI (16 * p + i))))) 0 0 (fun _ => False) := by
  refine sn_met (own := R_Sh) (by decide +kernel) rfl rfl (Nat.le_of_ble_eq_true rfl) ?_
  intro P9 E9 s9 m9 args below M9 c9 ls Q hQ hx hb hml hrt hlk hts hown hnm hl hB
  obtain ⟨hP, hK, hN⟩ := hB
  have hl : lv_has ls 2 [(0, .int (nI p)), (1, .int (nI i))] := hl
  refine lv_iload_n hx hb d_Sh_slotOf_0 rfl (lv_at hl 0 rfl) ?_
  refine lv_bipush (v := nI 16) hx hb d_Sh_slotOf_1 (by decide) ?_
  refine lv_imul hx hb d_Sh_slotOf_3 ?_
  refine sn_topi (pk_mul _ _) ?_
  refine lv_iload_n hx hb d_Sh_slotOf_4 rfl (lv_at hl 1 rfl) ?_
  refine lv_iadd hx hb d_Sh_slotOf_5 ?_
  refine sn_topi ((nI_add _ _).trans (congrArg nI (by omega : (p * 16) + i = 16 * p + i))) ?_
  exact sx_ri hQ hx hb hrt hlk (rfl) d_Sh_slotOf_6
set_option maxHeartbeats 4000000 in
set_option maxRecDepth 100000 in
theorem c_Sh_rootSlot (l : Launch) (D : va_G) (K : Nat → ClassId) (r : Nat)  : Met l y_Sh_rootSlot w_Sh_rootSlot ({ frames := 1, cells := 0, slots := 0, locals := 21 }) (va_Pc [.int (nI r)] (sn_B D K [])) (sn_QR (some (.int (nI r)))) 0 0 (fun _ => False) := by
  refine sn_met (own := R_Sh) (by decide +kernel) rfl rfl (Nat.le_of_ble_eq_true rfl) ?_
  intro P9 E9 s9 m9 args below M9 c9 ls Q hQ hx hb hml hrt hlk hts hown hnm hl hB
  obtain ⟨hP, hK, hN⟩ := hB
  have hl : lv_has ls 1 [(0, .int (nI r))] := hl
  refine lv_iconst (v := nI 0) hx hb d_Sh_rootSlot_0 (by decide) ?_
  refine lv_iload_n hx hb d_Sh_rootSlot_1 rfl (lv_at hl 0 rfl) ?_
  refine sn_rd (st1 := [.int (nI (16 * 0 + r))]) (va_runS (As := [.int (nI 0), .int (nI r)]) (rest := []) ⟨hx, hb, hml, hown, hts⟩ (c_Sh_slotOf l D K 0 r) ⟨callB_of 2 hts (tw_in cm_Sh_slotOf) rfl rfl rfl (hts _ gn_Sh) (hts _ tw_506) hd_Sh_slotOf ⟨Nat.le_of_ble_eq_true rfl, Nat.le_of_ble_eq_true rfl⟩, hts _ gt_Sh_slotOf⟩ (sn_preS hK hN hP [] rfl) rfl rfl hl.1 rfl (lv_room (Nat.le_of_ble_eq_true rfl)) d_Sh_rootSlot_2 ⟨Nat.zero_le _, Nat.zero_le _⟩) rfl ?_
  exact sx_ri hQ hx hb hrt hlk (congrArg nI (by omega)) d_Sh_rootSlot_5
set_option maxHeartbeats 4000000 in
set_option maxRecDepth 100000 in
theorem c_St_isTuplePlace (l : Launch) (D : va_G) (K : Nat → ClassId) (a : Nat → Nat) (p : Nat) (hp : p < 2 ^ 31) : Met l y_St_isTuplePlace w_St_isTuplePlace ({ frames := 0, cells := 0, slots := 0, locals := 0 }) (va_Pc [.ref (a 0), .int (nI p)] (sn_B D K [])) (sn_QR (some (.int (zb (decide (0 < p ∧ p ≤ 600)))))) 0 0 (fun _ => False) := by
  refine sn_met (own := R_St) (by decide +kernel) rfl rfl (Nat.le_of_ble_eq_true rfl) ?_
  intro P9 E9 s9 m9 args below M9 c9 ls Q hQ hx hb hml hrt hlk hts hown hnm hl hB
  obtain ⟨hP, hK, hN⟩ := hB
  have hl : lv_has ls 2 [(0, .ref (a 0)), (1, .int (nI p))] := hl
  refine lv_iload_n hx hb d_St_isTuplePlace_0 rfl (lv_at hl 1 rfl) ?_
  refine sn_if_le (by omega) (tgt := 15) hx hb d_St_isTuplePlace_1 (by decide) (fun h1 => ?_) (fun h1 => ?_)
  · refine lv_iconst (v := nI 0) hx hb d_St_isTuplePlace_15 (by decide) ?_
    exact sx_rz hQ hx hb hrt hlk (zb_no (by omega)) d_St_isTuplePlace_16
  · refine lv_iload_n hx hb d_St_isTuplePlace_4 rfl (lv_at hl 1 rfl) ?_
    refine lv_sipush (v := nI 600) hx hb d_St_isTuplePlace_5 (by decide) ?_
    refine sn_icmp_gt (by omega) (by omega) (tgt := 15) hx hb d_St_isTuplePlace_8 (by decide) (fun h2 => ?_) (fun h2 => ?_)
    · refine lv_iconst (v := nI 0) hx hb d_St_isTuplePlace_15 (by decide) ?_
      exact sx_rz hQ hx hb hrt hlk (zb_no (by omega)) d_St_isTuplePlace_16
    · refine lv_iconst (v := nI 1) hx hb d_St_isTuplePlace_11 (by decide) ?_
      refine lv_goto (tgt := 16) hx hb d_St_isTuplePlace_12 (by decide) ?_
      exact sx_rz hQ hx hb hrt hlk (zb_yes (⟨by omega, by omega⟩)) d_St_isTuplePlace_16
set_option maxHeartbeats 4000000 in
set_option maxRecDepth 100000 in
theorem c_St_isFree (l : Launch) (D : va_G) (K : Nat → ClassId) (a : Nat → Nat) (S : Nat → Option Nat) (rc : Nat) (tp : Nat) (uc : Nat) (p : Nat) (hp : p < 2 ^ 31) (hSz : ∀ q n, S q = some n → n ≤ 16) : Met l y_St_isFree w_St_isFree ({ frames := 1, cells := 0, slots := 0, locals := 21 }) (va_Pc [.ref (a 0), .int (nI p)] (sn_B D K [ce0 a rc tp uc, aS K (a 1) 601 S])) (sn_QR (some (.int (zb (decide (0 < p ∧ p ≤ 600 ∧ S p = none)))))) 0 0 (fun _ => False) := by
  refine sn_met (own := R_St) (by decide +kernel) rfl rfl (Nat.le_of_ble_eq_true rfl) ?_
  intro P9 E9 s9 m9 args below M9 c9 ls Q hQ hx hb hml hrt hlk hts hown hnm hl hB
  obtain ⟨hP, hK, hN⟩ := hB
  have hl : lv_has ls 2 [(0, .ref (a 0)), (1, .int (nI p))] := hl
  refine lv_aload_n hx hb d_St_isFree_0 rfl (lv_at hl 0 rfl) ?_
  refine lv_iload_n hx hb d_St_isFree_1 rfl (lv_at hl 1 rfl) ?_
  refine sn_rd (st1 := [.int (zb (decide (0 < p ∧ p ≤ 600)))]) (va_runV (As := [.int (nI p)]) (rest := []) ⟨hx, hb, hml, hown, hts⟩ (c_St_isTuplePlace l D K a p (by omega)) ⟨callB_of 1 hts (tw_in cm_St_isTuplePlace) rfl rfl rfl (hts _ gn_St) (hts _ tw_246) hd_St_isTuplePlace ⟨Nat.le_of_ble_eq_true rfl, Nat.le_of_ble_eq_true rfl⟩, hts _ gi_St_isTuplePlace, hts _ gs_St_isTuplePlace⟩ (sn_preV hK hN hP 0 rfl rfl [] rfl) rfl rfl hl.1 rfl (lv_room (Nat.le_of_ble_eq_true rfl)) d_St_isFree_2 ⟨Nat.zero_le _, Nat.zero_le _⟩) rfl ?_
  refine sn_ifz_eq (tgt := 22) hx hb d_St_isFree_5 (by decide) (fun h1 => ?_) (fun h1 => ?_)
  · refine lv_iconst (v := nI 0) hx hb d_St_isFree_22 (by decide) ?_
    exact sx_rz hQ hx hb hrt hlk (zb_no (by first | exact fun h9 => h1 ⟨h9.1, h9.2.1⟩ | exact fun h9 => h2 h9.2.2)) d_St_isFree_23
  · refine lv_aload_n hx hb d_St_isFree_8 rfl (lv_at hl 0 rfl) ?_
    refine va_get (D := D) (ci := 0) (v := .ref (a 1)) (C := R_St) (T := F_St) (N := 7) hx hb hts in_St hown hK hP 0 rfl rfl 0 (by decide) (hts _ tw_36) (fun _ h9 => h9) rfl d_St_isFree_9 ?_
    refine lv_iload_n hx hb d_St_isFree_12 rfl (lv_at hl 1 rfl) ?_
    refine sn_iald sn_i S p hx hb hK hP 1 rfl (by omega) (by decide) d_St_isFree_13 ?_
    refine lv_iconst (v := (-1)) hx hb d_St_isFree_14 (by decide) ?_
    refine sn_isz_ne (fun n h9 => by have := hSz _ n h9; omega) (tgt := 22) hx hb d_St_isFree_15 (by decide) (fun h2 => ?_) (fun h2 => ?_)
    · refine lv_iconst (v := nI 0) hx hb d_St_isFree_22 (by decide) ?_
      exact sx_rz hQ hx hb hrt hlk (zb_no (by first | exact fun h9 => h1 ⟨h9.1, h9.2.1⟩ | exact fun h9 => h2 h9.2.2)) d_St_isFree_23
    · refine lv_iconst (v := nI 1) hx hb d_St_isFree_18 (by decide) ?_
      refine lv_goto (tgt := 23) hx hb d_St_isFree_19 (by decide) ?_
      exact sx_rz hQ hx hb hrt hlk (zb_yes (⟨h1.1, h1.2, h2⟩)) d_St_isFree_23
set_option maxHeartbeats 4000000 in
set_option maxRecDepth 100000 in
theorem c_St_valuesOf (l : Launch) (D : va_G) (K : Nat → ClassId) (a : Nat → Nat) (S : Nat → Option Nat) (rc : Nat) (tp : Nat) (uc : Nat) (p : Nat) (hp : p ≤ 600) (hSz : ∀ q n, S q = some n → n ≤ 16) : Met l y_St_valuesOf w_St_valuesOf ({ frames := 0, cells := 0, slots := 0, locals := 0 }) (va_Pc [.ref (a 0), .int (nI p)] (sn_B D K [ce0 a rc tp uc, aS K (a 1) 601 S])) (sn_QR (some (.int (nI (sn_sz S p))))) 0 0 (fun _ => False) := by
  refine sn_met (own := R_St) (by decide +kernel) rfl rfl (Nat.le_of_ble_eq_true rfl) ?_
  intro P9 E9 s9 m9 args below M9 c9 ls Q hQ hx hb hml hrt hlk hts hown hnm hl hB
  obtain ⟨hP, hK, hN⟩ := hB
  have hl : lv_has ls 2 [(0, .ref (a 0)), (1, .int (nI p))] := hl
  refine lv_iload_n hx hb d_St_valuesOf_0 rfl (lv_at hl 1 rfl) ?_
  refine sn_if_lt (by omega) (tgt := 21) hx hb d_St_valuesOf_1 (by decide) ?_
  refine lv_iload_n hx hb d_St_valuesOf_4 rfl (lv_at hl 1 rfl) ?_
  refine lv_sipush (v := nI 600) hx hb d_St_valuesOf_5 (by decide) ?_
  refine sn_icmp_gt (by omega) (by omega) (tgt := 21) hx hb d_St_valuesOf_8 (by decide) (fun h2 => ?_) (fun h2 => ?_)
  · omega
  · refine lv_aload_n hx hb d_St_valuesOf_11 rfl (lv_at hl 0 rfl) ?_
    refine va_get (D := D) (ci := 0) (v := .ref (a 1)) (C := R_St) (T := F_St) (N := 7) hx hb hts in_St hown hK hP 0 rfl rfl 0 (by decide) (hts _ tw_36) (fun _ h9 => h9) rfl d_St_valuesOf_12 ?_
    refine lv_iload_n hx hb d_St_valuesOf_15 rfl (lv_at hl 1 rfl) ?_
    refine sn_iald sn_i S p hx hb hK hP 1 rfl (by omega) (by decide) d_St_valuesOf_16 ?_
    refine lv_iconst (v := (-1)) hx hb d_St_valuesOf_17 (by decide) ?_
    refine sn_isz_ne (fun n h9 => by have := hSz _ n h9; omega) (tgt := 25) hx hb d_St_valuesOf_18 (by decide) (fun h3 => ?_) (fun h3 => ?_)
    · refine lv_aload_n hx hb d_St_valuesOf_25 rfl (lv_at hl 0 rfl) ?_
      refine va_get (D := D) (ci := 0) (v := .ref (a 1)) (C := R_St) (T := F_St) (N := 7) hx hb hts in_St hown hK hP 0 rfl rfl 0 (by decide) (hts _ tw_36) (fun _ h9 => h9) rfl d_St_valuesOf_26 ?_
      refine lv_iload_n hx hb d_St_valuesOf_29 rfl (lv_at hl 1 rfl) ?_
      refine sn_iald sn_i S p hx hb hK hP 1 rfl (by omega) (by decide) d_St_valuesOf_30 ?_
      exact sx_ri hQ hx hb hrt hlk (by first | exact sn_i_sz h3 | exact sn_sz_free h3) d_St_valuesOf_31
    · refine lv_iconst (v := nI 0) hx hb d_St_valuesOf_21 (by decide) ?_
      refine lv_goto (tgt := 31) hx hb d_St_valuesOf_22 (by decide) ?_
      exact sx_ri hQ hx hb hrt hlk (by first | exact sn_i_sz h3 | exact sn_sz_free h3) d_St_valuesOf_31
set_option maxHeartbeats 4000000 in
set_option maxRecDepth 100000 in
theorem c_St_cellsFor (l : Launch) (D : va_G) (K : Nat → ClassId) (v : Nat)  : Met l y_St_cellsFor w_St_cellsFor ({ frames := 0, cells := 0, slots := 0, locals := 0 }) (va_Pc [.int (nI v)] (sn_B D K [])) (sn_QR (some (.int (nI (v + 2))))) 0 0 (fun _ => False) := by
  refine sn_met (own := R_St) (by decide +kernel) rfl rfl (Nat.le_of_ble_eq_true rfl) ?_
  intro P9 E9 s9 m9 args below M9 c9 ls Q hQ hx hb hml hrt hlk hts hown hnm hl hB
  obtain ⟨hP, hK, hN⟩ := hB
  have hl : lv_has ls 1 [(0, .int (nI v))] := hl
  refine lv_iload_n hx hb d_St_cellsFor_0 rfl (lv_at hl 0 rfl) ?_
  refine lv_iconst (v := nI 2) hx hb d_St_cellsFor_1 (by decide) ?_
  refine lv_iadd hx hb d_St_cellsFor_2 ?_
  refine sn_topi (nI_add _ _) ?_
  exact sx_ri hQ hx hb hrt hlk (rfl) d_St_cellsFor_3
set_option maxHeartbeats 4000000 in
set_option maxRecDepth 100000 in
theorem c_St_top (l : Launch) (D : va_G) (K : Nat → ClassId) (a : Nat → Nat) (rc : Nat) (tp : Nat) (uc : Nat)  : Met l y_St_top w_St_top ({ frames := 0, cells := 0, slots := 0, locals := 0 }) (va_Pc [.ref (a 0)] (sn_B D K [ce0 a rc tp uc])) (sn_QR (some (.int (nI tp)))) 0 0 (fun _ => False) := by
  refine sn_met (own := R_St) (by decide +kernel) rfl rfl (Nat.le_of_ble_eq_true rfl) ?_
  intro P9 E9 s9 m9 args below M9 c9 ls Q hQ hx hb hml hrt hlk hts hown hnm hl hB
  obtain ⟨hP, hK, hN⟩ := hB
  have hl : lv_has ls 1 [(0, .ref (a 0))] := hl
  refine lv_aload_n hx hb d_St_top_0 rfl (lv_at hl 0 rfl) ?_
  refine va_get (D := D) (ci := 0) (v := .int (nI tp)) (C := R_St) (T := F_St) (N := 7) hx hb hts in_St hown hK hP 0 rfl rfl 5 (by decide) (hts _ tw_41) (fun _ h9 => h9) rfl d_St_top_1 ?_
  exact sx_ri hQ hx hb hrt hlk (rfl) d_St_top_4
set_option maxHeartbeats 4000000 in
set_option maxRecDepth 100000 in
theorem c_St_tuples (l : Launch) (D : va_G) (K : Nat → ClassId) (a : Nat → Nat) (rc : Nat) (tp : Nat) (uc : Nat) (hr : rc ≤ tp) : Met l y_St_tuples w_St_tuples ({ frames := 0, cells := 0, slots := 0, locals := 0 }) (va_Pc [.ref (a 0)] (sn_B D K [ce0 a rc tp uc])) (sn_QR (some (.int (nI (tp - rc))))) 0 0 (fun _ => False) := by
  refine sn_met (own := R_St) (by decide +kernel) rfl rfl (Nat.le_of_ble_eq_true rfl) ?_
  intro P9 E9 s9 m9 args below M9 c9 ls Q hQ hx hb hml hrt hlk hts hown hnm hl hB
  obtain ⟨hP, hK, hN⟩ := hB
  have hl : lv_has ls 1 [(0, .ref (a 0))] := hl
  refine lv_aload_n hx hb d_St_tuples_0 rfl (lv_at hl 0 rfl) ?_
  refine va_get (D := D) (ci := 0) (v := .int (nI tp)) (C := R_St) (T := F_St) (N := 7) hx hb hts in_St hown hK hP 0 rfl rfl 5 (by decide) (hts _ tw_41) (fun _ h9 => h9) rfl d_St_tuples_1 ?_
  refine lv_aload_n hx hb d_St_tuples_4 rfl (lv_at hl 0 rfl) ?_
  refine va_get (D := D) (ci := 0) (v := .int (nI rc)) (C := R_St) (T := F_St) (N := 7) hx hb hts in_St hown hK hP 0 rfl rfl 4 (by decide) (hts _ tw_40) (fun _ h9 => h9) rfl d_St_tuples_5 ?_
  refine lv_isub hx hb d_St_tuples_8 ?_
  refine sn_topi (pk_sub (by omega)) ?_
  exact sx_ri hQ hx hb hrt hlk (rfl) d_St_tuples_9
set_option maxHeartbeats 4000000 in
set_option maxRecDepth 100000 in
theorem c_St_hasRoomFor (l : Launch) (D : va_G) (K : Nat → ClassId) (a : Nat → Nat) (rc : Nat) (tp : Nat) (uc : Nat) (n : Nat) (hu : uc ≤ 1200) (hn : n ≤ 16) : Met l y_St_hasRoomFor w_St_hasRoomFor ({ frames := 1, cells := 0, slots := 0, locals := 20 }) (va_Pc [.ref (a 0), .int (nI n)] (sn_B D K [ce0 a rc tp uc])) (sn_QR (some (.int (zb (decide (uc + (n + 2) ≤ 1200)))))) 0 0 (fun _ => False) := by
  refine sn_met (own := R_St) (by decide +kernel) rfl rfl (Nat.le_of_ble_eq_true rfl) ?_
  intro P9 E9 s9 m9 args below M9 c9 ls Q hQ hx hb hml hrt hlk hts hown hnm hl hB
  obtain ⟨hP, hK, hN⟩ := hB
  have hl : lv_has ls 2 [(0, .ref (a 0)), (1, .int (nI n))] := hl
  refine lv_aload_n hx hb d_St_hasRoomFor_0 rfl (lv_at hl 0 rfl) ?_
  refine va_get (D := D) (ci := 0) (v := .int (nI uc)) (C := R_St) (T := F_St) (N := 7) hx hb hts in_St hown hK hP 0 rfl rfl 6 (by decide) (hts _ tw_42) (fun _ h9 => h9) rfl d_St_hasRoomFor_1 ?_
  refine lv_iload_n hx hb d_St_hasRoomFor_4 rfl (lv_at hl 1 rfl) ?_
  refine sn_rd (st1 := [.int (nI (n + 2)), .int (nI uc)]) (va_runS (As := [.int (nI n)]) (rest := [.int (nI uc)]) ⟨hx, hb, hml, hown, hts⟩ (c_St_cellsFor l D K n) ⟨callB_of 1 hts (tw_in cm_St_cellsFor) rfl rfl rfl (hts _ gn_St) (hts _ tw_252) hd_St_cellsFor ⟨Nat.le_of_ble_eq_true rfl, Nat.le_of_ble_eq_true rfl⟩, hts _ gt_St_cellsFor⟩ (sn_preS hK hN hP [] rfl) rfl rfl hl.1 rfl (lv_room (Nat.le_of_ble_eq_true rfl)) d_St_hasRoomFor_5 ⟨Nat.zero_le _, Nat.zero_le _⟩) rfl ?_
  refine lv_iadd hx hb d_St_hasRoomFor_8 ?_
  refine sn_topi (nI_add _ _) ?_
  refine lv_sipush (v := nI 1200) hx hb d_St_hasRoomFor_9 (by decide) ?_
  refine sn_icmp_gt (by omega) (by omega) (tgt := 19) hx hb d_St_hasRoomFor_12 (by decide) (fun h1 => ?_) (fun h1 => ?_)
  · refine lv_iconst (v := nI 0) hx hb d_St_hasRoomFor_19 (by decide) ?_
    exact sx_rz hQ hx hb hrt hlk (zb_no (by omega)) d_St_hasRoomFor_20
  · refine lv_iconst (v := nI 1) hx hb d_St_hasRoomFor_15 (by decide) ?_
    refine lv_goto (tgt := 20) hx hb d_St_hasRoomFor_16 (by decide) ?_
    exact sx_rz hQ hx hb hrt hlk (zb_yes (by omega)) d_St_hasRoomFor_20
set_option maxHeartbeats 4000000 in
set_option maxRecDepth 100000 in
theorem c_St_placeAt (l : Launch) (D : va_G) (K : Nat → ClassId) (a : Nat → Nat) (L : Nat → Nat) (rc : Nat) (tp : Nat) (uc : Nat) (t : Nat) (ht : t < 9616) : Met l y_St_placeAt w_St_placeAt ({ frames := 0, cells := 0, slots := 0, locals := 0 }) (va_Pc [.ref (a 0), .int (nI t)] (sn_B D K [ce0 a rc tp uc, aI K (a 2) 9616 L])) (sn_QR (some (.int (nI (L t))))) 0 0 (fun _ => False) := by
  refine sn_met (own := R_St) (by decide +kernel) rfl rfl (Nat.le_of_ble_eq_true rfl) ?_
  intro P9 E9 s9 m9 args below M9 c9 ls Q hQ hx hb hml hrt hlk hts hown hnm hl hB
  obtain ⟨hP, hK, hN⟩ := hB
  have hl : lv_has ls 2 [(0, .ref (a 0)), (1, .int (nI t))] := hl
  refine lv_aload_n hx hb d_St_placeAt_0 rfl (lv_at hl 0 rfl) ?_
  refine va_get (D := D) (ci := 0) (v := .ref (a 2)) (C := R_St) (T := F_St) (N := 7) hx hb hts in_St hown hK hP 0 rfl rfl 1 (by decide) (hts _ tw_37) (fun _ h9 => h9) rfl d_St_placeAt_1 ?_
  refine lv_iload_n hx hb d_St_placeAt_4 rfl (lv_at hl 1 rfl) ?_
  refine sn_iald nI L t hx hb hK hP 1 rfl (by omega) (by decide) d_St_placeAt_5 ?_
  exact sx_ri hQ hx hb hrt hlk (rfl) d_St_placeAt_6
set_option maxHeartbeats 4000000 in
set_option maxRecDepth 100000 in
theorem c_St_numberAt (l : Launch) (D : va_G) (K : Nat → ClassId) (a : Nat → Nat) (N : Nat → Int64) (rc : Nat) (tp : Nat) (uc : Nat) (t : Nat) (ht : t < 9616) : Met l y_St_numberAt w_St_numberAt ({ frames := 0, cells := 0, slots := 0, locals := 0 }) (va_Pc [.ref (a 0), .int (nI t)] (sn_B D K [ce0 a rc tp uc, aL K (a 3) 9616 N])) (sn_QR (some (.long (N t)))) 0 0 (fun _ => False) := by
  refine sn_met (own := R_St) (by decide +kernel) rfl rfl (Nat.le_of_ble_eq_true rfl) ?_
  intro P9 E9 s9 m9 args below M9 c9 ls Q hQ hx hb hml hrt hlk hts hown hnm hl hB
  obtain ⟨hP, hK, hN⟩ := hB
  have hl : lv_has ls 2 [(0, .ref (a 0)), (1, .int (nI t))] := hl
  refine lv_aload_n hx hb d_St_numberAt_0 rfl (lv_at hl 0 rfl) ?_
  refine va_get (D := D) (ci := 0) (v := .ref (a 3)) (C := R_St) (T := F_St) (N := 7) hx hb hts in_St hown hK hP 0 rfl rfl 2 (by decide) (hts _ tw_38) (fun _ h9 => h9) rfl d_St_numberAt_1 ?_
  refine lv_iload_n hx hb d_St_numberAt_4 rfl (lv_at hl 1 rfl) ?_
  refine sn_lald N t hx hb hK hP 1 rfl (by omega) (by decide) d_St_numberAt_5 ?_
  exact sx_rl hQ hx hb hrt hlk rfl d_St_numberAt_6
set_option maxHeartbeats 4000000 in
set_option maxRecDepth 100000 in
theorem c_St_putNumber (l : Launch) (D : va_G) (K : Nat → ClassId) (a : Nat → Nat) (L : Nat → Nat) (N : Nat → Int64) (rc : Nat) (tp : Nat) (uc : Nat) (t : Nat) (v : Int64) (ht : t < 9616) : Met l y_St_putNumber w_St_putNumber ({ frames := 0, cells := 0, slots := 0, locals := 0 }) (va_Pc [.ref (a 0), .int (nI t), .long v] (sn_BW D K [ce0 a rc tp uc, aI K (a 2) 9616 L, aL K (a 3) 9616 N])) (sn_Q D [ce0 a rc tp uc, aI K (a 2) 9616 L, aL K (a 3) 9616 N] [ce0 a rc tp uc, aI K (a 2) 9616 (va_up L t 0), aL K (a 3) 9616 (va_up N t v)] none) 0 0 (sn_A [ce0 a rc tp uc, aI K (a 2) 9616 L, aL K (a 3) 9616 N]) := by
  refine sn_met (own := R_St) (by decide +kernel) rfl rfl (Nat.le_of_ble_eq_true rfl) ?_
  intro P9 E9 s9 m9 args below M9 c9 ls Q hQ hx hb hml hrt hlk hts hown hnm hl hB
  obtain ⟨⟨hP, hK, hN⟩, hD⟩ := hB
  have hl : lv_has ls 4 [(0, .ref (a 0)), (1, .int (nI t)), (2, .long v)] := hl
  have hD := sn_DA hD
  have hS : va_S (sn_A [ce0 a rc tp uc, aI K (a 2) 9616 L, aL K (a 3) 9616 N]) s9.heap s9.heap [] := va_S.rf
  generalize hAe : sn_A [ce0 a rc tp uc, aI K (a 2) 9616 L, aL K (a 3) 9616 N] = A at hD hS
  refine lv_aload_n hx hb d_St_putNumber_0 rfl (lv_at hl 0 rfl) ?_
  refine va_get (D := D) (ci := 0) (v := .ref (a 2)) (C := R_St) (T := F_St) (N := 7) hx hb hts in_St hown hK hP 0 rfl rfl 1 (by decide) (hts _ tw_37) (fun _ h9 => h9) rfl d_St_putNumber_1 ?_
  refine lv_iload_n hx hb d_St_putNumber_4 rfl (lv_at hl 1 rfl) ?_
  refine lv_iconst (v := nI 0) hx hb d_St_putNumber_5 (by decide) ?_
  refine sn_iast nI L t 0 hx hb hK hP hD hS 1 rfl (by omega) (by decide) d_St_putNumber_6 (fun H locs hP hD hS => ?_)
  have hP : va_P D classes [ce0 a rc tp uc, aI K (a 2) 9616 (va_up L t 0), aL K (a 3) 9616 N] H := hP
  have hD : va_D A [ce0 a rc tp uc, aI K (a 2) 9616 (va_up L t 0), aL K (a 3) 9616 N] := hD
  refine lv_aload_n hx hb d_St_putNumber_7 rfl (lv_at hl 0 rfl) ?_
  refine va_get (D := D) (ci := 0) (v := .ref (a 3)) (C := R_St) (T := F_St) (N := 7) hx hb hts in_St hown hK hP 0 rfl rfl 2 (by decide) (hts _ tw_38) (fun _ h9 => h9) rfl d_St_putNumber_8 ?_
  refine lv_iload_n hx hb d_St_putNumber_11 rfl (lv_at hl 1 rfl) ?_
  refine lv_lload_n hx hb d_St_putNumber_12 rfl (lv_at hl 2 rfl) ?_
  refine sn_last N t v hx hb hK hP hD hS 2 rfl (by omega) (by decide) d_St_putNumber_13 (fun H locs hP hD hS => ?_)
  have hP : va_P D classes [ce0 a rc tp uc, aI K (a 2) 9616 (va_up L t 0), aL K (a 3) 9616 (va_up N t v)] H := hP
  have hD : va_D A [ce0 a rc tp uc, aI K (a 2) 9616 (va_up L t 0), aL K (a 3) 9616 (va_up N t v)] := hD
  subst hAe
  exact sx_wv hQ hx hb hrt hlk hP hS d_St_putNumber_14
set_option maxHeartbeats 4000000 in
set_option maxRecDepth 100000 in
theorem c_St_putReference (l : Launch) (D : va_G) (K : Nat → ClassId) (a : Nat → Nat) (L : Nat → Nat) (N : Nat → Int64) (rc : Nat) (tp : Nat) (uc : Nat) (t : Nat) (q : Nat) (ht : t < 9616) : Met l y_St_putReference w_St_putReference ({ frames := 0, cells := 0, slots := 0, locals := 0 }) (va_Pc [.ref (a 0), .int (nI t), .int (nI q)] (sn_BW D K [ce0 a rc tp uc, aI K (a 2) 9616 L, aL K (a 3) 9616 N])) (sn_Q D [ce0 a rc tp uc, aI K (a 2) 9616 L, aL K (a 3) 9616 N] [ce0 a rc tp uc, aI K (a 2) 9616 (va_up L t q), aL K (a 3) 9616 (va_up N t 0)] none) 0 0 (sn_A [ce0 a rc tp uc, aI K (a 2) 9616 L, aL K (a 3) 9616 N]) := by
  refine sn_met (own := R_St) (by decide +kernel) rfl rfl (Nat.le_of_ble_eq_true rfl) ?_
  intro P9 E9 s9 m9 args below M9 c9 ls Q hQ hx hb hml hrt hlk hts hown hnm hl hB
  obtain ⟨⟨hP, hK, hN⟩, hD⟩ := hB
  have hl : lv_has ls 3 [(0, .ref (a 0)), (1, .int (nI t)), (2, .int (nI q))] := hl
  have hD := sn_DA hD
  have hS : va_S (sn_A [ce0 a rc tp uc, aI K (a 2) 9616 L, aL K (a 3) 9616 N]) s9.heap s9.heap [] := va_S.rf
  generalize hAe : sn_A [ce0 a rc tp uc, aI K (a 2) 9616 L, aL K (a 3) 9616 N] = A at hD hS
  refine lv_aload_n hx hb d_St_putReference_0 rfl (lv_at hl 0 rfl) ?_
  refine va_get (D := D) (ci := 0) (v := .ref (a 2)) (C := R_St) (T := F_St) (N := 7) hx hb hts in_St hown hK hP 0 rfl rfl 1 (by decide) (hts _ tw_37) (fun _ h9 => h9) rfl d_St_putReference_1 ?_
  refine lv_iload_n hx hb d_St_putReference_4 rfl (lv_at hl 1 rfl) ?_
  refine lv_iload_n hx hb d_St_putReference_5 rfl (lv_at hl 2 rfl) ?_
  refine sn_iast nI L t q hx hb hK hP hD hS 1 rfl (by omega) (by decide) d_St_putReference_6 (fun H locs hP hD hS => ?_)
  have hP : va_P D classes [ce0 a rc tp uc, aI K (a 2) 9616 (va_up L t q), aL K (a 3) 9616 N] H := hP
  have hD : va_D A [ce0 a rc tp uc, aI K (a 2) 9616 (va_up L t q), aL K (a 3) 9616 N] := hD
  refine lv_aload_n hx hb d_St_putReference_7 rfl (lv_at hl 0 rfl) ?_
  refine va_get (D := D) (ci := 0) (v := .ref (a 3)) (C := R_St) (T := F_St) (N := 7) hx hb hts in_St hown hK hP 0 rfl rfl 2 (by decide) (hts _ tw_38) (fun _ h9 => h9) rfl d_St_putReference_8 ?_
  refine lv_iload_n hx hb d_St_putReference_11 rfl (lv_at hl 1 rfl) ?_
  refine lv_lconst (v := 0) hx hb d_St_putReference_12 (by decide) ?_
  refine sn_last N t 0 hx hb hK hP hD hS 2 rfl (by omega) (by decide) d_St_putReference_13 (fun H locs hP hD hS => ?_)
  have hP : va_P D classes [ce0 a rc tp uc, aI K (a 2) 9616 (va_up L t q), aL K (a 3) 9616 (va_up N t 0)] H := hP
  have hD : va_D A [ce0 a rc tp uc, aI K (a 2) 9616 (va_up L t q), aL K (a 3) 9616 (va_up N t 0)] := hD
  subst hAe
  exact sx_wv hQ hx hb hrt hlk hP hS d_St_putReference_14
set_option maxHeartbeats 4000000 in
set_option maxRecDepth 100000 in
theorem c_St_move (l : Launch) (D : va_G) (K : Nat → ClassId) (a : Nat → Nat) (L : Nat → Nat) (N : Nat → Int64) (rc : Nat) (tp : Nat) (uc : Nat) (t : Nat) (u : Nat) (ht : t < 9616) (hu : u < 9616) : Met l y_St_move w_St_move ({ frames := 0, cells := 0, slots := 0, locals := 0 }) (va_Pc [.ref (a 0), .int (nI t), .int (nI u)] (sn_BW D K [ce0 a rc tp uc, aI K (a 2) 9616 L, aL K (a 3) 9616 N])) (sn_Q D [ce0 a rc tp uc, aI K (a 2) 9616 L, aL K (a 3) 9616 N] [ce0 a rc tp uc, aI K (a 2) 9616 (va_up L u (L t)), aL K (a 3) 9616 (va_up N u (N t))] none) 0 0 (sn_A [ce0 a rc tp uc, aI K (a 2) 9616 L, aL K (a 3) 9616 N]) := by
  refine sn_met (own := R_St) (by decide +kernel) rfl rfl (Nat.le_of_ble_eq_true rfl) ?_
  intro P9 E9 s9 m9 args below M9 c9 ls Q hQ hx hb hml hrt hlk hts hown hnm hl hB
  obtain ⟨⟨hP, hK, hN⟩, hD⟩ := hB
  have hl : lv_has ls 3 [(0, .ref (a 0)), (1, .int (nI t)), (2, .int (nI u))] := hl
  have hD := sn_DA hD
  have hS : va_S (sn_A [ce0 a rc tp uc, aI K (a 2) 9616 L, aL K (a 3) 9616 N]) s9.heap s9.heap [] := va_S.rf
  generalize hAe : sn_A [ce0 a rc tp uc, aI K (a 2) 9616 L, aL K (a 3) 9616 N] = A at hD hS
  refine lv_aload_n hx hb d_St_move_0 rfl (lv_at hl 0 rfl) ?_
  refine va_get (D := D) (ci := 0) (v := .ref (a 2)) (C := R_St) (T := F_St) (N := 7) hx hb hts in_St hown hK hP 0 rfl rfl 1 (by decide) (hts _ tw_37) (fun _ h9 => h9) rfl d_St_move_1 ?_
  refine lv_iload_n hx hb d_St_move_4 rfl (lv_at hl 2 rfl) ?_
  refine lv_aload_n hx hb d_St_move_5 rfl (lv_at hl 0 rfl) ?_
  refine va_get (D := D) (ci := 0) (v := .ref (a 2)) (C := R_St) (T := F_St) (N := 7) hx hb hts in_St hown hK hP 0 rfl rfl 1 (by decide) (hts _ tw_37) (fun _ h9 => h9) rfl d_St_move_6 ?_
  refine lv_iload_n hx hb d_St_move_9 rfl (lv_at hl 1 rfl) ?_
  refine sn_iald nI L t hx hb hK hP 1 rfl (by omega) (by decide) d_St_move_10 ?_
  refine sn_iast nI L u (L t) hx hb hK hP hD hS 1 rfl (by omega) (by decide) d_St_move_11 (fun H locs hP hD hS => ?_)
  have hP : va_P D classes [ce0 a rc tp uc, aI K (a 2) 9616 (va_up L u (L t)), aL K (a 3) 9616 N] H := hP
  have hD : va_D A [ce0 a rc tp uc, aI K (a 2) 9616 (va_up L u (L t)), aL K (a 3) 9616 N] := hD
  refine lv_aload_n hx hb d_St_move_12 rfl (lv_at hl 0 rfl) ?_
  refine va_get (D := D) (ci := 0) (v := .ref (a 3)) (C := R_St) (T := F_St) (N := 7) hx hb hts in_St hown hK hP 0 rfl rfl 2 (by decide) (hts _ tw_38) (fun _ h9 => h9) rfl d_St_move_13 ?_
  refine lv_iload_n hx hb d_St_move_16 rfl (lv_at hl 2 rfl) ?_
  refine lv_aload_n hx hb d_St_move_17 rfl (lv_at hl 0 rfl) ?_
  refine va_get (D := D) (ci := 0) (v := .ref (a 3)) (C := R_St) (T := F_St) (N := 7) hx hb hts in_St hown hK hP 0 rfl rfl 2 (by decide) (hts _ tw_38) (fun _ h9 => h9) rfl d_St_move_18 ?_
  refine lv_iload_n hx hb d_St_move_21 rfl (lv_at hl 1 rfl) ?_
  refine sn_lald N t hx hb hK hP 2 rfl (by omega) (by decide) d_St_move_22 ?_
  refine sn_last N u (N t) hx hb hK hP hD hS 2 rfl (by omega) (by decide) d_St_move_23 (fun H locs hP hD hS => ?_)
  have hP : va_P D classes [ce0 a rc tp uc, aI K (a 2) 9616 (va_up L u (L t)), aL K (a 3) 9616 (va_up N u (N t))] H := hP
  have hD : va_D A [ce0 a rc tp uc, aI K (a 2) 9616 (va_up L u (L t)), aL K (a 3) 9616 (va_up N u (N t))] := hD
  subst hAe
  exact sx_wv hQ hx hb hrt hlk hP hS d_St_move_24
set_option maxHeartbeats 4000000 in
set_option maxRecDepth 100000 in
theorem c_St_alike (l : Launch) (D : va_G) (K : Nat → ClassId) (a : Nat → Nat) (L : Nat → Nat) (N : Nat → Int64) (rc : Nat) (tp : Nat) (uc : Nat) (t : Nat) (u : Nat) (ht : t < 9616) (hu : u < 9616) (hL : ∀ s, L s ≤ 600) : Met l y_St_alike w_St_alike ({ frames := 0, cells := 0, slots := 0, locals := 0 }) (va_Pc [.ref (a 0), .int (nI t), .int (nI u)] (sn_B D K [ce0 a rc tp uc, aI K (a 2) 9616 L, aL K (a 3) 9616 N])) (sn_QR (some (.int (zb (decide (L t = L u ∧ N t = N u)))))) 0 0 (fun _ => False) := by
  refine sn_met (own := R_St) (by decide +kernel) rfl rfl (Nat.le_of_ble_eq_true rfl) ?_
  intro P9 E9 s9 m9 args below M9 c9 ls Q hQ hx hb hml hrt hlk hts hown hnm hl hB
  obtain ⟨hP, hK, hN⟩ := hB
  have hl : lv_has ls 3 [(0, .ref (a 0)), (1, .int (nI t)), (2, .int (nI u))] := hl
  have hLt := hL t
  have hLu := hL u
  refine lv_aload_n hx hb d_St_alike_0 rfl (lv_at hl 0 rfl) ?_
  refine va_get (D := D) (ci := 0) (v := .ref (a 2)) (C := R_St) (T := F_St) (N := 7) hx hb hts in_St hown hK hP 0 rfl rfl 1 (by decide) (hts _ tw_37) (fun _ h9 => h9) rfl d_St_alike_1 ?_
  refine lv_iload_n hx hb d_St_alike_4 rfl (lv_at hl 1 rfl) ?_
  refine sn_iald nI L t hx hb hK hP 1 rfl (by omega) (by decide) d_St_alike_5 ?_
  refine lv_aload_n hx hb d_St_alike_6 rfl (lv_at hl 0 rfl) ?_
  refine va_get (D := D) (ci := 0) (v := .ref (a 2)) (C := R_St) (T := F_St) (N := 7) hx hb hts in_St hown hK hP 0 rfl rfl 1 (by decide) (hts _ tw_37) (fun _ h9 => h9) rfl d_St_alike_7 ?_
  refine lv_iload_n hx hb d_St_alike_10 rfl (lv_at hl 2 rfl) ?_
  refine sn_iald nI L u hx hb hK hP 1 rfl (by omega) (by decide) d_St_alike_11 ?_
  refine sn_icmp_ne (by omega) (by omega) (tgt := 35) hx hb d_St_alike_12 (by decide) (fun h1 => ?_) (fun h1 => ?_)
  · refine lv_iconst (v := nI 0) hx hb d_St_alike_35 (by decide) ?_
    exact sx_rz hQ hx hb hrt hlk (zb_no (by first | exact fun h9 => h1 h9.1 | exact fun h9 => h2 h9.2)) d_St_alike_36
  · refine lv_aload_n hx hb d_St_alike_15 rfl (lv_at hl 0 rfl) ?_
    refine va_get (D := D) (ci := 0) (v := .ref (a 3)) (C := R_St) (T := F_St) (N := 7) hx hb hts in_St hown hK hP 0 rfl rfl 2 (by decide) (hts _ tw_38) (fun _ h9 => h9) rfl d_St_alike_16 ?_
    refine lv_iload_n hx hb d_St_alike_19 rfl (lv_at hl 1 rfl) ?_
    refine sn_lald N t hx hb hK hP 2 rfl (by omega) (by decide) d_St_alike_20 ?_
    refine lv_aload_n hx hb d_St_alike_21 rfl (lv_at hl 0 rfl) ?_
    refine va_get (D := D) (ci := 0) (v := .ref (a 3)) (C := R_St) (T := F_St) (N := 7) hx hb hts in_St hown hK hP 0 rfl rfl 2 (by decide) (hts _ tw_38) (fun _ h9 => h9) rfl d_St_alike_22 ?_
    refine lv_iload_n hx hb d_St_alike_25 rfl (lv_at hl 2 rfl) ?_
    refine sn_lald N u hx hb hK hP 2 rfl (by omega) (by decide) d_St_alike_26 ?_
    refine W.lcmp hx hb d_St_alike_27 ?_
    refine sn_ifc_ne (tgt := 35) hx hb d_St_alike_28 (by decide) (fun h2 => ?_) (fun h2 => ?_)
    · refine lv_iconst (v := nI 0) hx hb d_St_alike_35 (by decide) ?_
      exact sx_rz hQ hx hb hrt hlk (zb_no (by first | exact fun h9 => h1 h9.1 | exact fun h9 => h2 h9.2)) d_St_alike_36
    · refine lv_iconst (v := nI 1) hx hb d_St_alike_31 (by decide) ?_
      refine lv_goto (tgt := 36) hx hb d_St_alike_32 (by decide) ?_
      exact sx_rz hQ hx hb hrt hlk (zb_yes (⟨h1, h2⟩)) d_St_alike_36
set_option maxHeartbeats 4000000 in
set_option maxRecDepth 100000 in
theorem c_St_takeFreePlace (l : Launch) (D : va_G) (K : Nat → ClassId) (a : Nat → Nat) (rl : Nat → Nat) (rc : Nat) (tp : Nat) (uc : Nat) (pl : Nat) (rc1 : Nat) (tp1 : Nat) (htk : (0 < rc ∧ pl = rl (rc - 1) ∧ rc1 = rc - 1 ∧ tp1 = tp) ∨ (rc = 0 ∧ tp < 600 ∧ pl = tp + 1 ∧ rc1 = 0 ∧ tp1 = tp + 1)) (hrc : rc ≤ 600) (htp : tp ≤ 600) : Met l y_St_takeFreePlace w_St_takeFreePlace ({ frames := 0, cells := 0, slots := 0, locals := 0 }) (va_Pc [.ref (a 0)] (sn_BW D K [ce0 a rc tp uc, aI K (a 4) 600 rl])) (sn_Q D [ce0 a rc tp uc, aI K (a 4) 600 rl] [ce0 a rc1 tp1 uc, aI K (a 4) 600 rl] (some (.int (nI pl)))) 0 0 (sn_A [ce0 a rc tp uc, aI K (a 4) 600 rl]) := by
  refine sn_met (own := R_St) (by decide +kernel) rfl rfl (Nat.le_of_ble_eq_true rfl) ?_
  intro P9 E9 s9 m9 args below M9 c9 ls Q hQ hx hb hml hrt hlk hts hown hnm hl hB
  obtain ⟨⟨hP, hK, hN⟩, hD⟩ := hB
  have hl : lv_has ls 1 [(0, .ref (a 0))] := hl
  have hD := sn_DA hD
  have hS : va_S (sn_A [ce0 a rc tp uc, aI K (a 4) 600 rl]) s9.heap s9.heap [] := va_S.rf
  generalize hAe : sn_A [ce0 a rc tp uc, aI K (a 4) 600 rl] = A at hD hS
  refine lv_aload_n hx hb d_St_takeFreePlace_0 rfl (lv_at hl 0 rfl) ?_
  refine va_get (D := D) (ci := 0) (v := .int (nI rc)) (C := R_St) (T := F_St) (N := 7) hx hb hts in_St hown hK hP 0 rfl rfl 4 (by decide) (hts _ tw_40) (fun _ h9 => h9) rfl d_St_takeFreePlace_1 ?_
  refine sn_if_le (by omega) (tgt := 27) hx hb d_St_takeFreePlace_4 (by decide) (fun h1 => ?_) (fun h1 => ?_)
  · refine lv_aload_n hx hb d_St_takeFreePlace_27 rfl (lv_at hl 0 rfl) ?_
    refine va_get (D := D) (ci := 0) (v := .int (nI tp)) (C := R_St) (T := F_St) (N := 7) hx hb hts in_St hown hK hP 0 rfl rfl 5 (by decide) (hts _ tw_41) (fun _ h9 => h9) rfl d_St_takeFreePlace_28 ?_
    refine lv_sipush (v := nI 600) hx hb d_St_takeFreePlace_31 (by decide) ?_
    refine sn_icmp_ge (by omega) (by omega) (tgt := 52) hx hb d_St_takeFreePlace_34 (by decide) (fun h2 => ?_) (fun h2 => ?_)
    · omega
    · refine lv_aload_n hx hb d_St_takeFreePlace_37 rfl (lv_at hl 0 rfl) ?_
      refine lv_dup hx hb d_St_takeFreePlace_38 rfl ?_
      refine va_get (D := D) (ci := 0) (v := .int (nI tp)) (C := R_St) (T := F_St) (N := 7) hx hb hts in_St hown hK hP 0 rfl rfl 5 (by decide) (hts _ tw_41) (fun _ h9 => h9) rfl d_St_takeFreePlace_39 ?_
      refine lv_iconst (v := nI 1) hx hb d_St_takeFreePlace_42 (by decide) ?_
      refine lv_iadd hx hb d_St_takeFreePlace_43 ?_
      refine sn_topi (nI_add _ _) ?_
      refine va_put (D := D) (ci := 0) (v := .int (nI (tp + 1))) (ty := .int) (C := R_St) (T := F_St) (N := 7) hx hb hts in_St t_St t_St_ok n_St hown hK hP hD hS 0 rfl rfl 5 (by decide) (hts _ tw_41) (fun _ h9 => h9) rfl (by decide +kernel) rfl rfl (Nat.le_of_ble_eq_true rfl) d_St_takeFreePlace_44 (fun H locs hP hD hS => ?_)
      have hP : va_P D classes [ce0 a rc (tp + 1) uc, aI K (a 4) 600 rl] H := hP
      have hD : va_D A [ce0 a rc (tp + 1) uc, aI K (a 4) 600 rl] := hD
      refine lv_aload_n hx hb d_St_takeFreePlace_47 rfl (lv_at hl 0 rfl) ?_
      refine va_get (D := D) (ci := 0) (v := .int (nI (tp + 1))) (C := R_St) (T := F_St) (N := 7) hx hb hts in_St hown hK hP 0 rfl rfl 5 (by decide) (hts _ tw_41) (fun _ h9 => h9) rfl d_St_takeFreePlace_48 ?_
      rcases htk with ⟨_, e1, e2, e3⟩ | ⟨e0, _, e1, e2, e3⟩ <;> first | (exfalso; omega) | skip
      all_goals subst e1 e2 e3
      subst e0
      subst hAe
      exact sx_wi hQ hx hb hrt hlk (rfl) hP hS d_St_takeFreePlace_51
  · refine lv_aload_n hx hb d_St_takeFreePlace_7 rfl (lv_at hl 0 rfl) ?_
    refine lv_dup hx hb d_St_takeFreePlace_8 rfl ?_
    refine va_get (D := D) (ci := 0) (v := .int (nI rc)) (C := R_St) (T := F_St) (N := 7) hx hb hts in_St hown hK hP 0 rfl rfl 4 (by decide) (hts _ tw_40) (fun _ h9 => h9) rfl d_St_takeFreePlace_9 ?_
    refine lv_iconst (v := nI 1) hx hb d_St_takeFreePlace_12 (by decide) ?_
    refine lv_isub hx hb d_St_takeFreePlace_13 ?_
    refine sn_topi (pk_sub (by omega)) ?_
    refine va_put (D := D) (ci := 0) (v := .int (nI (rc - 1))) (ty := .int) (C := R_St) (T := F_St) (N := 7) hx hb hts in_St t_St t_St_ok n_St hown hK hP hD hS 0 rfl rfl 4 (by decide) (hts _ tw_40) (fun _ h9 => h9) rfl (by decide +kernel) rfl rfl (Nat.le_of_ble_eq_true rfl) d_St_takeFreePlace_14 (fun H locs hP hD hS => ?_)
    have hP : va_P D classes [ce0 a (rc - 1) tp uc, aI K (a 4) 600 rl] H := hP
    have hD : va_D A [ce0 a (rc - 1) tp uc, aI K (a 4) 600 rl] := hD
    refine lv_aload_n hx hb d_St_takeFreePlace_17 rfl (lv_at hl 0 rfl) ?_
    refine va_get (D := D) (ci := 0) (v := .ref (a 4)) (C := R_St) (T := F_St) (N := 7) hx hb hts in_St hown hK hP 0 rfl rfl 3 (by decide) (hts _ tw_39) (fun _ h9 => h9) rfl d_St_takeFreePlace_18 ?_
    refine lv_aload_n hx hb d_St_takeFreePlace_21 rfl (lv_at hl 0 rfl) ?_
    refine va_get (D := D) (ci := 0) (v := .int (nI (rc - 1))) (C := R_St) (T := F_St) (N := 7) hx hb hts in_St hown hK hP 0 rfl rfl 4 (by decide) (hts _ tw_40) (fun _ h9 => h9) rfl d_St_takeFreePlace_22 ?_
    refine sn_iald nI rl (rc - 1) hx hb hK hP 1 rfl (by omega) (by decide) d_St_takeFreePlace_25 ?_
    rcases htk with ⟨_, e1, e2, e3⟩ | ⟨e0, _, e1, e2, e3⟩ <;> first | (exfalso; omega) | skip
    all_goals subst e1 e2 e3
    subst hAe
    exact sx_wi hQ hx hb hrt hlk (rfl) hP hS d_St_takeFreePlace_26
set_option maxHeartbeats 4000000 in
set_option maxRecDepth 100000 in
theorem c_St_take (l : Launch) (D : va_G) (K : Nat → ClassId) (a : Nat → Nat) (S : Nat → Option Nat) (L : Nat → Nat) (N : Nat → Int64) (rl : Nat → Nat) (rc : Nat) (tp : Nat) (uc : Nat) (n : Nat) (pl : Nat) (rc1 : Nat) (tp1 : Nat) (hn : n ≤ 16) (hr : uc + n + 2 ≤ 1200) (htk : (0 < rc ∧ pl = rl (rc - 1) ∧ rc1 = rc - 1 ∧ tp1 = tp) ∨ (rc = 0 ∧ tp < 600 ∧ pl = tp + 1 ∧ rc1 = 0 ∧ tp1 = tp + 1)) (hrc : rc ≤ 600) (htp : tp ≤ 600) (h0 : 0 < pl) (h6 : pl ≤ 600) (hf : S pl = none) (hSz : ∀ q n, S q = some n → n ≤ 16) : Met l y_St_take w_St_take ({ frames := 2, cells := 0, slots := 0, locals := 42 }) (va_Pc [.ref (a 0), .int (nI n)] (sn_BW D K [ce0 a rc tp uc, aS K (a 1) 601 S, aI K (a 2) 9616 L, aL K (a 3) 9616 N, aI K (a 4) 600 rl])) (sn_Q D [ce0 a rc tp uc, aS K (a 1) 601 S, aI K (a 2) 9616 L, aL K (a 3) 9616 N, aI K (a 4) 600 rl] [ce0 a rc1 tp1 (uc + (n + 2)), aS K (a 1) 601 (va_up S pl (some n)), aI K (a 2) 9616 (sn_clr L (16 * pl) n 0), aL K (a 3) 9616 (sn_clr N (16 * pl) n 0), aI K (a 4) 600 rl] (some (.int (nI pl)))) 0 0 (sn_A [ce0 a rc tp uc, aS K (a 1) 601 S, aI K (a 2) 9616 L, aL K (a 3) 9616 N, aI K (a 4) 600 rl]) := by
  refine sn_met (own := R_St) (by decide +kernel) rfl rfl (Nat.le_of_ble_eq_true rfl) ?_
  intro P9 E9 s9 m9 args below M9 c9 ls Q hQ hx hb hml hrt hlk hts hown hnm hl hB
  obtain ⟨⟨hP, hK, hN⟩, hD⟩ := hB
  have hl : lv_has ls 4 [(0, .ref (a 0)), (1, .int (nI n))] := hl
  have hD := sn_DA hD
  have hS : va_S (sn_A [ce0 a rc tp uc, aS K (a 1) 601 S, aI K (a 2) 9616 L, aL K (a 3) 9616 N, aI K (a 4) 600 rl]) s9.heap s9.heap [] := va_S.rf
  generalize hAe : sn_A [ce0 a rc tp uc, aS K (a 1) 601 S, aI K (a 2) 9616 L, aL K (a 3) 9616 N, aI K (a 4) 600 rl] = A at hD hS
  refine lv_iload_n hx hb d_St_take_0 rfl (lv_at hl 1 rfl) ?_
  refine sn_if_lt (by omega) (tgt := 18) hx hb d_St_take_1 (by decide) ?_
  refine lv_iload_n hx hb d_St_take_4 rfl (lv_at hl 1 rfl) ?_
  refine lv_bipush (v := nI 16) hx hb d_St_take_5 (by decide) ?_
  refine sn_icmp_gt (by omega) (by omega) (tgt := 18) hx hb d_St_take_7 (by decide) (fun h2 => ?_) (fun h2 => ?_)
  · omega
  · refine lv_aload_n hx hb d_St_take_10 rfl (lv_at hl 0 rfl) ?_
    refine lv_iload_n hx hb d_St_take_11 rfl (lv_at hl 1 rfl) ?_
    refine sn_rd (st1 := [.int (zb (decide (uc + (n + 2) ≤ 1200)))]) (va_runV (As := [.int (nI n)]) (rest := []) ⟨hx, hb, hml, hown, hts⟩ (c_St_hasRoomFor l D K a rc tp uc n (by omega) (by omega)) ⟨callB_of 1 hts (tw_in cm_St_hasRoomFor) rfl rfl rfl (hts _ gn_St) (hts _ tw_515) hd_St_hasRoomFor ⟨Nat.le_of_ble_eq_true rfl, Nat.le_of_ble_eq_true rfl⟩, hts _ gi_St_hasRoomFor, hts _ gs_St_hasRoomFor⟩ (sn_preV hK hN hP 0 rfl rfl [0] rfl) rfl rfl hl.1 rfl (lv_room (Nat.le_of_ble_eq_true rfl)) d_St_take_12 ⟨Nat.zero_le _, Nat.zero_le _⟩) rfl ?_
    refine sn_ifz_ne (tgt := 20) hx hb d_St_take_15 (by decide) (fun h3 => ?_) (fun h3 => ?_)
    · refine lv_aload_n hx hb d_St_take_20 rfl (lv_at hl 0 rfl) ?_
      refine sn_wrt (st1 := [.int (nI pl)]) (w1 := [ce0 a rc1 tp1 uc, aI K (a 4) 600 rl]) (va_runV (As := []) (rest := []) ⟨hx, hb, hml, hown, hts⟩ (c_St_takeFreePlace l D K a rl rc tp uc pl rc1 tp1 (htk) (by omega) (by omega)) ⟨callB_of 0 hts (tw_in cm_St_takeFreePlace) rfl rfl rfl (hts _ gn_St) (hts _ tw_516) hd_St_takeFreePlace ⟨Nat.le_of_ble_eq_true rfl, Nat.le_of_ble_eq_true rfl⟩, hts _ gi_St_takeFreePlace, hts _ gs_St_takeFreePlace⟩ (sn_preVW hK hN hP hD 0 rfl rfl [0, 4] rfl rfl) rfl rfl hl.1 rfl (lv_room (Nat.le_of_ble_eq_true rfl)) d_St_take_21 ⟨Nat.zero_le _, Nat.zero_le _⟩) rfl hP hD hS [0, 4] rfl rfl (fun H locs hP hD hS => ?_)
      have hP : va_P D classes [ce0 a rc1 tp1 uc, aS K (a 1) 601 S, aI K (a 2) 9616 L, aL K (a 3) 9616 N, aI K (a 4) 600 rl] H := hP
      have hD : va_D A [ce0 a rc1 tp1 uc, aS K (a 1) 601 S, aI K (a 2) 9616 L, aL K (a 3) 9616 N, aI K (a 4) 600 rl] := hD
      refine lv_istore_n (lv' := [(2, .int (nI pl)), (0, .ref (a 0)), (1, .int (nI n))]) hx hb d_St_take_24 rfl hl (by decide) rfl (fun ls hl => ?_)
      refine lv_aload_n hx hb d_St_take_25 rfl (lv_at hl 1 rfl) ?_
      refine lv_iload_n hx hb d_St_take_26 rfl (lv_at hl 0 rfl) ?_
      refine sn_rd (st1 := [.int (zb (decide (0 < pl ∧ pl ≤ 600 ∧ S pl = none)))]) (va_runV (As := [.int (nI pl)]) (rest := []) ⟨hx, hb, hml, hown, hts⟩ (c_St_isFree l D K a S rc1 tp1 uc pl (by omega) (hSz)) ⟨callB_of 1 hts (tw_in cm_St_isFree) rfl rfl rfl (hts _ gn_St) (hts _ tw_335) hd_St_isFree ⟨Nat.le_of_ble_eq_true rfl, Nat.le_of_ble_eq_true rfl⟩, hts _ gi_St_isFree, hts _ gs_St_isFree⟩ (sn_preV hK hN hP 0 rfl rfl [0, 1] rfl) rfl rfl hl.1 rfl (lv_room (Nat.le_of_ble_eq_true rfl)) d_St_take_27 ⟨Nat.zero_le _, Nat.zero_le _⟩) rfl ?_
      refine sn_ifz_ne (tgt := 35) hx hb d_St_take_30 (by decide) (fun h4 => ?_) (fun h4 => ?_)
      · refine lv_aload_n hx hb d_St_take_35 rfl (lv_at hl 1 rfl) ?_
        refine va_get (D := D) (ci := 0) (v := .ref (a 1)) (C := R_St) (T := F_St) (N := 7) hx hb hts in_St hown hK hP 0 rfl rfl 0 (by decide) (hts _ tw_36) (fun _ h9 => h9) rfl d_St_take_36 ?_
        refine lv_iload_n hx hb d_St_take_39 rfl (lv_at hl 0 rfl) ?_
        refine lv_iload_n hx hb d_St_take_40 rfl (lv_at hl 2 rfl) ?_
        refine sn_iast sn_i S pl (some n) hx hb hK hP hD hS 1 rfl (by omega) (by decide) d_St_take_41 (fun H locs hP hD hS => ?_)
        have hP : va_P D classes [ce0 a rc1 tp1 uc, aS K (a 1) 601 (va_up S pl (some n)), aI K (a 2) 9616 L, aL K (a 3) 9616 N, aI K (a 4) 600 rl] H := hP
        have hD : va_D A [ce0 a rc1 tp1 uc, aS K (a 1) 601 (va_up S pl (some n)), aI K (a 2) 9616 L, aL K (a 3) 9616 N, aI K (a 4) 600 rl] := hD
        refine lv_aload_n hx hb d_St_take_42 rfl (lv_at hl 1 rfl) ?_
        refine lv_dup hx hb d_St_take_43 rfl ?_
        refine va_get (D := D) (ci := 0) (v := .int (nI uc)) (C := R_St) (T := F_St) (N := 7) hx hb hts in_St hown hK hP 0 rfl rfl 6 (by decide) (hts _ tw_42) (fun _ h9 => h9) rfl d_St_take_44 ?_
        refine lv_iload_n hx hb d_St_take_47 rfl (lv_at hl 2 rfl) ?_
        refine sn_rd (st1 := [.int (nI (n + 2)), .int (nI uc), .ref (a 0)]) (va_runS (As := [.int (nI n)]) (rest := [.int (nI uc), .ref (a 0)]) ⟨hx, hb, hml, hown, hts⟩ (c_St_cellsFor l D K n) ⟨callB_of 1 hts (tw_in cm_St_cellsFor) rfl rfl rfl (hts _ gn_St) (hts _ tw_252) hd_St_cellsFor ⟨Nat.le_of_ble_eq_true rfl, Nat.le_of_ble_eq_true rfl⟩, hts _ gt_St_cellsFor⟩ (sn_preS hK hN hP [] rfl) rfl rfl hl.1 rfl (lv_room (Nat.le_of_ble_eq_true rfl)) d_St_take_48 ⟨Nat.zero_le _, Nat.zero_le _⟩) rfl ?_
        refine lv_iadd hx hb d_St_take_51 ?_
        refine sn_topi (nI_add _ _) ?_
        refine va_put (D := D) (ci := 0) (v := .int (nI (uc + (n + 2)))) (ty := .int) (C := R_St) (T := F_St) (N := 7) hx hb hts in_St t_St t_St_ok n_St hown hK hP hD hS 0 rfl rfl 6 (by decide) (hts _ tw_42) (fun _ h9 => h9) rfl (by decide +kernel) rfl rfl (Nat.le_of_ble_eq_true rfl) d_St_take_52 (fun H locs hP hD hS => ?_)
        have hP : va_P D classes [ce0 a rc1 tp1 (uc + (n + 2)), aS K (a 1) 601 (va_up S pl (some n)), aI K (a 2) 9616 L, aL K (a 3) 9616 N, aI K (a 4) 600 rl] H := hP
        have hD : va_D A [ce0 a rc1 tp1 (uc + (n + 2)), aS K (a 1) 601 (va_up S pl (some n)), aI K (a 2) 9616 L, aL K (a 3) 9616 N, aI K (a 4) 600 rl] := hD
        refine lv_iconst (v := nI 0) hx hb d_St_take_55 (by decide) ?_
        refine lv_istore_n (lv' := [(3, .int (nI 0)), (2, .int (nI pl)), (0, .ref (a 0)), (1, .int (nI n))]) hx hb d_St_take_56 rfl hl (by decide) rfl (fun ls hl => ?_)
        have loop0 : ∀ (nn : Nat) (i : Nat) (ls : Array Slot) (H : Heap) (locs : List Loc), n - i < nn → (i ≤ n) → lv_has ls 4 [(0, .ref (a 0)), (1, .int (nI n)), (2, .int (nI pl)), (3, .int (nI i))] → va_P D classes [ce0 a rc1 tp1 (uc + (n + 2)), aS K (a 1) 601 (va_up S pl (some n)), aI K (a 2) 9616 (sn_clr L (16 * pl) i 0), aL K (a 3) 9616 (sn_clr N (16 * pl) i 0), aI K (a 4) 600 rl] H → va_D A [ce0 a rc1 tp1 (uc + (n + 2)), aS K (a 1) 601 (va_up S pl (some n)), aI K (a 2) 9616 (sn_clr L (16 * pl) i 0), aL K (a 3) 9616 (sn_clr N (16 * pl) i 0), aI K (a 4) 600 rl] → va_S A s9.heap H locs → W P9 l E9 ({ frames := 2, cells := 0, slots := 0, locals := 42 }) s9 m9 args below M9 c9 H locs 0 0 Q (F0 m9 57 ls []) := by
          intro nn
          induction nn with
          | zero => intro i ls H locs hn; exact absurd hn (Nat.not_lt_zero _)
          | succ nn ih0 =>
            intro i ls H locs hmu hi hl hP hD hS
            refine lv_iload_n hx hb d_St_take_57 rfl (lv_at hl 3 rfl) ?_
            refine lv_iload_n hx hb d_St_take_58 rfl (lv_at hl 1 rfl) ?_
            refine sn_icmp_ge (by omega) (by omega) (tgt := 78) hx hb d_St_take_59 (by decide) (fun h5 => ?_) (fun h5 => ?_)
            · have ei : n = i := by omega
              subst ei
              refine lv_iload_n hx hb d_St_take_78 rfl (lv_at hl 2 rfl) ?_
              subst hAe
              exact sx_wi hQ hx hb hrt hlk (rfl) hP hS d_St_take_79
            · refine lv_aload_n hx hb d_St_take_62 rfl (lv_at hl 0 rfl) ?_
              refine lv_iload_n hx hb d_St_take_63 rfl (lv_at hl 2 rfl) ?_
              refine lv_iload_n hx hb d_St_take_64 rfl (lv_at hl 3 rfl) ?_
              refine sn_rd (st1 := [.int (nI (16 * pl + i)), .ref (a 0)]) (va_runSN (As := [.int (nI pl), .int (nI i)]) (rest := [.ref (a 0)]) ⟨hx, hb, hml, hown, hts⟩ (c_Sh_slotOf l D K pl i) ⟨va_cnB 2 hts (tw_in cm_Sh_slotOf) rfl rfl rfl hN.2.2 (hts _ gn_Sh) hd_Sh_slotOf ⟨Nat.le_of_ble_eq_true rfl, Nat.le_of_ble_eq_true rfl⟩, hts _ gt_Sh_slotOf, trivial⟩ (sn_preS hK hN hP [] rfl) rfl rfl hl.1 rfl (lv_room (Nat.le_of_ble_eq_true rfl)) d_St_take_65 ⟨Nat.zero_le _, Nat.zero_le _⟩) rfl ?_
              refine lv_lconst (v := 0) hx hb d_St_take_68 (by decide) ?_
              refine sn_wrt (st1 := []) (w1 := [ce0 a rc1 tp1 (uc + (n + 2)), aI K (a 2) 9616 (va_up (sn_clr L (16 * pl) i 0) (16 * pl + i) 0), aL K (a 3) 9616 (va_up (sn_clr N (16 * pl) i 0) (16 * pl + i) 0)]) (va_runV (As := [.int (nI (16 * pl + i)), .long 0]) (rest := []) ⟨hx, hb, hml, hown, hts⟩ (c_St_putNumber l D K a (sn_clr L (16 * pl) i 0) (sn_clr N (16 * pl) i 0) rc1 tp1 (uc + (n + 2)) (16 * pl + i) 0 (by omega)) ⟨callB_of 2 hts (tw_in cm_St_putNumber) rfl rfl rfl (hts _ gn_St) (hts _ tw_521) hd_St_putNumber ⟨Nat.le_of_ble_eq_true rfl, Nat.le_of_ble_eq_true rfl⟩, hts _ gi_St_putNumber, hts _ gs_St_putNumber⟩ (sn_preVW hK hN hP hD 0 rfl rfl [0, 2, 3] rfl rfl) rfl rfl hl.1 rfl (lv_room (Nat.le_of_ble_eq_true rfl)) d_St_take_69 ⟨Nat.zero_le _, Nat.zero_le _⟩) rfl hP hD hS [0, 2, 3] rfl rfl (fun H locs hP hD hS => ?_)
              have hP : va_P D classes [ce0 a rc1 tp1 (uc + (n + 2)), aS K (a 1) 601 (va_up S pl (some n)), aI K (a 2) 9616 (va_up (sn_clr L (16 * pl) i 0) (16 * pl + i) 0), aL K (a 3) 9616 (va_up (sn_clr N (16 * pl) i 0) (16 * pl + i) 0), aI K (a 4) 600 rl] H := hP
              have hD : va_D A [ce0 a rc1 tp1 (uc + (n + 2)), aS K (a 1) 601 (va_up S pl (some n)), aI K (a 2) 9616 (va_up (sn_clr L (16 * pl) i 0) (16 * pl + i) 0), aL K (a 3) 9616 (va_up (sn_clr N (16 * pl) i 0) (16 * pl + i) 0), aI K (a 4) 600 rl] := hD
              refine lv_iinc (k := 3) (v := nI (i + 1)) (lv' := [(3, .int (nI (i + 1))), (0, .ref (a 0)), (1, .int (nI n)), (2, .int (nI pl))]) hx hb d_St_take_72 hl rfl (sn_inc _) (by decide) rfl (fun ls hl => ?_)
              refine lv_goto (tgt := 57) hx hb d_St_take_75 (by decide) ?_
              have hP : va_P D classes [ce0 a rc1 tp1 (uc + (n + 2)), aS K (a 1) 601 (va_up S pl (some n)), aI K (a 2) 9616 (sn_clr L (16 * pl) (i + 1) 0), aL K (a 3) 9616 (sn_clr N (16 * pl) (i + 1) 0), aI K (a 4) 600 rl] H := by rw [← sn_clr_s, ← sn_clr_s]; exact hP
              have hD : va_D A [ce0 a rc1 tp1 (uc + (n + 2)), aS K (a 1) 601 (va_up S pl (some n)), aI K (a 2) 9616 (sn_clr L (16 * pl) (i + 1) 0), aL K (a 3) 9616 (sn_clr N (16 * pl) (i + 1) 0), aI K (a 4) 600 rl] := by rw [← sn_clr_s, ← sn_clr_s]; exact hD
              have hl := lv_sub (l' := [(0, .ref (a 0)), (1, .int (nI n)), (2, .int (nI pl)), (3, .int (nI (i + 1)))]) hl [1, 2, 3, 0] rfl
              exact ih0 (i + 1) _ _ _ (by omega) (by omega) hl hP hD hS
        have hP : va_P D classes [ce0 a rc1 tp1 (uc + (n + 2)), aS K (a 1) 601 (va_up S pl (some n)), aI K (a 2) 9616 (sn_clr L (16 * pl) 0 0), aL K (a 3) 9616 (sn_clr N (16 * pl) 0 0), aI K (a 4) 600 rl] H := by rw [sn_clr_0, sn_clr_0]; exact hP
        have hD : va_D A [ce0 a rc1 tp1 (uc + (n + 2)), aS K (a 1) 601 (va_up S pl (some n)), aI K (a 2) 9616 (sn_clr L (16 * pl) 0 0), aL K (a 3) 9616 (sn_clr N (16 * pl) 0 0), aI K (a 4) 600 rl] := by rw [sn_clr_0, sn_clr_0]; exact hD
        have hl := lv_sub (l' := [(0, .ref (a 0)), (1, .int (nI n)), (2, .int (nI pl)), (3, .int (nI 0))]) hl [2, 3, 1, 0] rfl
        exact loop0 _ 0 _ _ _ (Nat.lt_succ_self _) (by omega) hl hP hD hS
      · exact absurd ⟨h0, h6, hf⟩ h4
    · omega
set_option maxHeartbeats 4000000 in
set_option maxRecDepth 100000 in
theorem c_St_release (l : Launch) (D : va_G) (K : Nat → ClassId) (a : Nat → Nat) (S : Nat → Option Nat) (rl : Nat → Nat) (rc : Nat) (tp : Nat) (uc : Nat) (p : Nat) (h0 : 0 < p) (h6 : p ≤ 600) (hrc : rc < 600) (hu : sn_sz S p + 2 ≤ uc) (hSz : ∀ q n, S q = some n → n ≤ 16) : Met l y_St_release w_St_release ({ frames := 1, cells := 0, slots := 0, locals := 21 }) (va_Pc [.ref (a 0), .int (nI p)] (sn_BW D K [ce0 a rc tp uc, aS K (a 1) 601 S, aI K (a 4) 600 rl])) (sn_Q D [ce0 a rc tp uc, aS K (a 1) 601 S, aI K (a 4) 600 rl] [ce0 a (rc + 1) tp (uc - (sn_sz S p + 2)), aS K (a 1) 601 (va_up S p none), aI K (a 4) 600 (va_up rl rc p)] none) 0 0 (sn_A [ce0 a rc tp uc, aS K (a 1) 601 S, aI K (a 4) 600 rl]) := by
  refine sn_met (own := R_St) (by decide +kernel) rfl rfl (Nat.le_of_ble_eq_true rfl) ?_
  intro P9 E9 s9 m9 args below M9 c9 ls Q hQ hx hb hml hrt hlk hts hown hnm hl hB
  obtain ⟨⟨hP, hK, hN⟩, hD⟩ := hB
  have hl : lv_has ls 2 [(0, .ref (a 0)), (1, .int (nI p))] := hl
  have hD := sn_DA hD
  have hS : va_S (sn_A [ce0 a rc tp uc, aS K (a 1) 601 S, aI K (a 4) 600 rl]) s9.heap s9.heap [] := va_S.rf
  generalize hAe : sn_A [ce0 a rc tp uc, aS K (a 1) 601 S, aI K (a 4) 600 rl] = A at hD hS
  refine lv_aload_n hx hb d_St_release_0 rfl (lv_at hl 0 rfl) ?_
  refine lv_iload_n hx hb d_St_release_1 rfl (lv_at hl 1 rfl) ?_
  refine sn_rd (st1 := [.int (zb (decide (0 < p ∧ p ≤ 600)))]) (va_runV (As := [.int (nI p)]) (rest := []) ⟨hx, hb, hml, hown, hts⟩ (c_St_isTuplePlace l D K a p (by omega)) ⟨callB_of 1 hts (tw_in cm_St_isTuplePlace) rfl rfl rfl (hts _ gn_St) (hts _ tw_246) hd_St_isTuplePlace ⟨Nat.le_of_ble_eq_true rfl, Nat.le_of_ble_eq_true rfl⟩, hts _ gi_St_isTuplePlace, hts _ gs_St_isTuplePlace⟩ (sn_preV hK hN hP 0 rfl rfl [] rfl) rfl rfl hl.1 rfl (lv_room (Nat.le_of_ble_eq_true rfl)) d_St_release_2 ⟨Nat.zero_le _, Nat.zero_le _⟩) rfl ?_
  refine sn_ifz_eq (tgt := 64) hx hb d_St_release_5 (by decide) (fun h1 => ?_) (fun h1 => ?_)
  · exact absurd ⟨h0, h6⟩ h1
  · refine lv_aload_n hx hb d_St_release_8 rfl (lv_at hl 0 rfl) ?_
    refine va_get (D := D) (ci := 0) (v := .int (nI rc)) (C := R_St) (T := F_St) (N := 7) hx hb hts in_St hown hK hP 0 rfl rfl 4 (by decide) (hts _ tw_40) (fun _ h9 => h9) rfl d_St_release_9 ?_
    refine lv_aload_n hx hb d_St_release_12 rfl (lv_at hl 0 rfl) ?_
    refine va_get (D := D) (ci := 0) (v := .ref (a 4)) (C := R_St) (T := F_St) (N := 7) hx hb hts in_St hown hK hP 0 rfl rfl 3 (by decide) (hts _ tw_39) (fun _ h9 => h9) rfl d_St_release_13 ?_
    refine va_alen (v := nI 600) hx hb hK hP 2 0 rfl rfl rfl d_St_release_16 ?_
    refine sn_icmp_ge (by omega) (by omega) (tgt := 64) hx hb d_St_release_17 (by decide) (fun h2 => ?_) (fun h2 => ?_)
    · omega
    · refine lv_aload_n hx hb d_St_release_20 rfl (lv_at hl 0 rfl) ?_
      refine lv_dup hx hb d_St_release_21 rfl ?_
      refine va_get (D := D) (ci := 0) (v := .int (nI uc)) (C := R_St) (T := F_St) (N := 7) hx hb hts in_St hown hK hP 0 rfl rfl 6 (by decide) (hts _ tw_42) (fun _ h9 => h9) rfl d_St_release_22 ?_
      refine lv_aload_n hx hb d_St_release_25 rfl (lv_at hl 0 rfl) ?_
      refine lv_iload_n hx hb d_St_release_26 rfl (lv_at hl 1 rfl) ?_
      refine sn_rd (st1 := [.int (nI (sn_sz S p)), .int (nI uc), .ref (a 0)]) (va_runV (As := [.int (nI p)]) (rest := [.int (nI uc), .ref (a 0)]) ⟨hx, hb, hml, hown, hts⟩ (c_St_valuesOf l D K a S rc tp uc p (by omega) (hSz)) ⟨callB_of 1 hts (tw_in cm_St_valuesOf) rfl rfl rfl (hts _ gn_St) (hts _ tw_251) hd_St_valuesOf ⟨Nat.le_of_ble_eq_true rfl, Nat.le_of_ble_eq_true rfl⟩, hts _ gi_St_valuesOf, hts _ gs_St_valuesOf⟩ (sn_preV hK hN hP 0 rfl rfl [0, 1] rfl) rfl rfl hl.1 rfl (lv_room (Nat.le_of_ble_eq_true rfl)) d_St_release_27 ⟨Nat.zero_le _, Nat.zero_le _⟩) rfl ?_
      refine sn_rd (st1 := [.int (nI (sn_sz S p + 2)), .int (nI uc), .ref (a 0)]) (va_runS (As := [.int (nI (sn_sz S p))]) (rest := [.int (nI uc), .ref (a 0)]) ⟨hx, hb, hml, hown, hts⟩ (c_St_cellsFor l D K (sn_sz S p)) ⟨callB_of 1 hts (tw_in cm_St_cellsFor) rfl rfl rfl (hts _ gn_St) (hts _ tw_252) hd_St_cellsFor ⟨Nat.le_of_ble_eq_true rfl, Nat.le_of_ble_eq_true rfl⟩, hts _ gt_St_cellsFor⟩ (sn_preS hK hN hP [] rfl) rfl rfl hl.1 rfl (lv_room (Nat.le_of_ble_eq_true rfl)) d_St_release_30 ⟨Nat.zero_le _, Nat.zero_le _⟩) rfl ?_
      refine lv_isub hx hb d_St_release_33 ?_
      refine sn_topi (pk_sub (by omega)) ?_
      refine va_put (D := D) (ci := 0) (v := .int (nI (uc - (sn_sz S p + 2)))) (ty := .int) (C := R_St) (T := F_St) (N := 7) hx hb hts in_St t_St t_St_ok n_St hown hK hP hD hS 0 rfl rfl 6 (by decide) (hts _ tw_42) (fun _ h9 => h9) rfl (by decide +kernel) rfl rfl (Nat.le_of_ble_eq_true rfl) d_St_release_34 (fun H locs hP hD hS => ?_)
      have hP : va_P D classes [ce0 a rc tp (uc - (sn_sz S p + 2)), aS K (a 1) 601 S, aI K (a 4) 600 rl] H := hP
      have hD : va_D A [ce0 a rc tp (uc - (sn_sz S p + 2)), aS K (a 1) 601 S, aI K (a 4) 600 rl] := hD
      refine lv_aload_n hx hb d_St_release_37 rfl (lv_at hl 0 rfl) ?_
      refine va_get (D := D) (ci := 0) (v := .ref (a 1)) (C := R_St) (T := F_St) (N := 7) hx hb hts in_St hown hK hP 0 rfl rfl 0 (by decide) (hts _ tw_36) (fun _ h9 => h9) rfl d_St_release_38 ?_
      refine lv_iload_n hx hb d_St_release_41 rfl (lv_at hl 1 rfl) ?_
      refine lv_iconst (v := (-1)) hx hb d_St_release_42 (by decide) ?_
      refine sn_iast sn_i S p none hx hb hK hP hD hS 1 rfl (by omega) (by decide) d_St_release_43 (fun H locs hP hD hS => ?_)
      have hP : va_P D classes [ce0 a rc tp (uc - (sn_sz S p + 2)), aS K (a 1) 601 (va_up S p none), aI K (a 4) 600 rl] H := hP
      have hD : va_D A [ce0 a rc tp (uc - (sn_sz S p + 2)), aS K (a 1) 601 (va_up S p none), aI K (a 4) 600 rl] := hD
      refine lv_aload_n hx hb d_St_release_44 rfl (lv_at hl 0 rfl) ?_
      refine va_get (D := D) (ci := 0) (v := .ref (a 4)) (C := R_St) (T := F_St) (N := 7) hx hb hts in_St hown hK hP 0 rfl rfl 3 (by decide) (hts _ tw_39) (fun _ h9 => h9) rfl d_St_release_45 ?_
      refine lv_aload_n hx hb d_St_release_48 rfl (lv_at hl 0 rfl) ?_
      refine va_get (D := D) (ci := 0) (v := .int (nI rc)) (C := R_St) (T := F_St) (N := 7) hx hb hts in_St hown hK hP 0 rfl rfl 4 (by decide) (hts _ tw_40) (fun _ h9 => h9) rfl d_St_release_49 ?_
      refine lv_iload_n hx hb d_St_release_52 rfl (lv_at hl 1 rfl) ?_
      refine sn_iast nI rl rc p hx hb hK hP hD hS 2 rfl (by omega) (by decide) d_St_release_53 (fun H locs hP hD hS => ?_)
      have hP : va_P D classes [ce0 a rc tp (uc - (sn_sz S p + 2)), aS K (a 1) 601 (va_up S p none), aI K (a 4) 600 (va_up rl rc p)] H := hP
      have hD : va_D A [ce0 a rc tp (uc - (sn_sz S p + 2)), aS K (a 1) 601 (va_up S p none), aI K (a 4) 600 (va_up rl rc p)] := hD
      refine lv_aload_n hx hb d_St_release_54 rfl (lv_at hl 0 rfl) ?_
      refine lv_dup hx hb d_St_release_55 rfl ?_
      refine va_get (D := D) (ci := 0) (v := .int (nI rc)) (C := R_St) (T := F_St) (N := 7) hx hb hts in_St hown hK hP 0 rfl rfl 4 (by decide) (hts _ tw_40) (fun _ h9 => h9) rfl d_St_release_56 ?_
      refine lv_iconst (v := nI 1) hx hb d_St_release_59 (by decide) ?_
      refine lv_iadd hx hb d_St_release_60 ?_
      refine sn_topi (nI_add _ _) ?_
      refine va_put (D := D) (ci := 0) (v := .int (nI (rc + 1))) (ty := .int) (C := R_St) (T := F_St) (N := 7) hx hb hts in_St t_St t_St_ok n_St hown hK hP hD hS 0 rfl rfl 4 (by decide) (hts _ tw_40) (fun _ h9 => h9) rfl (by decide +kernel) rfl rfl (Nat.le_of_ble_eq_true rfl) d_St_release_61 (fun H locs hP hD hS => ?_)
      have hP : va_P D classes [ce0 a (rc + 1) tp (uc - (sn_sz S p + 2)), aS K (a 1) 601 (va_up S p none), aI K (a 4) 600 (va_up rl rc p)] H := hP
      have hD : va_D A [ce0 a (rc + 1) tp (uc - (sn_sz S p + 2)), aS K (a 1) 601 (va_up S p none), aI K (a 4) 600 (va_up rl rc p)] := hD
      subst hAe
      exact sx_wv hQ hx hb hrt hlk hP hS d_St_release_64
