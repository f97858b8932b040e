set_option maxHeartbeats 1000000 in
set_option maxRecDepth 100000 in
theorem c_Mo_thrown (l : Launch) (D : va_G) (K : Nat → ClassId) (b : Nat → Nat) (md : Nat) (pc : Nat) (re : Nat) (ce : Nat) (th : Nat) (tp : Nat)  : Met l y_Mo_thrown w_Mo_thrown ({ frames := 0, cells := 0, slots := 0, locals := 0 }) (va_Pc [.ref (b 0)] (sn_B D K [cr0 b md pc re ce th tp])) (sn_QR (some (.int (nI th)))) 0 0 (fun _ => False) := by
  refine sn_met (own := R_Mo) (by decide +kernel) rfl rfl (Nat.le_of_ble_eq_true rfl) ?_
  intro P9 E9 s9 m9 args below M9 c9 ls Q hQ hx hb hml hrt hlk hts hown hnm hl hB
  obtain ⟨hP, hK, hN⟩ := hB
  have hl : lv_has ls 1 [(0, .ref (b 0))] := hl
  refine lv_aload_n hx hb d_Mo_thrown_0 rfl (lv_at hl 0 rfl) ?_
  refine va_get (D := D) (ci := 6) (v := .int (nI th)) (C := R_Mo) (T := F_Mo) (N := 15) hx hb hts in_Mo hown hK hP 0 rfl rfl 13 (by decide) (hts _ tw_667) (fun _ h9 => h9) rfl d_Mo_thrown_1 ?_
  exact sx_ri hQ hx hb hrt hlk (rfl) d_Mo_thrown_4
set_option maxHeartbeats 1000000 in
set_option maxRecDepth 100000 in
theorem c_Mo_isRoot (l : Launch) (D : va_G) (K : Nat → ClassId) (r : Nat) (hr : r < 16) : Met l y_Mo_isRoot w_Mo_isRoot ({ frames := 0, cells := 0, slots := 0, locals := 0 }) (va_Pc [.int (nI r)] (sn_B D K [])) (sn_QR (some (.int (zb (decide (True)))))) 0 0 (fun _ => False) := by
  refine sn_met (own := R_Mo) (by decide +kernel) rfl rfl (Nat.le_of_ble_eq_true rfl) ?_
  intro P9 E9 s9 m9 args below M9 c9 ls Q hQ hx hb hml hrt hlk hts hown hnm hl hB
  obtain ⟨hP, hK, hN⟩ := hB
  have hl : lv_has ls 1 [(0, .int (nI r))] := hl
  refine lv_iload_n hx hb d_Mo_isRoot_0 rfl (lv_at hl 0 rfl) ?_
  refine sn_if_lt (by omega) (tgt := 14) hx hb d_Mo_isRoot_1 (by decide) ?_
  refine lv_iload_n hx hb d_Mo_isRoot_4 rfl (lv_at hl 0 rfl) ?_
  refine lv_bipush (v := nI 16) hx hb d_Mo_isRoot_5 (by decide) ?_
  refine sn_icmp_ge (by omega) (by omega) (tgt := 14) hx hb d_Mo_isRoot_7 (by decide) (fun h2 => ?_) (fun h2 => ?_)
  · omega
  · refine lv_iconst (v := nI 1) hx hb d_Mo_isRoot_10 (by decide) ?_
    refine lv_goto (tgt := 15) hx hb d_Mo_isRoot_11 (by decide) ?_
    exact sx_rz hQ hx hb hrt hlk (zb_yes (trivial)) d_Mo_isRoot_15
set_option maxHeartbeats 1000000 in
set_option maxRecDepth 100000 in
theorem c_Mo_isRoot_b (l : Launch) (D : va_G) (K : Nat → ClassId) (r : Int32) (hb9 : r < 0 ∨ nI 16 ≤ r) : Met l y_Mo_isRoot w_Mo_isRoot ({ frames := 0, cells := 0, slots := 0, locals := 0 }) (va_Pc [.int r] (sn_B D K [])) (sn_QR (some (.int (zb (decide (False)))))) 0 0 (fun _ => False) := by
  refine sn_met (own := R_Mo) (by decide +kernel) rfl rfl (Nat.le_of_ble_eq_true rfl) ?_
  intro P9 E9 s9 m9 args below M9 c9 ls Q hQ hx hb hml hrt hlk hts hown hnm hl hB
  obtain ⟨hP, hK, hN⟩ := hB
  have hl : lv_has ls 1 [(0, .int r)] := hl
  refine lv_iload_n hx hb d_Mo_isRoot_0 rfl (lv_at hl 0 rfl) ?_
  refine lv_if_lt (tgt := 14) hx hb d_Mo_isRoot_1 (by decide) (fun h1 => ?_) (fun h1 => ?_)
  · refine lv_iconst (v := nI 0) hx hb d_Mo_isRoot_14 (by decide) ?_
    exact sx_rz hQ hx hb hrt hlk (zb_no (fun h9 => h9)) d_Mo_isRoot_15
  · refine lv_iload_n hx hb d_Mo_isRoot_4 rfl (lv_at hl 0 rfl) ?_
    refine lv_bipush (v := nI 16) hx hb d_Mo_isRoot_5 (by decide) ?_
    refine lv_icmp_ge (tgt := 14) hx hb d_Mo_isRoot_7 (by decide) (fun h2 => ?_) (fun h2 => ?_)
    · refine lv_iconst (v := nI 0) hx hb d_Mo_isRoot_14 (by decide) ?_
      exact sx_rz hQ hx hb hrt hlk (zb_no (fun h9 => h9)) d_Mo_isRoot_15
    · exact (hb9.elim h1 h2).elim
set_option maxHeartbeats 1000000 in
set_option maxRecDepth 100000 in
theorem c_Mo_reach (l : Launch) (D : va_G) (K : Nat → ClassId) (b : Nat → Nat) (md : Nat) (pc : Nat) (th : Nat) (Z : Nat → Nat) (X : SnM) (q : Nat) (hwl : sn_wl 640 X) (hq0 : 0 < q) (hq6 : q ≤ 640) : Met l y_Mo_reach w_Mo_reach ({ frames := 0, cells := 0, slots := 0, locals := 0 }) (va_Pc [.ref (b 0), .long (lN (q - 1))] (sn_BW D K [cr0 b md pc (sn_cr X) (sn_cc Z X) th X.2.2, aZ K (b 5) 640 (sn_ir X), aI K (b 7) 640 (sn_td X), aI K (b 6) 640 Z])) (sn_Q D [cr0 b md pc (sn_cr X) (sn_cc Z X) th X.2.2, aZ K (b 5) 640 (sn_ir X), aI K (b 7) 640 (sn_td X), aI K (b 6) 640 Z] [cr0 b md pc (sn_cr (sn_shade 640 X q)) (sn_cc Z (sn_shade 640 X q)) th ((sn_shade 640 X q).2.2), aZ K (b 5) 640 (sn_ir (sn_shade 640 X q)), aI K (b 7) 640 (sn_td (sn_shade 640 X q)), aI K (b 6) 640 Z] none) 0 0 (sn_A [cr0 b md pc (sn_cr X) (sn_cc Z X) th X.2.2, aZ K (b 5) 640 (sn_ir X), aI K (b 7) 640 (sn_td X), aI K (b 6) 640 Z]) := by
  refine sn_met (own := R_Mo) (by decide +kernel) rfl rfl (Nat.le_of_ble_eq_true rfl) ?_
  intro P9 E9 s9 m9 args below M9 c9 ls Q hQ hx hb hml hrt hlk hts hown hnm hl hB
  obtain ⟨⟨hP, hK, hN⟩, hD⟩ := hB
  have hl : lv_has ls 4 [(0, .ref (b 0)), (1, .long (lN (q - 1)))] := hl
  have hD := sn_DA hD
  have hS : va_S (sn_A [cr0 b md pc (sn_cr X) (sn_cc Z X) th X.2.2, aZ K (b 5) 640 (sn_ir X), aI K (b 7) 640 (sn_td X), aI K (b 6) 640 Z]) s9.heap s9.heap [] := va_S.rf
  generalize hAe : sn_A [cr0 b md pc (sn_cr X) (sn_cc Z X) th X.2.2, aZ K (b 5) 640 (sn_ir X), aI K (b 7) 640 (sn_td X), aI K (b 6) 640 Z] = A at hD hS
  refine lv_lload_n hx hb d_Mo_reach_0 rfl (lv_at hl 1 rfl) ?_
  refine lv_l2i (v := nI (q - 1)) hx hb d_Mo_reach_1 (lN_i _) ?_
  refine lv_istore_n (lv' := [(3, .int (nI (q - 1))), (0, .ref (b 0)), (1, .long (lN (q - 1)))]) hx hb d_Mo_reach_2 rfl hl (by decide) rfl (fun ls hl => ?_)
  refine lv_aload_n hx hb d_Mo_reach_3 rfl (lv_at hl 1 rfl) ?_
  refine va_get (D := D) (ci := 6) (v := .ref (b 5)) (C := R_Mo) (T := F_Mo) (N := 15) hx hb hts in_Mo hown hK hP 0 rfl rfl 4 (by decide) (hts _ tw_658) (fun _ h9 => h9) rfl d_Mo_reach_4 ?_
  refine lv_iload_n hx hb d_Mo_reach_7 rfl (lv_at hl 0 rfl) ?_
  refine sn_zald (sn_ir X) (q - 1) hx hb hK hP 1 rfl (by omega) (by decide) d_Mo_reach_8 ?_
  refine sn_ifb_eq (tgt := 13) hx hb d_Mo_reach_9 (by decide) (fun h1 => ?_) (fun h1 => ?_)
  · have hX0 : X.1 q = 0 := by have h8 : decide (X.1 (q - 1 + 1) ≠ 0) = false := h1; rw [show q - 1 + 1 = q by omega] at h8; exact Classical.byContradiction (fun h9 => by rw [decide_eq_true h9] at h8; cases h8)
    have hrm := hwl.room hq0 hq6 hX0
    refine lv_aload_n hx hb d_Mo_reach_13 rfl (lv_at hl 1 rfl) ?_
    refine va_get (D := D) (ci := 6) (v := .ref (b 5)) (C := R_Mo) (T := F_Mo) (N := 15) hx hb hts in_Mo hown hK hP 0 rfl rfl 4 (by decide) (hts _ tw_658) (fun _ h9 => h9) rfl d_Mo_reach_14 ?_
    refine lv_iload_n hx hb d_Mo_reach_17 rfl (lv_at hl 0 rfl) ?_
    refine lv_iconst (v := nI 1) hx hb d_Mo_reach_18 (by decide) ?_
    refine sn_zast (sn_ir X) (q - 1) true hx hb hK hP hD hS 1 rfl (by omega) (by decide) d_Mo_reach_19 (fun H locs hP hD hS => ?_)
    have hP : va_P D classes [cr0 b md pc (sn_cr X) (sn_cc Z X) th X.2.2, aZ K (b 5) 640 (va_up (sn_ir X) (q - 1) true), aI K (b 7) 640 (sn_td X), aI K (b 6) 640 Z] H := hP
    have hD : va_D A [cr0 b md pc (sn_cr X) (sn_cc Z X) th X.2.2, aZ K (b 5) 640 (va_up (sn_ir X) (q - 1) true), aI K (b 7) 640 (sn_td X), aI K (b 6) 640 Z] := hD
    refine lv_aload_n hx hb d_Mo_reach_20 rfl (lv_at hl 1 rfl) ?_
    refine lv_dup hx hb d_Mo_reach_21 rfl ?_
    refine va_get (D := D) (ci := 6) (v := .int (nI (sn_cr X))) (C := R_Mo) (T := F_Mo) (N := 15) hx hb hts in_Mo hown hK hP 0 rfl rfl 11 (by decide) (hts _ tw_665) (fun _ h9 => h9) rfl d_Mo_reach_22 ?_
    refine lv_iconst (v := nI 1) hx hb d_Mo_reach_25 (by decide) ?_
    refine lv_iadd hx hb d_Mo_reach_26 ?_
    refine sn_topi (nI_add _ _) ?_
    refine va_put (D := D) (ci := 6) (v := .int (nI (sn_cr X + 1))) (ty := .int) (C := R_Mo) (T := F_Mo) (N := 15) hx hb hts in_Mo t_Mo t_Mo_ok n_Mo hown hK hP hD hS 0 rfl rfl 11 (by decide) (hts _ tw_665) (fun _ h9 => h9) rfl (by decide +kernel) rfl rfl (Nat.le_of_ble_eq_true rfl) d_Mo_reach_27 (fun H locs hP hD hS => ?_)
    have hP : va_P D classes [cr0 b md pc (sn_cr X + 1) (sn_cc Z X) th X.2.2, aZ K (b 5) 640 (va_up (sn_ir X) (q - 1) true), aI K (b 7) 640 (sn_td X), aI K (b 6) 640 Z] H := hP
    have hD : va_D A [cr0 b md pc (sn_cr X + 1) (sn_cc Z X) th X.2.2, aZ K (b 5) 640 (va_up (sn_ir X) (q - 1) true), aI K (b 7) 640 (sn_td X), aI K (b 6) 640 Z] := hD
    refine lv_aload_n hx hb d_Mo_reach_30 rfl (lv_at hl 1 rfl) ?_
    refine lv_dup hx hb d_Mo_reach_31 rfl ?_
    refine va_get (D := D) (ci := 6) (v := .int (nI (sn_cc Z X))) (C := R_Mo) (T := F_Mo) (N := 15) hx hb hts in_Mo hown hK hP 0 rfl rfl 12 (by decide) (hts _ tw_666) (fun _ h9 => h9) rfl d_Mo_reach_32 ?_
    refine lv_aload_n hx hb d_Mo_reach_35 rfl (lv_at hl 1 rfl) ?_
    refine va_get (D := D) (ci := 6) (v := .ref (b 6)) (C := R_Mo) (T := F_Mo) (N := 15) hx hb hts in_Mo hown hK hP 0 rfl rfl 5 (by decide) (hts _ tw_659) (fun _ h9 => h9) rfl d_Mo_reach_36 ?_
    refine lv_iload_n hx hb d_Mo_reach_39 rfl (lv_at hl 0 rfl) ?_
    refine sn_iald nI Z (q - 1) hx hb hK hP 3 rfl (by omega) (by decide) d_Mo_reach_40 ?_
    refine lv_iconst (v := nI 2) hx hb d_Mo_reach_41 (by decide) ?_
    refine lv_iadd hx hb d_Mo_reach_42 ?_
    refine sn_topi (nI_add _ _) ?_
    refine lv_iadd hx hb d_Mo_reach_43 ?_
    refine sn_topi (nI_add _ _) ?_
    refine va_put (D := D) (ci := 6) (v := .int (nI (sn_cc Z X + (Z (q - 1) + 2)))) (ty := .int) (C := R_Mo) (T := F_Mo) (N := 15) hx hb hts in_Mo t_Mo t_Mo_ok n_Mo hown hK hP hD hS 0 rfl rfl 12 (by decide) (hts _ tw_666) (fun _ h9 => h9) rfl (by decide +kernel) rfl rfl (Nat.le_of_ble_eq_true rfl) d_Mo_reach_44 (fun H locs hP hD hS => ?_)
    have hP : va_P D classes [cr0 b md pc (sn_cr X + 1) (sn_cc Z X + (Z (q - 1) + 2)) th X.2.2, aZ K (b 5) 640 (va_up (sn_ir X) (q - 1) true), aI K (b 7) 640 (sn_td X), aI K (b 6) 640 Z] H := hP
    have hD : va_D A [cr0 b md pc (sn_cr X + 1) (sn_cc Z X + (Z (q - 1) + 2)) th X.2.2, aZ K (b 5) 640 (va_up (sn_ir X) (q - 1) true), aI K (b 7) 640 (sn_td X), aI K (b 6) 640 Z] := hD
    refine lv_aload_n hx hb d_Mo_reach_47 rfl (lv_at hl 1 rfl) ?_
    refine va_get (D := D) (ci := 6) (v := .ref (b 7)) (C := R_Mo) (T := F_Mo) (N := 15) hx hb hts in_Mo hown hK hP 0 rfl rfl 6 (by decide) (hts _ tw_660) (fun _ h9 => h9) rfl d_Mo_reach_48 ?_
    refine lv_aload_n hx hb d_Mo_reach_51 rfl (lv_at hl 1 rfl) ?_
    refine va_get (D := D) (ci := 6) (v := .int (nI X.2.2)) (C := R_Mo) (T := F_Mo) (N := 15) hx hb hts in_Mo hown hK hP 0 rfl rfl 14 (by decide) (hts _ tw_668) (fun _ h9 => h9) rfl d_Mo_reach_52 ?_
    refine lv_iload_n hx hb d_Mo_reach_55 rfl (lv_at hl 0 rfl) ?_
    refine sn_iast nI (sn_td X) X.2.2 (q - 1) hx hb hK hP hD hS 2 rfl (by omega) (by decide) d_Mo_reach_56 (fun H locs hP hD hS => ?_)
    have hP : va_P D classes [cr0 b md pc (sn_cr X + 1) (sn_cc Z X + (Z (q - 1) + 2)) th X.2.2, aZ K (b 5) 640 (va_up (sn_ir X) (q - 1) true), aI K (b 7) 640 (va_up (sn_td X) X.2.2 (q - 1)), aI K (b 6) 640 Z] H := hP
    have hD : va_D A [cr0 b md pc (sn_cr X + 1) (sn_cc Z X + (Z (q - 1) + 2)) th X.2.2, aZ K (b 5) 640 (va_up (sn_ir X) (q - 1) true), aI K (b 7) 640 (va_up (sn_td X) X.2.2 (q - 1)), aI K (b 6) 640 Z] := hD
    refine lv_aload_n hx hb d_Mo_reach_57 rfl (lv_at hl 1 rfl) ?_
    refine lv_dup hx hb d_Mo_reach_58 rfl ?_
    refine va_get (D := D) (ci := 6) (v := .int (nI X.2.2)) (C := R_Mo) (T := F_Mo) (N := 15) hx hb hts in_Mo hown hK hP 0 rfl rfl 14 (by decide) (hts _ tw_668) (fun _ h9 => h9) rfl d_Mo_reach_59 ?_
    refine lv_iconst (v := nI 1) hx hb d_Mo_reach_62 (by decide) ?_
    refine lv_iadd hx hb d_Mo_reach_63 ?_
    refine sn_topi (nI_add _ _) ?_
    refine va_put (D := D) (ci := 6) (v := .int (nI (X.2.2 + 1))) (ty := .int) (C := R_Mo) (T := F_Mo) (N := 15) hx hb hts in_Mo t_Mo t_Mo_ok n_Mo hown hK hP hD hS 0 rfl rfl 14 (by decide) (hts _ tw_668) (fun _ h9 => h9) rfl (by decide +kernel) rfl rfl (Nat.le_of_ble_eq_true rfl) d_Mo_reach_64 (fun H locs hP hD hS => ?_)
    have hP : va_P D classes [cr0 b md pc (sn_cr X + 1) (sn_cc Z X + (Z (q - 1) + 2)) th (X.2.2 + 1), aZ K (b 5) 640 (va_up (sn_ir X) (q - 1) true), aI K (b 7) 640 (va_up (sn_td X) X.2.2 (q - 1)), aI K (b 6) 640 Z] H := hP
    have hD : va_D A [cr0 b md pc (sn_cr X + 1) (sn_cc Z X + (Z (q - 1) + 2)) th (X.2.2 + 1), aZ K (b 5) 640 (va_up (sn_ir X) (q - 1) true), aI K (b 7) 640 (va_up (sn_td X) X.2.2 (q - 1)), aI K (b 6) 640 Z] := hD
    rw [show sn_shade 640 X q = (va_up X.1 q 1, va_up X.2.1 X.2.2 q, X.2.2 + 1) from if_pos ⟨hq0, hq6, hX0, hrm⟩, sn_cr_up (w := X.2.1) (wc := X.2.2) hq6 hX0 (by decide), sn_cc_up (w := X.2.1) (wc := X.2.2) hq6 hX0 (by decide), sn_ir_up (w := X.2.1) (wc := X.2.2) hq0 (by decide), sn_td_up (C := X.1)] at hQ
    subst hAe
    exact sx_wv hQ hx hb hrt hlk hP hS d_Mo_reach_67
  · have hX1 : ¬ X.1 q = 0 := by have h8 : decide (X.1 (q - 1 + 1) ≠ 0) = true := h1; rw [show q - 1 + 1 = q by omega] at h8; exact of_decide_eq_true h8
    rw [show sn_shade 640 X q = X from if_neg (fun h9 => hX1 h9.2.2.1)] at hQ
    subst hAe
    exact sx_wv hQ hx hb hrt hlk hP hS d_Mo_reach_12
set_option maxHeartbeats 1000000 in
set_option maxRecDepth 100000 in
theorem c_Mo_reachAll (l : Launch) (D : va_G) (K : Nat → ClassId) (b : Nat → Nat) (md : Nat) (pc : Nat) (re : Nat) (ce : Nat) (th : Nat) (tp : Nat) (vv : Nat → Int64) (rv : Nat → Int64) (vr : Nat → Bool) (rr : Nat → Bool) (Ir : Nat → Bool) (Z : Nat → Nat) (Td : Nat → Nat) (L : Nat → Nat) (hrep : sn_rep rv rr vv vr L) (hZ : ∀ k, Z k ≤ 16) : Met l y_Mo_reachAll w_Mo_reachAll ({ frames := 1, cells := 0, slots := 0, locals := 23 }) (va_Pc [.ref (b 0)] (sn_BW D K [cr0 b md pc re ce th tp, aL K (b 1) 10240 vv, aL K (b 2) 16 rv, aZ K (b 3) 10240 vr, aZ K (b 4) 16 rr, aZ K (b 5) 640 Ir, aI K (b 6) 640 Z, aI K (b 7) 640 Td])) (sn_Q D [cr0 b md pc re ce th tp, aL K (b 1) 10240 vv, aL K (b 2) 16 rv, aZ K (b 3) 10240 vr, aZ K (b 4) 16 rr, aZ K (b 5) 640 Ir, aI K (b 6) 640 Z, aI K (b 7) 640 Td] [cr0 b md pc (sn_cr (sn_xf Z L Td)) (sn_cc Z (sn_xf Z L Td)) th ((sn_xf Z L Td).2.2), aL K (b 1) 10240 vv, aL K (b 2) 16 rv, aZ K (b 3) 10240 vr, aZ K (b 4) 16 rr, aZ K (b 5) 640 (sn_ir (sn_xf Z L Td)), aI K (b 6) 640 Z, aI K (b 7) 640 (sn_td (sn_xf Z L Td))] none) 0 0 (sn_A [cr0 b md pc re ce th tp, aL K (b 1) 10240 vv, aL K (b 2) 16 rv, aZ K (b 3) 10240 vr, aZ K (b 4) 16 rr, aZ K (b 5) 640 Ir, aI K (b 6) 640 Z, aI K (b 7) 640 Td]) := by
  refine sn_met (own := R_Mo) (by decide +kernel) rfl rfl (Nat.le_of_ble_eq_true rfl) ?_
  intro P9 E9 s9 m9 args below M9 c9 ls Q hQ hx hb hml hrt hlk hts hown hnm hl hB
  obtain ⟨⟨hP, hK, hN⟩, hD⟩ := hB
  have hl : lv_has ls 3 [(0, .ref (b 0))] := hl
  have hD := sn_DA hD
  have hS : va_S (sn_A [cr0 b md pc re ce th tp, aL K (b 1) 10240 vv, aL K (b 2) 16 rv, aZ K (b 3) 10240 vr, aZ K (b 4) 16 rr, aZ K (b 5) 640 Ir, aI K (b 6) 640 Z, aI K (b 7) 640 Td]) s9.heap s9.heap [] := va_S.rf
  generalize hAe : sn_A [cr0 b md pc re ce th tp, aL K (b 1) 10240 vv, aL K (b 2) 16 rv, aZ K (b 3) 10240 vr, aZ K (b 4) 16 rr, aZ K (b 5) 640 Ir, aI K (b 6) 640 Z, aI K (b 7) 640 Td] = A at hD hS
  refine lv_iconst (v := nI 0) hx hb d_Mo_reachAll_0 (by decide) ?_
  refine lv_istore_n (lv' := [(1, .int (nI 0)), (0, .ref (b 0))]) hx hb d_Mo_reachAll_1 rfl hl (by decide) rfl (fun ls hl => ?_)
  have loop0 : ∀ (nn : Nat) (i : Nat) (ls : Array Slot) (H : Heap) (locs : List Loc), 640 - i < nn → (i ≤ 640) → lv_has ls 3 [(0, .ref (b 0)), (1, .int (nI i))] → va_P D classes [cr0 b md pc re ce th tp, aL K (b 1) 10240 vv, aL K (b 2) 16 rv, aZ K (b 3) 10240 vr, aZ K (b 4) 16 rr, aZ K (b 5) 640 (sn_clr Ir 0 i false), aI K (b 6) 640 Z, aI K (b 7) 640 Td] H → va_D A [cr0 b md pc re ce th tp, aL K (b 1) 10240 vv, aL K (b 2) 16 rv, aZ K (b 3) 10240 vr, aZ K (b 4) 16 rr, aZ K (b 5) 640 (sn_clr Ir 0 i false), aI K (b 6) 640 Z, aI K (b 7) 640 Td] → va_S A s9.heap H locs → W P9 l E9 ({ frames := 1, cells := 0, slots := 0, locals := 23 }) s9 m9 args below M9 c9 H locs 0 0 Q (F0 m9 2 ls []) := by
    intro nn
    induction nn with
    | zero => intro i ls H locs hn; exact absurd hn (Nat.not_lt_zero _)
    | succ nn ih0 =>
      intro i ls H locs hmu hi hl hP hD hS
      refine lv_iload_n hx hb d_Mo_reachAll_2 rfl (lv_at hl 1 rfl) ?_
      refine lv_sipush (v := nI 640) hx hb d_Mo_reachAll_3 (by decide) ?_
      refine sn_icmp_ge (by omega) (by omega) (tgt := 22) hx hb d_Mo_reachAll_6 (by decide) (fun h1 => ?_) (fun h1 => ?_)
      · obtain ⟨hP, hD⟩ := sn_reZ (g := sn_ir (sn_x0 Td)) hP hD 5 rfl (fun j hj => by show sn_clr Ir 0 i false j = false; unfold sn_clr; rw [if_pos (by omega)])
        have hP : va_P D classes [cr0 b md pc re ce th tp, aL K (b 1) 10240 vv, aL K (b 2) 16 rv, aZ K (b 3) 10240 vr, aZ K (b 4) 16 rr, aZ K (b 5) 640 (sn_ir (sn_x0 Td)), aI K (b 6) 640 Z, aI K (b 7) 640 Td] H := hP
        have hD : va_D A [cr0 b md pc re ce th tp, aL K (b 1) 10240 vv, aL K (b 2) 16 rv, aZ K (b 3) 10240 vr, aZ K (b 4) 16 rr, aZ K (b 5) 640 (sn_ir (sn_x0 Td)), aI K (b 6) 640 Z, aI K (b 7) 640 Td] := hD
        refine lv_aload_n hx hb d_Mo_reachAll_22 rfl (lv_at hl 0 rfl) ?_
        refine lv_iconst (v := nI 0) hx hb d_Mo_reachAll_23 (by decide) ?_
        refine va_put (D := D) (ci := 6) (v := .int (nI 0)) (ty := .int) (C := R_Mo) (T := F_Mo) (N := 15) hx hb hts in_Mo t_Mo t_Mo_ok n_Mo hown hK hP hD hS 0 rfl rfl 11 (by decide) (hts _ tw_665) (fun _ h9 => h9) rfl (by decide +kernel) rfl rfl (Nat.le_of_ble_eq_true rfl) d_Mo_reachAll_24 (fun H locs hP hD hS => ?_)
        have hP : va_P D classes [cr0 b md pc 0 ce th tp, aL K (b 1) 10240 vv, aL K (b 2) 16 rv, aZ K (b 3) 10240 vr, aZ K (b 4) 16 rr, aZ K (b 5) 640 (sn_ir (sn_x0 Td)), aI K (b 6) 640 Z, aI K (b 7) 640 Td] H := hP
        have hD : va_D A [cr0 b md pc 0 ce th tp, aL K (b 1) 10240 vv, aL K (b 2) 16 rv, aZ K (b 3) 10240 vr, aZ K (b 4) 16 rr, aZ K (b 5) 640 (sn_ir (sn_x0 Td)), aI K (b 6) 640 Z, aI K (b 7) 640 Td] := hD
        refine lv_aload_n hx hb d_Mo_reachAll_27 rfl (lv_at hl 0 rfl) ?_
        refine lv_iconst (v := nI 0) hx hb d_Mo_reachAll_28 (by decide) ?_
        refine va_put (D := D) (ci := 6) (v := .int (nI 0)) (ty := .int) (C := R_Mo) (T := F_Mo) (N := 15) hx hb hts in_Mo t_Mo t_Mo_ok n_Mo hown hK hP hD hS 0 rfl rfl 12 (by decide) (hts _ tw_666) (fun _ h9 => h9) rfl (by decide +kernel) rfl rfl (Nat.le_of_ble_eq_true rfl) d_Mo_reachAll_29 (fun H locs hP hD hS => ?_)
        have hP : va_P D classes [cr0 b md pc 0 0 th tp, aL K (b 1) 10240 vv, aL K (b 2) 16 rv, aZ K (b 3) 10240 vr, aZ K (b 4) 16 rr, aZ K (b 5) 640 (sn_ir (sn_x0 Td)), aI K (b 6) 640 Z, aI K (b 7) 640 Td] H := hP
        have hD : va_D A [cr0 b md pc 0 0 th tp, aL K (b 1) 10240 vv, aL K (b 2) 16 rv, aZ K (b 3) 10240 vr, aZ K (b 4) 16 rr, aZ K (b 5) 640 (sn_ir (sn_x0 Td)), aI K (b 6) 640 Z, aI K (b 7) 640 Td] := hD
        refine lv_aload_n hx hb d_Mo_reachAll_32 rfl (lv_at hl 0 rfl) ?_
        refine lv_iconst (v := nI 0) hx hb d_Mo_reachAll_33 (by decide) ?_
        refine va_put (D := D) (ci := 6) (v := .int (nI 0)) (ty := .int) (C := R_Mo) (T := F_Mo) (N := 15) hx hb hts in_Mo t_Mo t_Mo_ok n_Mo hown hK hP hD hS 0 rfl rfl 14 (by decide) (hts _ tw_668) (fun _ h9 => h9) rfl (by decide +kernel) rfl rfl (Nat.le_of_ble_eq_true rfl) d_Mo_reachAll_34 (fun H locs hP hD hS => ?_)
        have hP : va_P D classes [cr0 b md pc 0 0 th 0, aL K (b 1) 10240 vv, aL K (b 2) 16 rv, aZ K (b 3) 10240 vr, aZ K (b 4) 16 rr, aZ K (b 5) 640 (sn_ir (sn_x0 Td)), aI K (b 6) 640 Z, aI K (b 7) 640 Td] H := hP
        have hD : va_D A [cr0 b md pc 0 0 th 0, aL K (b 1) 10240 vv, aL K (b 2) 16 rv, aZ K (b 3) 10240 vr, aZ K (b 4) 16 rr, aZ K (b 5) 640 (sn_ir (sn_x0 Td)), aI K (b 6) 640 Z, aI K (b 7) 640 Td] := hD
        refine lv_iconst (v := nI 0) hx hb d_Mo_reachAll_37 (by decide) ?_
        refine lv_istore_n (lv' := [(1, .int (nI 0)), (0, .ref (b 0))]) hx hb d_Mo_reachAll_38 rfl hl (by decide) rfl (fun ls hl => ?_)
        have hP : va_P D classes [cr0 b md pc (sn_cr (sn_x0 Td)) (sn_cc Z (sn_x0 Td)) th ((sn_x0 Td).2.2), aL K (b 1) 10240 vv, aL K (b 2) 16 rv, aZ K (b 3) 10240 vr, aZ K (b 4) 16 rr, aZ K (b 5) 640 (sn_ir (sn_x0 Td)), aI K (b 6) 640 Z, aI K (b 7) 640 (sn_td (sn_x0 Td))] H := by rw [sn_cr_0, sn_cc_0, sn_td_0]; exact hP
        have hD : va_D A [cr0 b md pc (sn_cr (sn_x0 Td)) (sn_cc Z (sn_x0 Td)) th ((sn_x0 Td).2.2), aL K (b 1) 10240 vv, aL K (b 2) 16 rv, aZ K (b 3) 10240 vr, aZ K (b 4) 16 rr, aZ K (b 5) 640 (sn_ir (sn_x0 Td)), aI K (b 6) 640 Z, aI K (b 7) 640 (sn_td (sn_x0 Td))] := by rw [sn_cr_0, sn_cc_0, sn_td_0]; exact hD
        have loop1 : ∀ (nn : Nat) (i : Nat) (ls : Array Slot) (H : Heap) (locs : List Loc), 16 - i < nn → (i ≤ 16) → lv_has ls 3 [(0, .ref (b 0)), (1, .int (nI i))] → va_P D classes [cr0 b md pc (sn_cr (sn_xr L Td i)) (sn_cc Z (sn_xr L Td i)) th ((sn_xr L Td i).2.2), aL K (b 1) 10240 vv, aL K (b 2) 16 rv, aZ K (b 3) 10240 vr, aZ K (b 4) 16 rr, aZ K (b 5) 640 (sn_ir (sn_xr L Td i)), aI K (b 6) 640 Z, aI K (b 7) 640 (sn_td (sn_xr L Td i))] H → va_D A [cr0 b md pc (sn_cr (sn_xr L Td i)) (sn_cc Z (sn_xr L Td i)) th ((sn_xr L Td i).2.2), aL K (b 1) 10240 vv, aL K (b 2) 16 rv, aZ K (b 3) 10240 vr, aZ K (b 4) 16 rr, aZ K (b 5) 640 (sn_ir (sn_xr L Td i)), aI K (b 6) 640 Z, aI K (b 7) 640 (sn_td (sn_xr L Td i))] → va_S A s9.heap H locs → W P9 l E9 ({ frames := 1, cells := 0, slots := 0, locals := 23 }) s9 m9 args below M9 c9 H locs 0 0 Q (F0 m9 39 ls []) := by
          intro nn
          induction nn with
          | zero => intro i ls H locs hn; exact absurd hn (Nat.not_lt_zero _)
          | succ nn ih1 =>
            intro i ls H locs hmu hi hl hP hD hS
            have hxw := sn_xr_wl (L := L) (Td := Td) hrep.2.2 i
            refine lv_iload_n hx hb d_Mo_reachAll_39 rfl (lv_at hl 1 rfl) ?_
            refine lv_bipush (v := nI 16) hx hb d_Mo_reachAll_40 (by decide) ?_
            refine sn_icmp_ge (by omega) (by omega) (tgt := 70) hx hb d_Mo_reachAll_42 (by decide) (fun h2 => ?_) (fun h2 => ?_)
            · have ei : 16 = i := by omega
              subst ei
              have loop2 : ∀ (nn : Nat) (t : Nat) (X : SnM) (ls : Array Slot) (H : Heap) (locs : List Loc), 640 - t < nn → (sn_wl 640 X) → (∀ q, X.1 q ≤ 2) → (sn_s (sn_nb X.1) 641 + t ≤ 640) → (sn_mloop 640 (sn_S2 Z) L (640 - t) X = sn_xf Z L Td) → lv_has ls 3 [(0, .ref (b 0))] → va_P D classes [cr0 b md pc (sn_cr X) (sn_cc Z X) th X.2.2, aL K (b 1) 10240 vv, aL K (b 2) 16 rv, aZ K (b 3) 10240 vr, aZ K (b 4) 16 rr, aZ K (b 5) 640 (sn_ir X), aI K (b 6) 640 Z, aI K (b 7) 640 (sn_td X)] H → va_D A [cr0 b md pc (sn_cr X) (sn_cc Z X) th X.2.2, aL K (b 1) 10240 vv, aL K (b 2) 16 rv, aZ K (b 3) 10240 vr, aZ K (b 4) 16 rr, aZ K (b 5) 640 (sn_ir X), aI K (b 6) 640 Z, aI K (b 7) 640 (sn_td X)] → va_S A s9.heap H locs → W P9 l E9 ({ frames := 1, cells := 0, slots := 0, locals := 23 }) s9 m9 args below M9 c9 H locs 0 0 Q (F0 m9 70 ls []) := by
                intro nn
                induction nn with
                | zero => intro t X ls H locs hn; exact absurd hn (Nat.not_lt_zero _)
                | succ nn ih2 =>
                  intro t X ls H locs hmu hwl h2 hnb ew hl hP hD hS
                  have hw6 := sn_wl_le6 hwl
                  refine lv_aload_n hx hb d_Mo_reachAll_70 rfl (lv_at hl 0 rfl) ?_
                  refine va_get (D := D) (ci := 6) (v := .int (nI X.2.2)) (C := R_Mo) (T := F_Mo) (N := 15) hx hb hts in_Mo hown hK hP 0 rfl rfl 14 (by decide) (hts _ tw_668) (fun _ h9 => h9) rfl d_Mo_reachAll_71 ?_
                  refine sn_if_le (by omega) (tgt := 145) hx hb d_Mo_reachAll_74 (by decide) (fun h3 => ?_) (fun h3 => ?_)
                  · have ew2 : X = sn_xf Z L Td := by rw [← ew]; exact (sn_mloop_0' _ h3).symm
                    rw [← ew2] at hQ
                    subst hAe
                    exact sx_wv hQ hx hb hrt hlk hP hS d_Mo_reachAll_145
                  · have hw0 := h3
                    have hgr := hwl.2.1 (X.2.2 - 1) (by omega)
                    have hmk := sn_mark1_3 (S := sn_S2 Z) hrep.2.2 hwl h2 hw0
                    refine lv_aload_n hx hb d_Mo_reachAll_77 rfl (lv_at hl 0 rfl) ?_
                    refine lv_dup hx hb d_Mo_reachAll_78 rfl ?_
                    refine va_get (D := D) (ci := 6) (v := .int (nI X.2.2)) (C := R_Mo) (T := F_Mo) (N := 15) hx hb hts in_Mo hown hK hP 0 rfl rfl 14 (by decide) (hts _ tw_668) (fun _ h9 => h9) rfl d_Mo_reachAll_79 ?_
                    refine lv_iconst (v := nI 1) hx hb d_Mo_reachAll_82 (by decide) ?_
                    refine lv_isub hx hb d_Mo_reachAll_83 ?_
                    refine sn_topi (pk_sub (by omega)) ?_
                    refine va_put (D := D) (ci := 6) (v := .int (nI (X.2.2 - 1))) (ty := .int) (C := R_Mo) (T := F_Mo) (N := 15) hx hb hts in_Mo t_Mo t_Mo_ok n_Mo hown hK hP hD hS 0 rfl rfl 14 (by decide) (hts _ tw_668) (fun _ h9 => h9) rfl (by decide +kernel) rfl rfl (Nat.le_of_ble_eq_true rfl) d_Mo_reachAll_84 (fun H locs hP hD hS => ?_)
                    have hP : va_P D classes [cr0 b md pc (sn_cr X) (sn_cc Z X) th (X.2.2 - 1), aL K (b 1) 10240 vv, aL K (b 2) 16 rv, aZ K (b 3) 10240 vr, aZ K (b 4) 16 rr, aZ K (b 5) 640 (sn_ir X), aI K (b 6) 640 Z, aI K (b 7) 640 (sn_td X)] H := hP
                    have hD : va_D A [cr0 b md pc (sn_cr X) (sn_cc Z X) th (X.2.2 - 1), aL K (b 1) 10240 vv, aL K (b 2) 16 rv, aZ K (b 3) 10240 vr, aZ K (b 4) 16 rr, aZ K (b 5) 640 (sn_ir X), aI K (b 6) 640 Z, aI K (b 7) 640 (sn_td X)] := hD
                    refine lv_aload_n hx hb d_Mo_reachAll_87 rfl (lv_at hl 0 rfl) ?_
                    refine va_get (D := D) (ci := 6) (v := .ref (b 7)) (C := R_Mo) (T := F_Mo) (N := 15) hx hb hts in_Mo hown hK hP 0 rfl rfl 6 (by decide) (hts _ tw_660) (fun _ h9 => h9) rfl d_Mo_reachAll_88 ?_
                    refine lv_aload_n hx hb d_Mo_reachAll_91 rfl (lv_at hl 0 rfl) ?_
                    refine va_get (D := D) (ci := 6) (v := .int (nI (X.2.2 - 1))) (C := R_Mo) (T := F_Mo) (N := 15) hx hb hts in_Mo hown hK hP 0 rfl rfl 14 (by decide) (hts _ tw_668) (fun _ h9 => h9) rfl d_Mo_reachAll_92 ?_
                    refine sn_iald nI (sn_td X) (X.2.2 - 1) hx hb hK hP 7 rfl (by omega) (by decide) d_Mo_reachAll_95 ?_
                    refine sn_topi (show nI (sn_td X (X.2.2 - 1)) = nI (X.2.1 (X.2.2 - 1) - 1) from rfl) ?_
                    refine lv_istore_n (lv' := [(1, .int (nI (X.2.1 (X.2.2 - 1) - 1))), (0, .ref (b 0))]) hx hb d_Mo_reachAll_96 rfl hl (by decide) rfl (fun ls hl => ?_)
                    refine lv_bipush (v := nI 16) hx hb d_Mo_reachAll_97 (by decide) ?_
                    refine lv_iload_n hx hb d_Mo_reachAll_99 rfl (lv_at hl 0 rfl) ?_
                    refine lv_imul hx hb d_Mo_reachAll_100 ?_
                    refine sn_topi (pk_mul _ _) ?_
                    refine lv_istore_n (lv' := [(2, .int (nI (16 * (X.2.1 (X.2.2 - 1) - 1)))), (1, .int (nI (X.2.1 (X.2.2 - 1) - 1))), (0, .ref (b 0))]) hx hb d_Mo_reachAll_101 rfl hl (by decide) rfl (fun ls hl => ?_)
                    have hP : va_P D classes [cr0 b md pc (sn_cr ((va_up X.1 (X.2.1 (X.2.2 - 1)) 2, X.2.1, X.2.2 - 1) : SnM)) (sn_cc Z ((va_up X.1 (X.2.1 (X.2.2 - 1)) 2, X.2.1, X.2.2 - 1) : SnM)) th (((va_up X.1 (X.2.1 (X.2.2 - 1)) 2, X.2.1, X.2.2 - 1) : SnM).2.2), aL K (b 1) 10240 vv, aL K (b 2) 16 rv, aZ K (b 3) 10240 vr, aZ K (b 4) 16 rr, aZ K (b 5) 640 (sn_ir ((va_up X.1 (X.2.1 (X.2.2 - 1)) 2, X.2.1, X.2.2 - 1) : SnM)), aI K (b 6) 640 Z, aI K (b 7) 640 (sn_td ((va_up X.1 (X.2.1 (X.2.2 - 1)) 2, X.2.1, X.2.2 - 1) : SnM))] H := by rw [sn_ir_bl hgr.1, sn_cr_bl hgr.1, sn_cc_bl hgr.1]; exact hP
                    have hD : va_D A [cr0 b md pc (sn_cr ((va_up X.1 (X.2.1 (X.2.2 - 1)) 2, X.2.1, X.2.2 - 1) : SnM)) (sn_cc Z ((va_up X.1 (X.2.1 (X.2.2 - 1)) 2, X.2.1, X.2.2 - 1) : SnM)) th (((va_up X.1 (X.2.1 (X.2.2 - 1)) 2, X.2.1, X.2.2 - 1) : SnM).2.2), aL K (b 1) 10240 vv, aL K (b 2) 16 rv, aZ K (b 3) 10240 vr, aZ K (b 4) 16 rr, aZ K (b 5) 640 (sn_ir ((va_up X.1 (X.2.1 (X.2.2 - 1)) 2, X.2.1, X.2.2 - 1) : SnM)), aI K (b 6) 640 Z, aI K (b 7) 640 (sn_td ((va_up X.1 (X.2.1 (X.2.2 - 1)) 2, X.2.1, X.2.2 - 1) : SnM))] := by rw [sn_ir_bl hgr.1, sn_cr_bl hgr.1, sn_cc_bl hgr.1]; exact hD
                    have hz : Z (X.2.1 (X.2.2 - 1) - 1) ≤ 16 := hZ _
                    have loop3 : ∀ (nn : Nat) (j : Nat) (ls : Array Slot) (H : Heap) (locs : List Loc), Z (X.2.1 (X.2.2 - 1) - 1) - j < nn → (j ≤ Z (X.2.1 (X.2.2 - 1) - 1)) → lv_has ls 3 [(0, .ref (b 0)), (1, .int (nI (X.2.1 (X.2.2 - 1) - 1))), (2, .int (nI (16 * (X.2.1 (X.2.2 - 1) - 1) + j)))] → va_P D classes [cr0 b md pc (sn_cr (sn_shv 640 L (16 * (X.2.1 (X.2.2 - 1))) j ((va_up X.1 (X.2.1 (X.2.2 - 1)) 2, X.2.1, X.2.2 - 1) : SnM))) (sn_cc Z (sn_shv 640 L (16 * (X.2.1 (X.2.2 - 1))) j ((va_up X.1 (X.2.1 (X.2.2 - 1)) 2, X.2.1, X.2.2 - 1) : SnM))) th ((sn_shv 640 L (16 * (X.2.1 (X.2.2 - 1))) j ((va_up X.1 (X.2.1 (X.2.2 - 1)) 2, X.2.1, X.2.2 - 1) : SnM)).2.2), aL K (b 1) 10240 vv, aL K (b 2) 16 rv, aZ K (b 3) 10240 vr, aZ K (b 4) 16 rr, aZ K (b 5) 640 (sn_ir (sn_shv 640 L (16 * (X.2.1 (X.2.2 - 1))) j ((va_up X.1 (X.2.1 (X.2.2 - 1)) 2, X.2.1, X.2.2 - 1) : SnM))), aI K (b 6) 640 Z, aI K (b 7) 640 (sn_td (sn_shv 640 L (16 * (X.2.1 (X.2.2 - 1))) j ((va_up X.1 (X.2.1 (X.2.2 - 1)) 2, X.2.1, X.2.2 - 1) : SnM)))] H → va_D A [cr0 b md pc (sn_cr (sn_shv 640 L (16 * (X.2.1 (X.2.2 - 1))) j ((va_up X.1 (X.2.1 (X.2.2 - 1)) 2, X.2.1, X.2.2 - 1) : SnM))) (sn_cc Z (sn_shv 640 L (16 * (X.2.1 (X.2.2 - 1))) j ((va_up X.1 (X.2.1 (X.2.2 - 1)) 2, X.2.1, X.2.2 - 1) : SnM))) th ((sn_shv 640 L (16 * (X.2.1 (X.2.2 - 1))) j ((va_up X.1 (X.2.1 (X.2.2 - 1)) 2, X.2.1, X.2.2 - 1) : SnM)).2.2), aL K (b 1) 10240 vv, aL K (b 2) 16 rv, aZ K (b 3) 10240 vr, aZ K (b 4) 16 rr, aZ K (b 5) 640 (sn_ir (sn_shv 640 L (16 * (X.2.1 (X.2.2 - 1))) j ((va_up X.1 (X.2.1 (X.2.2 - 1)) 2, X.2.1, X.2.2 - 1) : SnM))), aI K (b 6) 640 Z, aI K (b 7) 640 (sn_td (sn_shv 640 L (16 * (X.2.1 (X.2.2 - 1))) j ((va_up X.1 (X.2.1 (X.2.2 - 1)) 2, X.2.1, X.2.2 - 1) : SnM)))] → va_S A s9.heap H locs → W P9 l E9 ({ frames := 1, cells := 0, slots := 0, locals := 23 }) s9 m9 args below M9 c9 H locs 0 0 Q (F0 m9 102 ls []) := by
                      intro nn
                      induction nn with
                      | zero => intro j ls H locs hn; exact absurd hn (Nat.not_lt_zero _)
                      | succ nn ih3 =>
                        intro j ls H locs hmu hj hl hP hD hS
                        have hxw := sn_shv_wl (sn_pop_wl hwl hw0) (L := L) hrep.2.2 (16 * (X.2.1 (X.2.2 - 1))) j
                        refine lv_iload_n hx hb d_Mo_reachAll_102 rfl (lv_at hl 2 rfl) ?_
                        refine lv_bipush (v := nI 16) hx hb d_Mo_reachAll_103 (by decide) ?_
                        refine lv_iload_n hx hb d_Mo_reachAll_105 rfl (lv_at hl 1 rfl) ?_
                        refine lv_imul hx hb d_Mo_reachAll_106 ?_
                        refine sn_topi (pk_mul _ _) ?_
                        refine lv_aload_n hx hb d_Mo_reachAll_107 rfl (lv_at hl 0 rfl) ?_
                        refine va_get (D := D) (ci := 6) (v := .ref (b 6)) (C := R_Mo) (T := F_Mo) (N := 15) hx hb hts in_Mo hown hK hP 0 rfl rfl 5 (by decide) (hts _ tw_659) (fun _ h9 => h9) rfl d_Mo_reachAll_108 ?_
                        refine lv_iload_n hx hb d_Mo_reachAll_111 rfl (lv_at hl 1 rfl) ?_
                        refine sn_iald nI Z (X.2.1 (X.2.2 - 1) - 1) hx hb hK hP 6 rfl (by omega) (by decide) d_Mo_reachAll_112 ?_
                        refine lv_iadd hx hb d_Mo_reachAll_113 ?_
                        refine sn_topi (nI_add _ _) ?_
                        refine sn_icmp_ge (by omega) (by omega) (tgt := 142) hx hb d_Mo_reachAll_114 (by decide) (fun h4 => ?_) (fun h4 => ?_)
                        · have ej : Z (X.2.1 (X.2.2 - 1) - 1) = j := by omega
                          subst ej
                          refine lv_goto (tgt := 70) hx hb d_Mo_reachAll_142 (by decide) ?_
                          rw [← sn_mark1_eq (Z := Z) (L := L) hw0 hgr.2] at hP hD
                          have hP : va_P D classes [cr0 b md pc (sn_cr (sn_mark1 640 (sn_S2 Z) L X)) (sn_cc Z (sn_mark1 640 (sn_S2 Z) L X)) th ((sn_mark1 640 (sn_S2 Z) L X).2.2), aL K (b 1) 10240 vv, aL K (b 2) 16 rv, aZ K (b 3) 10240 vr, aZ K (b 4) 16 rr, aZ K (b 5) 640 (sn_ir (sn_mark1 640 (sn_S2 Z) L X)), aI K (b 6) 640 Z, aI K (b 7) 640 (sn_td (sn_mark1 640 (sn_S2 Z) L X))] H := hP
                          have hD : va_D A [cr0 b md pc (sn_cr (sn_mark1 640 (sn_S2 Z) L X)) (sn_cc Z (sn_mark1 640 (sn_S2 Z) L X)) th ((sn_mark1 640 (sn_S2 Z) L X).2.2), aL K (b 1) 10240 vv, aL K (b 2) 16 rv, aZ K (b 3) 10240 vr, aZ K (b 4) 16 rr, aZ K (b 5) 640 (sn_ir (sn_mark1 640 (sn_S2 Z) L X)), aI K (b 6) 640 Z, aI K (b 7) 640 (sn_td (sn_mark1 640 (sn_S2 Z) L X))] := hD
                          have hl := lv_sub (l' := [(0, .ref (b 0))]) hl [0] rfl
                          exact ih2 (t + 1) (sn_mark1 640 (sn_S2 Z) L X) _ _ _ (by have := hmk.2.2; omega) (hmk.1) (hmk.2.1) (by have := hmk.2.2; omega) (by rw [← ew, show 640 - t = (640 - (t + 1)) + 1 by have := hmk.2.2; omega]; exact (if_pos hw0).symm) hl hP hD hS
                        · have hj2 : j < Z (X.2.1 (X.2.2 - 1) - 1) := by omega
                          have hrp := hrep.2.1 (16 * (X.2.1 (X.2.2 - 1) - 1) + j) (by omega)
                          rw [show 16 + (16 * (X.2.1 (X.2.2 - 1) - 1) + j) = 16 * (X.2.1 (X.2.2 - 1)) + j by omega] at hrp
                          refine lv_aload_n hx hb d_Mo_reachAll_117 rfl (lv_at hl 0 rfl) ?_
                          refine va_get (D := D) (ci := 6) (v := .ref (b 3)) (C := R_Mo) (T := F_Mo) (N := 15) hx hb hts in_Mo hown hK hP 0 rfl rfl 2 (by decide) (hts _ tw_656) (fun _ h9 => h9) rfl d_Mo_reachAll_118 ?_
                          refine lv_iload_n hx hb d_Mo_reachAll_121 rfl (lv_at hl 2 rfl) ?_
                          refine sn_zald vr (16 * (X.2.1 (X.2.2 - 1) - 1) + j) hx hb hK hP 3 rfl (by omega) (by decide) d_Mo_reachAll_122 ?_
                          refine sn_ifb_eq (tgt := 136) hx hb d_Mo_reachAll_123 (by decide) (fun h5 => ?_) (fun h5 => ?_)
                          · have hL0 : L (16 * (X.2.1 (X.2.2 - 1)) + j) = 0 := by have h8 := hrp.1; rw [h5] at h8; have h8 := h8.symm; exact Classical.byContradiction (fun h9 => by rw [decide_eq_true h9] at h8; cases h8)
                            refine lv_iinc (k := 2) (v := nI ((16 * (X.2.1 (X.2.2 - 1) - 1) + j) + 1)) (lv' := [(2, .int (nI ((16 * (X.2.1 (X.2.2 - 1) - 1) + j) + 1))), (0, .ref (b 0)), (1, .int (nI (X.2.1 (X.2.2 - 1) - 1)))]) hx hb d_Mo_reachAll_136 hl rfl (sn_inc _) (by decide) rfl (fun ls hl => ?_)
                            refine lv_goto (tgt := 102) hx hb d_Mo_reachAll_139 (by decide) ?_
                            have hxs : sn_shv 640 L (16 * (X.2.1 (X.2.2 - 1))) (j + 1) ((va_up X.1 (X.2.1 (X.2.2 - 1)) 2, X.2.1, X.2.2 - 1) : SnM) = sn_shv 640 L (16 * (X.2.1 (X.2.2 - 1))) j ((va_up X.1 (X.2.1 (X.2.2 - 1)) 2, X.2.1, X.2.2 - 1) : SnM) := by show sn_shade 640 (sn_shv 640 L (16 * (X.2.1 (X.2.2 - 1))) j ((va_up X.1 (X.2.1 (X.2.2 - 1)) 2, X.2.1, X.2.2 - 1) : SnM)) (L (16 * (X.2.1 (X.2.2 - 1)) + j)) = _; rw [hL0]; exact sn_shade_q0 _
                            rw [← hxs] at hP hD
                            have hP : va_P D classes [cr0 b md pc (sn_cr (sn_shv 640 L (16 * (X.2.1 (X.2.2 - 1))) (j + 1) ((va_up X.1 (X.2.1 (X.2.2 - 1)) 2, X.2.1, X.2.2 - 1) : SnM))) (sn_cc Z (sn_shv 640 L (16 * (X.2.1 (X.2.2 - 1))) (j + 1) ((va_up X.1 (X.2.1 (X.2.2 - 1)) 2, X.2.1, X.2.2 - 1) : SnM))) th ((sn_shv 640 L (16 * (X.2.1 (X.2.2 - 1))) (j + 1) ((va_up X.1 (X.2.1 (X.2.2 - 1)) 2, X.2.1, X.2.2 - 1) : SnM)).2.2), aL K (b 1) 10240 vv, aL K (b 2) 16 rv, aZ K (b 3) 10240 vr, aZ K (b 4) 16 rr, aZ K (b 5) 640 (sn_ir (sn_shv 640 L (16 * (X.2.1 (X.2.2 - 1))) (j + 1) ((va_up X.1 (X.2.1 (X.2.2 - 1)) 2, X.2.1, X.2.2 - 1) : SnM))), aI K (b 6) 640 Z, aI K (b 7) 640 (sn_td (sn_shv 640 L (16 * (X.2.1 (X.2.2 - 1))) (j + 1) ((va_up X.1 (X.2.1 (X.2.2 - 1)) 2, X.2.1, X.2.2 - 1) : SnM)))] H := hP
                            have hD : va_D A [cr0 b md pc (sn_cr (sn_shv 640 L (16 * (X.2.1 (X.2.2 - 1))) (j + 1) ((va_up X.1 (X.2.1 (X.2.2 - 1)) 2, X.2.1, X.2.2 - 1) : SnM))) (sn_cc Z (sn_shv 640 L (16 * (X.2.1 (X.2.2 - 1))) (j + 1) ((va_up X.1 (X.2.1 (X.2.2 - 1)) 2, X.2.1, X.2.2 - 1) : SnM))) th ((sn_shv 640 L (16 * (X.2.1 (X.2.2 - 1))) (j + 1) ((va_up X.1 (X.2.1 (X.2.2 - 1)) 2, X.2.1, X.2.2 - 1) : SnM)).2.2), aL K (b 1) 10240 vv, aL K (b 2) 16 rv, aZ K (b 3) 10240 vr, aZ K (b 4) 16 rr, aZ K (b 5) 640 (sn_ir (sn_shv 640 L (16 * (X.2.1 (X.2.2 - 1))) (j + 1) ((va_up X.1 (X.2.1 (X.2.2 - 1)) 2, X.2.1, X.2.2 - 1) : SnM))), aI K (b 6) 640 Z, aI K (b 7) 640 (sn_td (sn_shv 640 L (16 * (X.2.1 (X.2.2 - 1))) (j + 1) ((va_up X.1 (X.2.1 (X.2.2 - 1)) 2, X.2.1, X.2.2 - 1) : SnM)))] := hD
                            have hl := lv_sub (l' := [(0, .ref (b 0)), (1, .int (nI (X.2.1 (X.2.2 - 1) - 1))), (2, .int (nI (16 * (X.2.1 (X.2.2 - 1) - 1) + (j + 1))))]) hl [1, 2, 0] rfl
                            exact ih3 (j + 1) _ _ _ (by omega) (by omega) hl hP hD hS
                          · have hLj : L (16 * (X.2.1 (X.2.2 - 1)) + j) ≠ 0 := by have h8 := hrp.1; rw [h5] at h8; exact of_decide_eq_true h8.symm
                            have hLv := hrp.2 hLj
                            refine lv_aload_n hx hb d_Mo_reachAll_126 rfl (lv_at hl 0 rfl) ?_
                            refine lv_aload_n hx hb d_Mo_reachAll_127 rfl (lv_at hl 0 rfl) ?_
                            refine va_get (D := D) (ci := 6) (v := .ref (b 1)) (C := R_Mo) (T := F_Mo) (N := 15) hx hb hts in_Mo hown hK hP 0 rfl rfl 0 (by decide) (hts _ tw_654) (fun _ h9 => h9) rfl d_Mo_reachAll_128 ?_
                            refine lv_iload_n hx hb d_Mo_reachAll_131 rfl (lv_at hl 2 rfl) ?_
                            refine sn_lald vv (16 * (X.2.1 (X.2.2 - 1) - 1) + j) hx hb hK hP 1 rfl (by omega) (by decide) d_Mo_reachAll_132 ?_
                            refine sn_topl hLv ?_
                            refine sn_wrt (st1 := []) (w1 := [cr0 b md pc (sn_cr (sn_shade 640 (sn_shv 640 L (16 * (X.2.1 (X.2.2 - 1))) j ((va_up X.1 (X.2.1 (X.2.2 - 1)) 2, X.2.1, X.2.2 - 1) : SnM)) (L (16 * (X.2.1 (X.2.2 - 1)) + j)))) (sn_cc Z (sn_shade 640 (sn_shv 640 L (16 * (X.2.1 (X.2.2 - 1))) j ((va_up X.1 (X.2.1 (X.2.2 - 1)) 2, X.2.1, X.2.2 - 1) : SnM)) (L (16 * (X.2.1 (X.2.2 - 1)) + j)))) th ((sn_shade 640 (sn_shv 640 L (16 * (X.2.1 (X.2.2 - 1))) j ((va_up X.1 (X.2.1 (X.2.2 - 1)) 2, X.2.1, X.2.2 - 1) : SnM)) (L (16 * (X.2.1 (X.2.2 - 1)) + j))).2.2), aZ K (b 5) 640 (sn_ir (sn_shade 640 (sn_shv 640 L (16 * (X.2.1 (X.2.2 - 1))) j ((va_up X.1 (X.2.1 (X.2.2 - 1)) 2, X.2.1, X.2.2 - 1) : SnM)) (L (16 * (X.2.1 (X.2.2 - 1)) + j)))), aI K (b 7) 640 (sn_td (sn_shade 640 (sn_shv 640 L (16 * (X.2.1 (X.2.2 - 1))) j ((va_up X.1 (X.2.1 (X.2.2 - 1)) 2, X.2.1, X.2.2 - 1) : SnM)) (L (16 * (X.2.1 (X.2.2 - 1)) + j)))), aI K (b 6) 640 Z]) (va_runV (As := [.long (lN (L (16 * (X.2.1 (X.2.2 - 1)) + j) - 1))]) (rest := []) ⟨hx, hb, hml, hown, hts⟩ (c_Mo_reach l D K b md pc th Z (sn_shv 640 L (16 * (X.2.1 (X.2.2 - 1))) j ((va_up X.1 (X.2.1 (X.2.2 - 1)) 2, X.2.1, X.2.2 - 1) : SnM)) (L (16 * (X.2.1 (X.2.2 - 1)) + j)) (hxw.1) (by omega) (hrep.2.2 _)) ⟨callB_of 1 hts (tw_in cm_Mo_reach) rfl rfl rfl (hts _ gn_Mo) (hts _ tw_716) hd_Mo_reach ⟨Nat.le_of_ble_eq_true rfl, Nat.le_of_ble_eq_true rfl⟩, hts _ gi_Mo_reach, hts _ gs_Mo_reach⟩ (sn_preVW hK hN hP hD 0 rfl rfl [0, 5, 7, 6] rfl rfl) rfl rfl hl.1 rfl (lv_room (Nat.le_of_ble_eq_true rfl)) d_Mo_reachAll_133 ⟨Nat.zero_le _, Nat.zero_le _⟩) rfl hP hD hS [0, 5, 7, 6] rfl rfl (fun H locs hP hD hS => ?_)
                            have hP : va_P D classes [cr0 b md pc (sn_cr (sn_shade 640 (sn_shv 640 L (16 * (X.2.1 (X.2.2 - 1))) j ((va_up X.1 (X.2.1 (X.2.2 - 1)) 2, X.2.1, X.2.2 - 1) : SnM)) (L (16 * (X.2.1 (X.2.2 - 1)) + j)))) (sn_cc Z (sn_shade 640 (sn_shv 640 L (16 * (X.2.1 (X.2.2 - 1))) j ((va_up X.1 (X.2.1 (X.2.2 - 1)) 2, X.2.1, X.2.2 - 1) : SnM)) (L (16 * (X.2.1 (X.2.2 - 1)) + j)))) th ((sn_shade 640 (sn_shv 640 L (16 * (X.2.1 (X.2.2 - 1))) j ((va_up X.1 (X.2.1 (X.2.2 - 1)) 2, X.2.1, X.2.2 - 1) : SnM)) (L (16 * (X.2.1 (X.2.2 - 1)) + j))).2.2), aL K (b 1) 10240 vv, aL K (b 2) 16 rv, aZ K (b 3) 10240 vr, aZ K (b 4) 16 rr, aZ K (b 5) 640 (sn_ir (sn_shade 640 (sn_shv 640 L (16 * (X.2.1 (X.2.2 - 1))) j ((va_up X.1 (X.2.1 (X.2.2 - 1)) 2, X.2.1, X.2.2 - 1) : SnM)) (L (16 * (X.2.1 (X.2.2 - 1)) + j)))), aI K (b 6) 640 Z, aI K (b 7) 640 (sn_td (sn_shade 640 (sn_shv 640 L (16 * (X.2.1 (X.2.2 - 1))) j ((va_up X.1 (X.2.1 (X.2.2 - 1)) 2, X.2.1, X.2.2 - 1) : SnM)) (L (16 * (X.2.1 (X.2.2 - 1)) + j))))] H := hP
                            have hD : va_D A [cr0 b md pc (sn_cr (sn_shade 640 (sn_shv 640 L (16 * (X.2.1 (X.2.2 - 1))) j ((va_up X.1 (X.2.1 (X.2.2 - 1)) 2, X.2.1, X.2.2 - 1) : SnM)) (L (16 * (X.2.1 (X.2.2 - 1)) + j)))) (sn_cc Z (sn_shade 640 (sn_shv 640 L (16 * (X.2.1 (X.2.2 - 1))) j ((va_up X.1 (X.2.1 (X.2.2 - 1)) 2, X.2.1, X.2.2 - 1) : SnM)) (L (16 * (X.2.1 (X.2.2 - 1)) + j)))) th ((sn_shade 640 (sn_shv 640 L (16 * (X.2.1 (X.2.2 - 1))) j ((va_up X.1 (X.2.1 (X.2.2 - 1)) 2, X.2.1, X.2.2 - 1) : SnM)) (L (16 * (X.2.1 (X.2.2 - 1)) + j))).2.2), aL K (b 1) 10240 vv, aL K (b 2) 16 rv, aZ K (b 3) 10240 vr, aZ K (b 4) 16 rr, aZ K (b 5) 640 (sn_ir (sn_shade 640 (sn_shv 640 L (16 * (X.2.1 (X.2.2 - 1))) j ((va_up X.1 (X.2.1 (X.2.2 - 1)) 2, X.2.1, X.2.2 - 1) : SnM)) (L (16 * (X.2.1 (X.2.2 - 1)) + j)))), aI K (b 6) 640 Z, aI K (b 7) 640 (sn_td (sn_shade 640 (sn_shv 640 L (16 * (X.2.1 (X.2.2 - 1))) j ((va_up X.1 (X.2.1 (X.2.2 - 1)) 2, X.2.1, X.2.2 - 1) : SnM)) (L (16 * (X.2.1 (X.2.2 - 1)) + j))))] := hD
                            have hxs : sn_shv 640 L (16 * (X.2.1 (X.2.2 - 1))) (j + 1) ((va_up X.1 (X.2.1 (X.2.2 - 1)) 2, X.2.1, X.2.2 - 1) : SnM) = sn_shade 640 (sn_shv 640 L (16 * (X.2.1 (X.2.2 - 1))) j ((va_up X.1 (X.2.1 (X.2.2 - 1)) 2, X.2.1, X.2.2 - 1) : SnM)) (L (16 * (X.2.1 (X.2.2 - 1)) + j)) := rfl
                            rw [← hxs] at hP hD
                            refine lv_iinc (k := 2) (v := nI ((16 * (X.2.1 (X.2.2 - 1) - 1) + j) + 1)) (lv' := [(2, .int (nI ((16 * (X.2.1 (X.2.2 - 1) - 1) + j) + 1))), (0, .ref (b 0)), (1, .int (nI (X.2.1 (X.2.2 - 1) - 1)))]) hx hb d_Mo_reachAll_136 hl rfl (sn_inc _) (by decide) rfl (fun ls hl => ?_)
                            refine lv_goto (tgt := 102) hx hb d_Mo_reachAll_139 (by decide) ?_
                            have hl := lv_sub (l' := [(0, .ref (b 0)), (1, .int (nI (X.2.1 (X.2.2 - 1) - 1))), (2, .int (nI (16 * (X.2.1 (X.2.2 - 1) - 1) + (j + 1))))]) hl [1, 2, 0] rfl
                            exact ih3 (j + 1) _ _ _ (by omega) (by omega) hl hP hD hS
                    have hP : va_P D classes [cr0 b md pc (sn_cr (sn_shv 640 L (16 * (X.2.1 (X.2.2 - 1))) 0 ((va_up X.1 (X.2.1 (X.2.2 - 1)) 2, X.2.1, X.2.2 - 1) : SnM))) (sn_cc Z (sn_shv 640 L (16 * (X.2.1 (X.2.2 - 1))) 0 ((va_up X.1 (X.2.1 (X.2.2 - 1)) 2, X.2.1, X.2.2 - 1) : SnM))) th ((sn_shv 640 L (16 * (X.2.1 (X.2.2 - 1))) 0 ((va_up X.1 (X.2.1 (X.2.2 - 1)) 2, X.2.1, X.2.2 - 1) : SnM)).2.2), aL K (b 1) 10240 vv, aL K (b 2) 16 rv, aZ K (b 3) 10240 vr, aZ K (b 4) 16 rr, aZ K (b 5) 640 (sn_ir (sn_shv 640 L (16 * (X.2.1 (X.2.2 - 1))) 0 ((va_up X.1 (X.2.1 (X.2.2 - 1)) 2, X.2.1, X.2.2 - 1) : SnM))), aI K (b 6) 640 Z, aI K (b 7) 640 (sn_td (sn_shv 640 L (16 * (X.2.1 (X.2.2 - 1))) 0 ((va_up X.1 (X.2.1 (X.2.2 - 1)) 2, X.2.1, X.2.2 - 1) : SnM)))] H := hP
                    have hD : va_D A [cr0 b md pc (sn_cr (sn_shv 640 L (16 * (X.2.1 (X.2.2 - 1))) 0 ((va_up X.1 (X.2.1 (X.2.2 - 1)) 2, X.2.1, X.2.2 - 1) : SnM))) (sn_cc Z (sn_shv 640 L (16 * (X.2.1 (X.2.2 - 1))) 0 ((va_up X.1 (X.2.1 (X.2.2 - 1)) 2, X.2.1, X.2.2 - 1) : SnM))) th ((sn_shv 640 L (16 * (X.2.1 (X.2.2 - 1))) 0 ((va_up X.1 (X.2.1 (X.2.2 - 1)) 2, X.2.1, X.2.2 - 1) : SnM)).2.2), aL K (b 1) 10240 vv, aL K (b 2) 16 rv, aZ K (b 3) 10240 vr, aZ K (b 4) 16 rr, aZ K (b 5) 640 (sn_ir (sn_shv 640 L (16 * (X.2.1 (X.2.2 - 1))) 0 ((va_up X.1 (X.2.1 (X.2.2 - 1)) 2, X.2.1, X.2.2 - 1) : SnM))), aI K (b 6) 640 Z, aI K (b 7) 640 (sn_td (sn_shv 640 L (16 * (X.2.1 (X.2.2 - 1))) 0 ((va_up X.1 (X.2.1 (X.2.2 - 1)) 2, X.2.1, X.2.2 - 1) : SnM)))] := hD
                    have hl := lv_sub (l' := [(0, .ref (b 0)), (1, .int (nI (X.2.1 (X.2.2 - 1) - 1))), (2, .int (nI (16 * (X.2.1 (X.2.2 - 1) - 1) + 0)))]) hl [2, 1, 0] rfl
                    exact loop3 _ 0 _ _ _ (Nat.lt_succ_self _) (by omega) hl hP hD hS
              have hP : va_P D classes [cr0 b md pc (sn_cr (sn_xr L Td 16)) (sn_cc Z (sn_xr L Td 16)) th ((sn_xr L Td 16).2.2), aL K (b 1) 10240 vv, aL K (b 2) 16 rv, aZ K (b 3) 10240 vr, aZ K (b 4) 16 rr, aZ K (b 5) 640 (sn_ir (sn_xr L Td 16)), aI K (b 6) 640 Z, aI K (b 7) 640 (sn_td (sn_xr L Td 16))] H := hP
              have hD : va_D A [cr0 b md pc (sn_cr (sn_xr L Td 16)) (sn_cc Z (sn_xr L Td 16)) th ((sn_xr L Td 16).2.2), aL K (b 1) 10240 vv, aL K (b 2) 16 rv, aZ K (b 3) 10240 vr, aZ K (b 4) 16 rr, aZ K (b 5) 640 (sn_ir (sn_xr L Td 16)), aI K (b 6) 640 Z, aI K (b 7) 640 (sn_td (sn_xr L Td 16))] := hD
              have hl := lv_sub (l' := [(0, .ref (b 0))]) hl [0] rfl
              exact loop2 _ 0 (sn_xr L Td 16) _ _ _ (Nat.lt_succ_self _) ((sn_xr_wl (L := L) (Td := Td) hrep.2.2 16).1) ((sn_xr_wl (L := L) (Td := Td) hrep.2.2 16).2) (sn_nb_le6 _) (sn_xf_eq Z L Td) hl hP hD hS
            · refine lv_aload_n hx hb d_Mo_reachAll_45 rfl (lv_at hl 0 rfl) ?_
              refine va_get (D := D) (ci := 6) (v := .ref (b 4)) (C := R_Mo) (T := F_Mo) (N := 15) hx hb hts in_Mo hown hK hP 0 rfl rfl 3 (by decide) (hts _ tw_657) (fun _ h9 => h9) rfl d_Mo_reachAll_46 ?_
              refine lv_iload_n hx hb d_Mo_reachAll_49 rfl (lv_at hl 1 rfl) ?_
              refine sn_zald rr i hx hb hK hP 4 rfl (by omega) (by decide) d_Mo_reachAll_50 ?_
              refine sn_ifb_eq (tgt := 64) hx hb d_Mo_reachAll_51 (by decide) (fun h3 => ?_) (fun h3 => ?_)
              · have hL0 : L i = 0 := by have h8 := (hrep.1 i (by omega)).1; rw [h3] at h8; have h8 := h8.symm; exact Classical.byContradiction (fun h9 => by rw [decide_eq_true h9] at h8; cases h8)
                refine lv_iinc (k := 1) (v := nI (i + 1)) (lv' := [(1, .int (nI (i + 1))), (0, .ref (b 0))]) hx hb d_Mo_reachAll_64 hl rfl (sn_inc _) (by decide) rfl (fun ls hl => ?_)
                refine lv_goto (tgt := 39) hx hb d_Mo_reachAll_67 (by decide) ?_
                have hxs : sn_xr L Td (i + 1) = sn_xr L Td i := by show sn_shade 640 (sn_xr L Td i) (L (0 + i)) = _; rw [Nat.zero_add, hL0]; exact sn_shade_q0 _
                rw [← hxs] at hP hD
                have hP : va_P D classes [cr0 b md pc (sn_cr (sn_xr L Td (i + 1))) (sn_cc Z (sn_xr L Td (i + 1))) th ((sn_xr L Td (i + 1)).2.2), aL K (b 1) 10240 vv, aL K (b 2) 16 rv, aZ K (b 3) 10240 vr, aZ K (b 4) 16 rr, aZ K (b 5) 640 (sn_ir (sn_xr L Td (i + 1))), aI K (b 6) 640 Z, aI K (b 7) 640 (sn_td (sn_xr L Td (i + 1)))] H := hP
                have hD : va_D A [cr0 b md pc (sn_cr (sn_xr L Td (i + 1))) (sn_cc Z (sn_xr L Td (i + 1))) th ((sn_xr L Td (i + 1)).2.2), aL K (b 1) 10240 vv, aL K (b 2) 16 rv, aZ K (b 3) 10240 vr, aZ K (b 4) 16 rr, aZ K (b 5) 640 (sn_ir (sn_xr L Td (i + 1))), aI K (b 6) 640 Z, aI K (b 7) 640 (sn_td (sn_xr L Td (i + 1)))] := hD
                have hl := lv_sub (l' := [(0, .ref (b 0)), (1, .int (nI (i + 1)))]) hl [1, 0] rfl
                exact ih1 (i + 1) _ _ _ (by omega) (by omega) hl hP hD hS
              · have hLi : L i ≠ 0 := by have h8 := (hrep.1 i (by omega)).1; rw [h3] at h8; exact of_decide_eq_true h8.symm
                refine lv_aload_n hx hb d_Mo_reachAll_54 rfl (lv_at hl 0 rfl) ?_
                refine lv_aload_n hx hb d_Mo_reachAll_55 rfl (lv_at hl 0 rfl) ?_
                refine va_get (D := D) (ci := 6) (v := .ref (b 2)) (C := R_Mo) (T := F_Mo) (N := 15) hx hb hts in_Mo hown hK hP 0 rfl rfl 1 (by decide) (hts _ tw_655) (fun _ h9 => h9) rfl d_Mo_reachAll_56 ?_
                refine lv_iload_n hx hb d_Mo_reachAll_59 rfl (lv_at hl 1 rfl) ?_
                refine sn_lald rv i hx hb hK hP 2 rfl (by omega) (by decide) d_Mo_reachAll_60 ?_
                refine sn_topl ((hrep.1 i (by omega)).2 hLi) ?_
                refine sn_wrt (st1 := []) (w1 := [cr0 b md pc (sn_cr (sn_shade 640 (sn_xr L Td i) (L i))) (sn_cc Z (sn_shade 640 (sn_xr L Td i) (L i))) th ((sn_shade 640 (sn_xr L Td i) (L i)).2.2), aZ K (b 5) 640 (sn_ir (sn_shade 640 (sn_xr L Td i) (L i))), aI K (b 7) 640 (sn_td (sn_shade 640 (sn_xr L Td i) (L i))), aI K (b 6) 640 Z]) (va_runV (As := [.long (lN (L i - 1))]) (rest := []) ⟨hx, hb, hml, hown, hts⟩ (c_Mo_reach l D K b md pc th Z (sn_xr L Td i) (L i) (hxw.1) (by omega) (hrep.2.2 _)) ⟨callB_of 1 hts (tw_in cm_Mo_reach) rfl rfl rfl (hts _ gn_Mo) (hts _ tw_716) hd_Mo_reach ⟨Nat.le_of_ble_eq_true rfl, Nat.le_of_ble_eq_true rfl⟩, hts _ gi_Mo_reach, hts _ gs_Mo_reach⟩ (sn_preVW hK hN hP hD 0 rfl rfl [0, 5, 7, 6] rfl rfl) rfl rfl hl.1 rfl (lv_room (Nat.le_of_ble_eq_true rfl)) d_Mo_reachAll_61 ⟨Nat.zero_le _, Nat.zero_le _⟩) rfl hP hD hS [0, 5, 7, 6] rfl rfl (fun H locs hP hD hS => ?_)
                have hP : va_P D classes [cr0 b md pc (sn_cr (sn_shade 640 (sn_xr L Td i) (L i))) (sn_cc Z (sn_shade 640 (sn_xr L Td i) (L i))) th ((sn_shade 640 (sn_xr L Td i) (L i)).2.2), aL K (b 1) 10240 vv, aL K (b 2) 16 rv, aZ K (b 3) 10240 vr, aZ K (b 4) 16 rr, aZ K (b 5) 640 (sn_ir (sn_shade 640 (sn_xr L Td i) (L i))), aI K (b 6) 640 Z, aI K (b 7) 640 (sn_td (sn_shade 640 (sn_xr L Td i) (L i)))] H := hP
                have hD : va_D A [cr0 b md pc (sn_cr (sn_shade 640 (sn_xr L Td i) (L i))) (sn_cc Z (sn_shade 640 (sn_xr L Td i) (L i))) th ((sn_shade 640 (sn_xr L Td i) (L i)).2.2), aL K (b 1) 10240 vv, aL K (b 2) 16 rv, aZ K (b 3) 10240 vr, aZ K (b 4) 16 rr, aZ K (b 5) 640 (sn_ir (sn_shade 640 (sn_xr L Td i) (L i))), aI K (b 6) 640 Z, aI K (b 7) 640 (sn_td (sn_shade 640 (sn_xr L Td i) (L i)))] := hD
                have hxs : sn_xr L Td (i + 1) = sn_shade 640 (sn_xr L Td i) (L i) := by show sn_shade 640 (sn_xr L Td i) (L (0 + i)) = _; rw [Nat.zero_add]
                rw [← hxs] at hP hD
                refine lv_iinc (k := 1) (v := nI (i + 1)) (lv' := [(1, .int (nI (i + 1))), (0, .ref (b 0))]) hx hb d_Mo_reachAll_64 hl rfl (sn_inc _) (by decide) rfl (fun ls hl => ?_)
                refine lv_goto (tgt := 39) hx hb d_Mo_reachAll_67 (by decide) ?_
                have hl := lv_sub (l' := [(0, .ref (b 0)), (1, .int (nI (i + 1)))]) hl [1, 0] rfl
                exact ih1 (i + 1) _ _ _ (by omega) (by omega) hl hP hD hS
        have hP : va_P D classes [cr0 b md pc (sn_cr (sn_xr L Td 0)) (sn_cc Z (sn_xr L Td 0)) th ((sn_xr L Td 0).2.2), aL K (b 1) 10240 vv, aL K (b 2) 16 rv, aZ K (b 3) 10240 vr, aZ K (b 4) 16 rr, aZ K (b 5) 640 (sn_ir (sn_xr L Td 0)), aI K (b 6) 640 Z, aI K (b 7) 640 (sn_td (sn_xr L Td 0))] H := hP
        have hD : va_D A [cr0 b md pc (sn_cr (sn_xr L Td 0)) (sn_cc Z (sn_xr L Td 0)) th ((sn_xr L Td 0).2.2), aL K (b 1) 10240 vv, aL K (b 2) 16 rv, aZ K (b 3) 10240 vr, aZ K (b 4) 16 rr, aZ K (b 5) 640 (sn_ir (sn_xr L Td 0)), aI K (b 6) 640 Z, aI K (b 7) 640 (sn_td (sn_xr L Td 0))] := hD
        have hl := lv_sub (l' := [(0, .ref (b 0)), (1, .int (nI 0))]) hl [1, 0] rfl
        exact loop1 _ 0 _ _ _ (Nat.lt_succ_self _) (by omega) hl hP hD hS
      · refine lv_aload_n hx hb d_Mo_reachAll_9 rfl (lv_at hl 0 rfl) ?_
        refine va_get (D := D) (ci := 6) (v := .ref (b 5)) (C := R_Mo) (T := F_Mo) (N := 15) hx hb hts in_Mo hown hK hP 0 rfl rfl 4 (by decide) (hts _ tw_658) (fun _ h9 => h9) rfl d_Mo_reachAll_10 ?_
        refine lv_iload_n hx hb d_Mo_reachAll_13 rfl (lv_at hl 1 rfl) ?_
        refine lv_iconst (v := nI 0) hx hb d_Mo_reachAll_14 (by decide) ?_
        refine sn_zast (sn_clr Ir 0 i false) i false hx hb hK hP hD hS 5 rfl (by omega) (by decide) d_Mo_reachAll_15 (fun H locs hP hD hS => ?_)
        have hP : va_P D classes [cr0 b md pc re ce th tp, aL K (b 1) 10240 vv, aL K (b 2) 16 rv, aZ K (b 3) 10240 vr, aZ K (b 4) 16 rr, aZ K (b 5) 640 (va_up (sn_clr Ir 0 i false) i false), aI K (b 6) 640 Z, aI K (b 7) 640 Td] H := hP
        have hD : va_D A [cr0 b md pc re ce th tp, aL K (b 1) 10240 vv, aL K (b 2) 16 rv, aZ K (b 3) 10240 vr, aZ K (b 4) 16 rr, aZ K (b 5) 640 (va_up (sn_clr Ir 0 i false) i false), aI K (b 6) 640 Z, aI K (b 7) 640 Td] := hD
        refine lv_iinc (k := 1) (v := nI (i + 1)) (lv' := [(1, .int (nI (i + 1))), (0, .ref (b 0))]) hx hb d_Mo_reachAll_16 hl rfl (sn_inc _) (by decide) rfl (fun ls hl => ?_)
        refine lv_goto (tgt := 2) hx hb d_Mo_reachAll_19 (by decide) ?_
        have hP : va_P D classes [cr0 b md pc re ce th tp, aL K (b 1) 10240 vv, aL K (b 2) 16 rv, aZ K (b 3) 10240 vr, aZ K (b 4) 16 rr, aZ K (b 5) 640 (sn_clr Ir 0 (i + 1) false), aI K (b 6) 640 Z, aI K (b 7) 640 Td] H := by rw [← sn_clr_s0]; exact hP
        have hD : va_D A [cr0 b md pc re ce th tp, aL K (b 1) 10240 vv, aL K (b 2) 16 rv, aZ K (b 3) 10240 vr, aZ K (b 4) 16 rr, aZ K (b 5) 640 (sn_clr Ir 0 (i + 1) false), aI K (b 6) 640 Z, aI K (b 7) 640 Td] := by rw [← sn_clr_s0]; exact hD
        have hl := lv_sub (l' := [(0, .ref (b 0)), (1, .int (nI (i + 1)))]) hl [1, 0] rfl
        exact ih0 (i + 1) _ _ _ (by omega) (by omega) hl hP hD hS
  have hP : va_P D classes [cr0 b md pc re ce th tp, aL K (b 1) 10240 vv, aL K (b 2) 16 rv, aZ K (b 3) 10240 vr, aZ K (b 4) 16 rr, aZ K (b 5) 640 (sn_clr Ir 0 0 false), aI K (b 6) 640 Z, aI K (b 7) 640 Td] s9.heap := by rw [sn_clr_0]; exact hP
  have hD : va_D A [cr0 b md pc re ce th tp, aL K (b 1) 10240 vv, aL K (b 2) 16 rv, aZ K (b 3) 10240 vr, aZ K (b 4) 16 rr, aZ K (b 5) 640 (sn_clr Ir 0 0 false), aI K (b 6) 640 Z, aI K (b 7) 640 Td] := by rw [sn_clr_0]; exact hD
  have hl := lv_sub (l' := [(0, .ref (b 0)), (1, .int (nI 0))]) hl [1, 0] rfl
  exact loop0 _ 0 _ _ _ (Nat.lt_succ_self _) (by omega) hl hP hD hS
set_option maxHeartbeats 1000000 in
set_option maxRecDepth 100000 in
theorem c_Mo_number (l : Launch) (D : va_G) (K : Nat → ClassId) (b : Nat → Nat) (md : Nat) (pc : Nat) (re : Nat) (ce : Nat) (th : Nat) (tp : Nat) (rv : Nat → Int64) (rr : Nat → Bool) (r : Nat) (v : Int64) (hr : r < 16) : Met l y_Mo_number w_Mo_number ({ frames := 1, cells := 0, slots := 0, locals := 20 }) (va_Pc [.ref (b 0), .int (nI r), .long v] (sn_BW D K [cr0 b md pc re ce th tp, aL K (b 2) 16 rv, aZ K (b 4) 16 rr])) (sn_Q D [cr0 b md pc re ce th tp, aL K (b 2) 16 rv, aZ K (b 4) 16 rr] [cr0 b md pc re ce 0 tp, aL K (b 2) 16 (va_up rv r v), aZ K (b 4) 16 (va_up rr r false)] none) 0 0 (sn_A [cr0 b md pc re ce th tp, aL K (b 2) 16 rv, aZ K (b 4) 16 rr]) := by
  refine sn_met (own := R_Mo) (by decide +kernel) rfl rfl (Nat.le_of_ble_eq_true rfl) ?_
  intro P9 E9 s9 m9 args below M9 c9 ls Q hQ hx hb hml hrt hlk hts hown hnm hl hB
  obtain ⟨⟨hP, hK, hN⟩, hD⟩ := hB
  have hl : lv_has ls 4 [(0, .ref (b 0)), (1, .int (nI r)), (2, .long v)] := hl
  have hD := sn_DA hD
  have hS : va_S (sn_A [cr0 b md pc re ce th tp, aL K (b 2) 16 rv, aZ K (b 4) 16 rr]) s9.heap s9.heap [] := va_S.rf
  generalize hAe : sn_A [cr0 b md pc re ce th tp, aL K (b 2) 16 rv, aZ K (b 4) 16 rr] = A at hD hS
  refine lv_aload_n hx hb d_Mo_number_0 rfl (lv_at hl 0 rfl) ?_
  refine lv_iload_n hx hb d_Mo_number_1 rfl (lv_at hl 1 rfl) ?_
  refine sn_rd (st1 := [.int (zb (decide (True))), .ref (b 0)]) (va_runS (As := [.int (nI r)]) (rest := [.ref (b 0)]) ⟨hx, hb, hml, hown, hts⟩ (c_Mo_isRoot l D K r (by omega)) ⟨callB_of 1 hts (tw_in cm_Mo_isRoot) rfl rfl rfl (hts _ gn_Mo) (hts _ tw_709) hd_Mo_isRoot ⟨Nat.le_of_ble_eq_true rfl, Nat.le_of_ble_eq_true rfl⟩, hts _ gt_Mo_isRoot⟩ (sn_preS hK hN hP [] rfl) rfl rfl hl.1 rfl (lv_room (Nat.le_of_ble_eq_true rfl)) d_Mo_number_2 ⟨Nat.zero_le _, Nat.zero_le _⟩) rfl ?_
  refine sn_ifz_eq (tgt := 12) hx hb d_Mo_number_5 (by decide) (fun h1 => ?_) (fun h1 => ?_)
  · exact absurd trivial h1
  · refine lv_iconst (v := nI 0) hx hb d_Mo_number_8 (by decide) ?_
    refine lv_goto (tgt := 13) hx hb d_Mo_number_9 (by decide) ?_
    refine va_put (D := D) (ci := 6) (v := .int (nI 0)) (ty := .int) (C := R_Mo) (T := F_Mo) (N := 15) hx hb hts in_Mo t_Mo t_Mo_ok n_Mo hown hK hP hD hS 0 rfl rfl 13 (by decide) (hts _ tw_667) (fun _ h9 => h9) rfl (by decide +kernel) rfl rfl (Nat.le_of_ble_eq_true rfl) d_Mo_number_13 (fun H locs hP hD hS => ?_)
    have hP : va_P D classes [cr0 b md pc re ce 0 tp, aL K (b 2) 16 rv, aZ K (b 4) 16 rr] H := hP
    have hD : va_D A [cr0 b md pc re ce 0 tp, aL K (b 2) 16 rv, aZ K (b 4) 16 rr] := hD
    refine lv_aload_n hx hb d_Mo_number_16 rfl (lv_at hl 0 rfl) ?_
    refine va_get (D := D) (ci := 6) (v := .int (nI 0)) (C := R_Mo) (T := F_Mo) (N := 15) hx hb hts in_Mo hown hK hP 0 rfl rfl 13 (by decide) (hts _ tw_667) (fun _ h9 => h9) rfl d_Mo_number_17 ?_
    refine sn_if_le (by omega) (tgt := 24) hx hb d_Mo_number_20 (by decide) (fun h2 => ?_) (fun h2 => ?_)
    · refine lv_aload_n hx hb d_Mo_number_24 rfl (lv_at hl 0 rfl) ?_
      refine va_get (D := D) (ci := 6) (v := .ref (b 2)) (C := R_Mo) (T := F_Mo) (N := 15) hx hb hts in_Mo hown hK hP 0 rfl rfl 1 (by decide) (hts _ tw_655) (fun _ h9 => h9) rfl d_Mo_number_25 ?_
      refine lv_iload_n hx hb d_Mo_number_28 rfl (lv_at hl 1 rfl) ?_
      refine lv_lload_n hx hb d_Mo_number_29 rfl (lv_at hl 2 rfl) ?_
      refine sn_last rv r v hx hb hK hP hD hS 1 rfl (by omega) (by decide) d_Mo_number_30 (fun H locs hP hD hS => ?_)
      have hP : va_P D classes [cr0 b md pc re ce 0 tp, aL K (b 2) 16 (va_up rv r v), aZ K (b 4) 16 rr] H := hP
      have hD : va_D A [cr0 b md pc re ce 0 tp, aL K (b 2) 16 (va_up rv r v), aZ K (b 4) 16 rr] := hD
      refine lv_aload_n hx hb d_Mo_number_31 rfl (lv_at hl 0 rfl) ?_
      refine va_get (D := D) (ci := 6) (v := .ref (b 4)) (C := R_Mo) (T := F_Mo) (N := 15) hx hb hts in_Mo hown hK hP 0 rfl rfl 3 (by decide) (hts _ tw_657) (fun _ h9 => h9) rfl d_Mo_number_32 ?_
      refine lv_iload_n hx hb d_Mo_number_35 rfl (lv_at hl 1 rfl) ?_
      refine lv_iconst (v := nI 0) hx hb d_Mo_number_36 (by decide) ?_
      refine sn_zast rr r false hx hb hK hP hD hS 2 rfl (by omega) (by decide) d_Mo_number_37 (fun H locs hP hD hS => ?_)
      have hP : va_P D classes [cr0 b md pc re ce 0 tp, aL K (b 2) 16 (va_up rv r v), aZ K (b 4) 16 (va_up rr r false)] H := hP
      have hD : va_D A [cr0 b md pc re ce 0 tp, aL K (b 2) 16 (va_up rv r v), aZ K (b 4) 16 (va_up rr r false)] := hD
      subst hAe
      exact sx_wv hQ hx hb hrt hlk hP hS d_Mo_number_38
    · omega
set_option maxHeartbeats 1000000 in
set_option maxRecDepth 100000 in
theorem c_Mo_number_b (l : Launch) (D : va_G) (K : Nat → ClassId) (b : Nat → Nat) (md : Nat) (pc : Nat) (re : Nat) (ce : Nat) (th : Nat) (tp : Nat) (r : Int32) (v : Int64) (hb9 : r < 0 ∨ nI 16 ≤ r) : Met l y_Mo_number w_Mo_number ({ frames := 1, cells := 0, slots := 0, locals := 20 }) (va_Pc [.ref (b 0), .int r, .long v] (sn_BW D K [cr0 b md pc re ce th tp])) (sn_Q D [cr0 b md pc re ce th tp] [cr0 b md pc re ce 1 tp] none) 0 0 (sn_A [cr0 b md pc re ce th tp]) := by
  refine sn_met (own := R_Mo) (by decide +kernel) rfl rfl (Nat.le_of_ble_eq_true rfl) ?_
  intro P9 E9 s9 m9 args below M9 c9 ls Q hQ hx hb hml hrt hlk hts hown hnm hl hB
  obtain ⟨⟨hP, hK, hN⟩, hD⟩ := hB
  have hl : lv_has ls 4 [(0, .ref (b 0)), (1, .int r), (2, .long v)] := hl
  have hD := sn_DA hD
  have hS : va_S (sn_A [cr0 b md pc re ce th tp]) s9.heap s9.heap [] := va_S.rf
  generalize hAe : sn_A [cr0 b md pc re ce th tp] = A at hD hS
  refine lv_aload_n hx hb d_Mo_number_0 rfl (lv_at hl 0 rfl) ?_
  refine lv_iload_n hx hb d_Mo_number_1 rfl (lv_at hl 1 rfl) ?_
  refine sn_rd (st1 := [.int (zb (decide (False))), .ref (b 0)]) (va_runS (As := [.int r]) (rest := [.ref (b 0)]) ⟨hx, hb, hml, hown, hts⟩ (c_Mo_isRoot_b l D K r (hb9)) ⟨callB_of 1 hts (tw_in cm_Mo_isRoot) rfl rfl rfl (hts _ gn_Mo) (hts _ tw_709) hd_Mo_isRoot ⟨Nat.le_of_ble_eq_true rfl, Nat.le_of_ble_eq_true rfl⟩, hts _ gt_Mo_isRoot⟩ (sn_preS hK hN hP [] rfl) rfl rfl hl.1 rfl (lv_room (Nat.le_of_ble_eq_true rfl)) d_Mo_number_2 ⟨Nat.zero_le _, Nat.zero_le _⟩) rfl ?_
  refine sn_ifz_eq (tgt := 12) hx hb d_Mo_number_5 (by decide) (fun h1 => ?_) (fun h1 => ?_)
  · refine lv_iconst (v := nI 1) hx hb d_Mo_number_12 (by decide) ?_
    refine va_put (D := D) (ci := 6) (v := .int (nI 1)) (ty := .int) (C := R_Mo) (T := F_Mo) (N := 15) hx hb hts in_Mo t_Mo t_Mo_ok n_Mo hown hK hP hD hS 0 rfl rfl 13 (by decide) (hts _ tw_667) (fun _ h9 => h9) rfl (by decide +kernel) rfl rfl (Nat.le_of_ble_eq_true rfl) d_Mo_number_13 (fun H locs hP hD hS => ?_)
    have hP : va_P D classes [cr0 b md pc re ce 1 tp] H := hP
    have hD : va_D A [cr0 b md pc re ce 1 tp] := hD
    refine lv_aload_n hx hb d_Mo_number_16 rfl (lv_at hl 0 rfl) ?_
    refine va_get (D := D) (ci := 6) (v := .int (nI 1)) (C := R_Mo) (T := F_Mo) (N := 15) hx hb hts in_Mo hown hK hP 0 rfl rfl 13 (by decide) (hts _ tw_667) (fun _ h9 => h9) rfl d_Mo_number_17 ?_
    refine sn_if_le (by omega) (tgt := 24) hx hb d_Mo_number_20 (by decide) (fun h2 => ?_) (fun h2 => ?_)
    · omega
    · subst hAe
      exact sx_wv hQ hx hb hrt hlk hP hS d_Mo_number_23
  · exact h1.elim
set_option maxHeartbeats 1000000 in
set_option maxRecDepth 100000 in
theorem c_Mo_copy (l : Launch) (D : va_G) (K : Nat → ClassId) (b : Nat → Nat) (md : Nat) (pc : Nat) (re : Nat) (ce : Nat) (th : Nat) (tp : Nat) (rv : Nat → Int64) (rr : Nat → Bool) (r : Nat) (s : Nat) (hr : r < 16) (hs : s < 16) : Met l y_Mo_copy w_Mo_copy ({ frames := 1, cells := 0, slots := 0, locals := 20 }) (va_Pc [.ref (b 0), .int (nI r), .int (nI s)] (sn_BW D K [cr0 b md pc re ce th tp, aL K (b 2) 16 rv, aZ K (b 4) 16 rr])) (sn_Q D [cr0 b md pc re ce th tp, aL K (b 2) 16 rv, aZ K (b 4) 16 rr] [cr0 b md pc re ce 0 tp, aL K (b 2) 16 (va_up rv r (rv s)), aZ K (b 4) 16 (va_up rr r (rr s))] none) 0 0 (sn_A [cr0 b md pc re ce th tp, aL K (b 2) 16 rv, aZ K (b 4) 16 rr]) := by
  refine sn_met (own := R_Mo) (by decide +kernel) rfl rfl (Nat.le_of_ble_eq_true rfl) ?_
  intro P9 E9 s9 m9 args below M9 c9 ls Q hQ hx hb hml hrt hlk hts hown hnm hl hB
  obtain ⟨⟨hP, hK, hN⟩, hD⟩ := hB
  have hl : lv_has ls 3 [(0, .ref (b 0)), (1, .int (nI r)), (2, .int (nI s))] := hl
  have hD := sn_DA hD
  have hS : va_S (sn_A [cr0 b md pc re ce th tp, aL K (b 2) 16 rv, aZ K (b 4) 16 rr]) s9.heap s9.heap [] := va_S.rf
  generalize hAe : sn_A [cr0 b md pc re ce th tp, aL K (b 2) 16 rv, aZ K (b 4) 16 rr] = A at hD hS
  refine lv_aload_n hx hb d_Mo_copy_0 rfl (lv_at hl 0 rfl) ?_
  refine lv_iload_n hx hb d_Mo_copy_1 rfl (lv_at hl 1 rfl) ?_
  refine sn_rd (st1 := [.int (zb (decide (True))), .ref (b 0)]) (va_runS (As := [.int (nI r)]) (rest := [.ref (b 0)]) ⟨hx, hb, hml, hown, hts⟩ (c_Mo_isRoot l D K r (by omega)) ⟨callB_of 1 hts (tw_in cm_Mo_isRoot) rfl rfl rfl (hts _ gn_Mo) (hts _ tw_709) hd_Mo_isRoot ⟨Nat.le_of_ble_eq_true rfl, Nat.le_of_ble_eq_true rfl⟩, hts _ gt_Mo_isRoot⟩ (sn_preS hK hN hP [] rfl) rfl rfl hl.1 rfl (lv_room (Nat.le_of_ble_eq_true rfl)) d_Mo_copy_2 ⟨Nat.zero_le _, Nat.zero_le _⟩) rfl ?_
  refine sn_ifz_eq (tgt := 19) hx hb d_Mo_copy_5 (by decide) (fun h1 => ?_) (fun h1 => ?_)
  · exact absurd trivial h1
  · refine lv_iload_n hx hb d_Mo_copy_8 rfl (lv_at hl 2 rfl) ?_
    refine sn_rd (st1 := [.int (zb (decide (True))), .ref (b 0)]) (va_runS (As := [.int (nI s)]) (rest := [.ref (b 0)]) ⟨hx, hb, hml, hown, hts⟩ (c_Mo_isRoot l D K s (by omega)) ⟨callB_of 1 hts (tw_in cm_Mo_isRoot) rfl rfl rfl (hts _ gn_Mo) (hts _ tw_709) hd_Mo_isRoot ⟨Nat.le_of_ble_eq_true rfl, Nat.le_of_ble_eq_true rfl⟩, hts _ gt_Mo_isRoot⟩ (sn_preS hK hN hP [] rfl) rfl rfl hl.1 rfl (lv_room (Nat.le_of_ble_eq_true rfl)) d_Mo_copy_9 ⟨Nat.zero_le _, Nat.zero_le _⟩) rfl ?_
    refine sn_ifz_eq (tgt := 19) hx hb d_Mo_copy_12 (by decide) (fun h2 => ?_) (fun h2 => ?_)
    · exact absurd trivial h2
    · refine lv_iconst (v := nI 0) hx hb d_Mo_copy_15 (by decide) ?_
      refine lv_goto (tgt := 20) hx hb d_Mo_copy_16 (by decide) ?_
      refine va_put (D := D) (ci := 6) (v := .int (nI 0)) (ty := .int) (C := R_Mo) (T := F_Mo) (N := 15) hx hb hts in_Mo t_Mo t_Mo_ok n_Mo hown hK hP hD hS 0 rfl rfl 13 (by decide) (hts _ tw_667) (fun _ h9 => h9) rfl (by decide +kernel) rfl rfl (Nat.le_of_ble_eq_true rfl) d_Mo_copy_20 (fun H locs hP hD hS => ?_)
      have hP : va_P D classes [cr0 b md pc re ce 0 tp, aL K (b 2) 16 rv, aZ K (b 4) 16 rr] H := hP
      have hD : va_D A [cr0 b md pc re ce 0 tp, aL K (b 2) 16 rv, aZ K (b 4) 16 rr] := hD
      refine lv_aload_n hx hb d_Mo_copy_23 rfl (lv_at hl 0 rfl) ?_
      refine va_get (D := D) (ci := 6) (v := .int (nI 0)) (C := R_Mo) (T := F_Mo) (N := 15) hx hb hts in_Mo hown hK hP 0 rfl rfl 13 (by decide) (hts _ tw_667) (fun _ h9 => h9) rfl d_Mo_copy_24 ?_
      refine sn_if_le (by omega) (tgt := 31) hx hb d_Mo_copy_27 (by decide) (fun h3 => ?_) (fun h3 => ?_)
      · refine lv_aload_n hx hb d_Mo_copy_31 rfl (lv_at hl 0 rfl) ?_
        refine va_get (D := D) (ci := 6) (v := .ref (b 2)) (C := R_Mo) (T := F_Mo) (N := 15) hx hb hts in_Mo hown hK hP 0 rfl rfl 1 (by decide) (hts _ tw_655) (fun _ h9 => h9) rfl d_Mo_copy_32 ?_
        refine lv_iload_n hx hb d_Mo_copy_35 rfl (lv_at hl 1 rfl) ?_
        refine lv_aload_n hx hb d_Mo_copy_36 rfl (lv_at hl 0 rfl) ?_
        refine va_get (D := D) (ci := 6) (v := .ref (b 2)) (C := R_Mo) (T := F_Mo) (N := 15) hx hb hts in_Mo hown hK hP 0 rfl rfl 1 (by decide) (hts _ tw_655) (fun _ h9 => h9) rfl d_Mo_copy_37 ?_
        refine lv_iload_n hx hb d_Mo_copy_40 rfl (lv_at hl 2 rfl) ?_
        refine sn_lald rv s hx hb hK hP 1 rfl (by omega) (by decide) d_Mo_copy_41 ?_
        refine sn_last rv r (rv s) hx hb hK hP hD hS 1 rfl (by omega) (by decide) d_Mo_copy_42 (fun H locs hP hD hS => ?_)
        have hP : va_P D classes [cr0 b md pc re ce 0 tp, aL K (b 2) 16 (va_up rv r (rv s)), aZ K (b 4) 16 rr] H := hP
        have hD : va_D A [cr0 b md pc re ce 0 tp, aL K (b 2) 16 (va_up rv r (rv s)), aZ K (b 4) 16 rr] := hD
        refine lv_aload_n hx hb d_Mo_copy_43 rfl (lv_at hl 0 rfl) ?_
        refine va_get (D := D) (ci := 6) (v := .ref (b 4)) (C := R_Mo) (T := F_Mo) (N := 15) hx hb hts in_Mo hown hK hP 0 rfl rfl 3 (by decide) (hts _ tw_657) (fun _ h9 => h9) rfl d_Mo_copy_44 ?_
        refine lv_iload_n hx hb d_Mo_copy_47 rfl (lv_at hl 1 rfl) ?_
        refine lv_aload_n hx hb d_Mo_copy_48 rfl (lv_at hl 0 rfl) ?_
        refine va_get (D := D) (ci := 6) (v := .ref (b 4)) (C := R_Mo) (T := F_Mo) (N := 15) hx hb hts in_Mo hown hK hP 0 rfl rfl 3 (by decide) (hts _ tw_657) (fun _ h9 => h9) rfl d_Mo_copy_49 ?_
        refine lv_iload_n hx hb d_Mo_copy_52 rfl (lv_at hl 2 rfl) ?_
        refine sn_zald rr s hx hb hK hP 2 rfl (by omega) (by decide) d_Mo_copy_53 ?_
        refine sn_zast rr r (rr s) hx hb hK hP hD hS 2 rfl (by omega) (by decide) d_Mo_copy_54 (fun H locs hP hD hS => ?_)
        have hP : va_P D classes [cr0 b md pc re ce 0 tp, aL K (b 2) 16 (va_up rv r (rv s)), aZ K (b 4) 16 (va_up rr r (rr s))] H := hP
        have hD : va_D A [cr0 b md pc re ce 0 tp, aL K (b 2) 16 (va_up rv r (rv s)), aZ K (b 4) 16 (va_up rr r (rr s))] := hD
        subst hAe
        exact sx_wv hQ hx hb hrt hlk hP hS d_Mo_copy_55
      · omega
set_option maxHeartbeats 1000000 in
set_option maxRecDepth 100000 in
theorem c_Mo_copy_b1 (l : Launch) (D : va_G) (K : Nat → ClassId) (b : Nat → Nat) (md : Nat) (pc : Nat) (re : Nat) (ce : Nat) (th : Nat) (tp : Nat) (r : Int32) (s : Int32) (hb9 : r < 0 ∨ nI 16 ≤ r) : Met l y_Mo_copy w_Mo_copy ({ frames := 1, cells := 0, slots := 0, locals := 20 }) (va_Pc [.ref (b 0), .int r, .int s] (sn_BW D K [cr0 b md pc re ce th tp])) (sn_Q D [cr0 b md pc re ce th tp] [cr0 b md pc re ce 1 tp] none) 0 0 (sn_A [cr0 b md pc re ce th tp]) := by
  refine sn_met (own := R_Mo) (by decide +kernel) rfl rfl (Nat.le_of_ble_eq_true rfl) ?_
  intro P9 E9 s9 m9 args below M9 c9 ls Q hQ hx hb hml hrt hlk hts hown hnm hl hB
  obtain ⟨⟨hP, hK, hN⟩, hD⟩ := hB
  have hl : lv_has ls 3 [(0, .ref (b 0)), (1, .int r), (2, .int s)] := hl
  have hD := sn_DA hD
  have hS : va_S (sn_A [cr0 b md pc re ce th tp]) s9.heap s9.heap [] := va_S.rf
  generalize hAe : sn_A [cr0 b md pc re ce th tp] = A at hD hS
  refine lv_aload_n hx hb d_Mo_copy_0 rfl (lv_at hl 0 rfl) ?_
  refine lv_iload_n hx hb d_Mo_copy_1 rfl (lv_at hl 1 rfl) ?_
  refine sn_rd (st1 := [.int (zb (decide (False))), .ref (b 0)]) (va_runS (As := [.int r]) (rest := [.ref (b 0)]) ⟨hx, hb, hml, hown, hts⟩ (c_Mo_isRoot_b l D K r (hb9)) ⟨callB_of 1 hts (tw_in cm_Mo_isRoot) rfl rfl rfl (hts _ gn_Mo) (hts _ tw_709) hd_Mo_isRoot ⟨Nat.le_of_ble_eq_true rfl, Nat.le_of_ble_eq_true rfl⟩, hts _ gt_Mo_isRoot⟩ (sn_preS hK hN hP [] rfl) rfl rfl hl.1 rfl (lv_room (Nat.le_of_ble_eq_true rfl)) d_Mo_copy_2 ⟨Nat.zero_le _, Nat.zero_le _⟩) rfl ?_
  refine sn_ifz_eq (tgt := 19) hx hb d_Mo_copy_5 (by decide) (fun h1 => ?_) (fun h1 => ?_)
  · refine lv_iconst (v := nI 1) hx hb d_Mo_copy_19 (by decide) ?_
    refine va_put (D := D) (ci := 6) (v := .int (nI 1)) (ty := .int) (C := R_Mo) (T := F_Mo) (N := 15) hx hb hts in_Mo t_Mo t_Mo_ok n_Mo hown hK hP hD hS 0 rfl rfl 13 (by decide) (hts _ tw_667) (fun _ h9 => h9) rfl (by decide +kernel) rfl rfl (Nat.le_of_ble_eq_true rfl) d_Mo_copy_20 (fun H locs hP hD hS => ?_)
    have hP : va_P D classes [cr0 b md pc re ce 1 tp] H := hP
    have hD : va_D A [cr0 b md pc re ce 1 tp] := hD
    refine lv_aload_n hx hb d_Mo_copy_23 rfl (lv_at hl 0 rfl) ?_
    refine va_get (D := D) (ci := 6) (v := .int (nI 1)) (C := R_Mo) (T := F_Mo) (N := 15) hx hb hts in_Mo hown hK hP 0 rfl rfl 13 (by decide) (hts _ tw_667) (fun _ h9 => h9) rfl d_Mo_copy_24 ?_
    refine sn_if_le (by omega) (tgt := 31) hx hb d_Mo_copy_27 (by decide) (fun h2 => ?_) (fun h2 => ?_)
    · omega
    · subst hAe
      exact sx_wv hQ hx hb hrt hlk hP hS d_Mo_copy_30
  · exact h1.elim
set_option maxHeartbeats 1000000 in
set_option maxRecDepth 100000 in
theorem c_Mo_copy_b2 (l : Launch) (D : va_G) (K : Nat → ClassId) (b : Nat → Nat) (md : Nat) (pc : Nat) (re : Nat) (ce : Nat) (th : Nat) (tp : Nat) (r : Nat) (s : Int32) (hr : r < 16) (hb9 : s < 0 ∨ nI 16 ≤ s) : Met l y_Mo_copy w_Mo_copy ({ frames := 1, cells := 0, slots := 0, locals := 20 }) (va_Pc [.ref (b 0), .int (nI r), .int s] (sn_BW D K [cr0 b md pc re ce th tp])) (sn_Q D [cr0 b md pc re ce th tp] [cr0 b md pc re ce 1 tp] none) 0 0 (sn_A [cr0 b md pc re ce th tp]) := by
  refine sn_met (own := R_Mo) (by decide +kernel) rfl rfl (Nat.le_of_ble_eq_true rfl) ?_
  intro P9 E9 s9 m9 args below M9 c9 ls Q hQ hx hb hml hrt hlk hts hown hnm hl hB
  obtain ⟨⟨hP, hK, hN⟩, hD⟩ := hB
  have hl : lv_has ls 3 [(0, .ref (b 0)), (1, .int (nI r)), (2, .int s)] := hl
  have hD := sn_DA hD
  have hS : va_S (sn_A [cr0 b md pc re ce th tp]) s9.heap s9.heap [] := va_S.rf
  generalize hAe : sn_A [cr0 b md pc re ce th tp] = A at hD hS
  refine lv_aload_n hx hb d_Mo_copy_0 rfl (lv_at hl 0 rfl) ?_
  refine lv_iload_n hx hb d_Mo_copy_1 rfl (lv_at hl 1 rfl) ?_
  refine sn_rd (st1 := [.int (zb (decide (True))), .ref (b 0)]) (va_runS (As := [.int (nI r)]) (rest := [.ref (b 0)]) ⟨hx, hb, hml, hown, hts⟩ (c_Mo_isRoot l D K r (by omega)) ⟨callB_of 1 hts (tw_in cm_Mo_isRoot) rfl rfl rfl (hts _ gn_Mo) (hts _ tw_709) hd_Mo_isRoot ⟨Nat.le_of_ble_eq_true rfl, Nat.le_of_ble_eq_true rfl⟩, hts _ gt_Mo_isRoot⟩ (sn_preS hK hN hP [] rfl) rfl rfl hl.1 rfl (lv_room (Nat.le_of_ble_eq_true rfl)) d_Mo_copy_2 ⟨Nat.zero_le _, Nat.zero_le _⟩) rfl ?_
  refine sn_ifz_eq (tgt := 19) hx hb d_Mo_copy_5 (by decide) (fun h1 => ?_) (fun h1 => ?_)
  · exact absurd trivial h1
  · refine lv_iload_n hx hb d_Mo_copy_8 rfl (lv_at hl 2 rfl) ?_
    refine sn_rd (st1 := [.int (zb (decide (False))), .ref (b 0)]) (va_runS (As := [.int s]) (rest := [.ref (b 0)]) ⟨hx, hb, hml, hown, hts⟩ (c_Mo_isRoot_b l D K s (hb9)) ⟨callB_of 1 hts (tw_in cm_Mo_isRoot) rfl rfl rfl (hts _ gn_Mo) (hts _ tw_709) hd_Mo_isRoot ⟨Nat.le_of_ble_eq_true rfl, Nat.le_of_ble_eq_true rfl⟩, hts _ gt_Mo_isRoot⟩ (sn_preS hK hN hP [] rfl) rfl rfl hl.1 rfl (lv_room (Nat.le_of_ble_eq_true rfl)) d_Mo_copy_9 ⟨Nat.zero_le _, Nat.zero_le _⟩) rfl ?_
    refine sn_ifz_eq (tgt := 19) hx hb d_Mo_copy_12 (by decide) (fun h2 => ?_) (fun h2 => ?_)
    · refine lv_iconst (v := nI 1) hx hb d_Mo_copy_19 (by decide) ?_
      refine va_put (D := D) (ci := 6) (v := .int (nI 1)) (ty := .int) (C := R_Mo) (T := F_Mo) (N := 15) hx hb hts in_Mo t_Mo t_Mo_ok n_Mo hown hK hP hD hS 0 rfl rfl 13 (by decide) (hts _ tw_667) (fun _ h9 => h9) rfl (by decide +kernel) rfl rfl (Nat.le_of_ble_eq_true rfl) d_Mo_copy_20 (fun H locs hP hD hS => ?_)
      have hP : va_P D classes [cr0 b md pc re ce 1 tp] H := hP
      have hD : va_D A [cr0 b md pc re ce 1 tp] := hD
      refine lv_aload_n hx hb d_Mo_copy_23 rfl (lv_at hl 0 rfl) ?_
      refine va_get (D := D) (ci := 6) (v := .int (nI 1)) (C := R_Mo) (T := F_Mo) (N := 15) hx hb hts in_Mo hown hK hP 0 rfl rfl 13 (by decide) (hts _ tw_667) (fun _ h9 => h9) rfl d_Mo_copy_24 ?_
      refine sn_if_le (by omega) (tgt := 31) hx hb d_Mo_copy_27 (by decide) (fun h3 => ?_) (fun h3 => ?_)
      · omega
      · subst hAe
        exact sx_wv hQ hx hb hrt hlk hP hS d_Mo_copy_30
    · exact h2.elim
set_option maxHeartbeats 1000000 in
set_option maxRecDepth 100000 in
theorem c_Mo_same (l : Launch) (D : va_G) (K : Nat → ClassId) (b : Nat → Nat) (md : Nat) (pc : Nat) (re : Nat) (ce : Nat) (th : Nat) (tp : Nat) (rv : Nat → Int64) (rr : Nat → Bool) (r : Nat) (s : Nat) (hr : r < 16) (hs : s < 16) : Met l y_Mo_same w_Mo_same ({ frames := 1, cells := 0, slots := 0, locals := 20 }) (va_Pc [.ref (b 0), .int (nI r), .int (nI s)] (sn_BW D K [cr0 b md pc re ce th tp, aL K (b 2) 16 rv, aZ K (b 4) 16 rr])) (sn_Q D [cr0 b md pc re ce th tp, aL K (b 2) 16 rv, aZ K (b 4) 16 rr] [cr0 b md pc re ce 0 tp, aL K (b 2) 16 rv, aZ K (b 4) 16 rr] (some (.int (zb (decide (rv r = rv s ∧ rr r = rr s)))))) 0 0 (sn_A [cr0 b md pc re ce th tp, aL K (b 2) 16 rv, aZ K (b 4) 16 rr]) := by
  refine sn_met (own := R_Mo) (by decide +kernel) rfl rfl (Nat.le_of_ble_eq_true rfl) ?_
  intro P9 E9 s9 m9 args below M9 c9 ls Q hQ hx hb hml hrt hlk hts hown hnm hl hB
  obtain ⟨⟨hP, hK, hN⟩, hD⟩ := hB
  have hl : lv_has ls 3 [(0, .ref (b 0)), (1, .int (nI r)), (2, .int (nI s))] := hl
  have hD := sn_DA hD
  have hS : va_S (sn_A [cr0 b md pc re ce th tp, aL K (b 2) 16 rv, aZ K (b 4) 16 rr]) s9.heap s9.heap [] := va_S.rf
  generalize hAe : sn_A [cr0 b md pc re ce th tp, aL K (b 2) 16 rv, aZ K (b 4) 16 rr] = A at hD hS
  refine lv_aload_n hx hb d_Mo_same_0 rfl (lv_at hl 0 rfl) ?_
  refine lv_iload_n hx hb d_Mo_same_1 rfl (lv_at hl 1 rfl) ?_
  refine sn_rd (st1 := [.int (zb (decide (True))), .ref (b 0)]) (va_runS (As := [.int (nI r)]) (rest := [.ref (b 0)]) ⟨hx, hb, hml, hown, hts⟩ (c_Mo_isRoot l D K r (by omega)) ⟨callB_of 1 hts (tw_in cm_Mo_isRoot) rfl rfl rfl (hts _ gn_Mo) (hts _ tw_709) hd_Mo_isRoot ⟨Nat.le_of_ble_eq_true rfl, Nat.le_of_ble_eq_true rfl⟩, hts _ gt_Mo_isRoot⟩ (sn_preS hK hN hP [] rfl) rfl rfl hl.1 rfl (lv_room (Nat.le_of_ble_eq_true rfl)) d_Mo_same_2 ⟨Nat.zero_le _, Nat.zero_le _⟩) rfl ?_
  refine sn_ifz_eq (tgt := 19) hx hb d_Mo_same_5 (by decide) (fun h1 => ?_) (fun h1 => ?_)
  · exact absurd trivial h1
  · refine lv_iload_n hx hb d_Mo_same_8 rfl (lv_at hl 2 rfl) ?_
    refine sn_rd (st1 := [.int (zb (decide (True))), .ref (b 0)]) (va_runS (As := [.int (nI s)]) (rest := [.ref (b 0)]) ⟨hx, hb, hml, hown, hts⟩ (c_Mo_isRoot l D K s (by omega)) ⟨callB_of 1 hts (tw_in cm_Mo_isRoot) rfl rfl rfl (hts _ gn_Mo) (hts _ tw_709) hd_Mo_isRoot ⟨Nat.le_of_ble_eq_true rfl, Nat.le_of_ble_eq_true rfl⟩, hts _ gt_Mo_isRoot⟩ (sn_preS hK hN hP [] rfl) rfl rfl hl.1 rfl (lv_room (Nat.le_of_ble_eq_true rfl)) d_Mo_same_9 ⟨Nat.zero_le _, Nat.zero_le _⟩) rfl ?_
    refine sn_ifz_eq (tgt := 19) hx hb d_Mo_same_12 (by decide) (fun h2 => ?_) (fun h2 => ?_)
    · exact absurd trivial h2
    · refine lv_iconst (v := nI 0) hx hb d_Mo_same_15 (by decide) ?_
      refine lv_goto (tgt := 20) hx hb d_Mo_same_16 (by decide) ?_
      refine va_put (D := D) (ci := 6) (v := .int (nI 0)) (ty := .int) (C := R_Mo) (T := F_Mo) (N := 15) hx hb hts in_Mo t_Mo t_Mo_ok n_Mo hown hK hP hD hS 0 rfl rfl 13 (by decide) (hts _ tw_667) (fun _ h9 => h9) rfl (by decide +kernel) rfl rfl (Nat.le_of_ble_eq_true rfl) d_Mo_same_20 (fun H locs hP hD hS => ?_)
      have hP : va_P D classes [cr0 b md pc re ce 0 tp, aL K (b 2) 16 rv, aZ K (b 4) 16 rr] H := hP
      have hD : va_D A [cr0 b md pc re ce 0 tp, aL K (b 2) 16 rv, aZ K (b 4) 16 rr] := hD
      refine lv_aload_n hx hb d_Mo_same_23 rfl (lv_at hl 0 rfl) ?_
      refine va_get (D := D) (ci := 6) (v := .int (nI 0)) (C := R_Mo) (T := F_Mo) (N := 15) hx hb hts in_Mo hown hK hP 0 rfl rfl 13 (by decide) (hts _ tw_667) (fun _ h9 => h9) rfl d_Mo_same_24 ?_
      refine sn_if_ne (by omega) (tgt := 65) hx hb d_Mo_same_27 (by decide) (fun h3 => ?_) (fun h3 => ?_)
      · omega
      · refine lv_aload_n hx hb d_Mo_same_30 rfl (lv_at hl 0 rfl) ?_
        refine va_get (D := D) (ci := 6) (v := .ref (b 2)) (C := R_Mo) (T := F_Mo) (N := 15) hx hb hts in_Mo hown hK hP 0 rfl rfl 1 (by decide) (hts _ tw_655) (fun _ h9 => h9) rfl d_Mo_same_31 ?_
        refine lv_iload_n hx hb d_Mo_same_34 rfl (lv_at hl 1 rfl) ?_
        refine sn_lald rv r hx hb hK hP 1 rfl (by omega) (by decide) d_Mo_same_35 ?_
        refine lv_aload_n hx hb d_Mo_same_36 rfl (lv_at hl 0 rfl) ?_
        refine va_get (D := D) (ci := 6) (v := .ref (b 2)) (C := R_Mo) (T := F_Mo) (N := 15) hx hb hts in_Mo hown hK hP 0 rfl rfl 1 (by decide) (hts _ tw_655) (fun _ h9 => h9) rfl d_Mo_same_37 ?_
        refine lv_iload_n hx hb d_Mo_same_40 rfl (lv_at hl 2 rfl) ?_
        refine sn_lald rv s hx hb hK hP 1 rfl (by omega) (by decide) d_Mo_same_41 ?_
        refine W.lcmp hx hb d_Mo_same_42 ?_
        refine sn_ifc_ne (tgt := 65) hx hb d_Mo_same_43 (by decide) (fun h4 => ?_) (fun h4 => ?_)
        · refine lv_iconst (v := nI 0) hx hb d_Mo_same_65 (by decide) ?_
          subst hAe
          exact sx_wz hQ hx hb hrt hlk (zb_no (by first | exact fun h9 => h4 h9.1 | exact fun h9 => h5 h9.2)) hP hS d_Mo_same_66
        · refine lv_aload_n hx hb d_Mo_same_46 rfl (lv_at hl 0 rfl) ?_
          refine va_get (D := D) (ci := 6) (v := .ref (b 4)) (C := R_Mo) (T := F_Mo) (N := 15) hx hb hts in_Mo hown hK hP 0 rfl rfl 3 (by decide) (hts _ tw_657) (fun _ h9 => h9) rfl d_Mo_same_47 ?_
          refine lv_iload_n hx hb d_Mo_same_50 rfl (lv_at hl 1 rfl) ?_
          refine sn_zald rr r hx hb hK hP 2 rfl (by omega) (by decide) d_Mo_same_51 ?_
          refine lv_aload_n hx hb d_Mo_same_52 rfl (lv_at hl 0 rfl) ?_
          refine va_get (D := D) (ci := 6) (v := .ref (b 4)) (C := R_Mo) (T := F_Mo) (N := 15) hx hb hts in_Mo hown hK hP 0 rfl rfl 3 (by decide) (hts _ tw_657) (fun _ h9 => h9) rfl d_Mo_same_53 ?_
          refine lv_iload_n hx hb d_Mo_same_56 rfl (lv_at hl 2 rfl) ?_
          refine sn_zald rr s hx hb hK hP 2 rfl (by omega) (by decide) d_Mo_same_57 ?_
          refine sn_ibb_ne (tgt := 65) hx hb d_Mo_same_58 (by decide) (fun h5 => ?_) (fun h5 => ?_)
          · refine lv_iconst (v := nI 0) hx hb d_Mo_same_65 (by decide) ?_
            subst hAe
            exact sx_wz hQ hx hb hrt hlk (zb_no (by first | exact fun h9 => h4 h9.1 | exact fun h9 => h5 h9.2)) hP hS d_Mo_same_66
          · refine lv_iconst (v := nI 1) hx hb d_Mo_same_61 (by decide) ?_
            refine lv_goto (tgt := 66) hx hb d_Mo_same_62 (by decide) ?_
            subst hAe
            exact sx_wz hQ hx hb hrt hlk (zb_yes (⟨h4, h5⟩)) hP hS d_Mo_same_66
set_option maxHeartbeats 1000000 in
set_option maxRecDepth 100000 in
theorem c_Mo_same_b1 (l : Launch) (D : va_G) (K : Nat → ClassId) (b : Nat → Nat) (md : Nat) (pc : Nat) (re : Nat) (ce : Nat) (th : Nat) (tp : Nat) (r : Int32) (s : Int32) (hb9 : r < 0 ∨ nI 16 ≤ r) : Met l y_Mo_same w_Mo_same ({ frames := 1, cells := 0, slots := 0, locals := 20 }) (va_Pc [.ref (b 0), .int r, .int s] (sn_BW D K [cr0 b md pc re ce th tp])) (sn_Q D [cr0 b md pc re ce th tp] [cr0 b md pc re ce 1 tp] (some (.int (zb (decide (False)))))) 0 0 (sn_A [cr0 b md pc re ce th tp]) := by
  refine sn_met (own := R_Mo) (by decide +kernel) rfl rfl (Nat.le_of_ble_eq_true rfl) ?_
  intro P9 E9 s9 m9 args below M9 c9 ls Q hQ hx hb hml hrt hlk hts hown hnm hl hB
  obtain ⟨⟨hP, hK, hN⟩, hD⟩ := hB
  have hl : lv_has ls 3 [(0, .ref (b 0)), (1, .int r), (2, .int s)] := hl
  have hD := sn_DA hD
  have hS : va_S (sn_A [cr0 b md pc re ce th tp]) s9.heap s9.heap [] := va_S.rf
  generalize hAe : sn_A [cr0 b md pc re ce th tp] = A at hD hS
  refine lv_aload_n hx hb d_Mo_same_0 rfl (lv_at hl 0 rfl) ?_
  refine lv_iload_n hx hb d_Mo_same_1 rfl (lv_at hl 1 rfl) ?_
  refine sn_rd (st1 := [.int (zb (decide (False))), .ref (b 0)]) (va_runS (As := [.int r]) (rest := [.ref (b 0)]) ⟨hx, hb, hml, hown, hts⟩ (c_Mo_isRoot_b l D K r (hb9)) ⟨callB_of 1 hts (tw_in cm_Mo_isRoot) rfl rfl rfl (hts _ gn_Mo) (hts _ tw_709) hd_Mo_isRoot ⟨Nat.le_of_ble_eq_true rfl, Nat.le_of_ble_eq_true rfl⟩, hts _ gt_Mo_isRoot⟩ (sn_preS hK hN hP [] rfl) rfl rfl hl.1 rfl (lv_room (Nat.le_of_ble_eq_true rfl)) d_Mo_same_2 ⟨Nat.zero_le _, Nat.zero_le _⟩) rfl ?_
  refine sn_ifz_eq (tgt := 19) hx hb d_Mo_same_5 (by decide) (fun h1 => ?_) (fun h1 => ?_)
  · refine lv_iconst (v := nI 1) hx hb d_Mo_same_19 (by decide) ?_
    refine va_put (D := D) (ci := 6) (v := .int (nI 1)) (ty := .int) (C := R_Mo) (T := F_Mo) (N := 15) hx hb hts in_Mo t_Mo t_Mo_ok n_Mo hown hK hP hD hS 0 rfl rfl 13 (by decide) (hts _ tw_667) (fun _ h9 => h9) rfl (by decide +kernel) rfl rfl (Nat.le_of_ble_eq_true rfl) d_Mo_same_20 (fun H locs hP hD hS => ?_)
    have hP : va_P D classes [cr0 b md pc re ce 1 tp] H := hP
    have hD : va_D A [cr0 b md pc re ce 1 tp] := hD
    refine lv_aload_n hx hb d_Mo_same_23 rfl (lv_at hl 0 rfl) ?_
    refine va_get (D := D) (ci := 6) (v := .int (nI 1)) (C := R_Mo) (T := F_Mo) (N := 15) hx hb hts in_Mo hown hK hP 0 rfl rfl 13 (by decide) (hts _ tw_667) (fun _ h9 => h9) rfl d_Mo_same_24 ?_
    refine sn_if_ne (by omega) (tgt := 65) hx hb d_Mo_same_27 (by decide) (fun h2 => ?_) (fun h2 => ?_)
    · refine lv_iconst (v := nI 0) hx hb d_Mo_same_65 (by decide) ?_
      subst hAe
      exact sx_wz hQ hx hb hrt hlk (zb_no (fun h9 => h9)) hP hS d_Mo_same_66
    · omega
  · exact h1.elim
set_option maxHeartbeats 1000000 in
set_option maxRecDepth 100000 in
theorem c_Mo_same_b2 (l : Launch) (D : va_G) (K : Nat → ClassId) (b : Nat → Nat) (md : Nat) (pc : Nat) (re : Nat) (ce : Nat) (th : Nat) (tp : Nat) (r : Nat) (s : Int32) (hr : r < 16) (hb9 : s < 0 ∨ nI 16 ≤ s) : Met l y_Mo_same w_Mo_same ({ frames := 1, cells := 0, slots := 0, locals := 20 }) (va_Pc [.ref (b 0), .int (nI r), .int s] (sn_BW D K [cr0 b md pc re ce th tp])) (sn_Q D [cr0 b md pc re ce th tp] [cr0 b md pc re ce 1 tp] (some (.int (zb (decide (False)))))) 0 0 (sn_A [cr0 b md pc re ce th tp]) := by
  refine sn_met (own := R_Mo) (by decide +kernel) rfl rfl (Nat.le_of_ble_eq_true rfl) ?_
  intro P9 E9 s9 m9 args below M9 c9 ls Q hQ hx hb hml hrt hlk hts hown hnm hl hB
  obtain ⟨⟨hP, hK, hN⟩, hD⟩ := hB
  have hl : lv_has ls 3 [(0, .ref (b 0)), (1, .int (nI r)), (2, .int s)] := hl
  have hD := sn_DA hD
  have hS : va_S (sn_A [cr0 b md pc re ce th tp]) s9.heap s9.heap [] := va_S.rf
  generalize hAe : sn_A [cr0 b md pc re ce th tp] = A at hD hS
  refine lv_aload_n hx hb d_Mo_same_0 rfl (lv_at hl 0 rfl) ?_
  refine lv_iload_n hx hb d_Mo_same_1 rfl (lv_at hl 1 rfl) ?_
  refine sn_rd (st1 := [.int (zb (decide (True))), .ref (b 0)]) (va_runS (As := [.int (nI r)]) (rest := [.ref (b 0)]) ⟨hx, hb, hml, hown, hts⟩ (c_Mo_isRoot l D K r (by omega)) ⟨callB_of 1 hts (tw_in cm_Mo_isRoot) rfl rfl rfl (hts _ gn_Mo) (hts _ tw_709) hd_Mo_isRoot ⟨Nat.le_of_ble_eq_true rfl, Nat.le_of_ble_eq_true rfl⟩, hts _ gt_Mo_isRoot⟩ (sn_preS hK hN hP [] rfl) rfl rfl hl.1 rfl (lv_room (Nat.le_of_ble_eq_true rfl)) d_Mo_same_2 ⟨Nat.zero_le _, Nat.zero_le _⟩) rfl ?_
  refine sn_ifz_eq (tgt := 19) hx hb d_Mo_same_5 (by decide) (fun h1 => ?_) (fun h1 => ?_)
  · exact absurd trivial h1
  · refine lv_iload_n hx hb d_Mo_same_8 rfl (lv_at hl 2 rfl) ?_
    refine sn_rd (st1 := [.int (zb (decide (False))), .ref (b 0)]) (va_runS (As := [.int s]) (rest := [.ref (b 0)]) ⟨hx, hb, hml, hown, hts⟩ (c_Mo_isRoot_b l D K s (hb9)) ⟨callB_of 1 hts (tw_in cm_Mo_isRoot) rfl rfl rfl (hts _ gn_Mo) (hts _ tw_709) hd_Mo_isRoot ⟨Nat.le_of_ble_eq_true rfl, Nat.le_of_ble_eq_true rfl⟩, hts _ gt_Mo_isRoot⟩ (sn_preS hK hN hP [] rfl) rfl rfl hl.1 rfl (lv_room (Nat.le_of_ble_eq_true rfl)) d_Mo_same_9 ⟨Nat.zero_le _, Nat.zero_le _⟩) rfl ?_
    refine sn_ifz_eq (tgt := 19) hx hb d_Mo_same_12 (by decide) (fun h2 => ?_) (fun h2 => ?_)
    · refine lv_iconst (v := nI 1) hx hb d_Mo_same_19 (by decide) ?_
      refine va_put (D := D) (ci := 6) (v := .int (nI 1)) (ty := .int) (C := R_Mo) (T := F_Mo) (N := 15) hx hb hts in_Mo t_Mo t_Mo_ok n_Mo hown hK hP hD hS 0 rfl rfl 13 (by decide) (hts _ tw_667) (fun _ h9 => h9) rfl (by decide +kernel) rfl rfl (Nat.le_of_ble_eq_true rfl) d_Mo_same_20 (fun H locs hP hD hS => ?_)
      have hP : va_P D classes [cr0 b md pc re ce 1 tp] H := hP
      have hD : va_D A [cr0 b md pc re ce 1 tp] := hD
      refine lv_aload_n hx hb d_Mo_same_23 rfl (lv_at hl 0 rfl) ?_
      refine va_get (D := D) (ci := 6) (v := .int (nI 1)) (C := R_Mo) (T := F_Mo) (N := 15) hx hb hts in_Mo hown hK hP 0 rfl rfl 13 (by decide) (hts _ tw_667) (fun _ h9 => h9) rfl d_Mo_same_24 ?_
      refine sn_if_ne (by omega) (tgt := 65) hx hb d_Mo_same_27 (by decide) (fun h3 => ?_) (fun h3 => ?_)
      · refine lv_iconst (v := nI 0) hx hb d_Mo_same_65 (by decide) ?_
        subst hAe
        exact sx_wz hQ hx hb hrt hlk (zb_no (fun h9 => h9)) hP hS d_Mo_same_66
      · omega
    · exact h2.elim
set_option maxHeartbeats 1000000 in
set_option maxRecDepth 100000 in
theorem c_Mo_place (l : Launch) (D : va_G) (K : Nat → ClassId) (b : Nat → Nat) (md : Nat) (pc : Nat) (re : Nat) (ce : Nat) (th : Nat) (tp : Nat) (rv : Nat → Int64) (rr : Nat → Bool) (Z : Nat → Nat) (r : Nat) (s : Nat) (i : Nat) (k : Nat) (hr : r < 16) (hs : s < 16) (hrr : rr s = true) (hk : rv s = lN k) (hk6 : k < 640) (hi : i < Z k) (hz : Z k ≤ 16) : Met l y_Mo_place w_Mo_place ({ frames := 1, cells := 0, slots := 0, locals := 20 }) (va_Pc [.ref (b 0), .int (nI r), .int (nI s), .int (nI i)] (sn_BW D K [cr0 b md pc re ce th tp, aL K (b 2) 16 rv, aZ K (b 4) 16 rr, aI K (b 6) 640 Z])) (sn_Q D [cr0 b md pc re ce th tp, aL K (b 2) 16 rv, aZ K (b 4) 16 rr, aI K (b 6) 640 Z] [cr0 b md pc re ce 0 tp, aL K (b 2) 16 rv, aZ K (b 4) 16 rr, aI K (b 6) 640 Z] (some (.int (nI (16 * k + i))))) 0 0 (sn_A [cr0 b md pc re ce th tp, aL K (b 2) 16 rv, aZ K (b 4) 16 rr, aI K (b 6) 640 Z]) := by
  refine sn_met (own := R_Mo) (by decide +kernel) rfl rfl (Nat.le_of_ble_eq_true rfl) ?_
  intro P9 E9 s9 m9 args below M9 c9 ls Q hQ hx hb hml hrt hlk hts hown hnm hl hB
  obtain ⟨⟨hP, hK, hN⟩, hD⟩ := hB
  have hl : lv_has ls 4 [(0, .ref (b 0)), (1, .int (nI r)), (2, .int (nI s)), (3, .int (nI i))] := hl
  have hD := sn_DA hD
  have hS : va_S (sn_A [cr0 b md pc re ce th tp, aL K (b 2) 16 rv, aZ K (b 4) 16 rr, aI K (b 6) 640 Z]) s9.heap s9.heap [] := va_S.rf
  generalize hAe : sn_A [cr0 b md pc re ce th tp, aL K (b 2) 16 rv, aZ K (b 4) 16 rr, aI K (b 6) 640 Z] = A at hD hS
  refine lv_aload_n hx hb d_Mo_place_0 rfl (lv_at hl 0 rfl) ?_
  refine lv_iload_n hx hb d_Mo_place_1 rfl (lv_at hl 1 rfl) ?_
  refine sn_rd (st1 := [.int (zb (decide (True))), .ref (b 0)]) (va_runS (As := [.int (nI r)]) (rest := [.ref (b 0)]) ⟨hx, hb, hml, hown, hts⟩ (c_Mo_isRoot l D K r (by omega)) ⟨callB_of 1 hts (tw_in cm_Mo_isRoot) rfl rfl rfl (hts _ gn_Mo) (hts _ tw_709) hd_Mo_isRoot ⟨Nat.le_of_ble_eq_true rfl, Nat.le_of_ble_eq_true rfl⟩, hts _ gt_Mo_isRoot⟩ (sn_preS hK hN hP [] rfl) rfl rfl hl.1 rfl (lv_room (Nat.le_of_ble_eq_true rfl)) d_Mo_place_2 ⟨Nat.zero_le _, Nat.zero_le _⟩) rfl ?_
  refine sn_ifz_eq (tgt := 15) hx hb d_Mo_place_5 (by decide) (fun h1 => ?_) (fun h1 => ?_)
  · exact absurd trivial h1
  · refine lv_iload_n hx hb d_Mo_place_8 rfl (lv_at hl 2 rfl) ?_
    refine sn_rd (st1 := [.int (zb (decide (True))), .ref (b 0)]) (va_runS (As := [.int (nI s)]) (rest := [.ref (b 0)]) ⟨hx, hb, hml, hown, hts⟩ (c_Mo_isRoot l D K s (by omega)) ⟨callB_of 1 hts (tw_in cm_Mo_isRoot) rfl rfl rfl (hts _ gn_Mo) (hts _ tw_709) hd_Mo_isRoot ⟨Nat.le_of_ble_eq_true rfl, Nat.le_of_ble_eq_true rfl⟩, hts _ gt_Mo_isRoot⟩ (sn_preS hK hN hP [] rfl) rfl rfl hl.1 rfl (lv_room (Nat.le_of_ble_eq_true rfl)) d_Mo_place_9 ⟨Nat.zero_le _, Nat.zero_le _⟩) rfl ?_
    refine sn_ifz_ne (tgt := 19) hx hb d_Mo_place_12 (by decide) (fun h2 => ?_) (fun h2 => ?_)
    · refine lv_aload_n hx hb d_Mo_place_19 rfl (lv_at hl 0 rfl) ?_
      refine va_get (D := D) (ci := 6) (v := .ref (b 4)) (C := R_Mo) (T := F_Mo) (N := 15) hx hb hts in_Mo hown hK hP 0 rfl rfl 3 (by decide) (hts _ tw_657) (fun _ h9 => h9) rfl d_Mo_place_20 ?_
      refine lv_iload_n hx hb d_Mo_place_23 rfl (lv_at hl 2 rfl) ?_
      refine sn_zald rr s hx hb hK hP 2 rfl (by omega) (by decide) d_Mo_place_24 ?_
      refine sn_ifb_eq (tgt := 48) hx hb d_Mo_place_25 (by decide) (fun h3 => ?_) (fun h3 => ?_)
      · exact absurd (hrr.symm.trans h3) (by decide)
      · refine lv_iload_n hx hb d_Mo_place_28 rfl (lv_at hl 3 rfl) ?_
        refine sn_if_lt (by omega) (tgt := 48) hx hb d_Mo_place_29 (by decide) ?_
        refine lv_iload_n hx hb d_Mo_place_32 rfl (lv_at hl 3 rfl) ?_
        refine lv_aload_n hx hb d_Mo_place_33 rfl (lv_at hl 0 rfl) ?_
        refine va_get (D := D) (ci := 6) (v := .ref (b 6)) (C := R_Mo) (T := F_Mo) (N := 15) hx hb hts in_Mo hown hK hP 0 rfl rfl 5 (by decide) (hts _ tw_659) (fun _ h9 => h9) rfl d_Mo_place_34 ?_
        refine lv_aload_n hx hb d_Mo_place_37 rfl (lv_at hl 0 rfl) ?_
        refine va_get (D := D) (ci := 6) (v := .ref (b 2)) (C := R_Mo) (T := F_Mo) (N := 15) hx hb hts in_Mo hown hK hP 0 rfl rfl 1 (by decide) (hts _ tw_655) (fun _ h9 => h9) rfl d_Mo_place_38 ?_
        refine lv_iload_n hx hb d_Mo_place_41 rfl (lv_at hl 2 rfl) ?_
        refine sn_lald rv s hx hb hK hP 1 rfl (by omega) (by decide) d_Mo_place_42 ?_
        refine lv_l2i (v := nI k) hx hb d_Mo_place_43 (by rw [hk]; exact lN_i _) ?_
        refine sn_iald nI Z k hx hb hK hP 3 rfl (by omega) (by decide) d_Mo_place_44 ?_
        refine sn_icmp_lt (by omega) (by omega) (tgt := 52) hx hb d_Mo_place_45 (by decide) (fun h5 => ?_) (fun h5 => ?_)
        · refine lv_iconst (v := nI 0) hx hb d_Mo_place_52 (by decide) ?_
          refine va_put (D := D) (ci := 6) (v := .int (nI 0)) (ty := .int) (C := R_Mo) (T := F_Mo) (N := 15) hx hb hts in_Mo t_Mo t_Mo_ok n_Mo hown hK hP hD hS 0 rfl rfl 13 (by decide) (hts _ tw_667) (fun _ h9 => h9) rfl (by decide +kernel) rfl rfl (Nat.le_of_ble_eq_true rfl) d_Mo_place_53 (fun H locs hP hD hS => ?_)
          have hP : va_P D classes [cr0 b md pc re ce 0 tp, aL K (b 2) 16 rv, aZ K (b 4) 16 rr, aI K (b 6) 640 Z] H := hP
          have hD : va_D A [cr0 b md pc re ce 0 tp, aL K (b 2) 16 rv, aZ K (b 4) 16 rr, aI K (b 6) 640 Z] := hD
          refine lv_aload_n hx hb d_Mo_place_56 rfl (lv_at hl 0 rfl) ?_
          refine va_get (D := D) (ci := 6) (v := .int (nI 0)) (C := R_Mo) (T := F_Mo) (N := 15) hx hb hts in_Mo hown hK hP 0 rfl rfl 13 (by decide) (hts _ tw_667) (fun _ h9 => h9) rfl d_Mo_place_57 ?_
          refine sn_if_le (by omega) (tgt := 67) hx hb d_Mo_place_60 (by decide) (fun h6 => ?_) (fun h6 => ?_)
          · refine lv_bipush (v := nI 16) hx hb d_Mo_place_67 (by decide) ?_
            refine lv_aload_n hx hb d_Mo_place_69 rfl (lv_at hl 0 rfl) ?_
            refine va_get (D := D) (ci := 6) (v := .ref (b 2)) (C := R_Mo) (T := F_Mo) (N := 15) hx hb hts in_Mo hown hK hP 0 rfl rfl 1 (by decide) (hts _ tw_655) (fun _ h9 => h9) rfl d_Mo_place_70 ?_
            refine lv_iload_n hx hb d_Mo_place_73 rfl (lv_at hl 2 rfl) ?_
            refine sn_lald rv s hx hb hK hP 1 rfl (by omega) (by decide) d_Mo_place_74 ?_
            refine lv_l2i (v := nI k) hx hb d_Mo_place_75 (by rw [hk]; exact lN_i _) ?_
            refine lv_imul hx hb d_Mo_place_76 ?_
            refine sn_topi (pk_mul _ _) ?_
            refine lv_iload_n hx hb d_Mo_place_77 rfl (lv_at hl 3 rfl) ?_
            refine lv_iadd hx hb d_Mo_place_78 ?_
            refine sn_topi (nI_add _ _) ?_
            subst hAe
            exact sx_wi hQ hx hb hrt hlk (congrArg nI (by omega)) hP hS d_Mo_place_79
          · omega
        · omega
    · exact absurd trivial h2
set_option maxHeartbeats 1000000 in
set_option maxRecDepth 100000 in
theorem c_Mo_place_b1 (l : Launch) (D : va_G) (K : Nat → ClassId) (b : Nat → Nat) (md : Nat) (pc : Nat) (re : Nat) (ce : Nat) (th : Nat) (tp : Nat) (r : Int32) (s : Int32) (i : Int32) (hb9 : r < 0 ∨ nI 16 ≤ r) : Met l y_Mo_place w_Mo_place ({ frames := 1, cells := 0, slots := 0, locals := 20 }) (va_Pc [.ref (b 0), .int r, .int s, .int i] (sn_BW D K [cr0 b md pc re ce th tp])) (sn_Q D [cr0 b md pc re ce th tp] [cr0 b md pc re ce 1 tp] (some (.int (-1)))) 0 0 (sn_A [cr0 b md pc re ce th tp]) := by
  refine sn_met (own := R_Mo) (by decide +kernel) rfl rfl (Nat.le_of_ble_eq_true rfl) ?_
  intro P9 E9 s9 m9 args below M9 c9 ls Q hQ hx hb hml hrt hlk hts hown hnm hl hB
  obtain ⟨⟨hP, hK, hN⟩, hD⟩ := hB
  have hl : lv_has ls 4 [(0, .ref (b 0)), (1, .int r), (2, .int s), (3, .int i)] := hl
  have hD := sn_DA hD
  have hS : va_S (sn_A [cr0 b md pc re ce th tp]) s9.heap s9.heap [] := va_S.rf
  generalize hAe : sn_A [cr0 b md pc re ce th tp] = A at hD hS
  refine lv_aload_n hx hb d_Mo_place_0 rfl (lv_at hl 0 rfl) ?_
  refine lv_iload_n hx hb d_Mo_place_1 rfl (lv_at hl 1 rfl) ?_
  refine sn_rd (st1 := [.int (zb (decide (False))), .ref (b 0)]) (va_runS (As := [.int r]) (rest := [.ref (b 0)]) ⟨hx, hb, hml, hown, hts⟩ (c_Mo_isRoot_b l D K r (hb9)) ⟨callB_of 1 hts (tw_in cm_Mo_isRoot) rfl rfl rfl (hts _ gn_Mo) (hts _ tw_709) hd_Mo_isRoot ⟨Nat.le_of_ble_eq_true rfl, Nat.le_of_ble_eq_true rfl⟩, hts _ gt_Mo_isRoot⟩ (sn_preS hK hN hP [] rfl) rfl rfl hl.1 rfl (lv_room (Nat.le_of_ble_eq_true rfl)) d_Mo_place_2 ⟨Nat.zero_le _, Nat.zero_le _⟩) rfl ?_
  refine sn_ifz_eq (tgt := 15) hx hb d_Mo_place_5 (by decide) (fun h1 => ?_) (fun h1 => ?_)
  · refine lv_iconst (v := nI 1) hx hb d_Mo_place_15 (by decide) ?_
    refine lv_goto (tgt := 53) hx hb d_Mo_place_16 (by decide) ?_
    refine va_put (D := D) (ci := 6) (v := .int (nI 1)) (ty := .int) (C := R_Mo) (T := F_Mo) (N := 15) hx hb hts in_Mo t_Mo t_Mo_ok n_Mo hown hK hP hD hS 0 rfl rfl 13 (by decide) (hts _ tw_667) (fun _ h9 => h9) rfl (by decide +kernel) rfl rfl (Nat.le_of_ble_eq_true rfl) d_Mo_place_53 (fun H locs hP hD hS => ?_)
    have hP : va_P D classes [cr0 b md pc re ce 1 tp] H := hP
    have hD : va_D A [cr0 b md pc re ce 1 tp] := hD
    refine lv_aload_n hx hb d_Mo_place_56 rfl (lv_at hl 0 rfl) ?_
    refine va_get (D := D) (ci := 6) (v := .int (nI 1)) (C := R_Mo) (T := F_Mo) (N := 15) hx hb hts in_Mo hown hK hP 0 rfl rfl 13 (by decide) (hts _ tw_667) (fun _ h9 => h9) rfl d_Mo_place_57 ?_
    refine sn_if_le (by omega) (tgt := 67) hx hb d_Mo_place_60 (by decide) (fun h2 => ?_) (fun h2 => ?_)
    · omega
    · refine lv_iconst (v := (-1)) hx hb d_Mo_place_63 (by decide) ?_
      refine lv_goto (tgt := 79) hx hb d_Mo_place_64 (by decide) ?_
      subst hAe
      exact sx_wi hQ hx hb hrt hlk (rfl) hP hS d_Mo_place_79
  · exact h1.elim
set_option maxHeartbeats 1000000 in
set_option maxRecDepth 100000 in
theorem c_Mo_place_b2 (l : Launch) (D : va_G) (K : Nat → ClassId) (b : Nat → Nat) (md : Nat) (pc : Nat) (re : Nat) (ce : Nat) (th : Nat) (tp : Nat) (r : Nat) (s : Int32) (i : Int32) (hr : r < 16) (hb9 : s < 0 ∨ nI 16 ≤ s) : Met l y_Mo_place w_Mo_place ({ frames := 1, cells := 0, slots := 0, locals := 20 }) (va_Pc [.ref (b 0), .int (nI r), .int s, .int i] (sn_BW D K [cr0 b md pc re ce th tp])) (sn_Q D [cr0 b md pc re ce th tp] [cr0 b md pc re ce 1 tp] (some (.int (-1)))) 0 0 (sn_A [cr0 b md pc re ce th tp]) := by
  refine sn_met (own := R_Mo) (by decide +kernel) rfl rfl (Nat.le_of_ble_eq_true rfl) ?_
  intro P9 E9 s9 m9 args below M9 c9 ls Q hQ hx hb hml hrt hlk hts hown hnm hl hB
  obtain ⟨⟨hP, hK, hN⟩, hD⟩ := hB
  have hl : lv_has ls 4 [(0, .ref (b 0)), (1, .int (nI r)), (2, .int s), (3, .int i)] := hl
  have hD := sn_DA hD
  have hS : va_S (sn_A [cr0 b md pc re ce th tp]) s9.heap s9.heap [] := va_S.rf
  generalize hAe : sn_A [cr0 b md pc re ce th tp] = A at hD hS
  refine lv_aload_n hx hb d_Mo_place_0 rfl (lv_at hl 0 rfl) ?_
  refine lv_iload_n hx hb d_Mo_place_1 rfl (lv_at hl 1 rfl) ?_
  refine sn_rd (st1 := [.int (zb (decide (True))), .ref (b 0)]) (va_runS (As := [.int (nI r)]) (rest := [.ref (b 0)]) ⟨hx, hb, hml, hown, hts⟩ (c_Mo_isRoot l D K r (by omega)) ⟨callB_of 1 hts (tw_in cm_Mo_isRoot) rfl rfl rfl (hts _ gn_Mo) (hts _ tw_709) hd_Mo_isRoot ⟨Nat.le_of_ble_eq_true rfl, Nat.le_of_ble_eq_true rfl⟩, hts _ gt_Mo_isRoot⟩ (sn_preS hK hN hP [] rfl) rfl rfl hl.1 rfl (lv_room (Nat.le_of_ble_eq_true rfl)) d_Mo_place_2 ⟨Nat.zero_le _, Nat.zero_le _⟩) rfl ?_
  refine sn_ifz_eq (tgt := 15) hx hb d_Mo_place_5 (by decide) (fun h1 => ?_) (fun h1 => ?_)
  · exact absurd trivial h1
  · refine lv_iload_n hx hb d_Mo_place_8 rfl (lv_at hl 2 rfl) ?_
    refine sn_rd (st1 := [.int (zb (decide (False))), .ref (b 0)]) (va_runS (As := [.int s]) (rest := [.ref (b 0)]) ⟨hx, hb, hml, hown, hts⟩ (c_Mo_isRoot_b l D K s (hb9)) ⟨callB_of 1 hts (tw_in cm_Mo_isRoot) rfl rfl rfl (hts _ gn_Mo) (hts _ tw_709) hd_Mo_isRoot ⟨Nat.le_of_ble_eq_true rfl, Nat.le_of_ble_eq_true rfl⟩, hts _ gt_Mo_isRoot⟩ (sn_preS hK hN hP [] rfl) rfl rfl hl.1 rfl (lv_room (Nat.le_of_ble_eq_true rfl)) d_Mo_place_9 ⟨Nat.zero_le _, Nat.zero_le _⟩) rfl ?_
    refine sn_ifz_ne (tgt := 19) hx hb d_Mo_place_12 (by decide) (fun h2 => ?_) (fun h2 => ?_)
    · exact h2.elim
    · refine lv_iconst (v := nI 1) hx hb d_Mo_place_15 (by decide) ?_
      refine lv_goto (tgt := 53) hx hb d_Mo_place_16 (by decide) ?_
      refine va_put (D := D) (ci := 6) (v := .int (nI 1)) (ty := .int) (C := R_Mo) (T := F_Mo) (N := 15) hx hb hts in_Mo t_Mo t_Mo_ok n_Mo hown hK hP hD hS 0 rfl rfl 13 (by decide) (hts _ tw_667) (fun _ h9 => h9) rfl (by decide +kernel) rfl rfl (Nat.le_of_ble_eq_true rfl) d_Mo_place_53 (fun H locs hP hD hS => ?_)
      have hP : va_P D classes [cr0 b md pc re ce 1 tp] H := hP
      have hD : va_D A [cr0 b md pc re ce 1 tp] := hD
      refine lv_aload_n hx hb d_Mo_place_56 rfl (lv_at hl 0 rfl) ?_
      refine va_get (D := D) (ci := 6) (v := .int (nI 1)) (C := R_Mo) (T := F_Mo) (N := 15) hx hb hts in_Mo hown hK hP 0 rfl rfl 13 (by decide) (hts _ tw_667) (fun _ h9 => h9) rfl d_Mo_place_57 ?_
      refine sn_if_le (by omega) (tgt := 67) hx hb d_Mo_place_60 (by decide) (fun h3 => ?_) (fun h3 => ?_)
      · omega
      · refine lv_iconst (v := (-1)) hx hb d_Mo_place_63 (by decide) ?_
        refine lv_goto (tgt := 79) hx hb d_Mo_place_64 (by decide) ?_
        subst hAe
        exact sx_wi hQ hx hb hrt hlk (rfl) hP hS d_Mo_place_79
set_option maxHeartbeats 1000000 in
set_option maxRecDepth 100000 in
theorem c_Mo_place_b3 (l : Launch) (D : va_G) (K : Nat → ClassId) (b : Nat → Nat) (md : Nat) (pc : Nat) (re : Nat) (ce : Nat) (th : Nat) (tp : Nat) (rr : Nat → Bool) (r : Nat) (s : Nat) (i : Int32) (hr : r < 16) (hs : s < 16) (hrr : rr s = false) : Met l y_Mo_place w_Mo_place ({ frames := 1, cells := 0, slots := 0, locals := 20 }) (va_Pc [.ref (b 0), .int (nI r), .int (nI s), .int i] (sn_BW D K [cr0 b md pc re ce th tp, aZ K (b 4) 16 rr])) (sn_Q D [cr0 b md pc re ce th tp, aZ K (b 4) 16 rr] [cr0 b md pc re ce 2 tp, aZ K (b 4) 16 rr] (some (.int (-1)))) 0 0 (sn_A [cr0 b md pc re ce th tp, aZ K (b 4) 16 rr]) := by
  refine sn_met (own := R_Mo) (by decide +kernel) rfl rfl (Nat.le_of_ble_eq_true rfl) ?_
  intro P9 E9 s9 m9 args below M9 c9 ls Q hQ hx hb hml hrt hlk hts hown hnm hl hB
  obtain ⟨⟨hP, hK, hN⟩, hD⟩ := hB
  have hl : lv_has ls 4 [(0, .ref (b 0)), (1, .int (nI r)), (2, .int (nI s)), (3, .int i)] := hl
  have hD := sn_DA hD
  have hS : va_S (sn_A [cr0 b md pc re ce th tp, aZ K (b 4) 16 rr]) s9.heap s9.heap [] := va_S.rf
  generalize hAe : sn_A [cr0 b md pc re ce th tp, aZ K (b 4) 16 rr] = A at hD hS
  refine lv_aload_n hx hb d_Mo_place_0 rfl (lv_at hl 0 rfl) ?_
  refine lv_iload_n hx hb d_Mo_place_1 rfl (lv_at hl 1 rfl) ?_
  refine sn_rd (st1 := [.int (zb (decide (True))), .ref (b 0)]) (va_runS (As := [.int (nI r)]) (rest := [.ref (b 0)]) ⟨hx, hb, hml, hown, hts⟩ (c_Mo_isRoot l D K r (by omega)) ⟨callB_of 1 hts (tw_in cm_Mo_isRoot) rfl rfl rfl (hts _ gn_Mo) (hts _ tw_709) hd_Mo_isRoot ⟨Nat.le_of_ble_eq_true rfl, Nat.le_of_ble_eq_true rfl⟩, hts _ gt_Mo_isRoot⟩ (sn_preS hK hN hP [] rfl) rfl rfl hl.1 rfl (lv_room (Nat.le_of_ble_eq_true rfl)) d_Mo_place_2 ⟨Nat.zero_le _, Nat.zero_le _⟩) rfl ?_
  refine sn_ifz_eq (tgt := 15) hx hb d_Mo_place_5 (by decide) (fun h1 => ?_) (fun h1 => ?_)
  · exact absurd trivial h1
  · refine lv_iload_n hx hb d_Mo_place_8 rfl (lv_at hl 2 rfl) ?_
    refine sn_rd (st1 := [.int (zb (decide (True))), .ref (b 0)]) (va_runS (As := [.int (nI s)]) (rest := [.ref (b 0)]) ⟨hx, hb, hml, hown, hts⟩ (c_Mo_isRoot l D K s (by omega)) ⟨callB_of 1 hts (tw_in cm_Mo_isRoot) rfl rfl rfl (hts _ gn_Mo) (hts _ tw_709) hd_Mo_isRoot ⟨Nat.le_of_ble_eq_true rfl, Nat.le_of_ble_eq_true rfl⟩, hts _ gt_Mo_isRoot⟩ (sn_preS hK hN hP [] rfl) rfl rfl hl.1 rfl (lv_room (Nat.le_of_ble_eq_true rfl)) d_Mo_place_9 ⟨Nat.zero_le _, Nat.zero_le _⟩) rfl ?_
    refine sn_ifz_ne (tgt := 19) hx hb d_Mo_place_12 (by decide) (fun h2 => ?_) (fun h2 => ?_)
    · refine lv_aload_n hx hb d_Mo_place_19 rfl (lv_at hl 0 rfl) ?_
      refine va_get (D := D) (ci := 6) (v := .ref (b 4)) (C := R_Mo) (T := F_Mo) (N := 15) hx hb hts in_Mo hown hK hP 0 rfl rfl 3 (by decide) (hts _ tw_657) (fun _ h9 => h9) rfl d_Mo_place_20 ?_
      refine lv_iload_n hx hb d_Mo_place_23 rfl (lv_at hl 2 rfl) ?_
      refine sn_zald rr s hx hb hK hP 1 rfl (by omega) (by decide) d_Mo_place_24 ?_
      refine sn_ifb_eq (tgt := 48) hx hb d_Mo_place_25 (by decide) (fun h3 => ?_) (fun h3 => ?_)
      · refine lv_iconst (v := nI 2) hx hb d_Mo_place_48 (by decide) ?_
        refine lv_goto (tgt := 53) hx hb d_Mo_place_49 (by decide) ?_
        refine va_put (D := D) (ci := 6) (v := .int (nI 2)) (ty := .int) (C := R_Mo) (T := F_Mo) (N := 15) hx hb hts in_Mo t_Mo t_Mo_ok n_Mo hown hK hP hD hS 0 rfl rfl 13 (by decide) (hts _ tw_667) (fun _ h9 => h9) rfl (by decide +kernel) rfl rfl (Nat.le_of_ble_eq_true rfl) d_Mo_place_53 (fun H locs hP hD hS => ?_)
        have hP : va_P D classes [cr0 b md pc re ce 2 tp, aZ K (b 4) 16 rr] H := hP
        have hD : va_D A [cr0 b md pc re ce 2 tp, aZ K (b 4) 16 rr] := hD
        refine lv_aload_n hx hb d_Mo_place_56 rfl (lv_at hl 0 rfl) ?_
        refine va_get (D := D) (ci := 6) (v := .int (nI 2)) (C := R_Mo) (T := F_Mo) (N := 15) hx hb hts in_Mo hown hK hP 0 rfl rfl 13 (by decide) (hts _ tw_667) (fun _ h9 => h9) rfl d_Mo_place_57 ?_
        refine sn_if_le (by omega) (tgt := 67) hx hb d_Mo_place_60 (by decide) (fun h4 => ?_) (fun h4 => ?_)
        · omega
        · refine lv_iconst (v := (-1)) hx hb d_Mo_place_63 (by decide) ?_
          refine lv_goto (tgt := 79) hx hb d_Mo_place_64 (by decide) ?_
          subst hAe
          exact sx_wi hQ hx hb hrt hlk (rfl) hP hS d_Mo_place_79
      · exact absurd (hrr.symm.trans h3) (by decide)
    · exact absurd trivial h2
set_option maxHeartbeats 1000000 in
set_option maxRecDepth 100000 in
theorem c_Mo_place_b4 (l : Launch) (D : va_G) (K : Nat → ClassId) (b : Nat → Nat) (md : Nat) (pc : Nat) (re : Nat) (ce : Nat) (th : Nat) (tp : Nat) (rv : Nat → Int64) (rr : Nat → Bool) (Z : Nat → Nat) (r : Nat) (s : Nat) (i : Int32) (k : Nat) (hr : r < 16) (hs : s < 16) (hrr : rr s = true) (hk : rv s = lN k) (hk6 : k < 640) (hb9 : i < 0 ∨ ¬ i < nI (Z k)) : Met l y_Mo_place w_Mo_place ({ frames := 1, cells := 0, slots := 0, locals := 20 }) (va_Pc [.ref (b 0), .int (nI r), .int (nI s), .int i] (sn_BW D K [cr0 b md pc re ce th tp, aL K (b 2) 16 rv, aZ K (b 4) 16 rr, aI K (b 6) 640 Z])) (sn_Q D [cr0 b md pc re ce th tp, aL K (b 2) 16 rv, aZ K (b 4) 16 rr, aI K (b 6) 640 Z] [cr0 b md pc re ce 2 tp, aL K (b 2) 16 rv, aZ K (b 4) 16 rr, aI K (b 6) 640 Z] (some (.int (-1)))) 0 0 (sn_A [cr0 b md pc re ce th tp, aL K (b 2) 16 rv, aZ K (b 4) 16 rr, aI K (b 6) 640 Z]) := by
  refine sn_met (own := R_Mo) (by decide +kernel) rfl rfl (Nat.le_of_ble_eq_true rfl) ?_
  intro P9 E9 s9 m9 args below M9 c9 ls Q hQ hx hb hml hrt hlk hts hown hnm hl hB
  obtain ⟨⟨hP, hK, hN⟩, hD⟩ := hB
  have hl : lv_has ls 4 [(0, .ref (b 0)), (1, .int (nI r)), (2, .int (nI s)), (3, .int i)] := hl
  have hD := sn_DA hD
  have hS : va_S (sn_A [cr0 b md pc re ce th tp, aL K (b 2) 16 rv, aZ K (b 4) 16 rr, aI K (b 6) 640 Z]) s9.heap s9.heap [] := va_S.rf
  generalize hAe : sn_A [cr0 b md pc re ce th tp, aL K (b 2) 16 rv, aZ K (b 4) 16 rr, aI K (b 6) 640 Z] = A at hD hS
  refine lv_aload_n hx hb d_Mo_place_0 rfl (lv_at hl 0 rfl) ?_
  refine lv_iload_n hx hb d_Mo_place_1 rfl (lv_at hl 1 rfl) ?_
  refine sn_rd (st1 := [.int (zb (decide (True))), .ref (b 0)]) (va_runS (As := [.int (nI r)]) (rest := [.ref (b 0)]) ⟨hx, hb, hml, hown, hts⟩ (c_Mo_isRoot l D K r (by omega)) ⟨callB_of 1 hts (tw_in cm_Mo_isRoot) rfl rfl rfl (hts _ gn_Mo) (hts _ tw_709) hd_Mo_isRoot ⟨Nat.le_of_ble_eq_true rfl, Nat.le_of_ble_eq_true rfl⟩, hts _ gt_Mo_isRoot⟩ (sn_preS hK hN hP [] rfl) rfl rfl hl.1 rfl (lv_room (Nat.le_of_ble_eq_true rfl)) d_Mo_place_2 ⟨Nat.zero_le _, Nat.zero_le _⟩) rfl ?_
  refine sn_ifz_eq (tgt := 15) hx hb d_Mo_place_5 (by decide) (fun h1 => ?_) (fun h1 => ?_)
  · exact absurd trivial h1
  · refine lv_iload_n hx hb d_Mo_place_8 rfl (lv_at hl 2 rfl) ?_
    refine sn_rd (st1 := [.int (zb (decide (True))), .ref (b 0)]) (va_runS (As := [.int (nI s)]) (rest := [.ref (b 0)]) ⟨hx, hb, hml, hown, hts⟩ (c_Mo_isRoot l D K s (by omega)) ⟨callB_of 1 hts (tw_in cm_Mo_isRoot) rfl rfl rfl (hts _ gn_Mo) (hts _ tw_709) hd_Mo_isRoot ⟨Nat.le_of_ble_eq_true rfl, Nat.le_of_ble_eq_true rfl⟩, hts _ gt_Mo_isRoot⟩ (sn_preS hK hN hP [] rfl) rfl rfl hl.1 rfl (lv_room (Nat.le_of_ble_eq_true rfl)) d_Mo_place_9 ⟨Nat.zero_le _, Nat.zero_le _⟩) rfl ?_
    refine sn_ifz_ne (tgt := 19) hx hb d_Mo_place_12 (by decide) (fun h2 => ?_) (fun h2 => ?_)
    · refine lv_aload_n hx hb d_Mo_place_19 rfl (lv_at hl 0 rfl) ?_
      refine va_get (D := D) (ci := 6) (v := .ref (b 4)) (C := R_Mo) (T := F_Mo) (N := 15) hx hb hts in_Mo hown hK hP 0 rfl rfl 3 (by decide) (hts _ tw_657) (fun _ h9 => h9) rfl d_Mo_place_20 ?_
      refine lv_iload_n hx hb d_Mo_place_23 rfl (lv_at hl 2 rfl) ?_
      refine sn_zald rr s hx hb hK hP 2 rfl (by omega) (by decide) d_Mo_place_24 ?_
      refine sn_ifb_eq (tgt := 48) hx hb d_Mo_place_25 (by decide) (fun h3 => ?_) (fun h3 => ?_)
      · exact absurd (hrr.symm.trans h3) (by decide)
      · refine lv_iload_n hx hb d_Mo_place_28 rfl (lv_at hl 3 rfl) ?_
        refine lv_if_lt (tgt := 48) hx hb d_Mo_place_29 (by decide) (fun h4 => ?_) (fun h4 => ?_)
        · refine lv_iconst (v := nI 2) hx hb d_Mo_place_48 (by decide) ?_
          refine lv_goto (tgt := 53) hx hb d_Mo_place_49 (by decide) ?_
          refine va_put (D := D) (ci := 6) (v := .int (nI 2)) (ty := .int) (C := R_Mo) (T := F_Mo) (N := 15) hx hb hts in_Mo t_Mo t_Mo_ok n_Mo hown hK hP hD hS 0 rfl rfl 13 (by decide) (hts _ tw_667) (fun _ h9 => h9) rfl (by decide +kernel) rfl rfl (Nat.le_of_ble_eq_true rfl) d_Mo_place_53 (fun H locs hP hD hS => ?_)
          have hP : va_P D classes [cr0 b md pc re ce 2 tp, aL K (b 2) 16 rv, aZ K (b 4) 16 rr, aI K (b 6) 640 Z] H := hP
          have hD : va_D A [cr0 b md pc re ce 2 tp, aL K (b 2) 16 rv, aZ K (b 4) 16 rr, aI K (b 6) 640 Z] := hD
          refine lv_aload_n hx hb d_Mo_place_56 rfl (lv_at hl 0 rfl) ?_
          refine va_get (D := D) (ci := 6) (v := .int (nI 2)) (C := R_Mo) (T := F_Mo) (N := 15) hx hb hts in_Mo hown hK hP 0 rfl rfl 13 (by decide) (hts _ tw_667) (fun _ h9 => h9) rfl d_Mo_place_57 ?_
          refine sn_if_le (by omega) (tgt := 67) hx hb d_Mo_place_60 (by decide) (fun h5 => ?_) (fun h5 => ?_)
          · omega
          · refine lv_iconst (v := (-1)) hx hb d_Mo_place_63 (by decide) ?_
            refine lv_goto (tgt := 79) hx hb d_Mo_place_64 (by decide) ?_
            subst hAe
            exact sx_wi hQ hx hb hrt hlk (rfl) hP hS d_Mo_place_79
        · refine lv_iload_n hx hb d_Mo_place_32 rfl (lv_at hl 3 rfl) ?_
          refine lv_aload_n hx hb d_Mo_place_33 rfl (lv_at hl 0 rfl) ?_
          refine va_get (D := D) (ci := 6) (v := .ref (b 6)) (C := R_Mo) (T := F_Mo) (N := 15) hx hb hts in_Mo hown hK hP 0 rfl rfl 5 (by decide) (hts _ tw_659) (fun _ h9 => h9) rfl d_Mo_place_34 ?_
          refine lv_aload_n hx hb d_Mo_place_37 rfl (lv_at hl 0 rfl) ?_
          refine va_get (D := D) (ci := 6) (v := .ref (b 2)) (C := R_Mo) (T := F_Mo) (N := 15) hx hb hts in_Mo hown hK hP 0 rfl rfl 1 (by decide) (hts _ tw_655) (fun _ h9 => h9) rfl d_Mo_place_38 ?_
          refine lv_iload_n hx hb d_Mo_place_41 rfl (lv_at hl 2 rfl) ?_
          refine sn_lald rv s hx hb hK hP 1 rfl (by omega) (by decide) d_Mo_place_42 ?_
          refine lv_l2i (v := nI k) hx hb d_Mo_place_43 (by rw [hk]; exact lN_i _) ?_
          refine sn_iald nI Z k hx hb hK hP 3 rfl (by omega) (by decide) d_Mo_place_44 ?_
          refine lv_icmp_lt (tgt := 52) hx hb d_Mo_place_45 (by decide) (fun h5 => ?_) (fun h5 => ?_)
          · exact (hb9.elim h4 (fun h9 => h9 h5)).elim
          · refine lv_iconst (v := nI 2) hx hb d_Mo_place_48 (by decide) ?_
            refine lv_goto (tgt := 53) hx hb d_Mo_place_49 (by decide) ?_
            refine va_put (D := D) (ci := 6) (v := .int (nI 2)) (ty := .int) (C := R_Mo) (T := F_Mo) (N := 15) hx hb hts in_Mo t_Mo t_Mo_ok n_Mo hown hK hP hD hS 0 rfl rfl 13 (by decide) (hts _ tw_667) (fun _ h9 => h9) rfl (by decide +kernel) rfl rfl (Nat.le_of_ble_eq_true rfl) d_Mo_place_53 (fun H locs hP hD hS => ?_)
            have hP : va_P D classes [cr0 b md pc re ce 2 tp, aL K (b 2) 16 rv, aZ K (b 4) 16 rr, aI K (b 6) 640 Z] H := hP
            have hD : va_D A [cr0 b md pc re ce 2 tp, aL K (b 2) 16 rv, aZ K (b 4) 16 rr, aI K (b 6) 640 Z] := hD
            refine lv_aload_n hx hb d_Mo_place_56 rfl (lv_at hl 0 rfl) ?_
            refine va_get (D := D) (ci := 6) (v := .int (nI 2)) (C := R_Mo) (T := F_Mo) (N := 15) hx hb hts in_Mo hown hK hP 0 rfl rfl 13 (by decide) (hts _ tw_667) (fun _ h9 => h9) rfl d_Mo_place_57 ?_
            refine sn_if_le (by omega) (tgt := 67) hx hb d_Mo_place_60 (by decide) (fun h6 => ?_) (fun h6 => ?_)
            · omega
            · refine lv_iconst (v := (-1)) hx hb d_Mo_place_63 (by decide) ?_
              refine lv_goto (tgt := 79) hx hb d_Mo_place_64 (by decide) ?_
              subst hAe
              exact sx_wi hQ hx hb hrt hlk (rfl) hP hS d_Mo_place_79
    · exact absurd trivial h2
