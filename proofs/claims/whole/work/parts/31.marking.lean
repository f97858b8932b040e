set_option maxHeartbeats 4000000 in
set_option maxRecDepth 100000 in
theorem c_Ar_fill (l : Launch) (D : va_G) (K : Nat → ClassId) (α : Type) (g : α → Int32) (f : Nat → α) (v : α) (x : Nat) (n : Nat) (hn : n < 2 ^ 31) : Met l y_Ar_fill w_Ar_fill ({ frames := 0, cells := 0, slots := 0, locals := 0 }) (va_Pc [.ref x, .int (g v)] (sn_BW D K [aG K g x n f])) (sn_Q D [aG K g x n f] [aG K g x n (fun _ => v)] none) 0 0 (sn_A [aG K g x n f]) := by
  refine sn_met (own := R_Ar) (by decide +kernel) rfl rfl (Nat.le_of_ble_eq_true rfl) ?_
  intro P9 E9 s9 m9 args below M9 c9 ls Q hQ hx hb hml hrt hlk hts hown hnm hl hB
  obtain ⟨⟨hP, hK, hN⟩, hD⟩ := hB
  have hl : lv_has ls 4 [(0, .ref x), (1, .int (g v))] := hl
  have hD := sn_DA hD
  have hS : va_S (sn_A [aG K g x n f]) s9.heap s9.heap [] := va_S.rf
  generalize hAe : sn_A [aG K g x n f] = A at hD hS
  refine lv_iconst (v := nI 0) hx hb d_Ar_fill_0 (by decide) ?_
  refine lv_istore_n (lv' := [(2, .int (nI 0)), (0, .ref x), (1, .int (g v))]) hx hb d_Ar_fill_1 rfl hl (by decide) rfl (fun ls hl => ?_)
  refine lv_aload_n hx hb d_Ar_fill_2 rfl (lv_at hl 1 rfl) ?_
  refine va_alen (v := nI n) hx hb hK hP 0 0 rfl rfl rfl d_Ar_fill_3 ?_
  refine lv_istore_n (lv' := [(3, .int (nI n)), (2, .int (nI 0)), (0, .ref x), (1, .int (g v))]) hx hb d_Ar_fill_4 rfl hl (by decide) rfl (fun ls hl => ?_)
  have loop0 : ∀ (nn : Nat) (i : Nat) (ls : Array Slot) (H : Heap) (locs : List Loc), n - i < nn → (i ≤ n) → lv_has ls 4 [(0, .ref x), (1, .int (g v)), (2, .int (nI i)), (3, .int (nI n))] → va_P D classes [aG K g x n (sn_clr f 0 i v)] H → va_D A [aG K g x n (sn_clr f 0 i v)] → va_S A s9.heap H locs → W P9 l E9 ({ frames := 0, cells := 0, slots := 0, locals := 0 }) s9 m9 args below M9 c9 H locs 0 0 Q (F0 m9 5 ls []) := by
    intro nn
    induction nn with
    | zero => intro i ls H locs hn; exact absurd hn (Nat.not_lt_zero _)
    | succ nn ih0 =>
      intro i ls H locs hmu hi hl hP hD hS
      refine lv_iload_n hx hb d_Ar_fill_5 rfl (lv_at hl 2 rfl) ?_
      refine lv_iload_n hx hb d_Ar_fill_6 rfl (lv_at hl 3 rfl) ?_
      refine sn_icmp_ge (by omega) (by omega) (tgt := 20) hx hb d_Ar_fill_7 (by decide) (fun h1 => ?_) (fun h1 => ?_)
      · obtain ⟨hP, hD⟩ := sn_reG (g := fun _ => v) hP hD 0 rfl (fun j hj => by unfold sn_clr; rw [if_pos (by omega)])
        have hP : va_P D classes [aG K g x n (fun _ => v)] H := hP
        have hD : va_D A [aG K g x n (fun _ => v)] := hD
        subst hAe
        exact sx_wv hQ hx hb hrt hlk hP hS d_Ar_fill_20
      · refine lv_aload_n hx hb d_Ar_fill_10 rfl (lv_at hl 0 rfl) ?_
        refine lv_iload_n hx hb d_Ar_fill_11 rfl (lv_at hl 2 rfl) ?_
        refine lv_iload_n hx hb d_Ar_fill_12 rfl (lv_at hl 1 rfl) ?_
        refine sn_iast g (sn_clr f 0 i v) i v hx hb hK hP hD hS 0 rfl (by omega) (by omega) d_Ar_fill_13 (fun H locs hP hD hS => ?_)
        have hP : va_P D classes [aG K g x n (va_up (sn_clr f 0 i v) i v)] H := hP
        have hD : va_D A [aG K g x n (va_up (sn_clr f 0 i v) i v)] := hD
        refine lv_iinc (k := 2) (v := nI (i + 1)) (lv' := [(2, .int (nI (i + 1))), (0, .ref x), (1, .int (g v)), (3, .int (nI n))]) hx hb d_Ar_fill_14 hl rfl (sn_inc _) (by decide) rfl (fun ls hl => ?_)
        refine lv_goto (tgt := 5) hx hb d_Ar_fill_17 (by decide) ?_
        have hP : va_P D classes [aG K g x n (sn_clr f 0 (i + 1) v)] H := by rw [← sn_clr_s0]; exact hP
        have hD : va_D A [aG K g x n (sn_clr f 0 (i + 1) v)] := by rw [← sn_clr_s0]; exact hD
        have hl := lv_sub (l' := [(0, .ref x), (1, .int (g v)), (2, .int (nI (i + 1))), (3, .int (nI n))]) hl [1, 2, 0, 3] rfl
        exact ih0 (i + 1) _ _ _ (by omega) (by omega) hl hP hD hS
  have hP : va_P D classes [aG K g x n (sn_clr f 0 0 v)] s9.heap := by rw [sn_clr_0]; exact hP
  have hD : va_D A [aG K g x n (sn_clr f 0 0 v)] := by rw [sn_clr_0]; exact hD
  have hl := lv_sub (l' := [(0, .ref x), (1, .int (g v)), (2, .int (nI 0)), (3, .int (nI n))]) hl [2, 3, 1, 0] rfl
  exact loop0 _ 0 _ _ _ (Nat.lt_succ_self _) (by omega) hl hP hD hS
set_option maxHeartbeats 4000000 in
set_option maxRecDepth 100000 in
theorem c_Ma_isDone (l : Launch) (D : va_G) (K : Nat → ClassId) (a : Nat → Nat) (o : Nat) (c : Nat) (w : Nat) (wc : Nat) (hw : wc ≤ 600) : Met l y_Ma_isDone w_Ma_isDone ({ frames := 0, cells := 0, slots := 0, locals := 0 }) (va_Pc [.ref o] (sn_B D K [cm0 a o c w wc])) (sn_QR (some (.int (zb (decide (wc = 0)))))) 0 0 (fun _ => False) := by
  refine sn_met (own := R_Ma) (by decide +kernel) rfl rfl (Nat.le_of_ble_eq_true rfl) ?_
  intro P9 E9 s9 m9 args below M9 c9 ls Q hQ hx hb hml hrt hlk hts hown hnm hl hB
  obtain ⟨hP, hK, hN⟩ := hB
  have hl : lv_has ls 1 [(0, .ref o)] := hl
  refine lv_aload_n hx hb d_Ma_isDone_0 rfl (lv_at hl 0 rfl) ?_
  refine va_get (D := D) (ci := 1) (v := .int (nI wc)) (C := R_Ma) (T := F_Ma) (N := 4) hx hb hts in_Ma hown hK hP 0 rfl rfl 3 (by decide) (hts _ tw_75) (fun _ h9 => h9) rfl d_Ma_isDone_1 ?_
  refine sn_if_ne (by omega) (tgt := 11) hx hb d_Ma_isDone_4 (by decide) (fun h1 => ?_) (fun h1 => ?_)
  · refine lv_iconst (v := nI 0) hx hb d_Ma_isDone_11 (by decide) ?_
    exact sx_rz hQ hx hb hrt hlk (zb_no (by omega)) d_Ma_isDone_12
  · refine lv_iconst (v := nI 1) hx hb d_Ma_isDone_7 (by decide) ?_
    refine lv_goto (tgt := 12) hx hb d_Ma_isDone_8 (by decide) ?_
    exact sx_rz hQ hx hb hrt hlk (zb_yes (h1)) d_Ma_isDone_12
set_option maxHeartbeats 4000000 in
set_option maxRecDepth 100000 in
theorem c_Ma_isWhite (l : Launch) (D : va_G) (K : Nat → ClassId) (a : Nat → Nat) (o : Nat) (c : Nat) (w : Nat) (C : Nat → Nat) (wc : Nat) (rc : Nat) (tp : Nat) (uc : Nat) (p : Nat) (hC : ∀ q, C q ≤ 2) (hp : p < 2 ^ 31) : Met l y_Ma_isWhite w_Ma_isWhite ({ frames := 1, cells := 0, slots := 0, locals := 21 }) (va_Pc [.ref o, .int (nI p)] (sn_B D K [ce0 a rc tp uc, cm0 a o c w wc, aI K c 601 C])) (sn_QR (some (.int (zb (decide (0 < p ∧ p ≤ 600 ∧ C p = 0)))))) 0 0 (fun _ => False) := by
  refine sn_met (own := R_Ma) (by decide +kernel) rfl rfl (Nat.le_of_ble_eq_true rfl) ?_
  intro P9 E9 s9 m9 args below M9 c9 ls Q hQ hx hb hml hrt hlk hts hown hnm hl hB
  obtain ⟨hP, hK, hN⟩ := hB
  have hl : lv_has ls 2 [(0, .ref o), (1, .int (nI p))] := hl
  have hCp := hC p
  refine lv_aload_n hx hb d_Ma_isWhite_0 rfl (lv_at hl 0 rfl) ?_
  refine va_get (D := D) (ci := 1) (v := .ref (a 0)) (C := R_Ma) (T := F_Ma) (N := 4) hx hb hts in_Ma hown hK hP 1 rfl rfl 0 (by decide) (hts _ tw_72) (fun _ h9 => h9) rfl d_Ma_isWhite_1 ?_
  refine lv_iload_n hx hb d_Ma_isWhite_4 rfl (lv_at hl 1 rfl) ?_
  refine sn_rd (st1 := [.int (zb (decide (0 < p ∧ p ≤ 600)))]) (va_runV (As := [.int (nI p)]) (rest := []) ⟨hx, hb, hml, hown, hts⟩ (c_St_isTuplePlace l D K a p (by omega)) ⟨callB_of 1 hts (tw_in cm_St_isTuplePlace) rfl rfl rfl (hts _ gn_St) (hts _ tw_211) hd_St_isTuplePlace ⟨Nat.le_of_ble_eq_true rfl, Nat.le_of_ble_eq_true rfl⟩, hts _ gi_St_isTuplePlace, hts _ gs_St_isTuplePlace⟩ (sn_preV hK hN hP 0 rfl rfl [] rfl) rfl rfl hl.1 rfl (lv_room (Nat.le_of_ble_eq_true rfl)) d_Ma_isWhite_5 ⟨Nat.zero_le _, Nat.zero_le _⟩) rfl ?_
  refine sn_ifz_eq (tgt := 24) hx hb d_Ma_isWhite_8 (by decide) (fun h1 => ?_) (fun h1 => ?_)
  · refine lv_iconst (v := nI 0) hx hb d_Ma_isWhite_24 (by decide) ?_
    exact sx_rz hQ hx hb hrt hlk (zb_no (by first | exact fun h9 => h1 ⟨h9.1, h9.2.1⟩ | omega)) d_Ma_isWhite_25
  · refine lv_aload_n hx hb d_Ma_isWhite_11 rfl (lv_at hl 0 rfl) ?_
    refine va_get (D := D) (ci := 1) (v := .ref c) (C := R_Ma) (T := F_Ma) (N := 4) hx hb hts in_Ma hown hK hP 1 rfl rfl 1 (by decide) (hts _ tw_73) (fun _ h9 => h9) rfl d_Ma_isWhite_12 ?_
    refine lv_iload_n hx hb d_Ma_isWhite_15 rfl (lv_at hl 1 rfl) ?_
    refine sn_iald nI C p hx hb hK hP 2 rfl (by omega) (by decide) d_Ma_isWhite_16 ?_
    refine sn_if_ne (by omega) (tgt := 24) hx hb d_Ma_isWhite_17 (by decide) (fun h2 => ?_) (fun h2 => ?_)
    · refine lv_iconst (v := nI 0) hx hb d_Ma_isWhite_24 (by decide) ?_
      exact sx_rz hQ hx hb hrt hlk (zb_no (by first | exact fun h9 => h1 ⟨h9.1, h9.2.1⟩ | omega)) d_Ma_isWhite_25
    · refine lv_iconst (v := nI 1) hx hb d_Ma_isWhite_20 (by decide) ?_
      refine lv_goto (tgt := 25) hx hb d_Ma_isWhite_21 (by decide) ?_
      exact sx_rz hQ hx hb hrt hlk (zb_yes (⟨h1.1, h1.2, h2⟩)) d_Ma_isWhite_25
set_option maxHeartbeats 4000000 in
set_option maxRecDepth 100000 in
theorem c_Ma_isGrey (l : Launch) (D : va_G) (K : Nat → ClassId) (a : Nat → Nat) (o : Nat) (c : Nat) (w : Nat) (C : Nat → Nat) (wc : Nat) (rc : Nat) (tp : Nat) (uc : Nat) (p : Nat) (hC : ∀ q, C q ≤ 2) (hp : p < 2 ^ 31) : Met l y_Ma_isGrey w_Ma_isGrey ({ frames := 1, cells := 0, slots := 0, locals := 21 }) (va_Pc [.ref o, .int (nI p)] (sn_B D K [ce0 a rc tp uc, cm0 a o c w wc, aI K c 601 C])) (sn_QR (some (.int (zb (decide (0 < p ∧ p ≤ 600 ∧ C p = 1)))))) 0 0 (fun _ => False) := by
  refine sn_met (own := R_Ma) (by decide +kernel) rfl rfl (Nat.le_of_ble_eq_true rfl) ?_
  intro P9 E9 s9 m9 args below M9 c9 ls Q hQ hx hb hml hrt hlk hts hown hnm hl hB
  obtain ⟨hP, hK, hN⟩ := hB
  have hl : lv_has ls 2 [(0, .ref o), (1, .int (nI p))] := hl
  have hCp := hC p
  refine lv_aload_n hx hb d_Ma_isGrey_0 rfl (lv_at hl 0 rfl) ?_
  refine va_get (D := D) (ci := 1) (v := .ref (a 0)) (C := R_Ma) (T := F_Ma) (N := 4) hx hb hts in_Ma hown hK hP 1 rfl rfl 0 (by decide) (hts _ tw_72) (fun _ h9 => h9) rfl d_Ma_isGrey_1 ?_
  refine lv_iload_n hx hb d_Ma_isGrey_4 rfl (lv_at hl 1 rfl) ?_
  refine sn_rd (st1 := [.int (zb (decide (0 < p ∧ p ≤ 600)))]) (va_runV (As := [.int (nI p)]) (rest := []) ⟨hx, hb, hml, hown, hts⟩ (c_St_isTuplePlace l D K a p (by omega)) ⟨callB_of 1 hts (tw_in cm_St_isTuplePlace) rfl rfl rfl (hts _ gn_St) (hts _ tw_211) hd_St_isTuplePlace ⟨Nat.le_of_ble_eq_true rfl, Nat.le_of_ble_eq_true rfl⟩, hts _ gi_St_isTuplePlace, hts _ gs_St_isTuplePlace⟩ (sn_preV hK hN hP 0 rfl rfl [] rfl) rfl rfl hl.1 rfl (lv_room (Nat.le_of_ble_eq_true rfl)) d_Ma_isGrey_5 ⟨Nat.zero_le _, Nat.zero_le _⟩) rfl ?_
  refine sn_ifz_eq (tgt := 25) hx hb d_Ma_isGrey_8 (by decide) (fun h1 => ?_) (fun h1 => ?_)
  · refine lv_iconst (v := nI 0) hx hb d_Ma_isGrey_25 (by decide) ?_
    exact sx_rz hQ hx hb hrt hlk (zb_no (by first | exact fun h9 => h1 ⟨h9.1, h9.2.1⟩ | omega)) d_Ma_isGrey_26
  · refine lv_aload_n hx hb d_Ma_isGrey_11 rfl (lv_at hl 0 rfl) ?_
    refine va_get (D := D) (ci := 1) (v := .ref c) (C := R_Ma) (T := F_Ma) (N := 4) hx hb hts in_Ma hown hK hP 1 rfl rfl 1 (by decide) (hts _ tw_73) (fun _ h9 => h9) rfl d_Ma_isGrey_12 ?_
    refine lv_iload_n hx hb d_Ma_isGrey_15 rfl (lv_at hl 1 rfl) ?_
    refine sn_iald nI C p hx hb hK hP 2 rfl (by omega) (by decide) d_Ma_isGrey_16 ?_
    refine lv_iconst (v := nI 1) hx hb d_Ma_isGrey_17 (by decide) ?_
    refine sn_icmp_ne (by omega) (by omega) (tgt := 25) hx hb d_Ma_isGrey_18 (by decide) (fun h2 => ?_) (fun h2 => ?_)
    · refine lv_iconst (v := nI 0) hx hb d_Ma_isGrey_25 (by decide) ?_
      exact sx_rz hQ hx hb hrt hlk (zb_no (by first | exact fun h9 => h1 ⟨h9.1, h9.2.1⟩ | omega)) d_Ma_isGrey_26
    · refine lv_iconst (v := nI 1) hx hb d_Ma_isGrey_21 (by decide) ?_
      refine lv_goto (tgt := 26) hx hb d_Ma_isGrey_22 (by decide) ?_
      exact sx_rz hQ hx hb hrt hlk (zb_yes (⟨h1.1, h1.2, h2⟩)) d_Ma_isGrey_26
set_option maxHeartbeats 4000000 in
set_option maxRecDepth 100000 in
theorem c_Ma_isBlack (l : Launch) (D : va_G) (K : Nat → ClassId) (a : Nat → Nat) (o : Nat) (c : Nat) (w : Nat) (C : Nat → Nat) (wc : Nat) (rc : Nat) (tp : Nat) (uc : Nat) (p : Nat) (hC : ∀ q, C q ≤ 2) (hp : p < 2 ^ 31) : Met l y_Ma_isBlack w_Ma_isBlack ({ frames := 1, cells := 0, slots := 0, locals := 21 }) (va_Pc [.ref o, .int (nI p)] (sn_B D K [ce0 a rc tp uc, cm0 a o c w wc, aI K c 601 C])) (sn_QR (some (.int (zb (decide (0 < p ∧ p ≤ 600 ∧ C p = 2)))))) 0 0 (fun _ => False) := by
  refine sn_met (own := R_Ma) (by decide +kernel) rfl rfl (Nat.le_of_ble_eq_true rfl) ?_
  intro P9 E9 s9 m9 args below M9 c9 ls Q hQ hx hb hml hrt hlk hts hown hnm hl hB
  obtain ⟨hP, hK, hN⟩ := hB
  have hl : lv_has ls 2 [(0, .ref o), (1, .int (nI p))] := hl
  have hCp := hC p
  refine lv_aload_n hx hb d_Ma_isBlack_0 rfl (lv_at hl 0 rfl) ?_
  refine va_get (D := D) (ci := 1) (v := .ref (a 0)) (C := R_Ma) (T := F_Ma) (N := 4) hx hb hts in_Ma hown hK hP 1 rfl rfl 0 (by decide) (hts _ tw_72) (fun _ h9 => h9) rfl d_Ma_isBlack_1 ?_
  refine lv_iload_n hx hb d_Ma_isBlack_4 rfl (lv_at hl 1 rfl) ?_
  refine sn_rd (st1 := [.int (zb (decide (0 < p ∧ p ≤ 600)))]) (va_runV (As := [.int (nI p)]) (rest := []) ⟨hx, hb, hml, hown, hts⟩ (c_St_isTuplePlace l D K a p (by omega)) ⟨callB_of 1 hts (tw_in cm_St_isTuplePlace) rfl rfl rfl (hts _ gn_St) (hts _ tw_211) hd_St_isTuplePlace ⟨Nat.le_of_ble_eq_true rfl, Nat.le_of_ble_eq_true rfl⟩, hts _ gi_St_isTuplePlace, hts _ gs_St_isTuplePlace⟩ (sn_preV hK hN hP 0 rfl rfl [] rfl) rfl rfl hl.1 rfl (lv_room (Nat.le_of_ble_eq_true rfl)) d_Ma_isBlack_5 ⟨Nat.zero_le _, Nat.zero_le _⟩) rfl ?_
  refine sn_ifz_eq (tgt := 25) hx hb d_Ma_isBlack_8 (by decide) (fun h1 => ?_) (fun h1 => ?_)
  · refine lv_iconst (v := nI 0) hx hb d_Ma_isBlack_25 (by decide) ?_
    exact sx_rz hQ hx hb hrt hlk (zb_no (by first | exact fun h9 => h1 ⟨h9.1, h9.2.1⟩ | omega)) d_Ma_isBlack_26
  · refine lv_aload_n hx hb d_Ma_isBlack_11 rfl (lv_at hl 0 rfl) ?_
    refine va_get (D := D) (ci := 1) (v := .ref c) (C := R_Ma) (T := F_Ma) (N := 4) hx hb hts in_Ma hown hK hP 1 rfl rfl 1 (by decide) (hts _ tw_73) (fun _ h9 => h9) rfl d_Ma_isBlack_12 ?_
    refine lv_iload_n hx hb d_Ma_isBlack_15 rfl (lv_at hl 1 rfl) ?_
    refine sn_iald nI C p hx hb hK hP 2 rfl (by omega) (by decide) d_Ma_isBlack_16 ?_
    refine lv_iconst (v := nI 2) hx hb d_Ma_isBlack_17 (by decide) ?_
    refine sn_icmp_ne (by omega) (by omega) (tgt := 25) hx hb d_Ma_isBlack_18 (by decide) (fun h2 => ?_) (fun h2 => ?_)
    · refine lv_iconst (v := nI 0) hx hb d_Ma_isBlack_25 (by decide) ?_
      exact sx_rz hQ hx hb hrt hlk (zb_no (by first | exact fun h9 => h1 ⟨h9.1, h9.2.1⟩ | omega)) d_Ma_isBlack_26
    · refine lv_iconst (v := nI 1) hx hb d_Ma_isBlack_21 (by decide) ?_
      refine lv_goto (tgt := 26) hx hb d_Ma_isBlack_22 (by decide) ?_
      exact sx_rz hQ hx hb hrt hlk (zb_yes (⟨h1.1, h1.2, h2⟩)) d_Ma_isBlack_26
set_option maxHeartbeats 4000000 in
set_option maxRecDepth 100000 in
theorem c_Ma_whiten (l : Launch) (D : va_G) (K : Nat → ClassId) (a : Nat → Nat) (o : Nat) (c : Nat) (w : Nat) (C : Nat → Nat) (wc : Nat) (rc : Nat) (tp : Nat) (uc : Nat) (p : Nat) (h0 : 0 < p) (h6 : p ≤ 600) : Met l y_Ma_whiten w_Ma_whiten ({ frames := 1, cells := 0, slots := 0, locals := 21 }) (va_Pc [.ref o, .int (nI p)] (sn_BW D K [ce0 a rc tp uc, cm0 a o c w wc, aI K c 601 C])) (sn_Q D [ce0 a rc tp uc, cm0 a o c w wc, aI K c 601 C] [ce0 a rc tp uc, cm0 a o c w wc, aI K c 601 (va_up C p 0)] none) 0 0 (sn_A [ce0 a rc tp uc, cm0 a o c w wc, aI K c 601 C]) := by
  refine sn_met (own := R_Ma) (by decide +kernel) rfl rfl (Nat.le_of_ble_eq_true rfl) ?_
  intro P9 E9 s9 m9 args below M9 c9 ls Q hQ hx hb hml hrt hlk hts hown hnm hl hB
  obtain ⟨⟨hP, hK, hN⟩, hD⟩ := hB
  have hl : lv_has ls 2 [(0, .ref o), (1, .int (nI p))] := hl
  have hD := sn_DA hD
  have hS : va_S (sn_A [ce0 a rc tp uc, cm0 a o c w wc, aI K c 601 C]) s9.heap s9.heap [] := va_S.rf
  generalize hAe : sn_A [ce0 a rc tp uc, cm0 a o c w wc, aI K c 601 C] = A at hD hS
  refine lv_aload_n hx hb d_Ma_whiten_0 rfl (lv_at hl 0 rfl) ?_
  refine va_get (D := D) (ci := 1) (v := .ref (a 0)) (C := R_Ma) (T := F_Ma) (N := 4) hx hb hts in_Ma hown hK hP 1 rfl rfl 0 (by decide) (hts _ tw_72) (fun _ h9 => h9) rfl d_Ma_whiten_1 ?_
  refine lv_iload_n hx hb d_Ma_whiten_4 rfl (lv_at hl 1 rfl) ?_
  refine sn_rd (st1 := [.int (zb (decide (0 < p ∧ p ≤ 600)))]) (va_runV (As := [.int (nI p)]) (rest := []) ⟨hx, hb, hml, hown, hts⟩ (c_St_isTuplePlace l D K a p (by omega)) ⟨callB_of 1 hts (tw_in cm_St_isTuplePlace) rfl rfl rfl (hts _ gn_St) (hts _ tw_211) hd_St_isTuplePlace ⟨Nat.le_of_ble_eq_true rfl, Nat.le_of_ble_eq_true rfl⟩, hts _ gi_St_isTuplePlace, hts _ gs_St_isTuplePlace⟩ (sn_preV hK hN hP 0 rfl rfl [] rfl) rfl rfl hl.1 rfl (lv_room (Nat.le_of_ble_eq_true rfl)) d_Ma_whiten_5 ⟨Nat.zero_le _, Nat.zero_le _⟩) rfl ?_
  refine sn_ifz_eq (tgt := 18) hx hb d_Ma_whiten_8 (by decide) (fun h1 => ?_) (fun h1 => ?_)
  · exact absurd ⟨h0, h6⟩ h1
  · refine lv_aload_n hx hb d_Ma_whiten_11 rfl (lv_at hl 0 rfl) ?_
    refine va_get (D := D) (ci := 1) (v := .ref c) (C := R_Ma) (T := F_Ma) (N := 4) hx hb hts in_Ma hown hK hP 1 rfl rfl 1 (by decide) (hts _ tw_73) (fun _ h9 => h9) rfl d_Ma_whiten_12 ?_
    refine lv_iload_n hx hb d_Ma_whiten_15 rfl (lv_at hl 1 rfl) ?_
    refine lv_iconst (v := nI 0) hx hb d_Ma_whiten_16 (by decide) ?_
    refine sn_iast nI C p 0 hx hb hK hP hD hS 2 rfl (by omega) (by decide) d_Ma_whiten_17 (fun H locs hP hD hS => ?_)
    have hP : va_P D classes [ce0 a rc tp uc, cm0 a o c w wc, aI K c 601 (va_up C p 0)] H := hP
    have hD : va_D A [ce0 a rc tp uc, cm0 a o c w wc, aI K c 601 (va_up C p 0)] := hD
    subst hAe
    exact sx_wv hQ hx hb hrt hlk hP hS d_Ma_whiten_18
set_option maxHeartbeats 4000000 in
set_option maxRecDepth 100000 in
theorem c_Ma_blacken (l : Launch) (D : va_G) (K : Nat → ClassId) (a : Nat → Nat) (o : Nat) (c : Nat) (w : Nat) (C : Nat → Nat) (wc : Nat) (rc : Nat) (tp : Nat) (uc : Nat) (p : Nat) (h0 : 0 < p) (h6 : p ≤ 600) : Met l y_Ma_blacken w_Ma_blacken ({ frames := 1, cells := 0, slots := 0, locals := 21 }) (va_Pc [.ref o, .int (nI p)] (sn_BW D K [ce0 a rc tp uc, cm0 a o c w wc, aI K c 601 C])) (sn_Q D [ce0 a rc tp uc, cm0 a o c w wc, aI K c 601 C] [ce0 a rc tp uc, cm0 a o c w wc, aI K c 601 (va_up C p 2)] none) 0 0 (sn_A [ce0 a rc tp uc, cm0 a o c w wc, aI K c 601 C]) := by
  refine sn_met (own := R_Ma) (by decide +kernel) rfl rfl (Nat.le_of_ble_eq_true rfl) ?_
  intro P9 E9 s9 m9 args below M9 c9 ls Q hQ hx hb hml hrt hlk hts hown hnm hl hB
  obtain ⟨⟨hP, hK, hN⟩, hD⟩ := hB
  have hl : lv_has ls 2 [(0, .ref o), (1, .int (nI p))] := hl
  have hD := sn_DA hD
  have hS : va_S (sn_A [ce0 a rc tp uc, cm0 a o c w wc, aI K c 601 C]) s9.heap s9.heap [] := va_S.rf
  generalize hAe : sn_A [ce0 a rc tp uc, cm0 a o c w wc, aI K c 601 C] = A at hD hS
  refine lv_aload_n hx hb d_Ma_blacken_0 rfl (lv_at hl 0 rfl) ?_
  refine va_get (D := D) (ci := 1) (v := .ref (a 0)) (C := R_Ma) (T := F_Ma) (N := 4) hx hb hts in_Ma hown hK hP 1 rfl rfl 0 (by decide) (hts _ tw_72) (fun _ h9 => h9) rfl d_Ma_blacken_1 ?_
  refine lv_iload_n hx hb d_Ma_blacken_4 rfl (lv_at hl 1 rfl) ?_
  refine sn_rd (st1 := [.int (zb (decide (0 < p ∧ p ≤ 600)))]) (va_runV (As := [.int (nI p)]) (rest := []) ⟨hx, hb, hml, hown, hts⟩ (c_St_isTuplePlace l D K a p (by omega)) ⟨callB_of 1 hts (tw_in cm_St_isTuplePlace) rfl rfl rfl (hts _ gn_St) (hts _ tw_211) hd_St_isTuplePlace ⟨Nat.le_of_ble_eq_true rfl, Nat.le_of_ble_eq_true rfl⟩, hts _ gi_St_isTuplePlace, hts _ gs_St_isTuplePlace⟩ (sn_preV hK hN hP 0 rfl rfl [] rfl) rfl rfl hl.1 rfl (lv_room (Nat.le_of_ble_eq_true rfl)) d_Ma_blacken_5 ⟨Nat.zero_le _, Nat.zero_le _⟩) rfl ?_
  refine sn_ifz_eq (tgt := 18) hx hb d_Ma_blacken_8 (by decide) (fun h1 => ?_) (fun h1 => ?_)
  · exact absurd ⟨h0, h6⟩ h1
  · refine lv_aload_n hx hb d_Ma_blacken_11 rfl (lv_at hl 0 rfl) ?_
    refine va_get (D := D) (ci := 1) (v := .ref c) (C := R_Ma) (T := F_Ma) (N := 4) hx hb hts in_Ma hown hK hP 1 rfl rfl 1 (by decide) (hts _ tw_73) (fun _ h9 => h9) rfl d_Ma_blacken_12 ?_
    refine lv_iload_n hx hb d_Ma_blacken_15 rfl (lv_at hl 1 rfl) ?_
    refine lv_iconst (v := nI 2) hx hb d_Ma_blacken_16 (by decide) ?_
    refine sn_iast nI C p 2 hx hb hK hP hD hS 2 rfl (by omega) (by decide) d_Ma_blacken_17 (fun H locs hP hD hS => ?_)
    have hP : va_P D classes [ce0 a rc tp uc, cm0 a o c w wc, aI K c 601 (va_up C p 2)] H := hP
    have hD : va_D A [ce0 a rc tp uc, cm0 a o c w wc, aI K c 601 (va_up C p 2)] := hD
    subst hAe
    exact sx_wv hQ hx hb hrt hlk hP hS d_Ma_blacken_18
set_option maxHeartbeats 4000000 in
set_option maxRecDepth 100000 in
theorem c_Ma_shade (l : Launch) (D : va_G) (K : Nat → ClassId) (a : Nat → Nat) (o : Nat) (c : Nat) (w : Nat) (X : SnM) (rc : Nat) (tp : Nat) (uc : Nat) (p : Nat) (hX : (∀ q, X.1 q ≤ 2) ∧ X.2.2 ≤ 600) (hp : p < 2 ^ 31) : Met l y_Ma_shade w_Ma_shade ({ frames := 1, cells := 0, slots := 0, locals := 21 }) (va_Pc [.ref o, .int (nI p)] (sn_BW D K [ce0 a rc tp uc, cm0 a o c w X.2.2, aI K c 601 X.1, aI K w 600 X.2.1])) (sn_Q D [ce0 a rc tp uc, cm0 a o c w X.2.2, aI K c 601 X.1, aI K w 600 X.2.1] [ce0 a rc tp uc, cm0 a o c w ((sn_shade 600 X p).2.2), aI K c 601 ((sn_shade 600 X p).1), aI K w 600 ((sn_shade 600 X p).2.1)] none) 0 0 (sn_A [ce0 a rc tp uc, cm0 a o c w X.2.2, aI K c 601 X.1, aI K w 600 X.2.1]) := by
  refine sn_met (own := R_Ma) (by decide +kernel) rfl rfl (Nat.le_of_ble_eq_true rfl) ?_
  intro P9 E9 s9 m9 args below M9 c9 ls Q hQ hx hb hml hrt hlk hts hown hnm hl hB
  obtain ⟨⟨hP, hK, hN⟩, hD⟩ := hB
  have hl : lv_has ls 2 [(0, .ref o), (1, .int (nI p))] := hl
  have hD := sn_DA hD
  have hS : va_S (sn_A [ce0 a rc tp uc, cm0 a o c w X.2.2, aI K c 601 X.1, aI K w 600 X.2.1]) s9.heap s9.heap [] := va_S.rf
  generalize hAe : sn_A [ce0 a rc tp uc, cm0 a o c w X.2.2, aI K c 601 X.1, aI K w 600 X.2.1] = A at hD hS
  obtain ⟨hC, hw⟩ := hX
  have hCp := hC p
  refine lv_aload_n hx hb d_Ma_shade_0 rfl (lv_at hl 0 rfl) ?_
  refine va_get (D := D) (ci := 1) (v := .ref (a 0)) (C := R_Ma) (T := F_Ma) (N := 4) hx hb hts in_Ma hown hK hP 1 rfl rfl 0 (by decide) (hts _ tw_72) (fun _ h9 => h9) rfl d_Ma_shade_1 ?_
  refine lv_iload_n hx hb d_Ma_shade_4 rfl (lv_at hl 1 rfl) ?_
  refine sn_rd (st1 := [.int (zb (decide (0 < p ∧ p ≤ 600)))]) (va_runV (As := [.int (nI p)]) (rest := []) ⟨hx, hb, hml, hown, hts⟩ (c_St_isTuplePlace l D K a p (by omega)) ⟨callB_of 1 hts (tw_in cm_St_isTuplePlace) rfl rfl rfl (hts _ gn_St) (hts _ tw_211) hd_St_isTuplePlace ⟨Nat.le_of_ble_eq_true rfl, Nat.le_of_ble_eq_true rfl⟩, hts _ gi_St_isTuplePlace, hts _ gs_St_isTuplePlace⟩ (sn_preV hK hN hP 0 rfl rfl [] rfl) rfl rfl hl.1 rfl (lv_room (Nat.le_of_ble_eq_true rfl)) d_Ma_shade_5 ⟨Nat.zero_le _, Nat.zero_le _⟩) rfl ?_
  refine sn_ifz_eq (tgt := 59) hx hb d_Ma_shade_8 (by decide) (fun h1 => ?_) (fun h1 => ?_)
  · rw [show sn_shade 600 X p = X from if_neg (by omega)] at hQ
    subst hAe
    exact sx_wv hQ hx hb hrt hlk hP hS d_Ma_shade_59
  · refine lv_aload_n hx hb d_Ma_shade_11 rfl (lv_at hl 0 rfl) ?_
    refine va_get (D := D) (ci := 1) (v := .ref c) (C := R_Ma) (T := F_Ma) (N := 4) hx hb hts in_Ma hown hK hP 1 rfl rfl 1 (by decide) (hts _ tw_73) (fun _ h9 => h9) rfl d_Ma_shade_12 ?_
    refine lv_iload_n hx hb d_Ma_shade_15 rfl (lv_at hl 1 rfl) ?_
    refine sn_iald nI X.1 p hx hb hK hP 2 rfl (by omega) (by decide) d_Ma_shade_16 ?_
    refine sn_if_ne (by omega) (tgt := 59) hx hb d_Ma_shade_17 (by decide) (fun h2 => ?_) (fun h2 => ?_)
    · rw [show sn_shade 600 X p = X from if_neg (by omega)] at hQ
      subst hAe
      exact sx_wv hQ hx hb hrt hlk hP hS d_Ma_shade_59
    · refine lv_aload_n hx hb d_Ma_shade_20 rfl (lv_at hl 0 rfl) ?_
      refine va_get (D := D) (ci := 1) (v := .int (nI X.2.2)) (C := R_Ma) (T := F_Ma) (N := 4) hx hb hts in_Ma hown hK hP 1 rfl rfl 3 (by decide) (hts _ tw_75) (fun _ h9 => h9) rfl d_Ma_shade_21 ?_
      refine lv_aload_n hx hb d_Ma_shade_24 rfl (lv_at hl 0 rfl) ?_
      refine va_get (D := D) (ci := 1) (v := .ref w) (C := R_Ma) (T := F_Ma) (N := 4) hx hb hts in_Ma hown hK hP 1 rfl rfl 2 (by decide) (hts _ tw_74) (fun _ h9 => h9) rfl d_Ma_shade_25 ?_
      refine va_alen (v := nI 600) hx hb hK hP 3 0 rfl rfl rfl d_Ma_shade_28 ?_
      refine sn_icmp_ge (by omega) (by omega) (tgt := 59) hx hb d_Ma_shade_29 (by decide) (fun h3 => ?_) (fun h3 => ?_)
      · rw [show sn_shade 600 X p = X from if_neg (by omega)] at hQ
        subst hAe
        exact sx_wv hQ hx hb hrt hlk hP hS d_Ma_shade_59
      · refine lv_aload_n hx hb d_Ma_shade_32 rfl (lv_at hl 0 rfl) ?_
        refine va_get (D := D) (ci := 1) (v := .ref c) (C := R_Ma) (T := F_Ma) (N := 4) hx hb hts in_Ma hown hK hP 1 rfl rfl 1 (by decide) (hts _ tw_73) (fun _ h9 => h9) rfl d_Ma_shade_33 ?_
        refine lv_iload_n hx hb d_Ma_shade_36 rfl (lv_at hl 1 rfl) ?_
        refine lv_iconst (v := nI 1) hx hb d_Ma_shade_37 (by decide) ?_
        refine sn_iast nI X.1 p 1 hx hb hK hP hD hS 2 rfl (by omega) (by decide) d_Ma_shade_38 (fun H locs hP hD hS => ?_)
        have hP : va_P D classes [ce0 a rc tp uc, cm0 a o c w X.2.2, aI K c 601 (va_up X.1 p 1), aI K w 600 X.2.1] H := hP
        have hD : va_D A [ce0 a rc tp uc, cm0 a o c w X.2.2, aI K c 601 (va_up X.1 p 1), aI K w 600 X.2.1] := hD
        refine lv_aload_n hx hb d_Ma_shade_39 rfl (lv_at hl 0 rfl) ?_
        refine va_get (D := D) (ci := 1) (v := .ref w) (C := R_Ma) (T := F_Ma) (N := 4) hx hb hts in_Ma hown hK hP 1 rfl rfl 2 (by decide) (hts _ tw_74) (fun _ h9 => h9) rfl d_Ma_shade_40 ?_
        refine lv_aload_n hx hb d_Ma_shade_43 rfl (lv_at hl 0 rfl) ?_
        refine va_get (D := D) (ci := 1) (v := .int (nI X.2.2)) (C := R_Ma) (T := F_Ma) (N := 4) hx hb hts in_Ma hown hK hP 1 rfl rfl 3 (by decide) (hts _ tw_75) (fun _ h9 => h9) rfl d_Ma_shade_44 ?_
        refine lv_iload_n hx hb d_Ma_shade_47 rfl (lv_at hl 1 rfl) ?_
        refine sn_iast nI X.2.1 X.2.2 p hx hb hK hP hD hS 3 rfl (by omega) (by decide) d_Ma_shade_48 (fun H locs hP hD hS => ?_)
        have hP : va_P D classes [ce0 a rc tp uc, cm0 a o c w X.2.2, aI K c 601 (va_up X.1 p 1), aI K w 600 (va_up X.2.1 X.2.2 p)] H := hP
        have hD : va_D A [ce0 a rc tp uc, cm0 a o c w X.2.2, aI K c 601 (va_up X.1 p 1), aI K w 600 (va_up X.2.1 X.2.2 p)] := hD
        refine lv_aload_n hx hb d_Ma_shade_49 rfl (lv_at hl 0 rfl) ?_
        refine lv_dup hx hb d_Ma_shade_50 rfl ?_
        refine va_get (D := D) (ci := 1) (v := .int (nI X.2.2)) (C := R_Ma) (T := F_Ma) (N := 4) hx hb hts in_Ma hown hK hP 1 rfl rfl 3 (by decide) (hts _ tw_75) (fun _ h9 => h9) rfl d_Ma_shade_51 ?_
        refine lv_iconst (v := nI 1) hx hb d_Ma_shade_54 (by decide) ?_
        refine lv_iadd hx hb d_Ma_shade_55 ?_
        refine sn_topi (nI_add _ _) ?_
        refine va_put (D := D) (ci := 1) (v := .int (nI (X.2.2 + 1))) (ty := .int) (C := R_Ma) (T := F_Ma) (N := 4) hx hb hts in_Ma t_Ma t_Ma_ok n_Ma hown hK hP hD hS 1 rfl rfl 3 (by decide) (hts _ tw_75) (fun _ h9 => h9) rfl (by decide +kernel) rfl rfl (Nat.le_of_ble_eq_true rfl) d_Ma_shade_56 (fun H locs hP hD hS => ?_)
        have hP : va_P D classes [ce0 a rc tp uc, cm0 a o c w (X.2.2 + 1), aI K c 601 (va_up X.1 p 1), aI K w 600 (va_up X.2.1 X.2.2 p)] H := hP
        have hD : va_D A [ce0 a rc tp uc, cm0 a o c w (X.2.2 + 1), aI K c 601 (va_up X.1 p 1), aI K w 600 (va_up X.2.1 X.2.2 p)] := hD
        rw [show sn_shade 600 X p = (va_up X.1 p 1, va_up X.2.1 X.2.2 p, X.2.2 + 1) from if_pos ⟨h1.1, h1.2, h2, h3⟩] at hQ
        subst hAe
        exact sx_wv hQ hx hb hrt hlk hP hS d_Ma_shade_59
set_option maxHeartbeats 4000000 in
set_option maxRecDepth 100000 in
theorem c_Ma_shadeValuesOf (l : Launch) (D : va_G) (K : Nat → ClassId) (a : Nat → Nat) (S : Nat → Option Nat) (L : Nat → Nat) (rc : Nat) (tp : Nat) (uc : Nat) (o : Nat) (c : Nat) (w : Nat) (X : SnM) (p : Nat) (hX : (∀ q, X.1 q ≤ 2) ∧ X.2.2 ≤ 600) (hp : p ≤ 600) (hSz : ∀ q n, S q = some n → n ≤ 16) (hL : ∀ s, L s ≤ 600) : Met l y_Ma_shadeValuesOf w_Ma_shadeValuesOf ({ frames := 2, cells := 0, slots := 0, locals := 42 }) (va_Pc [.ref o, .int (nI p)] (sn_BW D K [ce0 a rc tp uc, aS K (a 1) 601 S, aI K (a 2) 9616 L, cm0 a o c w X.2.2, aI K c 601 X.1, aI K w 600 X.2.1])) (sn_Q D [ce0 a rc tp uc, aS K (a 1) 601 S, aI K (a 2) 9616 L, cm0 a o c w X.2.2, aI K c 601 X.1, aI K w 600 X.2.1] [ce0 a rc tp uc, aS K (a 1) 601 S, aI K (a 2) 9616 L, cm0 a o c w ((sn_shv 600 L (16 * p) (sn_sz S p) X).2.2), aI K c 601 ((sn_shv 600 L (16 * p) (sn_sz S p) X).1), aI K w 600 ((sn_shv 600 L (16 * p) (sn_sz S p) X).2.1)] none) 0 0 (sn_A [ce0 a rc tp uc, aS K (a 1) 601 S, aI K (a 2) 9616 L, cm0 a o c w X.2.2, aI K c 601 X.1, aI K w 600 X.2.1]) := by
  refine sn_met (own := R_Ma) (by decide +kernel) rfl rfl (Nat.le_of_ble_eq_true rfl) ?_
  intro P9 E9 s9 m9 args below M9 c9 ls Q hQ hx hb hml hrt hlk hts hown hnm hl hB
  obtain ⟨⟨hP, hK, hN⟩, hD⟩ := hB
  have hl : lv_has ls 4 [(0, .ref o), (1, .int (nI p))] := hl
  have hD := sn_DA hD
  have hS : va_S (sn_A [ce0 a rc tp uc, aS K (a 1) 601 S, aI K (a 2) 9616 L, cm0 a o c w X.2.2, aI K c 601 X.1, aI K w 600 X.2.1]) s9.heap s9.heap [] := va_S.rf
  generalize hAe : sn_A [ce0 a rc tp uc, aS K (a 1) 601 S, aI K (a 2) 9616 L, cm0 a o c w X.2.2, aI K c 601 X.1, aI K w 600 X.2.1] = A at hD hS
  refine lv_aload_n hx hb d_Ma_shadeValuesOf_0 rfl (lv_at hl 0 rfl) ?_
  refine va_get (D := D) (ci := 1) (v := .ref (a 0)) (C := R_Ma) (T := F_Ma) (N := 4) hx hb hts in_Ma hown hK hP 3 rfl rfl 0 (by decide) (hts _ tw_72) (fun _ h9 => h9) rfl d_Ma_shadeValuesOf_1 ?_
  refine lv_iload_n hx hb d_Ma_shadeValuesOf_4 rfl (lv_at hl 1 rfl) ?_
  refine sn_rd (st1 := [.int (nI (sn_sz S p))]) (va_runV (As := [.int (nI p)]) (rest := []) ⟨hx, hb, hml, hown, hts⟩ (c_St_valuesOf l D K a S rc tp uc p (by omega) (hSz)) ⟨callB_of 1 hts (tw_in cm_St_valuesOf) rfl rfl rfl (hts _ gn_St) (hts _ tw_196) hd_St_valuesOf ⟨Nat.le_of_ble_eq_true rfl, Nat.le_of_ble_eq_true rfl⟩, hts _ gi_St_valuesOf, hts _ gs_St_valuesOf⟩ (sn_preV hK hN hP 0 rfl rfl [0, 1] rfl) rfl rfl hl.1 rfl (lv_room (Nat.le_of_ble_eq_true rfl)) d_Ma_shadeValuesOf_5 ⟨Nat.zero_le _, Nat.zero_le _⟩) rfl ?_
  refine lv_istore_n (lv' := [(2, .int (nI (sn_sz S p))), (0, .ref o), (1, .int (nI p))]) hx hb d_Ma_shadeValuesOf_8 rfl hl (by decide) rfl (fun ls hl => ?_)
  refine lv_iconst (v := nI 0) hx hb d_Ma_shadeValuesOf_9 (by decide) ?_
  refine lv_istore_n (lv' := [(3, .int (nI 0)), (2, .int (nI (sn_sz S p))), (0, .ref o), (1, .int (nI p))]) hx hb d_Ma_shadeValuesOf_10 rfl hl (by decide) rfl (fun ls hl => ?_)
  have hz : sn_sz S p ≤ 16 := sn_sz_le hSz p
  have loop0 : ∀ (nn : Nat) (i : Nat) (ls : Array Slot) (H : Heap) (locs : List Loc), sn_sz S p - i < nn → (i ≤ sn_sz S p) → lv_has ls 4 [(0, .ref o), (1, .int (nI p)), (2, .int (nI (sn_sz S p))), (3, .int (nI i))] → va_P D classes [ce0 a rc tp uc, aS K (a 1) 601 S, aI K (a 2) 9616 L, cm0 a o c w ((sn_shv 600 L (16 * p) i X).2.2), aI K c 601 ((sn_shv 600 L (16 * p) i X).1), aI K w 600 ((sn_shv 600 L (16 * p) i X).2.1)] H → va_D A [ce0 a rc tp uc, aS K (a 1) 601 S, aI K (a 2) 9616 L, cm0 a o c w ((sn_shv 600 L (16 * p) i X).2.2), aI K c 601 ((sn_shv 600 L (16 * p) i X).1), aI K w 600 ((sn_shv 600 L (16 * p) i X).2.1)] → va_S A s9.heap H locs → W P9 l E9 ({ frames := 2, cells := 0, slots := 0, locals := 42 }) s9 m9 args below M9 c9 H locs 0 0 Q (F0 m9 11 ls []) := by
    intro nn
    induction nn with
    | zero => intro i ls H locs hn; exact absurd hn (Nat.not_lt_zero _)
    | succ nn ih0 =>
      intro i ls H locs hmu hi hl hP hD hS
      have hXi := sn_shv_le hX L (16 * p) i
      refine lv_iload_n hx hb d_Ma_shadeValuesOf_11 rfl (lv_at hl 3 rfl) ?_
      refine lv_iload_n hx hb d_Ma_shadeValuesOf_12 rfl (lv_at hl 2 rfl) ?_
      refine sn_icmp_ge (by omega) (by omega) (tgt := 38) hx hb d_Ma_shadeValuesOf_13 (by decide) (fun h1 => ?_) (fun h1 => ?_)
      · have ei : sn_sz S p = i := by omega
        subst ei
        subst hAe
        exact sx_wv hQ hx hb hrt hlk hP hS d_Ma_shadeValuesOf_38
      · refine lv_aload_n hx hb d_Ma_shadeValuesOf_16 rfl (lv_at hl 0 rfl) ?_
        refine lv_aload_n hx hb d_Ma_shadeValuesOf_17 rfl (lv_at hl 0 rfl) ?_
        refine va_get (D := D) (ci := 1) (v := .ref (a 0)) (C := R_Ma) (T := F_Ma) (N := 4) hx hb hts in_Ma hown hK hP 3 rfl rfl 0 (by decide) (hts _ tw_72) (fun _ h9 => h9) rfl d_Ma_shadeValuesOf_18 ?_
        refine lv_iload_n hx hb d_Ma_shadeValuesOf_21 rfl (lv_at hl 1 rfl) ?_
        refine lv_iload_n hx hb d_Ma_shadeValuesOf_22 rfl (lv_at hl 3 rfl) ?_
        refine sn_rd (st1 := [.int (nI (16 * p + i)), .ref (a 0), .ref o]) (va_runSN (As := [.int (nI p), .int (nI i)]) (rest := [.ref (a 0), .ref o]) ⟨hx, hb, hml, hown, hts⟩ (c_Sh_slotOf l D K p i) ⟨va_cnB 2 hts (tw_in cm_Sh_slotOf) rfl rfl rfl hN.1 (hts _ gn_Sh) hd_Sh_slotOf ⟨Nat.le_of_ble_eq_true rfl, Nat.le_of_ble_eq_true rfl⟩, hts _ gt_Sh_slotOf, trivial⟩ (sn_preS hK hN hP [] rfl) rfl rfl hl.1 rfl (lv_room (Nat.le_of_ble_eq_true rfl)) d_Ma_shadeValuesOf_23 ⟨Nat.zero_le _, Nat.zero_le _⟩) rfl ?_
        refine sn_rd (st1 := [.int (nI (L (16 * p + i))), .ref o]) (va_runV (As := [.int (nI (16 * p + i))]) (rest := [.ref o]) ⟨hx, hb, hml, hown, hts⟩ (c_St_placeAt l D K a L rc tp uc (16 * p + i) (by omega)) ⟨callB_of 1 hts (tw_in cm_St_placeAt) rfl rfl rfl (hts _ gn_St) (hts _ tw_203) hd_St_placeAt ⟨Nat.le_of_ble_eq_true rfl, Nat.le_of_ble_eq_true rfl⟩, hts _ gi_St_placeAt, hts _ gs_St_placeAt⟩ (sn_preV hK hN hP 0 rfl rfl [0, 2] rfl) rfl rfl hl.1 rfl (lv_room (Nat.le_of_ble_eq_true rfl)) d_Ma_shadeValuesOf_26 ⟨Nat.zero_le _, Nat.zero_le _⟩) rfl ?_
        refine sn_wrt (st1 := []) (w1 := [ce0 a rc tp uc, cm0 a o c w ((sn_shade 600 (sn_shv 600 L (16 * p) i X) (L (16 * p + i))).2.2), aI K c 601 ((sn_shade 600 (sn_shv 600 L (16 * p) i X) (L (16 * p + i))).1), aI K w 600 ((sn_shade 600 (sn_shv 600 L (16 * p) i X) (L (16 * p + i))).2.1)]) (va_runV (As := [.int (nI (L (16 * p + i)))]) (rest := []) ⟨hx, hb, hml, hown, hts⟩ (c_Ma_shade l D K a o c w (sn_shv 600 L (16 * p) i X) rc tp uc (L (16 * p + i)) (hXi) (by have := hL (16 * p + i); omega)) ⟨callB_of 1 hts (tw_in cm_Ma_shade) rfl rfl rfl (hts _ gn_Ma) (hts _ tw_207) hd_Ma_shade ⟨Nat.le_of_ble_eq_true rfl, Nat.le_of_ble_eq_true rfl⟩, hts _ gi_Ma_shade, hts _ gs_Ma_shade⟩ (sn_preVW hK hN hP hD 3 rfl rfl [0, 3, 4, 5] rfl rfl) rfl rfl hl.1 rfl (lv_room (Nat.le_of_ble_eq_true rfl)) d_Ma_shadeValuesOf_29 ⟨Nat.zero_le _, Nat.zero_le _⟩) rfl hP hD hS [0, 3, 4, 5] rfl rfl (fun H locs hP hD hS => ?_)
        have hP : va_P D classes [ce0 a rc tp uc, aS K (a 1) 601 S, aI K (a 2) 9616 L, cm0 a o c w ((sn_shade 600 (sn_shv 600 L (16 * p) i X) (L (16 * p + i))).2.2), aI K c 601 ((sn_shade 600 (sn_shv 600 L (16 * p) i X) (L (16 * p + i))).1), aI K w 600 ((sn_shade 600 (sn_shv 600 L (16 * p) i X) (L (16 * p + i))).2.1)] H := hP
        have hD : va_D A [ce0 a rc tp uc, aS K (a 1) 601 S, aI K (a 2) 9616 L, cm0 a o c w ((sn_shade 600 (sn_shv 600 L (16 * p) i X) (L (16 * p + i))).2.2), aI K c 601 ((sn_shade 600 (sn_shv 600 L (16 * p) i X) (L (16 * p + i))).1), aI K w 600 ((sn_shade 600 (sn_shv 600 L (16 * p) i X) (L (16 * p + i))).2.1)] := hD
        refine lv_iinc (k := 3) (v := nI (i + 1)) (lv' := [(3, .int (nI (i + 1))), (0, .ref o), (1, .int (nI p)), (2, .int (nI (sn_sz S p)))]) hx hb d_Ma_shadeValuesOf_32 hl rfl (sn_inc _) (by decide) rfl (fun ls hl => ?_)
        refine lv_goto (tgt := 11) hx hb d_Ma_shadeValuesOf_35 (by decide) ?_
        have hP : va_P D classes [ce0 a rc tp uc, aS K (a 1) 601 S, aI K (a 2) 9616 L, cm0 a o c w ((sn_shv 600 L (16 * p) (i + 1) X).2.2), aI K c 601 ((sn_shv 600 L (16 * p) (i + 1) X).1), aI K w 600 ((sn_shv 600 L (16 * p) (i + 1) X).2.1)] H := hP
        have hD : va_D A [ce0 a rc tp uc, aS K (a 1) 601 S, aI K (a 2) 9616 L, cm0 a o c w ((sn_shv 600 L (16 * p) (i + 1) X).2.2), aI K c 601 ((sn_shv 600 L (16 * p) (i + 1) X).1), aI K w 600 ((sn_shv 600 L (16 * p) (i + 1) X).2.1)] := hD
        have hl := lv_sub (l' := [(0, .ref o), (1, .int (nI p)), (2, .int (nI (sn_sz S p))), (3, .int (nI (i + 1)))]) hl [1, 2, 3, 0] rfl
        exact ih0 (i + 1) _ _ _ (by omega) (by omega) hl hP hD hS
  have hP : va_P D classes [ce0 a rc tp uc, aS K (a 1) 601 S, aI K (a 2) 9616 L, cm0 a o c w ((sn_shv 600 L (16 * p) 0 X).2.2), aI K c 601 ((sn_shv 600 L (16 * p) 0 X).1), aI K w 600 ((sn_shv 600 L (16 * p) 0 X).2.1)] s9.heap := hP
  have hD : va_D A [ce0 a rc tp uc, aS K (a 1) 601 S, aI K (a 2) 9616 L, cm0 a o c w ((sn_shv 600 L (16 * p) 0 X).2.2), aI K c 601 ((sn_shv 600 L (16 * p) 0 X).1), aI K w 600 ((sn_shv 600 L (16 * p) 0 X).2.1)] := hD
  have hl := lv_sub (l' := [(0, .ref o), (1, .int (nI p)), (2, .int (nI (sn_sz S p))), (3, .int (nI 0))]) hl [2, 3, 1, 0] rfl
  exact loop0 _ 0 _ _ _ (Nat.lt_succ_self _) (by omega) hl hP hD hS
set_option maxHeartbeats 4000000 in
set_option maxRecDepth 100000 in
theorem c_Ma_markOne (l : Launch) (D : va_G) (K : Nat → ClassId) (a : Nat → Nat) (S : Nat → Option Nat) (L : Nat → Nat) (rc : Nat) (tp : Nat) (uc : Nat) (o : Nat) (c : Nat) (w : Nat) (X : SnM) (hX : (∀ q, X.1 q ≤ 2) ∧ X.2.2 ≤ 600) (h0 : 0 < X.2.2) (hp0 : 0 < X.2.1 (X.2.2 - 1)) (hp6 : X.2.1 (X.2.2 - 1) ≤ 600) (hSz : ∀ q n, S q = some n → n ≤ 16) (hL : ∀ s, L s ≤ 600) : Met l y_Ma_markOne w_Ma_markOne ({ frames := 3, cells := 0, slots := 0, locals := 65 }) (va_Pc [.ref o] (sn_BW D K [ce0 a rc tp uc, aS K (a 1) 601 S, aI K (a 2) 9616 L, cm0 a o c w X.2.2, aI K c 601 X.1, aI K w 600 X.2.1])) (sn_Q D [ce0 a rc tp uc, aS K (a 1) 601 S, aI K (a 2) 9616 L, cm0 a o c w X.2.2, aI K c 601 X.1, aI K w 600 X.2.1] [ce0 a rc tp uc, aS K (a 1) 601 S, aI K (a 2) 9616 L, cm0 a o c w ((sn_mark1 600 S L X).2.2), aI K c 601 ((sn_mark1 600 S L X).1), aI K w 600 ((sn_mark1 600 S L X).2.1)] none) 0 0 (sn_A [ce0 a rc tp uc, aS K (a 1) 601 S, aI K (a 2) 9616 L, cm0 a o c w X.2.2, aI K c 601 X.1, aI K w 600 X.2.1]) := by
  refine sn_met (own := R_Ma) (by decide +kernel) rfl rfl (Nat.le_of_ble_eq_true rfl) ?_
  intro P9 E9 s9 m9 args below M9 c9 ls Q hQ hx hb hml hrt hlk hts hown hnm hl hB
  obtain ⟨⟨hP, hK, hN⟩, hD⟩ := hB
  have hl : lv_has ls 2 [(0, .ref o)] := hl
  have hD := sn_DA hD
  have hS : va_S (sn_A [ce0 a rc tp uc, aS K (a 1) 601 S, aI K (a 2) 9616 L, cm0 a o c w X.2.2, aI K c 601 X.1, aI K w 600 X.2.1]) s9.heap s9.heap [] := va_S.rf
  generalize hAe : sn_A [ce0 a rc tp uc, aS K (a 1) 601 S, aI K (a 2) 9616 L, cm0 a o c w X.2.2, aI K c 601 X.1, aI K w 600 X.2.1] = A at hD hS
  obtain ⟨hC, hw⟩ := hX
  refine lv_aload_n hx hb d_Ma_markOne_0 rfl (lv_at hl 0 rfl) ?_
  refine va_get (D := D) (ci := 1) (v := .int (nI X.2.2)) (C := R_Ma) (T := F_Ma) (N := 4) hx hb hts in_Ma hown hK hP 3 rfl rfl 3 (by decide) (hts _ tw_75) (fun _ h9 => h9) rfl d_Ma_markOne_1 ?_
  refine sn_if_le (by omega) (tgt := 37) hx hb d_Ma_markOne_4 (by decide) (fun h1 => ?_) (fun h1 => ?_)
  · omega
  · refine lv_aload_n hx hb d_Ma_markOne_7 rfl (lv_at hl 0 rfl) ?_
    refine lv_dup hx hb d_Ma_markOne_8 rfl ?_
    refine va_get (D := D) (ci := 1) (v := .int (nI X.2.2)) (C := R_Ma) (T := F_Ma) (N := 4) hx hb hts in_Ma hown hK hP 3 rfl rfl 3 (by decide) (hts _ tw_75) (fun _ h9 => h9) rfl d_Ma_markOne_9 ?_
    refine lv_iconst (v := nI 1) hx hb d_Ma_markOne_12 (by decide) ?_
    refine lv_isub hx hb d_Ma_markOne_13 ?_
    refine sn_topi (pk_sub (by omega)) ?_
    refine va_put (D := D) (ci := 1) (v := .int (nI (X.2.2 - 1))) (ty := .int) (C := R_Ma) (T := F_Ma) (N := 4) hx hb hts in_Ma t_Ma t_Ma_ok n_Ma hown hK hP hD hS 3 rfl rfl 3 (by decide) (hts _ tw_75) (fun _ h9 => h9) rfl (by decide +kernel) rfl rfl (Nat.le_of_ble_eq_true rfl) d_Ma_markOne_14 (fun H locs hP hD hS => ?_)
    have hP : va_P D classes [ce0 a rc tp uc, aS K (a 1) 601 S, aI K (a 2) 9616 L, cm0 a o c w (X.2.2 - 1), aI K c 601 X.1, aI K w 600 X.2.1] H := hP
    have hD : va_D A [ce0 a rc tp uc, aS K (a 1) 601 S, aI K (a 2) 9616 L, cm0 a o c w (X.2.2 - 1), aI K c 601 X.1, aI K w 600 X.2.1] := hD
    refine lv_aload_n hx hb d_Ma_markOne_17 rfl (lv_at hl 0 rfl) ?_
    refine va_get (D := D) (ci := 1) (v := .ref w) (C := R_Ma) (T := F_Ma) (N := 4) hx hb hts in_Ma hown hK hP 3 rfl rfl 2 (by decide) (hts _ tw_74) (fun _ h9 => h9) rfl d_Ma_markOne_18 ?_
    refine lv_aload_n hx hb d_Ma_markOne_21 rfl (lv_at hl 0 rfl) ?_
    refine va_get (D := D) (ci := 1) (v := .int (nI (X.2.2 - 1))) (C := R_Ma) (T := F_Ma) (N := 4) hx hb hts in_Ma hown hK hP 3 rfl rfl 3 (by decide) (hts _ tw_75) (fun _ h9 => h9) rfl d_Ma_markOne_22 ?_
    refine sn_iald nI X.2.1 (X.2.2 - 1) hx hb hK hP 5 rfl (by omega) (by decide) d_Ma_markOne_25 ?_
    refine lv_istore_n (lv' := [(1, .int (nI (X.2.1 (X.2.2 - 1)))), (0, .ref o)]) hx hb d_Ma_markOne_26 rfl hl (by decide) rfl (fun ls hl => ?_)
    refine lv_aload_n hx hb d_Ma_markOne_27 rfl (lv_at hl 1 rfl) ?_
    refine lv_iload_n hx hb d_Ma_markOne_28 rfl (lv_at hl 0 rfl) ?_
    refine sn_wrt (st1 := []) (w1 := [ce0 a rc tp uc, cm0 a o c w (X.2.2 - 1), aI K c 601 (va_up X.1 (X.2.1 (X.2.2 - 1)) 2)]) (va_runV (As := [.int (nI (X.2.1 (X.2.2 - 1)))]) (rest := []) ⟨hx, hb, hml, hown, hts⟩ (c_Ma_blacken l D K a o c w X.1 (X.2.2 - 1) rc tp uc (X.2.1 (X.2.2 - 1)) (hp0) (hp6)) ⟨callB_of 1 hts (tw_in cm_Ma_blacken) rfl rfl rfl (hts _ gn_Ma) (hts _ tw_225) hd_Ma_blacken ⟨Nat.le_of_ble_eq_true rfl, Nat.le_of_ble_eq_true rfl⟩, hts _ gi_Ma_blacken, hts _ gs_Ma_blacken⟩ (sn_preVW hK hN hP hD 3 rfl rfl [0, 3, 4] rfl rfl) rfl rfl hl.1 rfl (lv_room (Nat.le_of_ble_eq_true rfl)) d_Ma_markOne_29 ⟨Nat.zero_le _, Nat.zero_le _⟩) rfl hP hD hS [0, 3, 4] rfl rfl (fun H locs hP hD hS => ?_)
    have hP : va_P D classes [ce0 a rc tp uc, aS K (a 1) 601 S, aI K (a 2) 9616 L, cm0 a o c w (X.2.2 - 1), aI K c 601 (va_up X.1 (X.2.1 (X.2.2 - 1)) 2), aI K w 600 X.2.1] H := hP
    have hD : va_D A [ce0 a rc tp uc, aS K (a 1) 601 S, aI K (a 2) 9616 L, cm0 a o c w (X.2.2 - 1), aI K c 601 (va_up X.1 (X.2.1 (X.2.2 - 1)) 2), aI K w 600 X.2.1] := hD
    have hXb : (∀ q, (va_up X.1 (X.2.1 (X.2.2 - 1)) 2, X.2.1, X.2.2 - 1).1 q ≤ 2) ∧ (va_up X.1 (X.2.1 (X.2.2 - 1)) 2, X.2.1, X.2.2 - 1).2.2 ≤ 600 := ⟨fun q => by show va_up X.1 (X.2.1 (X.2.2 - 1)) 2 q ≤ 2; unfold va_up; split; exact Nat.le_refl _; exact hC q, by show X.2.2 - 1 ≤ 600; omega⟩
    have hP : va_P D classes [ce0 a rc tp uc, aS K (a 1) 601 S, aI K (a 2) 9616 L, cm0 a o c w ((va_up X.1 (X.2.1 (X.2.2 - 1)) 2, X.2.1, X.2.2 - 1).2.2), aI K c 601 ((va_up X.1 (X.2.1 (X.2.2 - 1)) 2, X.2.1, X.2.2 - 1).1), aI K w 600 ((va_up X.1 (X.2.1 (X.2.2 - 1)) 2, X.2.1, X.2.2 - 1).2.1)] H := hP
    have hD : va_D A [ce0 a rc tp uc, aS K (a 1) 601 S, aI K (a 2) 9616 L, cm0 a o c w ((va_up X.1 (X.2.1 (X.2.2 - 1)) 2, X.2.1, X.2.2 - 1).2.2), aI K c 601 ((va_up X.1 (X.2.1 (X.2.2 - 1)) 2, X.2.1, X.2.2 - 1).1), aI K w 600 ((va_up X.1 (X.2.1 (X.2.2 - 1)) 2, X.2.1, X.2.2 - 1).2.1)] := hD
    refine lv_aload_n hx hb d_Ma_markOne_32 rfl (lv_at hl 1 rfl) ?_
    refine lv_iload_n hx hb d_Ma_markOne_33 rfl (lv_at hl 0 rfl) ?_
    refine sn_wrt (st1 := []) (w1 := [ce0 a rc tp uc, aS K (a 1) 601 S, aI K (a 2) 9616 L, cm0 a o c w ((sn_shv 600 L (16 * (X.2.1 (X.2.2 - 1))) (sn_sz S (X.2.1 (X.2.2 - 1))) (va_up X.1 (X.2.1 (X.2.2 - 1)) 2, X.2.1, X.2.2 - 1)).2.2), aI K c 601 ((sn_shv 600 L (16 * (X.2.1 (X.2.2 - 1))) (sn_sz S (X.2.1 (X.2.2 - 1))) (va_up X.1 (X.2.1 (X.2.2 - 1)) 2, X.2.1, X.2.2 - 1)).1), aI K w 600 ((sn_shv 600 L (16 * (X.2.1 (X.2.2 - 1))) (sn_sz S (X.2.1 (X.2.2 - 1))) (va_up X.1 (X.2.1 (X.2.2 - 1)) 2, X.2.1, X.2.2 - 1)).2.1)]) (va_runV (As := [.int (nI (X.2.1 (X.2.2 - 1)))]) (rest := []) ⟨hx, hb, hml, hown, hts⟩ (c_Ma_shadeValuesOf l D K a S L rc tp uc o c w (va_up X.1 (X.2.1 (X.2.2 - 1)) 2, X.2.1, X.2.2 - 1) (X.2.1 (X.2.2 - 1)) (hXb) (hp6) (hSz) (hL)) ⟨callB_of 1 hts (tw_in cm_Ma_shadeValuesOf) rfl rfl rfl (hts _ gn_Ma) (hts _ tw_229) hd_Ma_shadeValuesOf ⟨Nat.le_of_ble_eq_true rfl, Nat.le_of_ble_eq_true rfl⟩, hts _ gi_Ma_shadeValuesOf, hts _ gs_Ma_shadeValuesOf⟩ (sn_preVW hK hN hP hD 3 rfl rfl [0, 1, 2, 3, 4, 5] rfl rfl) rfl rfl hl.1 rfl (lv_room (Nat.le_of_ble_eq_true rfl)) d_Ma_markOne_34 ⟨Nat.zero_le _, Nat.zero_le _⟩) rfl hP hD hS [0, 1, 2, 3, 4, 5] rfl rfl (fun H locs hP hD hS => ?_)
    have hP : va_P D classes [ce0 a rc tp uc, aS K (a 1) 601 S, aI K (a 2) 9616 L, cm0 a o c w ((sn_shv 600 L (16 * (X.2.1 (X.2.2 - 1))) (sn_sz S (X.2.1 (X.2.2 - 1))) (va_up X.1 (X.2.1 (X.2.2 - 1)) 2, X.2.1, X.2.2 - 1)).2.2), aI K c 601 ((sn_shv 600 L (16 * (X.2.1 (X.2.2 - 1))) (sn_sz S (X.2.1 (X.2.2 - 1))) (va_up X.1 (X.2.1 (X.2.2 - 1)) 2, X.2.1, X.2.2 - 1)).1), aI K w 600 ((sn_shv 600 L (16 * (X.2.1 (X.2.2 - 1))) (sn_sz S (X.2.1 (X.2.2 - 1))) (va_up X.1 (X.2.1 (X.2.2 - 1)) 2, X.2.1, X.2.2 - 1)).2.1)] H := hP
    have hD : va_D A [ce0 a rc tp uc, aS K (a 1) 601 S, aI K (a 2) 9616 L, cm0 a o c w ((sn_shv 600 L (16 * (X.2.1 (X.2.2 - 1))) (sn_sz S (X.2.1 (X.2.2 - 1))) (va_up X.1 (X.2.1 (X.2.2 - 1)) 2, X.2.1, X.2.2 - 1)).2.2), aI K c 601 ((sn_shv 600 L (16 * (X.2.1 (X.2.2 - 1))) (sn_sz S (X.2.1 (X.2.2 - 1))) (va_up X.1 (X.2.1 (X.2.2 - 1)) 2, X.2.1, X.2.2 - 1)).1), aI K w 600 ((sn_shv 600 L (16 * (X.2.1 (X.2.2 - 1))) (sn_sz S (X.2.1 (X.2.2 - 1))) (va_up X.1 (X.2.1 (X.2.2 - 1)) 2, X.2.1, X.2.2 - 1)).2.1)] := hD
    rw [show sn_mark1 600 S L X = sn_shv 600 L (16 * X.2.1 (X.2.2 - 1)) ((S (X.2.1 (X.2.2 - 1))).getD 0) (sn_black 600 (X.1, X.2.1, X.2.2 - 1) (X.2.1 (X.2.2 - 1))) from if_pos h0, show sn_black 600 (X.1, X.2.1, X.2.2 - 1) (X.2.1 (X.2.2 - 1)) = (va_up X.1 (X.2.1 (X.2.2 - 1)) 2, X.2.1, X.2.2 - 1) from if_pos ⟨hp0, hp6⟩] at hQ
    subst hAe
    exact sx_wv hQ hx hb hrt hlk hP hS d_Ma_markOne_37
set_option maxHeartbeats 4000000 in
set_option maxRecDepth 100000 in
theorem c_Ma_reset (l : Launch) (D : va_G) (K : Nat → ClassId) (a : Nat → Nat) (o : Nat) (c : Nat) (w : Nat) (X : SnM)  : Met l y_Ma_reset w_Ma_reset ({ frames := 1, cells := 0, slots := 0, locals := 23 }) (va_Pc [.ref o] (sn_BW D K [cm0 a o c w X.2.2, aI K c 601 X.1, aI K w 600 X.2.1])) (sn_Q D [cm0 a o c w X.2.2, aI K c 601 X.1, aI K w 600 X.2.1] [cm0 a o c w (((fun _ => 0, X.2.1, 0) : SnM).2.2), aI K c 601 (((fun _ => 0, X.2.1, 0) : SnM).1), aI K w 600 (((fun _ => 0, X.2.1, 0) : SnM).2.1)] none) 0 0 (sn_A [cm0 a o c w X.2.2, aI K c 601 X.1, aI K w 600 X.2.1]) := by
  refine sn_met (own := R_Ma) (by decide +kernel) rfl rfl (Nat.le_of_ble_eq_true rfl) ?_
  intro P9 E9 s9 m9 args below M9 c9 ls Q hQ hx hb hml hrt hlk hts hown hnm hl hB
  obtain ⟨⟨hP, hK, hN⟩, hD⟩ := hB
  have hl : lv_has ls 1 [(0, .ref o)] := hl
  have hD := sn_DA hD
  have hS : va_S (sn_A [cm0 a o c w X.2.2, aI K c 601 X.1, aI K w 600 X.2.1]) s9.heap s9.heap [] := va_S.rf
  generalize hAe : sn_A [cm0 a o c w X.2.2, aI K c 601 X.1, aI K w 600 X.2.1] = A at hD hS
  refine lv_aload_n hx hb d_Ma_reset_0 rfl (lv_at hl 0 rfl) ?_
  refine va_get (D := D) (ci := 1) (v := .ref c) (C := R_Ma) (T := F_Ma) (N := 4) hx hb hts in_Ma hown hK hP 0 rfl rfl 1 (by decide) (hts _ tw_73) (fun _ h9 => h9) rfl d_Ma_reset_1 ?_
  refine lv_iconst (v := nI 0) hx hb d_Ma_reset_4 (by decide) ?_
  refine sn_wrt (st1 := []) (w1 := [aI K c 601 (fun _ => 0)]) (va_runS (As := [.ref c, .int (nI 0)]) (rest := []) ⟨hx, hb, hml, hown, hts⟩ (c_Ar_fill l D K Nat nI X.1 0 c 601 (by decide)) ⟨callB_of 2 hts (tw_in cm_Ar_fill) rfl rfl rfl (hts _ gn_Ar) (hts _ tw_317) hd_Ar_fill ⟨Nat.le_of_ble_eq_true rfl, Nat.le_of_ble_eq_true rfl⟩, hts _ gt_Ar_fill⟩ (sn_preSW hK hN hP hD [1] rfl rfl) rfl rfl hl.1 rfl (lv_room (Nat.le_of_ble_eq_true rfl)) d_Ma_reset_5 ⟨Nat.zero_le _, Nat.zero_le _⟩) rfl hP hD hS [1] rfl rfl (fun H locs hP hD hS => ?_)
  have hP : va_P D classes [cm0 a o c w X.2.2, aI K c 601 (fun _ => 0), aI K w 600 X.2.1] H := hP
  have hD : va_D A [cm0 a o c w X.2.2, aI K c 601 (fun _ => 0), aI K w 600 X.2.1] := hD
  refine lv_aload_n hx hb d_Ma_reset_8 rfl (lv_at hl 0 rfl) ?_
  refine lv_iconst (v := nI 0) hx hb d_Ma_reset_9 (by decide) ?_
  refine va_put (D := D) (ci := 1) (v := .int (nI 0)) (ty := .int) (C := R_Ma) (T := F_Ma) (N := 4) hx hb hts in_Ma t_Ma t_Ma_ok n_Ma hown hK hP hD hS 0 rfl rfl 3 (by decide) (hts _ tw_75) (fun _ h9 => h9) rfl (by decide +kernel) rfl rfl (Nat.le_of_ble_eq_true rfl) d_Ma_reset_10 (fun H locs hP hD hS => ?_)
  have hP : va_P D classes [cm0 a o c w 0, aI K c 601 (fun _ => 0), aI K w 600 X.2.1] H := hP
  have hD : va_D A [cm0 a o c w 0, aI K c 601 (fun _ => 0), aI K w 600 X.2.1] := hD
  subst hAe
  exact sx_wv hQ hx hb hrt hlk hP hS d_Ma_reset_13
set_option maxHeartbeats 4000000 in
set_option maxRecDepth 100000 in
theorem c_Ma_imitate (l : Launch) (D : va_G) (K : Nat → ClassId) (a : Nat → Nat) (o : Nat) (c : Nat) (w : Nat) (X : SnM) (o2 : Nat) (c2 : Nat) (w2 : Nat) (Y : SnM)  : Met l y_Ma_imitate w_Ma_imitate ({ frames := 1, cells := 0, slots := 0, locals := 40 }) (va_Pc [.ref o, .ref o2] (sn_BW D K [cm0 a o c w X.2.2, aI K c 601 X.1, aI K w 600 X.2.1, cm0 a o2 c2 w2 Y.2.2, aI K c2 601 Y.1, aI K w2 600 Y.2.1])) (sn_Q D [cm0 a o c w X.2.2, aI K c 601 X.1, aI K w 600 X.2.1, cm0 a o2 c2 w2 Y.2.2, aI K c2 601 Y.1, aI K w2 600 Y.2.1] [cm0 a o c w Y.2.2, aI K c 601 Y.1, aI K w 600 Y.2.1, cm0 a o2 c2 w2 Y.2.2, aI K c2 601 Y.1, aI K w2 600 Y.2.1] none) 0 0 (sn_A [cm0 a o c w X.2.2, aI K c 601 X.1, aI K w 600 X.2.1, cm0 a o2 c2 w2 Y.2.2, aI K c2 601 Y.1, aI K w2 600 Y.2.1]) := by
  refine sn_met (own := R_Ma) (by decide +kernel) rfl rfl (Nat.le_of_ble_eq_true rfl) ?_
  intro P9 E9 s9 m9 args below M9 c9 ls Q hQ hx hb hml hrt hlk hts hown hnm hl hB
  obtain ⟨⟨hP, hK, hN⟩, hD⟩ := hB
  have hl : lv_has ls 2 [(0, .ref o), (1, .ref o2)] := hl
  have hD := sn_DA hD
  have hS : va_S (sn_A [cm0 a o c w X.2.2, aI K c 601 X.1, aI K w 600 X.2.1, cm0 a o2 c2 w2 Y.2.2, aI K c2 601 Y.1, aI K w2 600 Y.2.1]) s9.heap s9.heap [] := va_S.rf
  generalize hAe : sn_A [cm0 a o c w X.2.2, aI K c 601 X.1, aI K w 600 X.2.1, cm0 a o2 c2 w2 Y.2.2, aI K c2 601 Y.1, aI K w2 600 Y.2.1] = A at hD hS
  refine lv_aload_n hx hb d_Ma_imitate_0 rfl (lv_at hl 1 rfl) ?_
  refine va_get (D := D) (ci := 1) (v := .ref c2) (C := R_Ma) (T := F_Ma) (N := 4) hx hb hts in_Ma hown hK hP 3 rfl rfl 1 (by decide) (hts _ tw_73) (fun _ h9 => h9) rfl d_Ma_imitate_1 ?_
  refine lv_iconst (v := nI 0) hx hb d_Ma_imitate_4 (by decide) ?_
  refine lv_aload_n hx hb d_Ma_imitate_5 rfl (lv_at hl 0 rfl) ?_
  refine va_get (D := D) (ci := 1) (v := .ref c) (C := R_Ma) (T := F_Ma) (N := 4) hx hb hts in_Ma hown hK hP 0 rfl rfl 1 (by decide) (hts _ tw_73) (fun _ h9 => h9) rfl d_Ma_imitate_6 ?_
  refine lv_iconst (v := nI 0) hx hb d_Ma_imitate_9 (by decide) ?_
  refine lv_aload_n hx hb d_Ma_imitate_10 rfl (lv_at hl 0 rfl) ?_
  refine va_get (D := D) (ci := 1) (v := .ref c) (C := R_Ma) (T := F_Ma) (N := 4) hx hb hts in_Ma hown hK hP 0 rfl rfl 1 (by decide) (hts _ tw_73) (fun _ h9 => h9) rfl d_Ma_imitate_11 ?_
  refine va_alen (v := nI 601) hx hb hK hP 1 0 rfl rfl rfl d_Ma_imitate_14 ?_
  refine sn_copy (rest := []) hx hb (hml.trans hl.1.symm) hown (hts _ tw_348) (hts _ tw_350) (hts _ tw_349) (hts _ gn_Sy) hK hP hD hS 4 1 rfl rfl (by decide) (Nat.le_of_ble_eq_true rfl) (Nat.le_of_ble_eq_true rfl) d_Ma_imitate_15 (fun H locs hP hD hS => ?_)
  have hP : va_P D classes [cm0 a o c w X.2.2, aI K c 601 Y.1, aI K w 600 X.2.1, cm0 a o2 c2 w2 Y.2.2, aI K c2 601 Y.1, aI K w2 600 Y.2.1] H := hP
  have hD : va_D A [cm0 a o c w X.2.2, aI K c 601 Y.1, aI K w 600 X.2.1, cm0 a o2 c2 w2 Y.2.2, aI K c2 601 Y.1, aI K w2 600 Y.2.1] := hD
  refine lv_aload_n hx hb d_Ma_imitate_18 rfl (lv_at hl 1 rfl) ?_
  refine va_get (D := D) (ci := 1) (v := .ref w2) (C := R_Ma) (T := F_Ma) (N := 4) hx hb hts in_Ma hown hK hP 3 rfl rfl 2 (by decide) (hts _ tw_74) (fun _ h9 => h9) rfl d_Ma_imitate_19 ?_
  refine lv_iconst (v := nI 0) hx hb d_Ma_imitate_22 (by decide) ?_
  refine lv_aload_n hx hb d_Ma_imitate_23 rfl (lv_at hl 0 rfl) ?_
  refine va_get (D := D) (ci := 1) (v := .ref w) (C := R_Ma) (T := F_Ma) (N := 4) hx hb hts in_Ma hown hK hP 0 rfl rfl 2 (by decide) (hts _ tw_74) (fun _ h9 => h9) rfl d_Ma_imitate_24 ?_
  refine lv_iconst (v := nI 0) hx hb d_Ma_imitate_27 (by decide) ?_
  refine lv_aload_n hx hb d_Ma_imitate_28 rfl (lv_at hl 0 rfl) ?_
  refine va_get (D := D) (ci := 1) (v := .ref w) (C := R_Ma) (T := F_Ma) (N := 4) hx hb hts in_Ma hown hK hP 0 rfl rfl 2 (by decide) (hts _ tw_74) (fun _ h9 => h9) rfl d_Ma_imitate_29 ?_
  refine va_alen (v := nI 600) hx hb hK hP 2 0 rfl rfl rfl d_Ma_imitate_32 ?_
  refine sn_copy (rest := []) hx hb (hml.trans hl.1.symm) hown (hts _ tw_348) (hts _ tw_350) (hts _ tw_349) (hts _ gn_Sy) hK hP hD hS 5 2 rfl rfl (by decide) (Nat.le_of_ble_eq_true rfl) (Nat.le_of_ble_eq_true rfl) d_Ma_imitate_33 (fun H locs hP hD hS => ?_)
  have hP : va_P D classes [cm0 a o c w X.2.2, aI K c 601 Y.1, aI K w 600 Y.2.1, cm0 a o2 c2 w2 Y.2.2, aI K c2 601 Y.1, aI K w2 600 Y.2.1] H := hP
  have hD : va_D A [cm0 a o c w X.2.2, aI K c 601 Y.1, aI K w 600 Y.2.1, cm0 a o2 c2 w2 Y.2.2, aI K c2 601 Y.1, aI K w2 600 Y.2.1] := hD
  refine lv_aload_n hx hb d_Ma_imitate_36 rfl (lv_at hl 0 rfl) ?_
  refine lv_aload_n hx hb d_Ma_imitate_37 rfl (lv_at hl 1 rfl) ?_
  refine va_get (D := D) (ci := 1) (v := .int (nI Y.2.2)) (C := R_Ma) (T := F_Ma) (N := 4) hx hb hts in_Ma hown hK hP 3 rfl rfl 3 (by decide) (hts _ tw_75) (fun _ h9 => h9) rfl d_Ma_imitate_38 ?_
  refine va_put (D := D) (ci := 1) (v := .int (nI Y.2.2)) (ty := .int) (C := R_Ma) (T := F_Ma) (N := 4) hx hb hts in_Ma t_Ma t_Ma_ok n_Ma hown hK hP hD hS 0 rfl rfl 3 (by decide) (hts _ tw_75) (fun _ h9 => h9) rfl (by decide +kernel) rfl rfl (Nat.le_of_ble_eq_true rfl) d_Ma_imitate_41 (fun H locs hP hD hS => ?_)
  have hP : va_P D classes [cm0 a o c w Y.2.2, aI K c 601 Y.1, aI K w 600 Y.2.1, cm0 a o2 c2 w2 Y.2.2, aI K c2 601 Y.1, aI K w2 600 Y.2.1] H := hP
  have hD : va_D A [cm0 a o c w Y.2.2, aI K c 601 Y.1, aI K w 600 Y.2.1, cm0 a o2 c2 w2 Y.2.2, aI K c2 601 Y.1, aI K w2 600 Y.2.1] := hD
  subst hAe
  exact sx_wv hQ hx hb hrt hlk hP hS d_Ma_imitate_44
