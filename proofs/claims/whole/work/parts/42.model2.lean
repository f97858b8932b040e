set_option maxHeartbeats 1000000 in
set_option maxRecDepth 100000 in
theorem c_Mo_get (l : Launch) (D : va_G) (K : Nat → ClassId) (b : Nat → Nat) (md : Nat) (pc : Nat) (re : Nat) (ce : Nat) (th : Nat) (tp : Nat) (vv : Nat → Int64) (rv : Nat → Int64) (vr : Nat → Bool) (rr : Nat → Bool) (Z : Nat → Nat) (r : Nat) (s : Nat) (i : Nat) (k : Nat) (hr : r < 16) (hs : s < 16) (hrr : rr s = true) (hk : rv s = lN k) (hk6 : k < 640) (hi : i < Z k) (hz : Z k ≤ 16) : Met l y_Mo_get w_Mo_get ({ frames := 2, cells := 0, slots := 0, locals := 43 }) (va_Pc [.ref (b 0), .int (nI r), .int (nI s), .int (nI i)] (sn_BW D K [cr0 b md pc re ce th tp, aL K (b 1) 10240 vv, aL K (b 2) 16 rv, aZ K (b 3) 10240 vr, aZ K (b 4) 16 rr, aI K (b 6) 640 Z])) (sn_Q D [cr0 b md pc re ce th tp, aL K (b 1) 10240 vv, aL K (b 2) 16 rv, aZ K (b 3) 10240 vr, aZ K (b 4) 16 rr, aI K (b 6) 640 Z] [cr0 b md pc re ce 0 tp, aL K (b 1) 10240 vv, aL K (b 2) 16 (va_up rv r (vv (16 * k + i))), aZ K (b 3) 10240 vr, aZ K (b 4) 16 (va_up rr r (vr (16 * k + i))), aI K (b 6) 640 Z] none) 0 0 (sn_A [cr0 b md pc re ce th tp, aL K (b 1) 10240 vv, aL K (b 2) 16 rv, aZ K (b 3) 10240 vr, aZ K (b 4) 16 rr, aI K (b 6) 640 Z]) := by
  refine sn_met (own := R_Mo) (by decide +kernel) rfl rfl (Nat.le_of_ble_eq_true rfl) ?_
  intro P9 E9 s9 m9 args below M9 c9 ls Q hQ hx hb hml hrt hlk hts hown hnm hl hB
  obtain ⟨⟨hP, hK, hN⟩, hD⟩ := hB
  have hl : lv_has ls 5 [(0, .ref (b 0)), (1, .int (nI r)), (2, .int (nI s)), (3, .int (nI i))] := hl
  have hD := sn_DA hD
  have hS : va_S (sn_A [cr0 b md pc re ce th tp, aL K (b 1) 10240 vv, aL K (b 2) 16 rv, aZ K (b 3) 10240 vr, aZ K (b 4) 16 rr, aI K (b 6) 640 Z]) s9.heap s9.heap [] := va_S.rf
  generalize hAe : sn_A [cr0 b md pc re ce th tp, aL K (b 1) 10240 vv, aL K (b 2) 16 rv, aZ K (b 3) 10240 vr, aZ K (b 4) 16 rr, aI K (b 6) 640 Z] = A at hD hS
  refine lv_aload_n hx hb d_Mo_get_0 rfl (lv_at hl 0 rfl) ?_
  refine lv_iload_n hx hb d_Mo_get_1 rfl (lv_at hl 1 rfl) ?_
  refine lv_iload_n hx hb d_Mo_get_2 rfl (lv_at hl 2 rfl) ?_
  refine lv_iload_n hx hb d_Mo_get_3 rfl (lv_at hl 3 rfl) ?_
  refine sn_wrt (st1 := [.int (nI (16 * k + i))]) (w1 := [cr0 b md pc re ce 0 tp, aL K (b 2) 16 rv, aZ K (b 4) 16 rr, aI K (b 6) 640 Z]) (va_runV (As := [.int (nI r), .int (nI s), .int (nI i)]) (rest := []) ⟨hx, hb, hml, hown, hts⟩ (c_Mo_place l D K b md pc re ce th tp rv rr Z r s i k (by omega) (by omega) (hrr) (hk) (by omega) (by omega) (by omega)) ⟨callB_of 3 hts (tw_in cm_Mo_place) rfl rfl rfl (hts _ gn_Mo) (hts _ tw_732) hd_Mo_place ⟨Nat.le_of_ble_eq_true rfl, Nat.le_of_ble_eq_true rfl⟩, hts _ gi_Mo_place, hts _ gs_Mo_place⟩ (sn_preVW hK hN hP hD 0 rfl rfl [0, 2, 4, 5] rfl rfl) rfl rfl hl.1 rfl (lv_room (Nat.le_of_ble_eq_true rfl)) d_Mo_get_4 ⟨Nat.zero_le _, Nat.zero_le _⟩) rfl hP hD hS [0, 2, 4, 5] rfl rfl (fun H locs hP hD hS => ?_)
  have hP : va_P D classes [cr0 b md pc re ce 0 tp, aL K (b 1) 10240 vv, aL K (b 2) 16 rv, aZ K (b 3) 10240 vr, aZ K (b 4) 16 rr, aI K (b 6) 640 Z] H := hP
  have hD : va_D A [cr0 b md pc re ce 0 tp, aL K (b 1) 10240 vv, aL K (b 2) 16 rv, aZ K (b 3) 10240 vr, aZ K (b 4) 16 rr, aI K (b 6) 640 Z] := hD
  refine lv_istore (lv' := [(4, .int (nI (16 * k + i))), (0, .ref (b 0)), (1, .int (nI r)), (2, .int (nI s)), (3, .int (nI i))]) hx hb d_Mo_get_7 hl (by decide) rfl (fun ls hl => ?_)
  refine lv_iload hx hb d_Mo_get_9 (lv_at hl 0 rfl) ?_
  refine sn_if_ge (by omega) (tgt := 15) hx hb d_Mo_get_11 (by decide) ?_
  refine lv_aload_n hx hb d_Mo_get_15 rfl (lv_at hl 1 rfl) ?_
  refine va_get (D := D) (ci := 6) (v := .ref (b 2)) (C := R_Mo) (T := F_Mo) (N := 15) hx hb hts in_Mo hown hK hP 0 rfl rfl 1 (by decide) (hts _ tw_655) (fun _ h9 => h9) rfl d_Mo_get_16 ?_
  refine lv_iload_n hx hb d_Mo_get_19 rfl (lv_at hl 2 rfl) ?_
  refine lv_aload_n hx hb d_Mo_get_20 rfl (lv_at hl 1 rfl) ?_
  refine va_get (D := D) (ci := 6) (v := .ref (b 1)) (C := R_Mo) (T := F_Mo) (N := 15) hx hb hts in_Mo hown hK hP 0 rfl rfl 0 (by decide) (hts _ tw_654) (fun _ h9 => h9) rfl d_Mo_get_21 ?_
  refine lv_iload hx hb d_Mo_get_24 (lv_at hl 0 rfl) ?_
  refine sn_lald vv (16 * k + i) hx hb hK hP 1 rfl (by omega) (by decide) d_Mo_get_26 ?_
  refine sn_last rv r (vv (16 * k + i)) hx hb hK hP hD hS 2 rfl (by omega) (by decide) d_Mo_get_27 (fun H locs hP hD hS => ?_)
  have hP : va_P D classes [cr0 b md pc re ce 0 tp, aL K (b 1) 10240 vv, aL K (b 2) 16 (va_up rv r (vv (16 * k + i))), aZ K (b 3) 10240 vr, aZ K (b 4) 16 rr, aI K (b 6) 640 Z] H := hP
  have hD : va_D A [cr0 b md pc re ce 0 tp, aL K (b 1) 10240 vv, aL K (b 2) 16 (va_up rv r (vv (16 * k + i))), aZ K (b 3) 10240 vr, aZ K (b 4) 16 rr, aI K (b 6) 640 Z] := hD
  refine lv_aload_n hx hb d_Mo_get_28 rfl (lv_at hl 1 rfl) ?_
  refine va_get (D := D) (ci := 6) (v := .ref (b 4)) (C := R_Mo) (T := F_Mo) (N := 15) hx hb hts in_Mo hown hK hP 0 rfl rfl 3 (by decide) (hts _ tw_657) (fun _ h9 => h9) rfl d_Mo_get_29 ?_
  refine lv_iload_n hx hb d_Mo_get_32 rfl (lv_at hl 2 rfl) ?_
  refine lv_aload_n hx hb d_Mo_get_33 rfl (lv_at hl 1 rfl) ?_
  refine va_get (D := D) (ci := 6) (v := .ref (b 3)) (C := R_Mo) (T := F_Mo) (N := 15) hx hb hts in_Mo hown hK hP 0 rfl rfl 2 (by decide) (hts _ tw_656) (fun _ h9 => h9) rfl d_Mo_get_34 ?_
  refine lv_iload hx hb d_Mo_get_37 (lv_at hl 0 rfl) ?_
  refine sn_zald vr (16 * k + i) hx hb hK hP 3 rfl (by omega) (by decide) d_Mo_get_39 ?_
  refine sn_zast rr r (vr (16 * k + i)) hx hb hK hP hD hS 4 rfl (by omega) (by decide) d_Mo_get_40 (fun H locs hP hD hS => ?_)
  have hP : va_P D classes [cr0 b md pc re ce 0 tp, aL K (b 1) 10240 vv, aL K (b 2) 16 (va_up rv r (vv (16 * k + i))), aZ K (b 3) 10240 vr, aZ K (b 4) 16 (va_up rr r (vr (16 * k + i))), aI K (b 6) 640 Z] H := hP
  have hD : va_D A [cr0 b md pc re ce 0 tp, aL K (b 1) 10240 vv, aL K (b 2) 16 (va_up rv r (vv (16 * k + i))), aZ K (b 3) 10240 vr, aZ K (b 4) 16 (va_up rr r (vr (16 * k + i))), aI K (b 6) 640 Z] := hD
  subst hAe
  exact sx_wv hQ hx hb hrt hlk hP hS d_Mo_get_41
set_option maxHeartbeats 1000000 in
set_option maxRecDepth 100000 in
theorem c_Mo_get_b1 (l : Launch) (D : va_G) (K : Nat → ClassId) (b : Nat → Nat) (md : Nat) (pc : Nat) (re : Nat) (ce : Nat) (th : Nat) (tp : Nat) (r : Int32) (s : Int32) (i : Int32) (hb9 : r < 0 ∨ nI 16 ≤ r) : Met l y_Mo_get w_Mo_get ({ frames := 2, cells := 0, slots := 0, locals := 43 }) (va_Pc [.ref (b 0), .int r, .int s, .int i] (sn_BW D K [cr0 b md pc re ce th tp])) (sn_Q D [cr0 b md pc re ce th tp] [cr0 b md pc re ce 1 tp] none) 0 0 (sn_A [cr0 b md pc re ce th tp]) := by
  refine sn_met (own := R_Mo) (by decide +kernel) rfl rfl (Nat.le_of_ble_eq_true rfl) ?_
  intro P9 E9 s9 m9 args below M9 c9 ls Q hQ hx hb hml hrt hlk hts hown hnm hl hB
  obtain ⟨⟨hP, hK, hN⟩, hD⟩ := hB
  have hl : lv_has ls 5 [(0, .ref (b 0)), (1, .int r), (2, .int s), (3, .int i)] := hl
  have hD := sn_DA hD
  have hS : va_S (sn_A [cr0 b md pc re ce th tp]) s9.heap s9.heap [] := va_S.rf
  generalize hAe : sn_A [cr0 b md pc re ce th tp] = A at hD hS
  refine lv_aload_n hx hb d_Mo_get_0 rfl (lv_at hl 0 rfl) ?_
  refine lv_iload_n hx hb d_Mo_get_1 rfl (lv_at hl 1 rfl) ?_
  refine lv_iload_n hx hb d_Mo_get_2 rfl (lv_at hl 2 rfl) ?_
  refine lv_iload_n hx hb d_Mo_get_3 rfl (lv_at hl 3 rfl) ?_
  refine sn_wrt (st1 := [.int (-1)]) (w1 := [cr0 b md pc re ce 1 tp]) (va_runV (As := [.int r, .int s, .int i]) (rest := []) ⟨hx, hb, hml, hown, hts⟩ (c_Mo_place_b1 l D K b md pc re ce th tp r s i (hb9)) ⟨callB_of 3 hts (tw_in cm_Mo_place) rfl rfl rfl (hts _ gn_Mo) (hts _ tw_732) hd_Mo_place ⟨Nat.le_of_ble_eq_true rfl, Nat.le_of_ble_eq_true rfl⟩, hts _ gi_Mo_place, hts _ gs_Mo_place⟩ (sn_preVW hK hN hP hD 0 rfl rfl [0] rfl rfl) rfl rfl hl.1 rfl (lv_room (Nat.le_of_ble_eq_true rfl)) d_Mo_get_4 ⟨Nat.zero_le _, Nat.zero_le _⟩) rfl hP hD hS [0] rfl rfl (fun H locs hP hD hS => ?_)
  have hP : va_P D classes [cr0 b md pc re ce 1 tp] H := hP
  have hD : va_D A [cr0 b md pc re ce 1 tp] := hD
  refine lv_istore (lv' := [(4, .int (-1)), (0, .ref (b 0)), (1, .int r), (2, .int s), (3, .int i)]) hx hb d_Mo_get_7 hl (by decide) rfl (fun ls hl => ?_)
  refine lv_iload hx hb d_Mo_get_9 (lv_at hl 0 rfl) ?_
  refine lv_if_ge (tgt := 15) hx hb d_Mo_get_11 (by decide) (fun h1 => ?_) (fun h1 => ?_)
  · exact absurd h1 (by decide)
  · subst hAe
    exact sx_wv hQ hx hb hrt hlk hP hS d_Mo_get_14
set_option maxHeartbeats 1000000 in
set_option maxRecDepth 100000 in
theorem c_Mo_get_b2 (l : Launch) (D : va_G) (K : Nat → ClassId) (b : Nat → Nat) (md : Nat) (pc : Nat) (re : Nat) (ce : Nat) (th : Nat) (tp : Nat) (r : Nat) (s : Int32) (i : Int32) (hr : r < 16) (hb9 : s < 0 ∨ nI 16 ≤ s) : Met l y_Mo_get w_Mo_get ({ frames := 2, cells := 0, slots := 0, locals := 43 }) (va_Pc [.ref (b 0), .int (nI r), .int s, .int i] (sn_BW D K [cr0 b md pc re ce th tp])) (sn_Q D [cr0 b md pc re ce th tp] [cr0 b md pc re ce 1 tp] none) 0 0 (sn_A [cr0 b md pc re ce th tp]) := by
  refine sn_met (own := R_Mo) (by decide +kernel) rfl rfl (Nat.le_of_ble_eq_true rfl) ?_
  intro P9 E9 s9 m9 args below M9 c9 ls Q hQ hx hb hml hrt hlk hts hown hnm hl hB
  obtain ⟨⟨hP, hK, hN⟩, hD⟩ := hB
  have hl : lv_has ls 5 [(0, .ref (b 0)), (1, .int (nI r)), (2, .int s), (3, .int i)] := hl
  have hD := sn_DA hD
  have hS : va_S (sn_A [cr0 b md pc re ce th tp]) s9.heap s9.heap [] := va_S.rf
  generalize hAe : sn_A [cr0 b md pc re ce th tp] = A at hD hS
  refine lv_aload_n hx hb d_Mo_get_0 rfl (lv_at hl 0 rfl) ?_
  refine lv_iload_n hx hb d_Mo_get_1 rfl (lv_at hl 1 rfl) ?_
  refine lv_iload_n hx hb d_Mo_get_2 rfl (lv_at hl 2 rfl) ?_
  refine lv_iload_n hx hb d_Mo_get_3 rfl (lv_at hl 3 rfl) ?_
  refine sn_wrt (st1 := [.int (-1)]) (w1 := [cr0 b md pc re ce 1 tp]) (va_runV (As := [.int (nI r), .int s, .int i]) (rest := []) ⟨hx, hb, hml, hown, hts⟩ (c_Mo_place_b2 l D K b md pc re ce th tp r s i (by omega) (hb9)) ⟨callB_of 3 hts (tw_in cm_Mo_place) rfl rfl rfl (hts _ gn_Mo) (hts _ tw_732) hd_Mo_place ⟨Nat.le_of_ble_eq_true rfl, Nat.le_of_ble_eq_true rfl⟩, hts _ gi_Mo_place, hts _ gs_Mo_place⟩ (sn_preVW hK hN hP hD 0 rfl rfl [0] rfl rfl) rfl rfl hl.1 rfl (lv_room (Nat.le_of_ble_eq_true rfl)) d_Mo_get_4 ⟨Nat.zero_le _, Nat.zero_le _⟩) rfl hP hD hS [0] rfl rfl (fun H locs hP hD hS => ?_)
  have hP : va_P D classes [cr0 b md pc re ce 1 tp] H := hP
  have hD : va_D A [cr0 b md pc re ce 1 tp] := hD
  refine lv_istore (lv' := [(4, .int (-1)), (0, .ref (b 0)), (1, .int (nI r)), (2, .int s), (3, .int i)]) hx hb d_Mo_get_7 hl (by decide) rfl (fun ls hl => ?_)
  refine lv_iload hx hb d_Mo_get_9 (lv_at hl 0 rfl) ?_
  refine lv_if_ge (tgt := 15) hx hb d_Mo_get_11 (by decide) (fun h1 => ?_) (fun h1 => ?_)
  · exact absurd h1 (by decide)
  · subst hAe
    exact sx_wv hQ hx hb hrt hlk hP hS d_Mo_get_14
set_option maxHeartbeats 1000000 in
set_option maxRecDepth 100000 in
theorem c_Mo_get_b3 (l : Launch) (D : va_G) (K : Nat → ClassId) (b : Nat → Nat) (md : Nat) (pc : Nat) (re : Nat) (ce : Nat) (th : Nat) (tp : Nat) (rr : Nat → Bool) (r : Nat) (s : Nat) (i : Int32) (hr : r < 16) (hs : s < 16) (hrr : rr s = false) : Met l y_Mo_get w_Mo_get ({ frames := 2, cells := 0, slots := 0, locals := 43 }) (va_Pc [.ref (b 0), .int (nI r), .int (nI s), .int i] (sn_BW D K [cr0 b md pc re ce th tp, aZ K (b 4) 16 rr])) (sn_Q D [cr0 b md pc re ce th tp, aZ K (b 4) 16 rr] [cr0 b md pc re ce 2 tp, aZ K (b 4) 16 rr] none) 0 0 (sn_A [cr0 b md pc re ce th tp, aZ K (b 4) 16 rr]) := by
  refine sn_met (own := R_Mo) (by decide +kernel) rfl rfl (Nat.le_of_ble_eq_true rfl) ?_
  intro P9 E9 s9 m9 args below M9 c9 ls Q hQ hx hb hml hrt hlk hts hown hnm hl hB
  obtain ⟨⟨hP, hK, hN⟩, hD⟩ := hB
  have hl : lv_has ls 5 [(0, .ref (b 0)), (1, .int (nI r)), (2, .int (nI s)), (3, .int i)] := hl
  have hD := sn_DA hD
  have hS : va_S (sn_A [cr0 b md pc re ce th tp, aZ K (b 4) 16 rr]) s9.heap s9.heap [] := va_S.rf
  generalize hAe : sn_A [cr0 b md pc re ce th tp, aZ K (b 4) 16 rr] = A at hD hS
  refine lv_aload_n hx hb d_Mo_get_0 rfl (lv_at hl 0 rfl) ?_
  refine lv_iload_n hx hb d_Mo_get_1 rfl (lv_at hl 1 rfl) ?_
  refine lv_iload_n hx hb d_Mo_get_2 rfl (lv_at hl 2 rfl) ?_
  refine lv_iload_n hx hb d_Mo_get_3 rfl (lv_at hl 3 rfl) ?_
  refine sn_wrt (st1 := [.int (-1)]) (w1 := [cr0 b md pc re ce 2 tp, aZ K (b 4) 16 rr]) (va_runV (As := [.int (nI r), .int (nI s), .int i]) (rest := []) ⟨hx, hb, hml, hown, hts⟩ (c_Mo_place_b3 l D K b md pc re ce th tp rr r s i (by omega) (by omega) (hrr)) ⟨callB_of 3 hts (tw_in cm_Mo_place) rfl rfl rfl (hts _ gn_Mo) (hts _ tw_732) hd_Mo_place ⟨Nat.le_of_ble_eq_true rfl, Nat.le_of_ble_eq_true rfl⟩, hts _ gi_Mo_place, hts _ gs_Mo_place⟩ (sn_preVW hK hN hP hD 0 rfl rfl [0, 1] rfl rfl) rfl rfl hl.1 rfl (lv_room (Nat.le_of_ble_eq_true rfl)) d_Mo_get_4 ⟨Nat.zero_le _, Nat.zero_le _⟩) rfl hP hD hS [0, 1] rfl rfl (fun H locs hP hD hS => ?_)
  have hP : va_P D classes [cr0 b md pc re ce 2 tp, aZ K (b 4) 16 rr] H := hP
  have hD : va_D A [cr0 b md pc re ce 2 tp, aZ K (b 4) 16 rr] := hD
  refine lv_istore (lv' := [(4, .int (-1)), (0, .ref (b 0)), (1, .int (nI r)), (2, .int (nI s)), (3, .int i)]) hx hb d_Mo_get_7 hl (by decide) rfl (fun ls hl => ?_)
  refine lv_iload hx hb d_Mo_get_9 (lv_at hl 0 rfl) ?_
  refine lv_if_ge (tgt := 15) hx hb d_Mo_get_11 (by decide) (fun h1 => ?_) (fun h1 => ?_)
  · exact absurd h1 (by decide)
  · subst hAe
    exact sx_wv hQ hx hb hrt hlk hP hS d_Mo_get_14
set_option maxHeartbeats 1000000 in
set_option maxRecDepth 100000 in
theorem c_Mo_get_b4 (l : Launch) (D : va_G) (K : Nat → ClassId) (b : Nat → Nat) (md : Nat) (pc : Nat) (re : Nat) (ce : Nat) (th : Nat) (tp : Nat) (rv : Nat → Int64) (rr : Nat → Bool) (Z : Nat → Nat) (r : Nat) (s : Nat) (i : Int32) (k : Nat) (hr : r < 16) (hs : s < 16) (hrr : rr s = true) (hk : rv s = lN k) (hk6 : k < 640) (hb9 : i < 0 ∨ ¬ i < nI (Z k)) : Met l y_Mo_get w_Mo_get ({ frames := 2, cells := 0, slots := 0, locals := 43 }) (va_Pc [.ref (b 0), .int (nI r), .int (nI s), .int i] (sn_BW D K [cr0 b md pc re ce th tp, aL K (b 2) 16 rv, aZ K (b 4) 16 rr, aI K (b 6) 640 Z])) (sn_Q D [cr0 b md pc re ce th tp, aL K (b 2) 16 rv, aZ K (b 4) 16 rr, aI K (b 6) 640 Z] [cr0 b md pc re ce 2 tp, aL K (b 2) 16 rv, aZ K (b 4) 16 rr, aI K (b 6) 640 Z] none) 0 0 (sn_A [cr0 b md pc re ce th tp, aL K (b 2) 16 rv, aZ K (b 4) 16 rr, aI K (b 6) 640 Z]) := by
  refine sn_met (own := R_Mo) (by decide +kernel) rfl rfl (Nat.le_of_ble_eq_true rfl) ?_
  intro P9 E9 s9 m9 args below M9 c9 ls Q hQ hx hb hml hrt hlk hts hown hnm hl hB
  obtain ⟨⟨hP, hK, hN⟩, hD⟩ := hB
  have hl : lv_has ls 5 [(0, .ref (b 0)), (1, .int (nI r)), (2, .int (nI s)), (3, .int i)] := hl
  have hD := sn_DA hD
  have hS : va_S (sn_A [cr0 b md pc re ce th tp, aL K (b 2) 16 rv, aZ K (b 4) 16 rr, aI K (b 6) 640 Z]) s9.heap s9.heap [] := va_S.rf
  generalize hAe : sn_A [cr0 b md pc re ce th tp, aL K (b 2) 16 rv, aZ K (b 4) 16 rr, aI K (b 6) 640 Z] = A at hD hS
  refine lv_aload_n hx hb d_Mo_get_0 rfl (lv_at hl 0 rfl) ?_
  refine lv_iload_n hx hb d_Mo_get_1 rfl (lv_at hl 1 rfl) ?_
  refine lv_iload_n hx hb d_Mo_get_2 rfl (lv_at hl 2 rfl) ?_
  refine lv_iload_n hx hb d_Mo_get_3 rfl (lv_at hl 3 rfl) ?_
  refine sn_wrt (st1 := [.int (-1)]) (w1 := [cr0 b md pc re ce 2 tp, aL K (b 2) 16 rv, aZ K (b 4) 16 rr, aI K (b 6) 640 Z]) (va_runV (As := [.int (nI r), .int (nI s), .int i]) (rest := []) ⟨hx, hb, hml, hown, hts⟩ (c_Mo_place_b4 l D K b md pc re ce th tp rv rr Z r s i k (by omega) (by omega) (hrr) (hk) (by omega) (hb9)) ⟨callB_of 3 hts (tw_in cm_Mo_place) rfl rfl rfl (hts _ gn_Mo) (hts _ tw_732) hd_Mo_place ⟨Nat.le_of_ble_eq_true rfl, Nat.le_of_ble_eq_true rfl⟩, hts _ gi_Mo_place, hts _ gs_Mo_place⟩ (sn_preVW hK hN hP hD 0 rfl rfl [0, 1, 2, 3] rfl rfl) rfl rfl hl.1 rfl (lv_room (Nat.le_of_ble_eq_true rfl)) d_Mo_get_4 ⟨Nat.zero_le _, Nat.zero_le _⟩) rfl hP hD hS [0, 1, 2, 3] rfl rfl (fun H locs hP hD hS => ?_)
  have hP : va_P D classes [cr0 b md pc re ce 2 tp, aL K (b 2) 16 rv, aZ K (b 4) 16 rr, aI K (b 6) 640 Z] H := hP
  have hD : va_D A [cr0 b md pc re ce 2 tp, aL K (b 2) 16 rv, aZ K (b 4) 16 rr, aI K (b 6) 640 Z] := hD
  refine lv_istore (lv' := [(4, .int (-1)), (0, .ref (b 0)), (1, .int (nI r)), (2, .int (nI s)), (3, .int i)]) hx hb d_Mo_get_7 hl (by decide) rfl (fun ls hl => ?_)
  refine lv_iload hx hb d_Mo_get_9 (lv_at hl 0 rfl) ?_
  refine lv_if_ge (tgt := 15) hx hb d_Mo_get_11 (by decide) (fun h1 => ?_) (fun h1 => ?_)
  · exact absurd h1 (by decide)
  · subst hAe
    exact sx_wv hQ hx hb hrt hlk hP hS d_Mo_get_14
set_option maxHeartbeats 1000000 in
set_option maxRecDepth 100000 in
theorem c_Mo_set (l : Launch) (D : va_G) (K : Nat → ClassId) (b : Nat → Nat) (md : Nat) (pc : Nat) (re : Nat) (ce : Nat) (th : Nat) (tp : Nat) (vv : Nat → Int64) (rv : Nat → Int64) (vr : Nat → Bool) (rr : Nat → Bool) (Z : Nat → Nat) (s : Nat) (i : Nat) (r : Nat) (k : Nat) (hr : r < 16) (hs : s < 16) (hrr : rr s = true) (hk : rv s = lN k) (hk6 : k < 640) (hi : i < Z k) (hz : Z k ≤ 16) : Met l y_Mo_set w_Mo_set ({ frames := 2, cells := 0, slots := 0, locals := 43 }) (va_Pc [.ref (b 0), .int (nI s), .int (nI i), .int (nI r)] (sn_BW D K [cr0 b md pc re ce th tp, aL K (b 1) 10240 vv, aL K (b 2) 16 rv, aZ K (b 3) 10240 vr, aZ K (b 4) 16 rr, aI K (b 6) 640 Z])) (sn_Q D [cr0 b md pc re ce th tp, aL K (b 1) 10240 vv, aL K (b 2) 16 rv, aZ K (b 3) 10240 vr, aZ K (b 4) 16 rr, aI K (b 6) 640 Z] [cr0 b md pc re ce 0 tp, aL K (b 1) 10240 (va_up vv (16 * k + i) (rv r)), aL K (b 2) 16 rv, aZ K (b 3) 10240 (va_up vr (16 * k + i) (rr r)), aZ K (b 4) 16 rr, aI K (b 6) 640 Z] none) 0 0 (sn_A [cr0 b md pc re ce th tp, aL K (b 1) 10240 vv, aL K (b 2) 16 rv, aZ K (b 3) 10240 vr, aZ K (b 4) 16 rr, aI K (b 6) 640 Z]) := by
  refine sn_met (own := R_Mo) (by decide +kernel) rfl rfl (Nat.le_of_ble_eq_true rfl) ?_
  intro P9 E9 s9 m9 args below M9 c9 ls Q hQ hx hb hml hrt hlk hts hown hnm hl hB
  obtain ⟨⟨hP, hK, hN⟩, hD⟩ := hB
  have hl : lv_has ls 5 [(0, .ref (b 0)), (1, .int (nI s)), (2, .int (nI i)), (3, .int (nI r))] := hl
  have hD := sn_DA hD
  have hS : va_S (sn_A [cr0 b md pc re ce th tp, aL K (b 1) 10240 vv, aL K (b 2) 16 rv, aZ K (b 3) 10240 vr, aZ K (b 4) 16 rr, aI K (b 6) 640 Z]) s9.heap s9.heap [] := va_S.rf
  generalize hAe : sn_A [cr0 b md pc re ce th tp, aL K (b 1) 10240 vv, aL K (b 2) 16 rv, aZ K (b 3) 10240 vr, aZ K (b 4) 16 rr, aI K (b 6) 640 Z] = A at hD hS
  refine lv_aload_n hx hb d_Mo_set_0 rfl (lv_at hl 0 rfl) ?_
  refine lv_iload_n hx hb d_Mo_set_1 rfl (lv_at hl 3 rfl) ?_
  refine lv_iload_n hx hb d_Mo_set_2 rfl (lv_at hl 1 rfl) ?_
  refine lv_iload_n hx hb d_Mo_set_3 rfl (lv_at hl 2 rfl) ?_
  refine sn_wrt (st1 := [.int (nI (16 * k + i))]) (w1 := [cr0 b md pc re ce 0 tp, aL K (b 2) 16 rv, aZ K (b 4) 16 rr, aI K (b 6) 640 Z]) (va_runV (As := [.int (nI r), .int (nI s), .int (nI i)]) (rest := []) ⟨hx, hb, hml, hown, hts⟩ (c_Mo_place l D K b md pc re ce th tp rv rr Z r s i k (by omega) (by omega) (hrr) (hk) (by omega) (by omega) (by omega)) ⟨callB_of 3 hts (tw_in cm_Mo_place) rfl rfl rfl (hts _ gn_Mo) (hts _ tw_732) hd_Mo_place ⟨Nat.le_of_ble_eq_true rfl, Nat.le_of_ble_eq_true rfl⟩, hts _ gi_Mo_place, hts _ gs_Mo_place⟩ (sn_preVW hK hN hP hD 0 rfl rfl [0, 2, 4, 5] rfl rfl) rfl rfl hl.1 rfl (lv_room (Nat.le_of_ble_eq_true rfl)) d_Mo_set_4 ⟨Nat.zero_le _, Nat.zero_le _⟩) rfl hP hD hS [0, 2, 4, 5] rfl rfl (fun H locs hP hD hS => ?_)
  have hP : va_P D classes [cr0 b md pc re ce 0 tp, aL K (b 1) 10240 vv, aL K (b 2) 16 rv, aZ K (b 3) 10240 vr, aZ K (b 4) 16 rr, aI K (b 6) 640 Z] H := hP
  have hD : va_D A [cr0 b md pc re ce 0 tp, aL K (b 1) 10240 vv, aL K (b 2) 16 rv, aZ K (b 3) 10240 vr, aZ K (b 4) 16 rr, aI K (b 6) 640 Z] := hD
  refine lv_istore (lv' := [(4, .int (nI (16 * k + i))), (0, .ref (b 0)), (1, .int (nI s)), (2, .int (nI i)), (3, .int (nI r))]) hx hb d_Mo_set_7 hl (by decide) rfl (fun ls hl => ?_)
  refine lv_iload hx hb d_Mo_set_9 (lv_at hl 0 rfl) ?_
  refine sn_if_ge (by omega) (tgt := 15) hx hb d_Mo_set_11 (by decide) ?_
  refine lv_aload_n hx hb d_Mo_set_15 rfl (lv_at hl 1 rfl) ?_
  refine va_get (D := D) (ci := 6) (v := .ref (b 1)) (C := R_Mo) (T := F_Mo) (N := 15) hx hb hts in_Mo hown hK hP 0 rfl rfl 0 (by decide) (hts _ tw_654) (fun _ h9 => h9) rfl d_Mo_set_16 ?_
  refine lv_iload hx hb d_Mo_set_19 (lv_at hl 0 rfl) ?_
  refine lv_aload_n hx hb d_Mo_set_21 rfl (lv_at hl 1 rfl) ?_
  refine va_get (D := D) (ci := 6) (v := .ref (b 2)) (C := R_Mo) (T := F_Mo) (N := 15) hx hb hts in_Mo hown hK hP 0 rfl rfl 1 (by decide) (hts _ tw_655) (fun _ h9 => h9) rfl d_Mo_set_22 ?_
  refine lv_iload_n hx hb d_Mo_set_25 rfl (lv_at hl 4 rfl) ?_
  refine sn_lald rv r hx hb hK hP 2 rfl (by omega) (by decide) d_Mo_set_26 ?_
  refine sn_last vv (16 * k + i) (rv r) hx hb hK hP hD hS 1 rfl (by omega) (by decide) d_Mo_set_27 (fun H locs hP hD hS => ?_)
  have hP : va_P D classes [cr0 b md pc re ce 0 tp, aL K (b 1) 10240 (va_up vv (16 * k + i) (rv r)), aL K (b 2) 16 rv, aZ K (b 3) 10240 vr, aZ K (b 4) 16 rr, aI K (b 6) 640 Z] H := hP
  have hD : va_D A [cr0 b md pc re ce 0 tp, aL K (b 1) 10240 (va_up vv (16 * k + i) (rv r)), aL K (b 2) 16 rv, aZ K (b 3) 10240 vr, aZ K (b 4) 16 rr, aI K (b 6) 640 Z] := hD
  refine lv_aload_n hx hb d_Mo_set_28 rfl (lv_at hl 1 rfl) ?_
  refine va_get (D := D) (ci := 6) (v := .ref (b 3)) (C := R_Mo) (T := F_Mo) (N := 15) hx hb hts in_Mo hown hK hP 0 rfl rfl 2 (by decide) (hts _ tw_656) (fun _ h9 => h9) rfl d_Mo_set_29 ?_
  refine lv_iload hx hb d_Mo_set_32 (lv_at hl 0 rfl) ?_
  refine lv_aload_n hx hb d_Mo_set_34 rfl (lv_at hl 1 rfl) ?_
  refine va_get (D := D) (ci := 6) (v := .ref (b 4)) (C := R_Mo) (T := F_Mo) (N := 15) hx hb hts in_Mo hown hK hP 0 rfl rfl 3 (by decide) (hts _ tw_657) (fun _ h9 => h9) rfl d_Mo_set_35 ?_
  refine lv_iload_n hx hb d_Mo_set_38 rfl (lv_at hl 4 rfl) ?_
  refine sn_zald rr r hx hb hK hP 4 rfl (by omega) (by decide) d_Mo_set_39 ?_
  refine sn_zast vr (16 * k + i) (rr r) hx hb hK hP hD hS 3 rfl (by omega) (by decide) d_Mo_set_40 (fun H locs hP hD hS => ?_)
  have hP : va_P D classes [cr0 b md pc re ce 0 tp, aL K (b 1) 10240 (va_up vv (16 * k + i) (rv r)), aL K (b 2) 16 rv, aZ K (b 3) 10240 (va_up vr (16 * k + i) (rr r)), aZ K (b 4) 16 rr, aI K (b 6) 640 Z] H := hP
  have hD : va_D A [cr0 b md pc re ce 0 tp, aL K (b 1) 10240 (va_up vv (16 * k + i) (rv r)), aL K (b 2) 16 rv, aZ K (b 3) 10240 (va_up vr (16 * k + i) (rr r)), aZ K (b 4) 16 rr, aI K (b 6) 640 Z] := hD
  subst hAe
  exact sx_wv hQ hx hb hrt hlk hP hS d_Mo_set_41
set_option maxHeartbeats 1000000 in
set_option maxRecDepth 100000 in
theorem c_Mo_set_b1 (l : Launch) (D : va_G) (K : Nat → ClassId) (b : Nat → Nat) (md : Nat) (pc : Nat) (re : Nat) (ce : Nat) (th : Nat) (tp : Nat) (r : Int32) (s : Int32) (i : Int32) (hb9 : r < 0 ∨ nI 16 ≤ r) : Met l y_Mo_set w_Mo_set ({ frames := 2, cells := 0, slots := 0, locals := 43 }) (va_Pc [.ref (b 0), .int s, .int i, .int r] (sn_BW D K [cr0 b md pc re ce th tp])) (sn_Q D [cr0 b md pc re ce th tp] [cr0 b md pc re ce 1 tp] none) 0 0 (sn_A [cr0 b md pc re ce th tp]) := by
  refine sn_met (own := R_Mo) (by decide +kernel) rfl rfl (Nat.le_of_ble_eq_true rfl) ?_
  intro P9 E9 s9 m9 args below M9 c9 ls Q hQ hx hb hml hrt hlk hts hown hnm hl hB
  obtain ⟨⟨hP, hK, hN⟩, hD⟩ := hB
  have hl : lv_has ls 5 [(0, .ref (b 0)), (1, .int s), (2, .int i), (3, .int r)] := hl
  have hD := sn_DA hD
  have hS : va_S (sn_A [cr0 b md pc re ce th tp]) s9.heap s9.heap [] := va_S.rf
  generalize hAe : sn_A [cr0 b md pc re ce th tp] = A at hD hS
  refine lv_aload_n hx hb d_Mo_set_0 rfl (lv_at hl 0 rfl) ?_
  refine lv_iload_n hx hb d_Mo_set_1 rfl (lv_at hl 3 rfl) ?_
  refine lv_iload_n hx hb d_Mo_set_2 rfl (lv_at hl 1 rfl) ?_
  refine lv_iload_n hx hb d_Mo_set_3 rfl (lv_at hl 2 rfl) ?_
  refine sn_wrt (st1 := [.int (-1)]) (w1 := [cr0 b md pc re ce 1 tp]) (va_runV (As := [.int r, .int s, .int i]) (rest := []) ⟨hx, hb, hml, hown, hts⟩ (c_Mo_place_b1 l D K b md pc re ce th tp r s i (hb9)) ⟨callB_of 3 hts (tw_in cm_Mo_place) rfl rfl rfl (hts _ gn_Mo) (hts _ tw_732) hd_Mo_place ⟨Nat.le_of_ble_eq_true rfl, Nat.le_of_ble_eq_true rfl⟩, hts _ gi_Mo_place, hts _ gs_Mo_place⟩ (sn_preVW hK hN hP hD 0 rfl rfl [0] rfl rfl) rfl rfl hl.1 rfl (lv_room (Nat.le_of_ble_eq_true rfl)) d_Mo_set_4 ⟨Nat.zero_le _, Nat.zero_le _⟩) rfl hP hD hS [0] rfl rfl (fun H locs hP hD hS => ?_)
  have hP : va_P D classes [cr0 b md pc re ce 1 tp] H := hP
  have hD : va_D A [cr0 b md pc re ce 1 tp] := hD
  refine lv_istore (lv' := [(4, .int (-1)), (0, .ref (b 0)), (1, .int s), (2, .int i), (3, .int r)]) hx hb d_Mo_set_7 hl (by decide) rfl (fun ls hl => ?_)
  refine lv_iload hx hb d_Mo_set_9 (lv_at hl 0 rfl) ?_
  refine lv_if_ge (tgt := 15) hx hb d_Mo_set_11 (by decide) (fun h1 => ?_) (fun h1 => ?_)
  · exact absurd h1 (by decide)
  · subst hAe
    exact sx_wv hQ hx hb hrt hlk hP hS d_Mo_set_14
set_option maxHeartbeats 1000000 in
set_option maxRecDepth 100000 in
theorem c_Mo_set_b2 (l : Launch) (D : va_G) (K : Nat → ClassId) (b : Nat → Nat) (md : Nat) (pc : Nat) (re : Nat) (ce : Nat) (th : Nat) (tp : Nat) (r : Nat) (s : Int32) (i : Int32) (hr : r < 16) (hb9 : s < 0 ∨ nI 16 ≤ s) : Met l y_Mo_set w_Mo_set ({ frames := 2, cells := 0, slots := 0, locals := 43 }) (va_Pc [.ref (b 0), .int s, .int i, .int (nI r)] (sn_BW D K [cr0 b md pc re ce th tp])) (sn_Q D [cr0 b md pc re ce th tp] [cr0 b md pc re ce 1 tp] none) 0 0 (sn_A [cr0 b md pc re ce th tp]) := by
  refine sn_met (own := R_Mo) (by decide +kernel) rfl rfl (Nat.le_of_ble_eq_true rfl) ?_
  intro P9 E9 s9 m9 args below M9 c9 ls Q hQ hx hb hml hrt hlk hts hown hnm hl hB
  obtain ⟨⟨hP, hK, hN⟩, hD⟩ := hB
  have hl : lv_has ls 5 [(0, .ref (b 0)), (1, .int s), (2, .int i), (3, .int (nI r))] := hl
  have hD := sn_DA hD
  have hS : va_S (sn_A [cr0 b md pc re ce th tp]) s9.heap s9.heap [] := va_S.rf
  generalize hAe : sn_A [cr0 b md pc re ce th tp] = A at hD hS
  refine lv_aload_n hx hb d_Mo_set_0 rfl (lv_at hl 0 rfl) ?_
  refine lv_iload_n hx hb d_Mo_set_1 rfl (lv_at hl 3 rfl) ?_
  refine lv_iload_n hx hb d_Mo_set_2 rfl (lv_at hl 1 rfl) ?_
  refine lv_iload_n hx hb d_Mo_set_3 rfl (lv_at hl 2 rfl) ?_
  refine sn_wrt (st1 := [.int (-1)]) (w1 := [cr0 b md pc re ce 1 tp]) (va_runV (As := [.int (nI r), .int s, .int i]) (rest := []) ⟨hx, hb, hml, hown, hts⟩ (c_Mo_place_b2 l D K b md pc re ce th tp r s i (by omega) (hb9)) ⟨callB_of 3 hts (tw_in cm_Mo_place) rfl rfl rfl (hts _ gn_Mo) (hts _ tw_732) hd_Mo_place ⟨Nat.le_of_ble_eq_true rfl, Nat.le_of_ble_eq_true rfl⟩, hts _ gi_Mo_place, hts _ gs_Mo_place⟩ (sn_preVW hK hN hP hD 0 rfl rfl [0] rfl rfl) rfl rfl hl.1 rfl (lv_room (Nat.le_of_ble_eq_true rfl)) d_Mo_set_4 ⟨Nat.zero_le _, Nat.zero_le _⟩) rfl hP hD hS [0] rfl rfl (fun H locs hP hD hS => ?_)
  have hP : va_P D classes [cr0 b md pc re ce 1 tp] H := hP
  have hD : va_D A [cr0 b md pc re ce 1 tp] := hD
  refine lv_istore (lv' := [(4, .int (-1)), (0, .ref (b 0)), (1, .int s), (2, .int i), (3, .int (nI r))]) hx hb d_Mo_set_7 hl (by decide) rfl (fun ls hl => ?_)
  refine lv_iload hx hb d_Mo_set_9 (lv_at hl 0 rfl) ?_
  refine lv_if_ge (tgt := 15) hx hb d_Mo_set_11 (by decide) (fun h1 => ?_) (fun h1 => ?_)
  · exact absurd h1 (by decide)
  · subst hAe
    exact sx_wv hQ hx hb hrt hlk hP hS d_Mo_set_14
set_option maxHeartbeats 1000000 in
set_option maxRecDepth 100000 in
theorem c_Mo_set_b3 (l : Launch) (D : va_G) (K : Nat → ClassId) (b : Nat → Nat) (md : Nat) (pc : Nat) (re : Nat) (ce : Nat) (th : Nat) (tp : Nat) (rr : Nat → Bool) (r : Nat) (s : Nat) (i : Int32) (hr : r < 16) (hs : s < 16) (hrr : rr s = false) : Met l y_Mo_set w_Mo_set ({ frames := 2, cells := 0, slots := 0, locals := 43 }) (va_Pc [.ref (b 0), .int (nI s), .int i, .int (nI r)] (sn_BW D K [cr0 b md pc re ce th tp, aZ K (b 4) 16 rr])) (sn_Q D [cr0 b md pc re ce th tp, aZ K (b 4) 16 rr] [cr0 b md pc re ce 2 tp, aZ K (b 4) 16 rr] none) 0 0 (sn_A [cr0 b md pc re ce th tp, aZ K (b 4) 16 rr]) := by
  refine sn_met (own := R_Mo) (by decide +kernel) rfl rfl (Nat.le_of_ble_eq_true rfl) ?_
  intro P9 E9 s9 m9 args below M9 c9 ls Q hQ hx hb hml hrt hlk hts hown hnm hl hB
  obtain ⟨⟨hP, hK, hN⟩, hD⟩ := hB
  have hl : lv_has ls 5 [(0, .ref (b 0)), (1, .int (nI s)), (2, .int i), (3, .int (nI r))] := hl
  have hD := sn_DA hD
  have hS : va_S (sn_A [cr0 b md pc re ce th tp, aZ K (b 4) 16 rr]) s9.heap s9.heap [] := va_S.rf
  generalize hAe : sn_A [cr0 b md pc re ce th tp, aZ K (b 4) 16 rr] = A at hD hS
  refine lv_aload_n hx hb d_Mo_set_0 rfl (lv_at hl 0 rfl) ?_
  refine lv_iload_n hx hb d_Mo_set_1 rfl (lv_at hl 3 rfl) ?_
  refine lv_iload_n hx hb d_Mo_set_2 rfl (lv_at hl 1 rfl) ?_
  refine lv_iload_n hx hb d_Mo_set_3 rfl (lv_at hl 2 rfl) ?_
  refine sn_wrt (st1 := [.int (-1)]) (w1 := [cr0 b md pc re ce 2 tp, aZ K (b 4) 16 rr]) (va_runV (As := [.int (nI r), .int (nI s), .int i]) (rest := []) ⟨hx, hb, hml, hown, hts⟩ (c_Mo_place_b3 l D K b md pc re ce th tp rr r s i (by omega) (by omega) (hrr)) ⟨callB_of 3 hts (tw_in cm_Mo_place) rfl rfl rfl (hts _ gn_Mo) (hts _ tw_732) hd_Mo_place ⟨Nat.le_of_ble_eq_true rfl, Nat.le_of_ble_eq_true rfl⟩, hts _ gi_Mo_place, hts _ gs_Mo_place⟩ (sn_preVW hK hN hP hD 0 rfl rfl [0, 1] rfl rfl) rfl rfl hl.1 rfl (lv_room (Nat.le_of_ble_eq_true rfl)) d_Mo_set_4 ⟨Nat.zero_le _, Nat.zero_le _⟩) rfl hP hD hS [0, 1] rfl rfl (fun H locs hP hD hS => ?_)
  have hP : va_P D classes [cr0 b md pc re ce 2 tp, aZ K (b 4) 16 rr] H := hP
  have hD : va_D A [cr0 b md pc re ce 2 tp, aZ K (b 4) 16 rr] := hD
  refine lv_istore (lv' := [(4, .int (-1)), (0, .ref (b 0)), (1, .int (nI s)), (2, .int i), (3, .int (nI r))]) hx hb d_Mo_set_7 hl (by decide) rfl (fun ls hl => ?_)
  refine lv_iload hx hb d_Mo_set_9 (lv_at hl 0 rfl) ?_
  refine lv_if_ge (tgt := 15) hx hb d_Mo_set_11 (by decide) (fun h1 => ?_) (fun h1 => ?_)
  · exact absurd h1 (by decide)
  · subst hAe
    exact sx_wv hQ hx hb hrt hlk hP hS d_Mo_set_14
set_option maxHeartbeats 1000000 in
set_option maxRecDepth 100000 in
theorem c_Mo_set_b4 (l : Launch) (D : va_G) (K : Nat → ClassId) (b : Nat → Nat) (md : Nat) (pc : Nat) (re : Nat) (ce : Nat) (th : Nat) (tp : Nat) (rv : Nat → Int64) (rr : Nat → Bool) (Z : Nat → Nat) (r : Nat) (s : Nat) (i : Int32) (k : Nat) (hr : r < 16) (hs : s < 16) (hrr : rr s = true) (hk : rv s = lN k) (hk6 : k < 640) (hb9 : i < 0 ∨ ¬ i < nI (Z k)) : Met l y_Mo_set w_Mo_set ({ frames := 2, cells := 0, slots := 0, locals := 43 }) (va_Pc [.ref (b 0), .int (nI s), .int i, .int (nI r)] (sn_BW D K [cr0 b md pc re ce th tp, aL K (b 2) 16 rv, aZ K (b 4) 16 rr, aI K (b 6) 640 Z])) (sn_Q D [cr0 b md pc re ce th tp, aL K (b 2) 16 rv, aZ K (b 4) 16 rr, aI K (b 6) 640 Z] [cr0 b md pc re ce 2 tp, aL K (b 2) 16 rv, aZ K (b 4) 16 rr, aI K (b 6) 640 Z] none) 0 0 (sn_A [cr0 b md pc re ce th tp, aL K (b 2) 16 rv, aZ K (b 4) 16 rr, aI K (b 6) 640 Z]) := by
  refine sn_met (own := R_Mo) (by decide +kernel) rfl rfl (Nat.le_of_ble_eq_true rfl) ?_
  intro P9 E9 s9 m9 args below M9 c9 ls Q hQ hx hb hml hrt hlk hts hown hnm hl hB
  obtain ⟨⟨hP, hK, hN⟩, hD⟩ := hB
  have hl : lv_has ls 5 [(0, .ref (b 0)), (1, .int (nI s)), (2, .int i), (3, .int (nI r))] := hl
  have hD := sn_DA hD
  have hS : va_S (sn_A [cr0 b md pc re ce th tp, aL K (b 2) 16 rv, aZ K (b 4) 16 rr, aI K (b 6) 640 Z]) s9.heap s9.heap [] := va_S.rf
  generalize hAe : sn_A [cr0 b md pc re ce th tp, aL K (b 2) 16 rv, aZ K (b 4) 16 rr, aI K (b 6) 640 Z] = A at hD hS
  refine lv_aload_n hx hb d_Mo_set_0 rfl (lv_at hl 0 rfl) ?_
  refine lv_iload_n hx hb d_Mo_set_1 rfl (lv_at hl 3 rfl) ?_
  refine lv_iload_n hx hb d_Mo_set_2 rfl (lv_at hl 1 rfl) ?_
  refine lv_iload_n hx hb d_Mo_set_3 rfl (lv_at hl 2 rfl) ?_
  refine sn_wrt (st1 := [.int (-1)]) (w1 := [cr0 b md pc re ce 2 tp, aL K (b 2) 16 rv, aZ K (b 4) 16 rr, aI K (b 6) 640 Z]) (va_runV (As := [.int (nI r), .int (nI s), .int i]) (rest := []) ⟨hx, hb, hml, hown, hts⟩ (c_Mo_place_b4 l D K b md pc re ce th tp rv rr Z r s i k (by omega) (by omega) (hrr) (hk) (by omega) (hb9)) ⟨callB_of 3 hts (tw_in cm_Mo_place) rfl rfl rfl (hts _ gn_Mo) (hts _ tw_732) hd_Mo_place ⟨Nat.le_of_ble_eq_true rfl, Nat.le_of_ble_eq_true rfl⟩, hts _ gi_Mo_place, hts _ gs_Mo_place⟩ (sn_preVW hK hN hP hD 0 rfl rfl [0, 1, 2, 3] rfl rfl) rfl rfl hl.1 rfl (lv_room (Nat.le_of_ble_eq_true rfl)) d_Mo_set_4 ⟨Nat.zero_le _, Nat.zero_le _⟩) rfl hP hD hS [0, 1, 2, 3] rfl rfl (fun H locs hP hD hS => ?_)
  have hP : va_P D classes [cr0 b md pc re ce 2 tp, aL K (b 2) 16 rv, aZ K (b 4) 16 rr, aI K (b 6) 640 Z] H := hP
  have hD : va_D A [cr0 b md pc re ce 2 tp, aL K (b 2) 16 rv, aZ K (b 4) 16 rr, aI K (b 6) 640 Z] := hD
  refine lv_istore (lv' := [(4, .int (-1)), (0, .ref (b 0)), (1, .int (nI s)), (2, .int i), (3, .int (nI r))]) hx hb d_Mo_set_7 hl (by decide) rfl (fun ls hl => ?_)
  refine lv_iload hx hb d_Mo_set_9 (lv_at hl 0 rfl) ?_
  refine lv_if_ge (tgt := 15) hx hb d_Mo_set_11 (by decide) (fun h1 => ?_) (fun h1 => ?_)
  · exact absurd h1 (by decide)
  · subst hAe
    exact sx_wv hQ hx hb hrt hlk hP hS d_Mo_set_14
set_option maxHeartbeats 1000000 in
set_option maxRecDepth 100000 in
theorem c_Mo_step (l : Launch) (D : va_G) (K : Nat → ClassId) (b : Nat → Nat) (md : Nat) (pc : Nat) (re : Nat) (ce : Nat) (th : Nat) (tp : Nat) (n : Nat) (h1p : 1 ≤ n) (h2p : n ≤ 1000) : Met l y_Mo_step w_Mo_step ({ frames := 0, cells := 0, slots := 0, locals := 0 }) (va_Pc [.ref (b 0), .int (nI n)] (sn_BW D K [cr0 b md pc re ce th tp])) (sn_Q D [cr0 b md pc re ce th tp] [cr0 b md pc re ce 0 tp] none) 0 0 (sn_A [cr0 b md pc re ce th tp]) := by
  refine sn_met (own := R_Mo) (by decide +kernel) rfl rfl (Nat.le_of_ble_eq_true rfl) ?_
  intro P9 E9 s9 m9 args below M9 c9 ls Q hQ hx hb hml hrt hlk hts hown hnm hl hB
  obtain ⟨⟨hP, hK, hN⟩, hD⟩ := hB
  have hl : lv_has ls 2 [(0, .ref (b 0)), (1, .int (nI n))] := hl
  have hD := sn_DA hD
  have hS : va_S (sn_A [cr0 b md pc re ce th tp]) s9.heap s9.heap [] := va_S.rf
  generalize hAe : sn_A [cr0 b md pc re ce th tp] = A at hD hS
  refine lv_aload_n hx hb d_Mo_step_0 rfl (lv_at hl 0 rfl) ?_
  refine lv_iload_n hx hb d_Mo_step_1 rfl (lv_at hl 1 rfl) ?_
  refine lv_iconst (v := nI 1) hx hb d_Mo_step_2 (by decide) ?_
  refine sn_icmp_lt (by omega) (by omega) (tgt := 13) hx hb d_Mo_step_3 (by decide) (fun h1 => ?_) (fun h1 => ?_)
  · omega
  · refine lv_iload_n hx hb d_Mo_step_6 rfl (lv_at hl 1 rfl) ?_
    refine lv_sipush (v := nI 1000) hx hb d_Mo_step_7 (by decide) ?_
    refine sn_icmp_le (by omega) (by omega) (tgt := 17) hx hb d_Mo_step_10 (by decide) (fun h2 => ?_) (fun h2 => ?_)
    · refine lv_iconst (v := nI 0) hx hb d_Mo_step_17 (by decide) ?_
      refine va_put (D := D) (ci := 6) (v := .int (nI 0)) (ty := .int) (C := R_Mo) (T := F_Mo) (N := 15) hx hb hts in_Mo t_Mo t_Mo_ok n_Mo hown hK hP hD hS 0 rfl rfl 13 (by decide) (hts _ tw_667) (fun _ h9 => h9) rfl (by decide +kernel) rfl rfl (Nat.le_of_ble_eq_true rfl) d_Mo_step_18 (fun H locs hP hD hS => ?_)
      have hP : va_P D classes [cr0 b md pc re ce 0 tp] H := hP
      have hD : va_D A [cr0 b md pc re ce 0 tp] := hD
      subst hAe
      exact sx_wv hQ hx hb hrt hlk hP hS d_Mo_step_21
    · omega
set_option maxHeartbeats 1000000 in
set_option maxRecDepth 100000 in
theorem c_Mo_step_b (l : Launch) (D : va_G) (K : Nat → ClassId) (b : Nat → Nat) (md : Nat) (pc : Nat) (re : Nat) (ce : Nat) (th : Nat) (tp : Nat) (n : Int32) (hb9 : n < nI 1 ∨ ¬ n ≤ nI 1000) : Met l y_Mo_step w_Mo_step ({ frames := 0, cells := 0, slots := 0, locals := 0 }) (va_Pc [.ref (b 0), .int n] (sn_BW D K [cr0 b md pc re ce th tp])) (sn_Q D [cr0 b md pc re ce th tp] [cr0 b md pc re ce 1 tp] none) 0 0 (sn_A [cr0 b md pc re ce th tp]) := by
  refine sn_met (own := R_Mo) (by decide +kernel) rfl rfl (Nat.le_of_ble_eq_true rfl) ?_
  intro P9 E9 s9 m9 args below M9 c9 ls Q hQ hx hb hml hrt hlk hts hown hnm hl hB
  obtain ⟨⟨hP, hK, hN⟩, hD⟩ := hB
  have hl : lv_has ls 2 [(0, .ref (b 0)), (1, .int n)] := hl
  have hD := sn_DA hD
  have hS : va_S (sn_A [cr0 b md pc re ce th tp]) s9.heap s9.heap [] := va_S.rf
  generalize hAe : sn_A [cr0 b md pc re ce th tp] = A at hD hS
  refine lv_aload_n hx hb d_Mo_step_0 rfl (lv_at hl 0 rfl) ?_
  refine lv_iload_n hx hb d_Mo_step_1 rfl (lv_at hl 1 rfl) ?_
  refine lv_iconst (v := nI 1) hx hb d_Mo_step_2 (by decide) ?_
  refine lv_icmp_lt (tgt := 13) hx hb d_Mo_step_3 (by decide) (fun h1 => ?_) (fun h1 => ?_)
  · refine lv_iconst (v := nI 1) hx hb d_Mo_step_13 (by decide) ?_
    refine lv_goto (tgt := 18) hx hb d_Mo_step_14 (by decide) ?_
    refine va_put (D := D) (ci := 6) (v := .int (nI 1)) (ty := .int) (C := R_Mo) (T := F_Mo) (N := 15) hx hb hts in_Mo t_Mo t_Mo_ok n_Mo hown hK hP hD hS 0 rfl rfl 13 (by decide) (hts _ tw_667) (fun _ h9 => h9) rfl (by decide +kernel) rfl rfl (Nat.le_of_ble_eq_true rfl) d_Mo_step_18 (fun H locs hP hD hS => ?_)
    have hP : va_P D classes [cr0 b md pc re ce 1 tp] H := hP
    have hD : va_D A [cr0 b md pc re ce 1 tp] := hD
    subst hAe
    exact sx_wv hQ hx hb hrt hlk hP hS d_Mo_step_21
  · refine lv_iload_n hx hb d_Mo_step_6 rfl (lv_at hl 1 rfl) ?_
    refine lv_sipush (v := nI 1000) hx hb d_Mo_step_7 (by decide) ?_
    refine lv_icmp_le (tgt := 17) hx hb d_Mo_step_10 (by decide) (fun h2 => ?_) (fun h2 => ?_)
    · exact (hb9.elim h1 (fun h9 => h9 h2)).elim
    · refine lv_iconst (v := nI 1) hx hb d_Mo_step_13 (by decide) ?_
      refine lv_goto (tgt := 18) hx hb d_Mo_step_14 (by decide) ?_
      refine va_put (D := D) (ci := 6) (v := .int (nI 1)) (ty := .int) (C := R_Mo) (T := F_Mo) (N := 15) hx hb hts in_Mo t_Mo t_Mo_ok n_Mo hown hK hP hD hS 0 rfl rfl 13 (by decide) (hts _ tw_667) (fun _ h9 => h9) rfl (by decide +kernel) rfl rfl (Nat.le_of_ble_eq_true rfl) d_Mo_step_18 (fun H locs hP hD hS => ?_)
      have hP : va_P D classes [cr0 b md pc re ce 1 tp] H := hP
      have hD : va_D A [cr0 b md pc re ce 1 tp] := hD
      subst hAe
      exact sx_wv hQ hx hb hrt hlk hP hS d_Mo_step_21
set_option maxHeartbeats 1000000 in
set_option maxRecDepth 100000 in
theorem c_Mo_pace (l : Launch) (D : va_G) (K : Nat → ClassId) (b : Nat → Nat) (md : Nat) (pc : Nat) (re : Nat) (ce : Nat) (th : Nat) (tp : Nat) (n : Nat) (h2p : n ≤ 50) : Met l y_Mo_pace w_Mo_pace ({ frames := 0, cells := 0, slots := 0, locals := 0 }) (va_Pc [.ref (b 0), .int (nI n)] (sn_BW D K [cr0 b md pc re ce th tp])) (sn_Q D [cr0 b md pc re ce th tp] [cr0 b md n re ce 0 tp] (some (.int (nI pc)))) 0 0 (sn_A [cr0 b md pc re ce th tp]) := by
  refine sn_met (own := R_Mo) (by decide +kernel) rfl rfl (Nat.le_of_ble_eq_true rfl) ?_
  intro P9 E9 s9 m9 args below M9 c9 ls Q hQ hx hb hml hrt hlk hts hown hnm hl hB
  obtain ⟨⟨hP, hK, hN⟩, hD⟩ := hB
  have hl : lv_has ls 3 [(0, .ref (b 0)), (1, .int (nI n))] := hl
  have hD := sn_DA hD
  have hS : va_S (sn_A [cr0 b md pc re ce th tp]) s9.heap s9.heap [] := va_S.rf
  generalize hAe : sn_A [cr0 b md pc re ce th tp] = A at hD hS
  refine lv_aload_n hx hb d_Mo_pace_0 rfl (lv_at hl 0 rfl) ?_
  refine lv_iload_n hx hb d_Mo_pace_1 rfl (lv_at hl 1 rfl) ?_
  refine sn_if_lt (by omega) (tgt := 11) hx hb d_Mo_pace_2 (by decide) ?_
  refine lv_iload_n hx hb d_Mo_pace_5 rfl (lv_at hl 1 rfl) ?_
  refine lv_bipush (v := nI 50) hx hb d_Mo_pace_6 (by decide) ?_
  refine sn_icmp_le (by omega) (by omega) (tgt := 15) hx hb d_Mo_pace_8 (by decide) (fun h2 => ?_) (fun h2 => ?_)
  · refine lv_iconst (v := nI 0) hx hb d_Mo_pace_15 (by decide) ?_
    refine va_put (D := D) (ci := 6) (v := .int (nI 0)) (ty := .int) (C := R_Mo) (T := F_Mo) (N := 15) hx hb hts in_Mo t_Mo t_Mo_ok n_Mo hown hK hP hD hS 0 rfl rfl 13 (by decide) (hts _ tw_667) (fun _ h9 => h9) rfl (by decide +kernel) rfl rfl (Nat.le_of_ble_eq_true rfl) d_Mo_pace_16 (fun H locs hP hD hS => ?_)
    have hP : va_P D classes [cr0 b md pc re ce 0 tp] H := hP
    have hD : va_D A [cr0 b md pc re ce 0 tp] := hD
    refine lv_aload_n hx hb d_Mo_pace_19 rfl (lv_at hl 0 rfl) ?_
    refine va_get (D := D) (ci := 6) (v := .int (nI 0)) (C := R_Mo) (T := F_Mo) (N := 15) hx hb hts in_Mo hown hK hP 0 rfl rfl 13 (by decide) (hts _ tw_667) (fun _ h9 => h9) rfl d_Mo_pace_20 ?_
    refine sn_if_le (by omega) (tgt := 28) hx hb d_Mo_pace_23 (by decide) (fun h3 => ?_) (fun h3 => ?_)
    · refine lv_aload_n hx hb d_Mo_pace_28 rfl (lv_at hl 0 rfl) ?_
      refine va_get (D := D) (ci := 6) (v := .int (nI pc)) (C := R_Mo) (T := F_Mo) (N := 15) hx hb hts in_Mo hown hK hP 0 rfl rfl 10 (by decide) (hts _ tw_664) (fun _ h9 => h9) rfl d_Mo_pace_29 ?_
      refine lv_istore_n (lv' := [(2, .int (nI pc)), (0, .ref (b 0)), (1, .int (nI n))]) hx hb d_Mo_pace_32 rfl hl (by decide) rfl (fun ls hl => ?_)
      refine lv_aload_n hx hb d_Mo_pace_33 rfl (lv_at hl 1 rfl) ?_
      refine lv_iload_n hx hb d_Mo_pace_34 rfl (lv_at hl 2 rfl) ?_
      refine va_put (D := D) (ci := 6) (v := .int (nI n)) (ty := .int) (C := R_Mo) (T := F_Mo) (N := 15) hx hb hts in_Mo t_Mo t_Mo_ok n_Mo hown hK hP hD hS 0 rfl rfl 10 (by decide) (hts _ tw_664) (fun _ h9 => h9) rfl (by decide +kernel) rfl rfl (Nat.le_of_ble_eq_true rfl) d_Mo_pace_35 (fun H locs hP hD hS => ?_)
      have hP : va_P D classes [cr0 b md n re ce 0 tp] H := hP
      have hD : va_D A [cr0 b md n re ce 0 tp] := hD
      refine lv_iload_n hx hb d_Mo_pace_38 rfl (lv_at hl 0 rfl) ?_
      subst hAe
      exact sx_wi hQ hx hb hrt hlk (rfl) hP hS d_Mo_pace_39
    · omega
  · omega
set_option maxHeartbeats 1000000 in
set_option maxRecDepth 100000 in
theorem c_Mo_pace_b (l : Launch) (D : va_G) (K : Nat → ClassId) (b : Nat → Nat) (md : Nat) (pc : Nat) (re : Nat) (ce : Nat) (th : Nat) (tp : Nat) (n : Int32) (hb9 : n < 0 ∨ ¬ n ≤ nI 50) : Met l y_Mo_pace w_Mo_pace ({ frames := 0, cells := 0, slots := 0, locals := 0 }) (va_Pc [.ref (b 0), .int n] (sn_BW D K [cr0 b md pc re ce th tp])) (sn_Q D [cr0 b md pc re ce th tp] [cr0 b md pc re ce 1 tp] (some (.int (nI 0)))) 0 0 (sn_A [cr0 b md pc re ce th tp]) := by
  refine sn_met (own := R_Mo) (by decide +kernel) rfl rfl (Nat.le_of_ble_eq_true rfl) ?_
  intro P9 E9 s9 m9 args below M9 c9 ls Q hQ hx hb hml hrt hlk hts hown hnm hl hB
  obtain ⟨⟨hP, hK, hN⟩, hD⟩ := hB
  have hl : lv_has ls 3 [(0, .ref (b 0)), (1, .int n)] := hl
  have hD := sn_DA hD
  have hS : va_S (sn_A [cr0 b md pc re ce th tp]) s9.heap s9.heap [] := va_S.rf
  generalize hAe : sn_A [cr0 b md pc re ce th tp] = A at hD hS
  refine lv_aload_n hx hb d_Mo_pace_0 rfl (lv_at hl 0 rfl) ?_
  refine lv_iload_n hx hb d_Mo_pace_1 rfl (lv_at hl 1 rfl) ?_
  refine lv_if_lt (tgt := 11) hx hb d_Mo_pace_2 (by decide) (fun h1 => ?_) (fun h1 => ?_)
  · refine lv_iconst (v := nI 1) hx hb d_Mo_pace_11 (by decide) ?_
    refine lv_goto (tgt := 16) hx hb d_Mo_pace_12 (by decide) ?_
    refine va_put (D := D) (ci := 6) (v := .int (nI 1)) (ty := .int) (C := R_Mo) (T := F_Mo) (N := 15) hx hb hts in_Mo t_Mo t_Mo_ok n_Mo hown hK hP hD hS 0 rfl rfl 13 (by decide) (hts _ tw_667) (fun _ h9 => h9) rfl (by decide +kernel) rfl rfl (Nat.le_of_ble_eq_true rfl) d_Mo_pace_16 (fun H locs hP hD hS => ?_)
    have hP : va_P D classes [cr0 b md pc re ce 1 tp] H := hP
    have hD : va_D A [cr0 b md pc re ce 1 tp] := hD
    refine lv_aload_n hx hb d_Mo_pace_19 rfl (lv_at hl 0 rfl) ?_
    refine va_get (D := D) (ci := 6) (v := .int (nI 1)) (C := R_Mo) (T := F_Mo) (N := 15) hx hb hts in_Mo hown hK hP 0 rfl rfl 13 (by decide) (hts _ tw_667) (fun _ h9 => h9) rfl d_Mo_pace_20 ?_
    refine sn_if_le (by omega) (tgt := 28) hx hb d_Mo_pace_23 (by decide) (fun h2 => ?_) (fun h2 => ?_)
    · omega
    · refine lv_iconst (v := nI 0) hx hb d_Mo_pace_26 (by decide) ?_
      subst hAe
      exact sx_wi hQ hx hb hrt hlk (rfl) hP hS d_Mo_pace_27
  · refine lv_iload_n hx hb d_Mo_pace_5 rfl (lv_at hl 1 rfl) ?_
    refine lv_bipush (v := nI 50) hx hb d_Mo_pace_6 (by decide) ?_
    refine lv_icmp_le (tgt := 15) hx hb d_Mo_pace_8 (by decide) (fun h2 => ?_) (fun h2 => ?_)
    · exact (hb9.elim h1 (fun h9 => h9 h2)).elim
    · refine lv_iconst (v := nI 1) hx hb d_Mo_pace_11 (by decide) ?_
      refine lv_goto (tgt := 16) hx hb d_Mo_pace_12 (by decide) ?_
      refine va_put (D := D) (ci := 6) (v := .int (nI 1)) (ty := .int) (C := R_Mo) (T := F_Mo) (N := 15) hx hb hts in_Mo t_Mo t_Mo_ok n_Mo hown hK hP hD hS 0 rfl rfl 13 (by decide) (hts _ tw_667) (fun _ h9 => h9) rfl (by decide +kernel) rfl rfl (Nat.le_of_ble_eq_true rfl) d_Mo_pace_16 (fun H locs hP hD hS => ?_)
      have hP : va_P D classes [cr0 b md pc re ce 1 tp] H := hP
      have hD : va_D A [cr0 b md pc re ce 1 tp] := hD
      refine lv_aload_n hx hb d_Mo_pace_19 rfl (lv_at hl 0 rfl) ?_
      refine va_get (D := D) (ci := 6) (v := .int (nI 1)) (C := R_Mo) (T := F_Mo) (N := 15) hx hb hts in_Mo hown hK hP 0 rfl rfl 13 (by decide) (hts _ tw_667) (fun _ h9 => h9) rfl d_Mo_pace_20 ?_
      refine sn_if_le (by omega) (tgt := 28) hx hb d_Mo_pace_23 (by decide) (fun h3 => ?_) (fun h3 => ?_)
      · omega
      · refine lv_iconst (v := nI 0) hx hb d_Mo_pace_26 (by decide) ?_
        subst hAe
        exact sx_wi hQ hx hb hrt hlk (rfl) hP hS d_Mo_pace_27
set_option maxHeartbeats 1000000 in
set_option maxRecDepth 100000 in
theorem c_Mo_size (l : Launch) (D : va_G) (K : Nat → ClassId) (b : Nat → Nat) (md : Nat) (pc : Nat) (re : Nat) (ce : Nat) (th : Nat) (tp : Nat) (rv : Nat → Int64) (rr : Nat → Bool) (Z : Nat → Nat) (r : Nat) (k : Nat) (hr : r < 16) (hrr : rr r = true) (hk : rv r = lN k) (hk6 : k < 640) : Met l y_Mo_size w_Mo_size ({ frames := 1, cells := 0, slots := 0, locals := 20 }) (va_Pc [.ref (b 0), .int (nI r)] (sn_BW D K [cr0 b md pc re ce th tp, aL K (b 2) 16 rv, aZ K (b 4) 16 rr, aI K (b 6) 640 Z])) (sn_Q D [cr0 b md pc re ce th tp, aL K (b 2) 16 rv, aZ K (b 4) 16 rr, aI K (b 6) 640 Z] [cr0 b md pc re ce 0 tp, aL K (b 2) 16 rv, aZ K (b 4) 16 rr, aI K (b 6) 640 Z] (some (.int (nI (Z k))))) 0 0 (sn_A [cr0 b md pc re ce th tp, aL K (b 2) 16 rv, aZ K (b 4) 16 rr, aI K (b 6) 640 Z]) := by
  refine sn_met (own := R_Mo) (by decide +kernel) rfl rfl (Nat.le_of_ble_eq_true rfl) ?_
  intro P9 E9 s9 m9 args below M9 c9 ls Q hQ hx hb hml hrt hlk hts hown hnm hl hB
  obtain ⟨⟨hP, hK, hN⟩, hD⟩ := hB
  have hl : lv_has ls 2 [(0, .ref (b 0)), (1, .int (nI r))] := hl
  have hD := sn_DA hD
  have hS : va_S (sn_A [cr0 b md pc re ce th tp, aL K (b 2) 16 rv, aZ K (b 4) 16 rr, aI K (b 6) 640 Z]) s9.heap s9.heap [] := va_S.rf
  generalize hAe : sn_A [cr0 b md pc re ce th tp, aL K (b 2) 16 rv, aZ K (b 4) 16 rr, aI K (b 6) 640 Z] = A at hD hS
  refine lv_aload_n hx hb d_Mo_size_0 rfl (lv_at hl 0 rfl) ?_
  refine lv_iload_n hx hb d_Mo_size_1 rfl (lv_at hl 1 rfl) ?_
  refine sn_rd (st1 := [.int (zb (decide (True))), .ref (b 0)]) (va_runS (As := [.int (nI r)]) (rest := [.ref (b 0)]) ⟨hx, hb, hml, hown, hts⟩ (c_Mo_isRoot l D K r (by omega)) ⟨callB_of 1 hts (tw_in cm_Mo_isRoot) rfl rfl rfl (hts _ gn_Mo) (hts _ tw_709) hd_Mo_isRoot ⟨Nat.le_of_ble_eq_true rfl, Nat.le_of_ble_eq_true rfl⟩, hts _ gt_Mo_isRoot⟩ (sn_preS hK hN hP [] rfl) rfl rfl hl.1 rfl (lv_room (Nat.le_of_ble_eq_true rfl)) d_Mo_size_2 ⟨Nat.zero_le _, Nat.zero_le _⟩) rfl ?_
  refine sn_ifz_eq (tgt := 12) hx hb d_Mo_size_5 (by decide) (fun h1 => ?_) (fun h1 => ?_)
  · exact absurd trivial h1
  · refine lv_iconst (v := nI 0) hx hb d_Mo_size_8 (by decide) ?_
    refine lv_goto (tgt := 13) hx hb d_Mo_size_9 (by decide) ?_
    refine va_put (D := D) (ci := 6) (v := .int (nI 0)) (ty := .int) (C := R_Mo) (T := F_Mo) (N := 15) hx hb hts in_Mo t_Mo t_Mo_ok n_Mo hown hK hP hD hS 0 rfl rfl 13 (by decide) (hts _ tw_667) (fun _ h9 => h9) rfl (by decide +kernel) rfl rfl (Nat.le_of_ble_eq_true rfl) d_Mo_size_13 (fun H locs hP hD hS => ?_)
    have hP : va_P D classes [cr0 b md pc re ce 0 tp, aL K (b 2) 16 rv, aZ K (b 4) 16 rr, aI K (b 6) 640 Z] H := hP
    have hD : va_D A [cr0 b md pc re ce 0 tp, aL K (b 2) 16 rv, aZ K (b 4) 16 rr, aI K (b 6) 640 Z] := hD
    refine lv_aload_n hx hb d_Mo_size_16 rfl (lv_at hl 0 rfl) ?_
    refine va_get (D := D) (ci := 6) (v := .int (nI 0)) (C := R_Mo) (T := F_Mo) (N := 15) hx hb hts in_Mo hown hK hP 0 rfl rfl 13 (by decide) (hts _ tw_667) (fun _ h9 => h9) rfl d_Mo_size_17 ?_
    refine sn_if_le (by omega) (tgt := 25) hx hb d_Mo_size_20 (by decide) (fun h2 => ?_) (fun h2 => ?_)
    · refine lv_aload_n hx hb d_Mo_size_25 rfl (lv_at hl 0 rfl) ?_
      refine va_get (D := D) (ci := 6) (v := .ref (b 4)) (C := R_Mo) (T := F_Mo) (N := 15) hx hb hts in_Mo hown hK hP 0 rfl rfl 3 (by decide) (hts _ tw_657) (fun _ h9 => h9) rfl d_Mo_size_26 ?_
      refine lv_iload_n hx hb d_Mo_size_29 rfl (lv_at hl 1 rfl) ?_
      refine sn_zald rr r hx hb hK hP 2 rfl (by omega) (by decide) d_Mo_size_30 ?_
      refine sn_ifb_eq (tgt := 49) hx hb d_Mo_size_31 (by decide) (fun h3 => ?_) (fun h3 => ?_)
      · exact absurd (hrr.symm.trans h3) (by decide)
      · refine lv_aload_n hx hb d_Mo_size_34 rfl (lv_at hl 0 rfl) ?_
        refine va_get (D := D) (ci := 6) (v := .ref (b 6)) (C := R_Mo) (T := F_Mo) (N := 15) hx hb hts in_Mo hown hK hP 0 rfl rfl 5 (by decide) (hts _ tw_659) (fun _ h9 => h9) rfl d_Mo_size_35 ?_
        refine lv_aload_n hx hb d_Mo_size_38 rfl (lv_at hl 0 rfl) ?_
        refine va_get (D := D) (ci := 6) (v := .ref (b 2)) (C := R_Mo) (T := F_Mo) (N := 15) hx hb hts in_Mo hown hK hP 0 rfl rfl 1 (by decide) (hts _ tw_655) (fun _ h9 => h9) rfl d_Mo_size_39 ?_
        refine lv_iload_n hx hb d_Mo_size_42 rfl (lv_at hl 1 rfl) ?_
        refine sn_lald rv r hx hb hK hP 1 rfl (by omega) (by decide) d_Mo_size_43 ?_
        refine lv_l2i (v := nI k) hx hb d_Mo_size_44 (by rw [hk]; exact lN_i _) ?_
        refine sn_iald nI Z k hx hb hK hP 3 rfl (by omega) (by decide) d_Mo_size_45 ?_
        refine lv_goto (tgt := 50) hx hb d_Mo_size_46 (by decide) ?_
        subst hAe
        exact sx_wi hQ hx hb hrt hlk (rfl) hP hS d_Mo_size_50
    · omega
set_option maxHeartbeats 1000000 in
set_option maxRecDepth 100000 in
theorem c_Mo_size_n (l : Launch) (D : va_G) (K : Nat → ClassId) (b : Nat → Nat) (md : Nat) (pc : Nat) (re : Nat) (ce : Nat) (th : Nat) (tp : Nat) (rr : Nat → Bool) (r : Nat) (hr : r < 16) (hrr : rr r = false) : Met l y_Mo_size w_Mo_size ({ frames := 1, cells := 0, slots := 0, locals := 20 }) (va_Pc [.ref (b 0), .int (nI r)] (sn_BW D K [cr0 b md pc re ce th tp, aZ K (b 4) 16 rr])) (sn_Q D [cr0 b md pc re ce th tp, aZ K (b 4) 16 rr] [cr0 b md pc re ce 0 tp, aZ K (b 4) 16 rr] (some (.int (-1)))) 0 0 (sn_A [cr0 b md pc re ce th tp, aZ K (b 4) 16 rr]) := by
  refine sn_met (own := R_Mo) (by decide +kernel) rfl rfl (Nat.le_of_ble_eq_true rfl) ?_
  intro P9 E9 s9 m9 args below M9 c9 ls Q hQ hx hb hml hrt hlk hts hown hnm hl hB
  obtain ⟨⟨hP, hK, hN⟩, hD⟩ := hB
  have hl : lv_has ls 2 [(0, .ref (b 0)), (1, .int (nI r))] := hl
  have hD := sn_DA hD
  have hS : va_S (sn_A [cr0 b md pc re ce th tp, aZ K (b 4) 16 rr]) s9.heap s9.heap [] := va_S.rf
  generalize hAe : sn_A [cr0 b md pc re ce th tp, aZ K (b 4) 16 rr] = A at hD hS
  refine lv_aload_n hx hb d_Mo_size_0 rfl (lv_at hl 0 rfl) ?_
  refine lv_iload_n hx hb d_Mo_size_1 rfl (lv_at hl 1 rfl) ?_
  refine sn_rd (st1 := [.int (zb (decide (True))), .ref (b 0)]) (va_runS (As := [.int (nI r)]) (rest := [.ref (b 0)]) ⟨hx, hb, hml, hown, hts⟩ (c_Mo_isRoot l D K r (by omega)) ⟨callB_of 1 hts (tw_in cm_Mo_isRoot) rfl rfl rfl (hts _ gn_Mo) (hts _ tw_709) hd_Mo_isRoot ⟨Nat.le_of_ble_eq_true rfl, Nat.le_of_ble_eq_true rfl⟩, hts _ gt_Mo_isRoot⟩ (sn_preS hK hN hP [] rfl) rfl rfl hl.1 rfl (lv_room (Nat.le_of_ble_eq_true rfl)) d_Mo_size_2 ⟨Nat.zero_le _, Nat.zero_le _⟩) rfl ?_
  refine sn_ifz_eq (tgt := 12) hx hb d_Mo_size_5 (by decide) (fun h1 => ?_) (fun h1 => ?_)
  · exact absurd trivial h1
  · refine lv_iconst (v := nI 0) hx hb d_Mo_size_8 (by decide) ?_
    refine lv_goto (tgt := 13) hx hb d_Mo_size_9 (by decide) ?_
    refine va_put (D := D) (ci := 6) (v := .int (nI 0)) (ty := .int) (C := R_Mo) (T := F_Mo) (N := 15) hx hb hts in_Mo t_Mo t_Mo_ok n_Mo hown hK hP hD hS 0 rfl rfl 13 (by decide) (hts _ tw_667) (fun _ h9 => h9) rfl (by decide +kernel) rfl rfl (Nat.le_of_ble_eq_true rfl) d_Mo_size_13 (fun H locs hP hD hS => ?_)
    have hP : va_P D classes [cr0 b md pc re ce 0 tp, aZ K (b 4) 16 rr] H := hP
    have hD : va_D A [cr0 b md pc re ce 0 tp, aZ K (b 4) 16 rr] := hD
    refine lv_aload_n hx hb d_Mo_size_16 rfl (lv_at hl 0 rfl) ?_
    refine va_get (D := D) (ci := 6) (v := .int (nI 0)) (C := R_Mo) (T := F_Mo) (N := 15) hx hb hts in_Mo hown hK hP 0 rfl rfl 13 (by decide) (hts _ tw_667) (fun _ h9 => h9) rfl d_Mo_size_17 ?_
    refine sn_if_le (by omega) (tgt := 25) hx hb d_Mo_size_20 (by decide) (fun h2 => ?_) (fun h2 => ?_)
    · refine lv_aload_n hx hb d_Mo_size_25 rfl (lv_at hl 0 rfl) ?_
      refine va_get (D := D) (ci := 6) (v := .ref (b 4)) (C := R_Mo) (T := F_Mo) (N := 15) hx hb hts in_Mo hown hK hP 0 rfl rfl 3 (by decide) (hts _ tw_657) (fun _ h9 => h9) rfl d_Mo_size_26 ?_
      refine lv_iload_n hx hb d_Mo_size_29 rfl (lv_at hl 1 rfl) ?_
      refine sn_zald rr r hx hb hK hP 1 rfl (by omega) (by decide) d_Mo_size_30 ?_
      refine sn_ifb_eq (tgt := 49) hx hb d_Mo_size_31 (by decide) (fun h3 => ?_) (fun h3 => ?_)
      · refine lv_iconst (v := (-1)) hx hb d_Mo_size_49 (by decide) ?_
        subst hAe
        exact sx_wi hQ hx hb hrt hlk (rfl) hP hS d_Mo_size_50
      · exact absurd (hrr.symm.trans h3) (by decide)
    · omega
set_option maxHeartbeats 1000000 in
set_option maxRecDepth 100000 in
theorem c_Mo_size_b (l : Launch) (D : va_G) (K : Nat → ClassId) (b : Nat → Nat) (md : Nat) (pc : Nat) (re : Nat) (ce : Nat) (th : Nat) (tp : Nat) (r : Int32) (hb9 : r < 0 ∨ nI 16 ≤ r) : Met l y_Mo_size w_Mo_size ({ frames := 1, cells := 0, slots := 0, locals := 20 }) (va_Pc [.ref (b 0), .int r] (sn_BW D K [cr0 b md pc re ce th tp])) (sn_Q D [cr0 b md pc re ce th tp] [cr0 b md pc re ce 1 tp] (some (.int (nI 0)))) 0 0 (sn_A [cr0 b md pc re ce th tp]) := by
  refine sn_met (own := R_Mo) (by decide +kernel) rfl rfl (Nat.le_of_ble_eq_true rfl) ?_
  intro P9 E9 s9 m9 args below M9 c9 ls Q hQ hx hb hml hrt hlk hts hown hnm hl hB
  obtain ⟨⟨hP, hK, hN⟩, hD⟩ := hB
  have hl : lv_has ls 2 [(0, .ref (b 0)), (1, .int r)] := hl
  have hD := sn_DA hD
  have hS : va_S (sn_A [cr0 b md pc re ce th tp]) s9.heap s9.heap [] := va_S.rf
  generalize hAe : sn_A [cr0 b md pc re ce th tp] = A at hD hS
  refine lv_aload_n hx hb d_Mo_size_0 rfl (lv_at hl 0 rfl) ?_
  refine lv_iload_n hx hb d_Mo_size_1 rfl (lv_at hl 1 rfl) ?_
  refine sn_rd (st1 := [.int (zb (decide (False))), .ref (b 0)]) (va_runS (As := [.int r]) (rest := [.ref (b 0)]) ⟨hx, hb, hml, hown, hts⟩ (c_Mo_isRoot_b l D K r (hb9)) ⟨callB_of 1 hts (tw_in cm_Mo_isRoot) rfl rfl rfl (hts _ gn_Mo) (hts _ tw_709) hd_Mo_isRoot ⟨Nat.le_of_ble_eq_true rfl, Nat.le_of_ble_eq_true rfl⟩, hts _ gt_Mo_isRoot⟩ (sn_preS hK hN hP [] rfl) rfl rfl hl.1 rfl (lv_room (Nat.le_of_ble_eq_true rfl)) d_Mo_size_2 ⟨Nat.zero_le _, Nat.zero_le _⟩) rfl ?_
  refine sn_ifz_eq (tgt := 12) hx hb d_Mo_size_5 (by decide) (fun h1 => ?_) (fun h1 => ?_)
  · refine lv_iconst (v := nI 1) hx hb d_Mo_size_12 (by decide) ?_
    refine va_put (D := D) (ci := 6) (v := .int (nI 1)) (ty := .int) (C := R_Mo) (T := F_Mo) (N := 15) hx hb hts in_Mo t_Mo t_Mo_ok n_Mo hown hK hP hD hS 0 rfl rfl 13 (by decide) (hts _ tw_667) (fun _ h9 => h9) rfl (by decide +kernel) rfl rfl (Nat.le_of_ble_eq_true rfl) d_Mo_size_13 (fun H locs hP hD hS => ?_)
    have hP : va_P D classes [cr0 b md pc re ce 1 tp] H := hP
    have hD : va_D A [cr0 b md pc re ce 1 tp] := hD
    refine lv_aload_n hx hb d_Mo_size_16 rfl (lv_at hl 0 rfl) ?_
    refine va_get (D := D) (ci := 6) (v := .int (nI 1)) (C := R_Mo) (T := F_Mo) (N := 15) hx hb hts in_Mo hown hK hP 0 rfl rfl 13 (by decide) (hts _ tw_667) (fun _ h9 => h9) rfl d_Mo_size_17 ?_
    refine sn_if_le (by omega) (tgt := 25) hx hb d_Mo_size_20 (by decide) (fun h2 => ?_) (fun h2 => ?_)
    · omega
    · refine lv_iconst (v := nI 0) hx hb d_Mo_size_23 (by decide) ?_
      subst hAe
      exact sx_wi hQ hx hb hrt hlk (rfl) hP hS d_Mo_size_24
  · exact h1.elim
set_option maxHeartbeats 1000000 in
set_option maxRecDepth 100000 in
theorem c_Mo_value (l : Launch) (D : va_G) (K : Nat → ClassId) (b : Nat → Nat) (md : Nat) (pc : Nat) (re : Nat) (ce : Nat) (th : Nat) (tp : Nat) (rv : Nat → Int64) (rr : Nat → Bool) (r : Nat) (hr : r < 16) : Met l y_Mo_value w_Mo_value ({ frames := 1, cells := 0, slots := 0, locals := 20 }) (va_Pc [.ref (b 0), .int (nI r)] (sn_BW D K [cr0 b md pc re ce th tp, aL K (b 2) 16 rv, aZ K (b 4) 16 rr])) (sn_Q D [cr0 b md pc re ce th tp, aL K (b 2) 16 rv, aZ K (b 4) 16 rr] [cr0 b md pc re ce 0 tp, aL K (b 2) 16 rv, aZ K (b 4) 16 rr] (some (.long (if rr r = true then 0 else rv r)))) 0 0 (sn_A [cr0 b md pc re ce th tp, aL K (b 2) 16 rv, aZ K (b 4) 16 rr]) := by
  refine sn_met (own := R_Mo) (by decide +kernel) rfl rfl (Nat.le_of_ble_eq_true rfl) ?_
  intro P9 E9 s9 m9 args below M9 c9 ls Q hQ hx hb hml hrt hlk hts hown hnm hl hB
  obtain ⟨⟨hP, hK, hN⟩, hD⟩ := hB
  have hl : lv_has ls 2 [(0, .ref (b 0)), (1, .int (nI r))] := hl
  have hD := sn_DA hD
  have hS : va_S (sn_A [cr0 b md pc re ce th tp, aL K (b 2) 16 rv, aZ K (b 4) 16 rr]) s9.heap s9.heap [] := va_S.rf
  generalize hAe : sn_A [cr0 b md pc re ce th tp, aL K (b 2) 16 rv, aZ K (b 4) 16 rr] = A at hD hS
  refine lv_aload_n hx hb d_Mo_value_0 rfl (lv_at hl 0 rfl) ?_
  refine lv_iload_n hx hb d_Mo_value_1 rfl (lv_at hl 1 rfl) ?_
  refine sn_rd (st1 := [.int (zb (decide (True))), .ref (b 0)]) (va_runS (As := [.int (nI r)]) (rest := [.ref (b 0)]) ⟨hx, hb, hml, hown, hts⟩ (c_Mo_isRoot l D K r (by omega)) ⟨callB_of 1 hts (tw_in cm_Mo_isRoot) rfl rfl rfl (hts _ gn_Mo) (hts _ tw_709) hd_Mo_isRoot ⟨Nat.le_of_ble_eq_true rfl, Nat.le_of_ble_eq_true rfl⟩, hts _ gt_Mo_isRoot⟩ (sn_preS hK hN hP [] rfl) rfl rfl hl.1 rfl (lv_room (Nat.le_of_ble_eq_true rfl)) d_Mo_value_2 ⟨Nat.zero_le _, Nat.zero_le _⟩) rfl ?_
  refine sn_ifz_eq (tgt := 12) hx hb d_Mo_value_5 (by decide) (fun h1 => ?_) (fun h1 => ?_)
  · exact absurd trivial h1
  · refine lv_iconst (v := nI 0) hx hb d_Mo_value_8 (by decide) ?_
    refine lv_goto (tgt := 13) hx hb d_Mo_value_9 (by decide) ?_
    refine va_put (D := D) (ci := 6) (v := .int (nI 0)) (ty := .int) (C := R_Mo) (T := F_Mo) (N := 15) hx hb hts in_Mo t_Mo t_Mo_ok n_Mo hown hK hP hD hS 0 rfl rfl 13 (by decide) (hts _ tw_667) (fun _ h9 => h9) rfl (by decide +kernel) rfl rfl (Nat.le_of_ble_eq_true rfl) d_Mo_value_13 (fun H locs hP hD hS => ?_)
    have hP : va_P D classes [cr0 b md pc re ce 0 tp, aL K (b 2) 16 rv, aZ K (b 4) 16 rr] H := hP
    have hD : va_D A [cr0 b md pc re ce 0 tp, aL K (b 2) 16 rv, aZ K (b 4) 16 rr] := hD
    refine lv_aload_n hx hb d_Mo_value_16 rfl (lv_at hl 0 rfl) ?_
    refine va_get (D := D) (ci := 6) (v := .int (nI 0)) (C := R_Mo) (T := F_Mo) (N := 15) hx hb hts in_Mo hown hK hP 0 rfl rfl 13 (by decide) (hts _ tw_667) (fun _ h9 => h9) rfl d_Mo_value_17 ?_
    refine sn_if_gt (by omega) (tgt := 32) hx hb d_Mo_value_20 (by decide) (fun h2 => ?_) (fun h2 => ?_)
    · omega
    · refine lv_aload_n hx hb d_Mo_value_23 rfl (lv_at hl 0 rfl) ?_
      refine va_get (D := D) (ci := 6) (v := .ref (b 4)) (C := R_Mo) (T := F_Mo) (N := 15) hx hb hts in_Mo hown hK hP 0 rfl rfl 3 (by decide) (hts _ tw_657) (fun _ h9 => h9) rfl d_Mo_value_24 ?_
      refine lv_iload_n hx hb d_Mo_value_27 rfl (lv_at hl 1 rfl) ?_
      refine sn_zald rr r hx hb hK hP 2 rfl (by omega) (by decide) d_Mo_value_28 ?_
      refine sn_ifb_eq (tgt := 36) hx hb d_Mo_value_29 (by decide) (fun h3 => ?_) (fun h3 => ?_)
      · refine lv_aload_n hx hb d_Mo_value_36 rfl (lv_at hl 0 rfl) ?_
        refine va_get (D := D) (ci := 6) (v := .ref (b 2)) (C := R_Mo) (T := F_Mo) (N := 15) hx hb hts in_Mo hown hK hP 0 rfl rfl 1 (by decide) (hts _ tw_655) (fun _ h9 => h9) rfl d_Mo_value_37 ?_
        refine lv_iload_n hx hb d_Mo_value_40 rfl (lv_at hl 1 rfl) ?_
        refine sn_lald rv r hx hb hK hP 1 rfl (by omega) (by decide) d_Mo_value_41 ?_
        subst hAe
        exact sx_wl2 hQ hx hb hrt hlk (by first | rw [if_pos h3] | rw [if_neg (by rw [h3]; decide)]) hP hS d_Mo_value_42
      · refine lv_lconst (v := 0) hx hb d_Mo_value_32 (by decide) ?_
        refine lv_goto (tgt := 42) hx hb d_Mo_value_33 (by decide) ?_
        subst hAe
        exact sx_wl2 hQ hx hb hrt hlk (by first | rw [if_pos h3] | rw [if_neg (by rw [h3]; decide)]) hP hS d_Mo_value_42
set_option maxHeartbeats 1000000 in
set_option maxRecDepth 100000 in
theorem c_Mo_value_b (l : Launch) (D : va_G) (K : Nat → ClassId) (b : Nat → Nat) (md : Nat) (pc : Nat) (re : Nat) (ce : Nat) (th : Nat) (tp : Nat) (r : Int32) (hb9 : r < 0 ∨ nI 16 ≤ r) : Met l y_Mo_value w_Mo_value ({ frames := 1, cells := 0, slots := 0, locals := 20 }) (va_Pc [.ref (b 0), .int r] (sn_BW D K [cr0 b md pc re ce th tp])) (sn_Q D [cr0 b md pc re ce th tp] [cr0 b md pc re ce 1 tp] (some (.long 0))) 0 0 (sn_A [cr0 b md pc re ce th tp]) := by
  refine sn_met (own := R_Mo) (by decide +kernel) rfl rfl (Nat.le_of_ble_eq_true rfl) ?_
  intro P9 E9 s9 m9 args below M9 c9 ls Q hQ hx hb hml hrt hlk hts hown hnm hl hB
  obtain ⟨⟨hP, hK, hN⟩, hD⟩ := hB
  have hl : lv_has ls 2 [(0, .ref (b 0)), (1, .int r)] := hl
  have hD := sn_DA hD
  have hS : va_S (sn_A [cr0 b md pc re ce th tp]) s9.heap s9.heap [] := va_S.rf
  generalize hAe : sn_A [cr0 b md pc re ce th tp] = A at hD hS
  refine lv_aload_n hx hb d_Mo_value_0 rfl (lv_at hl 0 rfl) ?_
  refine lv_iload_n hx hb d_Mo_value_1 rfl (lv_at hl 1 rfl) ?_
  refine sn_rd (st1 := [.int (zb (decide (False))), .ref (b 0)]) (va_runS (As := [.int r]) (rest := [.ref (b 0)]) ⟨hx, hb, hml, hown, hts⟩ (c_Mo_isRoot_b l D K r (hb9)) ⟨callB_of 1 hts (tw_in cm_Mo_isRoot) rfl rfl rfl (hts _ gn_Mo) (hts _ tw_709) hd_Mo_isRoot ⟨Nat.le_of_ble_eq_true rfl, Nat.le_of_ble_eq_true rfl⟩, hts _ gt_Mo_isRoot⟩ (sn_preS hK hN hP [] rfl) rfl rfl hl.1 rfl (lv_room (Nat.le_of_ble_eq_true rfl)) d_Mo_value_2 ⟨Nat.zero_le _, Nat.zero_le _⟩) rfl ?_
  refine sn_ifz_eq (tgt := 12) hx hb d_Mo_value_5 (by decide) (fun h1 => ?_) (fun h1 => ?_)
  · refine lv_iconst (v := nI 1) hx hb d_Mo_value_12 (by decide) ?_
    refine va_put (D := D) (ci := 6) (v := .int (nI 1)) (ty := .int) (C := R_Mo) (T := F_Mo) (N := 15) hx hb hts in_Mo t_Mo t_Mo_ok n_Mo hown hK hP hD hS 0 rfl rfl 13 (by decide) (hts _ tw_667) (fun _ h9 => h9) rfl (by decide +kernel) rfl rfl (Nat.le_of_ble_eq_true rfl) d_Mo_value_13 (fun H locs hP hD hS => ?_)
    have hP : va_P D classes [cr0 b md pc re ce 1 tp] H := hP
    have hD : va_D A [cr0 b md pc re ce 1 tp] := hD
    refine lv_aload_n hx hb d_Mo_value_16 rfl (lv_at hl 0 rfl) ?_
    refine va_get (D := D) (ci := 6) (v := .int (nI 1)) (C := R_Mo) (T := F_Mo) (N := 15) hx hb hts in_Mo hown hK hP 0 rfl rfl 13 (by decide) (hts _ tw_667) (fun _ h9 => h9) rfl d_Mo_value_17 ?_
    refine sn_if_gt (by omega) (tgt := 32) hx hb d_Mo_value_20 (by decide) (fun h2 => ?_) (fun h2 => ?_)
    · refine lv_lconst (v := 0) hx hb d_Mo_value_32 (by decide) ?_
      refine lv_goto (tgt := 42) hx hb d_Mo_value_33 (by decide) ?_
      subst hAe
      exact sx_wl2 hQ hx hb hrt hlk rfl hP hS d_Mo_value_42
    · omega
  · exact h1.elim
set_option maxHeartbeats 1000000 in
set_option maxRecDepth 100000 in
theorem c_Mo_count (l : Launch) (D : va_G) (K : Nat → ClassId) (b : Nat → Nat) (md : Nat) (pc : Nat) (re : Nat) (ce : Nat) (th : Nat) (tp : Nat) (vv : Nat → Int64) (rv : Nat → Int64) (vr : Nat → Bool) (rr : Nat → Bool) (Ir : Nat → Bool) (Z : Nat → Nat) (Td : Nat → Nat) (L : Nat → Nat) (k : Nat) (hrep : sn_rep rv rr vv vr L) (hZ : ∀ k, Z k ≤ 16) (h2p : k ≤ 2) : Met l y_Mo_count w_Mo_count ({ frames := 2, cells := 0, slots := 0, locals := 45 }) (va_Pc [.ref (b 0), .int (nI k)] (sn_BW D K [cr0 b md pc re ce th tp, aL K (b 1) 10240 vv, aL K (b 2) 16 rv, aZ K (b 3) 10240 vr, aZ K (b 4) 16 rr, aZ K (b 5) 640 Ir, aI K (b 6) 640 Z, aI K (b 7) 640 Td])) (sn_Q D [cr0 b md pc re ce th tp, aL K (b 1) 10240 vv, aL K (b 2) 16 rv, aZ K (b 3) 10240 vr, aZ K (b 4) 16 rr, aZ K (b 5) 640 Ir, aI K (b 6) 640 Z, aI K (b 7) 640 Td] [cr0 b md pc (sn_cr (sn_xf Z L Td)) (sn_cc Z (sn_xf Z L Td)) 0 ((sn_xf Z L Td).2.2), aL K (b 1) 10240 vv, aL K (b 2) 16 rv, aZ K (b 3) 10240 vr, aZ K (b 4) 16 rr, aZ K (b 5) 640 (sn_ir (sn_xf Z L Td)), aI K (b 6) 640 Z, aI K (b 7) 640 (sn_td (sn_xf Z L Td))] (some (.int (nI (if k = 0 then sn_cr (sn_xf Z L Td) else if k = 1 then sn_cc Z (sn_xf Z L Td) else md))))) 0 0 (sn_A [cr0 b md pc re ce th tp, aL K (b 1) 10240 vv, aL K (b 2) 16 rv, aZ K (b 3) 10240 vr, aZ K (b 4) 16 rr, aZ K (b 5) 640 Ir, aI K (b 6) 640 Z, aI K (b 7) 640 Td]) := by
  refine sn_met (own := R_Mo) (by decide +kernel) rfl rfl (Nat.le_of_ble_eq_true rfl) ?_
  intro P9 E9 s9 m9 args below M9 c9 ls Q hQ hx hb hml hrt hlk hts hown hnm hl hB
  obtain ⟨⟨hP, hK, hN⟩, hD⟩ := hB
  have hl : lv_has ls 2 [(0, .ref (b 0)), (1, .int (nI k))] := hl
  have hD := sn_DA hD
  have hS : va_S (sn_A [cr0 b md pc re ce th tp, aL K (b 1) 10240 vv, aL K (b 2) 16 rv, aZ K (b 3) 10240 vr, aZ K (b 4) 16 rr, aZ K (b 5) 640 Ir, aI K (b 6) 640 Z, aI K (b 7) 640 Td]) s9.heap s9.heap [] := va_S.rf
  generalize hAe : sn_A [cr0 b md pc re ce th tp, aL K (b 1) 10240 vv, aL K (b 2) 16 rv, aZ K (b 3) 10240 vr, aZ K (b 4) 16 rr, aZ K (b 5) 640 Ir, aI K (b 6) 640 Z, aI K (b 7) 640 Td] = A at hD hS
  refine lv_aload_n hx hb d_Mo_count_0 rfl (lv_at hl 0 rfl) ?_
  refine lv_iload_n hx hb d_Mo_count_1 rfl (lv_at hl 1 rfl) ?_
  refine sn_if_lt (by omega) (tgt := 10) hx hb d_Mo_count_2 (by decide) ?_
  refine lv_iload_n hx hb d_Mo_count_5 rfl (lv_at hl 1 rfl) ?_
  refine lv_iconst (v := nI 2) hx hb d_Mo_count_6 (by decide) ?_
  refine sn_icmp_le (by omega) (by omega) (tgt := 14) hx hb d_Mo_count_7 (by decide) (fun h2 => ?_) (fun h2 => ?_)
  · refine lv_iconst (v := nI 0) hx hb d_Mo_count_14 (by decide) ?_
    refine va_put (D := D) (ci := 6) (v := .int (nI 0)) (ty := .int) (C := R_Mo) (T := F_Mo) (N := 15) hx hb hts in_Mo t_Mo t_Mo_ok n_Mo hown hK hP hD hS 0 rfl rfl 13 (by decide) (hts _ tw_667) (fun _ h9 => h9) rfl (by decide +kernel) rfl rfl (Nat.le_of_ble_eq_true rfl) d_Mo_count_15 (fun H locs hP hD hS => ?_)
    have hP : va_P D classes [cr0 b md pc re ce 0 tp, aL K (b 1) 10240 vv, aL K (b 2) 16 rv, aZ K (b 3) 10240 vr, aZ K (b 4) 16 rr, aZ K (b 5) 640 Ir, aI K (b 6) 640 Z, aI K (b 7) 640 Td] H := hP
    have hD : va_D A [cr0 b md pc re ce 0 tp, aL K (b 1) 10240 vv, aL K (b 2) 16 rv, aZ K (b 3) 10240 vr, aZ K (b 4) 16 rr, aZ K (b 5) 640 Ir, aI K (b 6) 640 Z, aI K (b 7) 640 Td] := hD
    refine lv_aload_n hx hb d_Mo_count_18 rfl (lv_at hl 0 rfl) ?_
    refine va_get (D := D) (ci := 6) (v := .int (nI 0)) (C := R_Mo) (T := F_Mo) (N := 15) hx hb hts in_Mo hown hK hP 0 rfl rfl 13 (by decide) (hts _ tw_667) (fun _ h9 => h9) rfl d_Mo_count_19 ?_
    refine sn_if_le (by omega) (tgt := 27) hx hb d_Mo_count_22 (by decide) (fun h3 => ?_) (fun h3 => ?_)
    · refine lv_aload_n hx hb d_Mo_count_27 rfl (lv_at hl 0 rfl) ?_
      refine sn_wrt (st1 := []) (w1 := [cr0 b md pc (sn_cr (sn_xf Z L Td)) (sn_cc Z (sn_xf Z L Td)) 0 ((sn_xf Z L Td).2.2), aL K (b 1) 10240 vv, aL K (b 2) 16 rv, aZ K (b 3) 10240 vr, aZ K (b 4) 16 rr, aZ K (b 5) 640 (sn_ir (sn_xf Z L Td)), aI K (b 6) 640 Z, aI K (b 7) 640 (sn_td (sn_xf Z L Td))]) (va_runV (As := []) (rest := []) ⟨hx, hb, hml, hown, hts⟩ (c_Mo_reachAll l D K b md pc re ce 0 tp vv rv vr rr Ir Z Td L (hrep) (hZ)) ⟨callB_of 0 hts (tw_in cm_Mo_reachAll) rfl rfl rfl (hts _ gn_Mo) (hts _ tw_712) hd_Mo_reachAll ⟨Nat.le_of_ble_eq_true rfl, Nat.le_of_ble_eq_true rfl⟩, hts _ gi_Mo_reachAll, hts _ gs_Mo_reachAll⟩ (sn_preVW hK hN hP hD 0 rfl rfl [0, 1, 2, 3, 4, 5, 6, 7] rfl rfl) rfl rfl hl.1 rfl (lv_room (Nat.le_of_ble_eq_true rfl)) d_Mo_count_28 ⟨Nat.zero_le _, Nat.zero_le _⟩) rfl hP hD hS [0, 1, 2, 3, 4, 5, 6, 7] rfl rfl (fun H locs hP hD hS => ?_)
      have hP : va_P D classes [cr0 b md pc (sn_cr (sn_xf Z L Td)) (sn_cc Z (sn_xf Z L Td)) 0 ((sn_xf Z L Td).2.2), aL K (b 1) 10240 vv, aL K (b 2) 16 rv, aZ K (b 3) 10240 vr, aZ K (b 4) 16 rr, aZ K (b 5) 640 (sn_ir (sn_xf Z L Td)), aI K (b 6) 640 Z, aI K (b 7) 640 (sn_td (sn_xf Z L Td))] H := hP
      have hD : va_D A [cr0 b md pc (sn_cr (sn_xf Z L Td)) (sn_cc Z (sn_xf Z L Td)) 0 ((sn_xf Z L Td).2.2), aL K (b 1) 10240 vv, aL K (b 2) 16 rv, aZ K (b 3) 10240 vr, aZ K (b 4) 16 rr, aZ K (b 5) 640 (sn_ir (sn_xf Z L Td)), aI K (b 6) 640 Z, aI K (b 7) 640 (sn_td (sn_xf Z L Td))] := hD
      refine lv_iload_n hx hb d_Mo_count_31 rfl (lv_at hl 1 rfl) ?_
      refine sn_if_ne (by omega) (tgt := 42) hx hb d_Mo_count_32 (by decide) (fun h4 => ?_) (fun h4 => ?_)
      · refine lv_iload_n hx hb d_Mo_count_42 rfl (lv_at hl 1 rfl) ?_
        refine lv_iconst (v := nI 1) hx hb d_Mo_count_43 (by decide) ?_
        refine sn_icmp_ne (by omega) (by omega) (tgt := 54) hx hb d_Mo_count_44 (by decide) (fun h5 => ?_) (fun h5 => ?_)
        · refine lv_aload_n hx hb d_Mo_count_54 rfl (lv_at hl 0 rfl) ?_
          refine va_get (D := D) (ci := 6) (v := .int (nI md)) (C := R_Mo) (T := F_Mo) (N := 15) hx hb hts in_Mo hown hK hP 0 rfl rfl 9 (by decide) (hts _ tw_663) (fun _ h9 => h9) rfl d_Mo_count_55 ?_
          subst hAe
          exact sx_wi hQ hx hb hrt hlk (by first | rw [if_pos h4] | rw [if_neg (by omega), if_pos h5] | rw [if_neg (by omega), if_neg (by omega)]) hP hS d_Mo_count_58
        · refine lv_aload_n hx hb d_Mo_count_47 rfl (lv_at hl 0 rfl) ?_
          refine va_get (D := D) (ci := 6) (v := .int (nI (sn_cc Z (sn_xf Z L Td)))) (C := R_Mo) (T := F_Mo) (N := 15) hx hb hts in_Mo hown hK hP 0 rfl rfl 12 (by decide) (hts _ tw_666) (fun _ h9 => h9) rfl d_Mo_count_48 ?_
          refine lv_goto (tgt := 58) hx hb d_Mo_count_51 (by decide) ?_
          subst hAe
          exact sx_wi hQ hx hb hrt hlk (by first | rw [if_pos h4] | rw [if_neg (by omega), if_pos h5] | rw [if_neg (by omega), if_neg (by omega)]) hP hS d_Mo_count_58
      · refine lv_aload_n hx hb d_Mo_count_35 rfl (lv_at hl 0 rfl) ?_
        refine va_get (D := D) (ci := 6) (v := .int (nI (sn_cr (sn_xf Z L Td)))) (C := R_Mo) (T := F_Mo) (N := 15) hx hb hts in_Mo hown hK hP 0 rfl rfl 11 (by decide) (hts _ tw_665) (fun _ h9 => h9) rfl d_Mo_count_36 ?_
        refine lv_goto (tgt := 58) hx hb d_Mo_count_39 (by decide) ?_
        subst hAe
        exact sx_wi hQ hx hb hrt hlk (by first | rw [if_pos h4] | rw [if_neg (by omega), if_pos h5] | rw [if_neg (by omega), if_neg (by omega)]) hP hS d_Mo_count_58
    · omega
  · omega
set_option maxHeartbeats 1000000 in
set_option maxRecDepth 100000 in
theorem c_Mo_count_b (l : Launch) (D : va_G) (K : Nat → ClassId) (b : Nat → Nat) (md : Nat) (pc : Nat) (re : Nat) (ce : Nat) (th : Nat) (tp : Nat) (k : Int32) (hb9 : k < 0 ∨ ¬ k ≤ nI 2) : Met l y_Mo_count w_Mo_count ({ frames := 0, cells := 0, slots := 0, locals := 0 }) (va_Pc [.ref (b 0), .int k] (sn_BW D K [cr0 b md pc re ce th tp])) (sn_Q D [cr0 b md pc re ce th tp] [cr0 b md pc re ce 1 tp] (some (.int (nI 0)))) 0 0 (sn_A [cr0 b md pc re ce th tp]) := by
  refine sn_met (own := R_Mo) (by decide +kernel) rfl rfl (Nat.le_of_ble_eq_true rfl) ?_
  intro P9 E9 s9 m9 args below M9 c9 ls Q hQ hx hb hml hrt hlk hts hown hnm hl hB
  obtain ⟨⟨hP, hK, hN⟩, hD⟩ := hB
  have hl : lv_has ls 2 [(0, .ref (b 0)), (1, .int k)] := hl
  have hD := sn_DA hD
  have hS : va_S (sn_A [cr0 b md pc re ce th tp]) s9.heap s9.heap [] := va_S.rf
  generalize hAe : sn_A [cr0 b md pc re ce th tp] = A at hD hS
  refine lv_aload_n hx hb d_Mo_count_0 rfl (lv_at hl 0 rfl) ?_
  refine lv_iload_n hx hb d_Mo_count_1 rfl (lv_at hl 1 rfl) ?_
  refine lv_if_lt (tgt := 10) hx hb d_Mo_count_2 (by decide) (fun h1 => ?_) (fun h1 => ?_)
  · refine lv_iconst (v := nI 1) hx hb d_Mo_count_10 (by decide) ?_
    refine lv_goto (tgt := 15) hx hb d_Mo_count_11 (by decide) ?_
    refine va_put (D := D) (ci := 6) (v := .int (nI 1)) (ty := .int) (C := R_Mo) (T := F_Mo) (N := 15) hx hb hts in_Mo t_Mo t_Mo_ok n_Mo hown hK hP hD hS 0 rfl rfl 13 (by decide) (hts _ tw_667) (fun _ h9 => h9) rfl (by decide +kernel) rfl rfl (Nat.le_of_ble_eq_true rfl) d_Mo_count_15 (fun H locs hP hD hS => ?_)
    have hP : va_P D classes [cr0 b md pc re ce 1 tp] H := hP
    have hD : va_D A [cr0 b md pc re ce 1 tp] := hD
    refine lv_aload_n hx hb d_Mo_count_18 rfl (lv_at hl 0 rfl) ?_
    refine va_get (D := D) (ci := 6) (v := .int (nI 1)) (C := R_Mo) (T := F_Mo) (N := 15) hx hb hts in_Mo hown hK hP 0 rfl rfl 13 (by decide) (hts _ tw_667) (fun _ h9 => h9) rfl d_Mo_count_19 ?_
    refine sn_if_le (by omega) (tgt := 27) hx hb d_Mo_count_22 (by decide) (fun h2 => ?_) (fun h2 => ?_)
    · omega
    · refine lv_iconst (v := nI 0) hx hb d_Mo_count_25 (by decide) ?_
      subst hAe
      exact sx_wi hQ hx hb hrt hlk (rfl) hP hS d_Mo_count_26
  · refine lv_iload_n hx hb d_Mo_count_5 rfl (lv_at hl 1 rfl) ?_
    refine lv_iconst (v := nI 2) hx hb d_Mo_count_6 (by decide) ?_
    refine lv_icmp_le (tgt := 14) hx hb d_Mo_count_7 (by decide) (fun h2 => ?_) (fun h2 => ?_)
    · exact (hb9.elim h1 (fun h9 => h9 h2)).elim
    · refine lv_iconst (v := nI 1) hx hb d_Mo_count_10 (by decide) ?_
      refine lv_goto (tgt := 15) hx hb d_Mo_count_11 (by decide) ?_
      refine va_put (D := D) (ci := 6) (v := .int (nI 1)) (ty := .int) (C := R_Mo) (T := F_Mo) (N := 15) hx hb hts in_Mo t_Mo t_Mo_ok n_Mo hown hK hP hD hS 0 rfl rfl 13 (by decide) (hts _ tw_667) (fun _ h9 => h9) rfl (by decide +kernel) rfl rfl (Nat.le_of_ble_eq_true rfl) d_Mo_count_15 (fun H locs hP hD hS => ?_)
      have hP : va_P D classes [cr0 b md pc re ce 1 tp] H := hP
      have hD : va_D A [cr0 b md pc re ce 1 tp] := hD
      refine lv_aload_n hx hb d_Mo_count_18 rfl (lv_at hl 0 rfl) ?_
      refine va_get (D := D) (ci := 6) (v := .int (nI 1)) (C := R_Mo) (T := F_Mo) (N := 15) hx hb hts in_Mo hown hK hP 0 rfl rfl 13 (by decide) (hts _ tw_667) (fun _ h9 => h9) rfl d_Mo_count_19 ?_
      refine sn_if_le (by omega) (tgt := 27) hx hb d_Mo_count_22 (by decide) (fun h3 => ?_) (fun h3 => ?_)
      · omega
      · refine lv_iconst (v := nI 0) hx hb d_Mo_count_25 (by decide) ?_
        subst hAe
        exact sx_wi hQ hx hb hrt hlk (rfl) hP hS d_Mo_count_26
set_option maxHeartbeats 1000000 in
set_option maxRecDepth 100000 in
theorem c_Mo_collect (l : Launch) (D : va_G) (K : Nat → ClassId) (b : Nat → Nat) (md : Nat) (pc : Nat) (re : Nat) (ce : Nat) (th : Nat) (tp : Nat) (vv : Nat → Int64) (rv : Nat → Int64) (vr : Nat → Bool) (rr : Nat → Bool) (Ir : Nat → Bool) (Z : Nat → Nat) (Td : Nat → Nat) (L : Nat → Nat) (hrep : sn_rep rv rr vv vr L) (hZ : ∀ k, Z k ≤ 16) : Met l y_Mo_collect w_Mo_collect ({ frames := 2, cells := 0, slots := 0, locals := 45 }) (va_Pc [.ref (b 0)] (sn_BW D K [cr0 b md pc re ce th tp, aL K (b 1) 10240 vv, aL K (b 2) 16 rv, aZ K (b 3) 10240 vr, aZ K (b 4) 16 rr, aZ K (b 5) 640 Ir, aI K (b 6) 640 Z, aI K (b 7) 640 Td])) (sn_Q D [cr0 b md pc re ce th tp, aL K (b 1) 10240 vv, aL K (b 2) 16 rv, aZ K (b 3) 10240 vr, aZ K (b 4) 16 rr, aZ K (b 5) 640 Ir, aI K (b 6) 640 Z, aI K (b 7) 640 Td] [cr0 b md pc (sn_cr (sn_xf Z L Td)) (sn_cc Z (sn_xf Z L Td)) 0 ((sn_xf Z L Td).2.2), aL K (b 1) 10240 vv, aL K (b 2) 16 rv, aZ K (b 3) 10240 vr, aZ K (b 4) 16 rr, aZ K (b 5) 640 (sn_ir (sn_xf Z L Td)), aI K (b 6) 640 Z, aI K (b 7) 640 (sn_td (sn_xf Z L Td))] (some (.int (nI (sn_cr (sn_xf Z L Td)))))) 0 0 (sn_A [cr0 b md pc re ce th tp, aL K (b 1) 10240 vv, aL K (b 2) 16 rv, aZ K (b 3) 10240 vr, aZ K (b 4) 16 rr, aZ K (b 5) 640 Ir, aI K (b 6) 640 Z, aI K (b 7) 640 Td]) := by
  refine sn_met (own := R_Mo) (by decide +kernel) rfl rfl (Nat.le_of_ble_eq_true rfl) ?_
  intro P9 E9 s9 m9 args below M9 c9 ls Q hQ hx hb hml hrt hlk hts hown hnm hl hB
  obtain ⟨⟨hP, hK, hN⟩, hD⟩ := hB
  have hl : lv_has ls 1 [(0, .ref (b 0))] := hl
  have hD := sn_DA hD
  have hS : va_S (sn_A [cr0 b md pc re ce th tp, aL K (b 1) 10240 vv, aL K (b 2) 16 rv, aZ K (b 3) 10240 vr, aZ K (b 4) 16 rr, aZ K (b 5) 640 Ir, aI K (b 6) 640 Z, aI K (b 7) 640 Td]) s9.heap s9.heap [] := va_S.rf
  generalize hAe : sn_A [cr0 b md pc re ce th tp, aL K (b 1) 10240 vv, aL K (b 2) 16 rv, aZ K (b 3) 10240 vr, aZ K (b 4) 16 rr, aZ K (b 5) 640 Ir, aI K (b 6) 640 Z, aI K (b 7) 640 Td] = A at hD hS
  refine lv_aload_n hx hb d_Mo_collect_0 rfl (lv_at hl 0 rfl) ?_
  refine lv_iconst (v := nI 0) hx hb d_Mo_collect_1 (by decide) ?_
  refine va_put (D := D) (ci := 6) (v := .int (nI 0)) (ty := .int) (C := R_Mo) (T := F_Mo) (N := 15) hx hb hts in_Mo t_Mo t_Mo_ok n_Mo hown hK hP hD hS 0 rfl rfl 13 (by decide) (hts _ tw_667) (fun _ h9 => h9) rfl (by decide +kernel) rfl rfl (Nat.le_of_ble_eq_true rfl) d_Mo_collect_2 (fun H locs hP hD hS => ?_)
  have hP : va_P D classes [cr0 b md pc re ce 0 tp, aL K (b 1) 10240 vv, aL K (b 2) 16 rv, aZ K (b 3) 10240 vr, aZ K (b 4) 16 rr, aZ K (b 5) 640 Ir, aI K (b 6) 640 Z, aI K (b 7) 640 Td] H := hP
  have hD : va_D A [cr0 b md pc re ce 0 tp, aL K (b 1) 10240 vv, aL K (b 2) 16 rv, aZ K (b 3) 10240 vr, aZ K (b 4) 16 rr, aZ K (b 5) 640 Ir, aI K (b 6) 640 Z, aI K (b 7) 640 Td] := hD
  refine lv_aload_n hx hb d_Mo_collect_5 rfl (lv_at hl 0 rfl) ?_
  refine sn_wrt (st1 := []) (w1 := [cr0 b md pc (sn_cr (sn_xf Z L Td)) (sn_cc Z (sn_xf Z L Td)) 0 ((sn_xf Z L Td).2.2), aL K (b 1) 10240 vv, aL K (b 2) 16 rv, aZ K (b 3) 10240 vr, aZ K (b 4) 16 rr, aZ K (b 5) 640 (sn_ir (sn_xf Z L Td)), aI K (b 6) 640 Z, aI K (b 7) 640 (sn_td (sn_xf Z L Td))]) (va_runV (As := []) (rest := []) ⟨hx, hb, hml, hown, hts⟩ (c_Mo_reachAll l D K b md pc re ce 0 tp vv rv vr rr Ir Z Td L (hrep) (hZ)) ⟨callB_of 0 hts (tw_in cm_Mo_reachAll) rfl rfl rfl (hts _ gn_Mo) (hts _ tw_712) hd_Mo_reachAll ⟨Nat.le_of_ble_eq_true rfl, Nat.le_of_ble_eq_true rfl⟩, hts _ gi_Mo_reachAll, hts _ gs_Mo_reachAll⟩ (sn_preVW hK hN hP hD 0 rfl rfl [0, 1, 2, 3, 4, 5, 6, 7] rfl rfl) rfl rfl hl.1 rfl (lv_room (Nat.le_of_ble_eq_true rfl)) d_Mo_collect_6 ⟨Nat.zero_le _, Nat.zero_le _⟩) rfl hP hD hS [0, 1, 2, 3, 4, 5, 6, 7] rfl rfl (fun H locs hP hD hS => ?_)
  have hP : va_P D classes [cr0 b md pc (sn_cr (sn_xf Z L Td)) (sn_cc Z (sn_xf Z L Td)) 0 ((sn_xf Z L Td).2.2), aL K (b 1) 10240 vv, aL K (b 2) 16 rv, aZ K (b 3) 10240 vr, aZ K (b 4) 16 rr, aZ K (b 5) 640 (sn_ir (sn_xf Z L Td)), aI K (b 6) 640 Z, aI K (b 7) 640 (sn_td (sn_xf Z L Td))] H := hP
  have hD : va_D A [cr0 b md pc (sn_cr (sn_xf Z L Td)) (sn_cc Z (sn_xf Z L Td)) 0 ((sn_xf Z L Td).2.2), aL K (b 1) 10240 vv, aL K (b 2) 16 rv, aZ K (b 3) 10240 vr, aZ K (b 4) 16 rr, aZ K (b 5) 640 (sn_ir (sn_xf Z L Td)), aI K (b 6) 640 Z, aI K (b 7) 640 (sn_td (sn_xf Z L Td))] := hD
  refine lv_aload_n hx hb d_Mo_collect_9 rfl (lv_at hl 0 rfl) ?_
  refine va_get (D := D) (ci := 6) (v := .int (nI (sn_cr (sn_xf Z L Td)))) (C := R_Mo) (T := F_Mo) (N := 15) hx hb hts in_Mo hown hK hP 0 rfl rfl 11 (by decide) (hts _ tw_665) (fun _ h9 => h9) rfl d_Mo_collect_10 ?_
  subst hAe
  exact sx_wi hQ hx hb hrt hlk (rfl) hP hS d_Mo_collect_13
set_option maxHeartbeats 1000000 in
set_option maxRecDepth 100000 in
theorem c_Mo_check (l : Launch) (D : va_G) (K : Nat → ClassId) (b : Nat → Nat) (md : Nat) (pc : Nat) (re : Nat) (ce : Nat) (th : Nat) (tp : Nat)  : Met l y_Mo_check w_Mo_check ({ frames := 0, cells := 0, slots := 0, locals := 0 }) (va_Pc [.ref (b 0)] (sn_BW D K [cr0 b md pc re ce th tp])) (sn_Q D [cr0 b md pc re ce th tp] [cr0 b md pc re ce 0 tp] (some (.int (nI 0)))) 0 0 (sn_A [cr0 b md pc re ce th tp]) := by
  refine sn_met (own := R_Mo) (by decide +kernel) rfl rfl (Nat.le_of_ble_eq_true rfl) ?_
  intro P9 E9 s9 m9 args below M9 c9 ls Q hQ hx hb hml hrt hlk hts hown hnm hl hB
  obtain ⟨⟨hP, hK, hN⟩, hD⟩ := hB
  have hl : lv_has ls 1 [(0, .ref (b 0))] := hl
  have hD := sn_DA hD
  have hS : va_S (sn_A [cr0 b md pc re ce th tp]) s9.heap s9.heap [] := va_S.rf
  generalize hAe : sn_A [cr0 b md pc re ce th tp] = A at hD hS
  refine lv_aload_n hx hb d_Mo_check_0 rfl (lv_at hl 0 rfl) ?_
  refine lv_iconst (v := nI 0) hx hb d_Mo_check_1 (by decide) ?_
  refine va_put (D := D) (ci := 6) (v := .int (nI 0)) (ty := .int) (C := R_Mo) (T := F_Mo) (N := 15) hx hb hts in_Mo t_Mo t_Mo_ok n_Mo hown hK hP hD hS 0 rfl rfl 13 (by decide) (hts _ tw_667) (fun _ h9 => h9) rfl (by decide +kernel) rfl rfl (Nat.le_of_ble_eq_true rfl) d_Mo_check_2 (fun H locs hP hD hS => ?_)
  have hP : va_P D classes [cr0 b md pc re ce 0 tp] H := hP
  have hD : va_D A [cr0 b md pc re ce 0 tp] := hD
  refine lv_iconst (v := nI 0) hx hb d_Mo_check_5 (by decide) ?_
  subst hAe
  exact sx_wi hQ hx hb hrt hlk (rfl) hP hS d_Mo_check_6
