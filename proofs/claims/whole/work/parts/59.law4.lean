section SNLD
variable {p : Program} {l : Launch} {e : Env} {s : State} {m : MethodId} {below : List Frame} {meth : Method} {c : Code} {Q : State → Prop} {D : va_G} {K : Nat → ClassId} {ad a b : Nat → Nat} {ou sb Ls j : Nat} {xs : Nat → Int32} {A : Nat → Prop} {x : SnG} {z : SnW} {T : SnM} {Wh : Nat → Nat} {pc md re ce th tp : Nat} {vv rv : Nat → Int64} {vr rr Ir : Nat → Bool} {Z Td Mt Nx : Nat → Nat} {f : Nat → Int64} {H : Heap} {locs : List Loc} {cells slots : Nat} {ls : Array Slot}
theorem lk_0 (C : sn_Lc p l s m c D K ad A sb Ls xs) (hj : 4 * j + 4 ≤ Ls) (hok : sn_ok x vv rv vr rr Z) (hpc : pc ≤ 50) (hmd : md ≤ 512) (hcl : cells + 1 ≤ 1058) (hsl : slots + 6 ≤ 57221) (hl : lv_has ls 8 [(0, .ref sb), (1, .ref (a 18)), (2, .ref (b 0)), (3, .ref ou), (4, .int (nI (4 * j)))]) (hP : va_P D classes (sn_LW K ad a b ou x z T Wh pc md re ce th tp vv rv vr rr Ir Z Td Mt Nx f) H) (hD : va_D A (sn_LW K ad a b ou x z T Wh pc md re ce th tp vv rv vr rr Ir Z Td Mt Nx f)) (hS : va_S A s.heap H locs) (kk : sn_Lk p l e s m below meth c D K ad a b ou sb j A md cells slots Q) : W p l e room_1 s m #[Value.ref sb] below meth c H locs cells slots Q (F0 m 108 ls []) := by
  rcases sn_sl (xs (4 * j + 1)) 16 (by decide) with h1 | ⟨r, hr1, h1⟩
  · exact lc_tuple_t1 C hj hok hpc hmd hcl hsl hl hP hD hS h1 kk
  · rcases sn_wn (xs (4 * j + 2)) 0 16 (by decide) (by decide) with h2 | ⟨n, hlo, hhi, h2⟩
    · exact lc_tuple_t2 C hj hok hpc hmd hcl hsl hl hP hD hS r hr1 h1 h2 kk
    · by_cases hroom : sn_uc (sn_room n (sn_work pc x)).1 + n + 2 ≤ 1200
      · exact lc_tuple C hj hok hpc hmd hcl hsl hl hP hD hS r hr1 h1 n hlo hhi h2 hroom kk
      · exact lc_tuple_t3 C hj hok hpc hmd hcl hsl hl hP hD hS r hr1 h1 n hlo hhi h2 (by omega) kk
theorem lk_1 (C : sn_Lc p l s m c D K ad A sb Ls xs) (hj : 4 * j + 4 ≤ Ls) (hok : sn_ok x vv rv vr rr Z) (hpc : pc ≤ 50) (hmd : md ≤ 512) (hcl : cells + 1 ≤ 1058) (hsl : slots + 6 ≤ 57221) (hl : lv_has ls 8 [(0, .ref sb), (1, .ref (a 18)), (2, .ref (b 0)), (3, .ref ou), (4, .int (nI (4 * j)))]) (hP : va_P D classes (sn_LW K ad a b ou x z T Wh pc md re ce th tp vv rv vr rr Ir Z Td Mt Nx f) H) (hD : va_D A (sn_LW K ad a b ou x z T Wh pc md re ce th tp vv rv vr rr Ir Z Td Mt Nx f)) (hS : va_S A s.heap H locs) (kk : sn_Lk p l e s m below meth c D K ad a b ou sb j A md cells slots Q) : W p l e room_1 s m #[Value.ref sb] below meth c H locs cells slots Q (F0 m 176 ls []) := by
  rcases sn_sl (xs (4 * j + 1)) 16 (by decide) with h1 | ⟨r, hr1, h1⟩
  · exact lc_number_t C hj hok hpc hmd hcl hsl hl hP hD hS h1 kk
  · exact lc_number C hj hok hpc hmd hcl hsl hl hP hD hS r hr1 h1 kk
theorem lk_2 (C : sn_Lc p l s m c D K ad A sb Ls xs) (hj : 4 * j + 4 ≤ Ls) (hok : sn_ok x vv rv vr rr Z) (hpc : pc ≤ 50) (hmd : md ≤ 512) (hcl : cells + 1 ≤ 1058) (hsl : slots + 6 ≤ 57221) (hl : lv_has ls 8 [(0, .ref sb), (1, .ref (a 18)), (2, .ref (b 0)), (3, .ref ou), (4, .int (nI (4 * j)))]) (hP : va_P D classes (sn_LW K ad a b ou x z T Wh pc md re ce th tp vv rv vr rr Ir Z Td Mt Nx f) H) (hD : va_D A (sn_LW K ad a b ou x z T Wh pc md re ce th tp vv rv vr rr Ir Z Td Mt Nx f)) (hS : va_S A s.heap H locs) (kk : sn_Lk p l e s m below meth c D K ad a b ou sb j A md cells slots Q) : W p l e room_1 s m #[Value.ref sb] below meth c H locs cells slots Q (F0 m 256 ls []) := by
  rcases sn_sl (xs (4 * j + 1)) 16 (by decide) with h1 | ⟨r, hr1, h1⟩
  · exact lc_copy_t1 C hj hok hpc hmd hcl hsl hl hP hD hS h1 kk
  · rcases sn_sl (xs (4 * j + 2)) 16 (by decide) with h2 | ⟨t, hr2, h2⟩
    · exact lc_copy_t2 C hj hok hpc hmd hcl hsl hl hP hD hS r hr1 h1 h2 kk
    · exact lc_copy C hj hok hpc hmd hcl hsl hl hP hD hS r hr1 h1 t hr2 h2 kk
theorem lk_3 (C : sn_Lc p l s m c D K ad A sb Ls xs) (hj : 4 * j + 4 ≤ Ls) (hok : sn_ok x vv rv vr rr Z) (hpc : pc ≤ 50) (hmd : md ≤ 512) (hcl : cells + 1 ≤ 1058) (hsl : slots + 6 ≤ 57221) (hl : lv_has ls 8 [(0, .ref sb), (1, .ref (a 18)), (2, .ref (b 0)), (3, .ref ou), (4, .int (nI (4 * j)))]) (hP : va_P D classes (sn_LW K ad a b ou x z T Wh pc md re ce th tp vv rv vr rr Ir Z Td Mt Nx f) H) (hD : va_D A (sn_LW K ad a b ou x z T Wh pc md re ce th tp vv rv vr rr Ir Z Td Mt Nx f)) (hS : va_S A s.heap H locs) (kk : sn_Lk p l e s m below meth c D K ad a b ou sb j A md cells slots Q) : W p l e room_1 s m #[Value.ref sb] below meth c H locs cells slots Q (F0 m 304 ls []) := by
  rcases sn_sl (xs (4 * j + 1)) 16 (by decide) with h1 | ⟨r, hr1, h1⟩
  · exact lc_get_t1 C hj hok hpc hmd hcl hsl hl hP hD hS h1 kk
  · rcases sn_sl (xs (4 * j + 2)) 16 (by decide) with h2 | ⟨t, hr2, h2⟩
    · exact lc_get_t2 C hj hok hpc hmd hcl hsl hl hP hD hS r hr1 h1 h2 kk
    · rcases (hok.work pc).root hr2 with ⟨e0, err, -⟩ | ⟨e0, err, -, k, hk6, hk, hz⟩
      · exact lc_get_n C hj hok hpc hmd hcl hsl hl hP hD hS r hr1 h1 t hr2 h2 e0 err kk
      · have hZk := hok.2.1 k
        rcases sn_sl (xs (4 * j + 3)) (Z k) (by omega) with h3 | ⟨i, hi, h3⟩
        · exact lc_get_b C hj hok hpc hmd hcl hsl hl hP hD hS r hr1 h1 t hr2 h2 k err hk hk6 hz h3 kk
        · exact lc_get C hj hok hpc hmd hcl hsl hl hP hD hS r hr1 h1 t hr2 h2 i h3 e0 (by rw [← hz]; exact hi) kk
theorem lk_4 (C : sn_Lc p l s m c D K ad A sb Ls xs) (hj : 4 * j + 4 ≤ Ls) (hok : sn_ok x vv rv vr rr Z) (hpc : pc ≤ 50) (hmd : md ≤ 512) (hcl : cells + 1 ≤ 1058) (hsl : slots + 6 ≤ 57221) (hl : lv_has ls 8 [(0, .ref sb), (1, .ref (a 18)), (2, .ref (b 0)), (3, .ref ou), (4, .int (nI (4 * j)))]) (hP : va_P D classes (sn_LW K ad a b ou x z T Wh pc md re ce th tp vv rv vr rr Ir Z Td Mt Nx f) H) (hD : va_D A (sn_LW K ad a b ou x z T Wh pc md re ce th tp vv rv vr rr Ir Z Td Mt Nx f)) (hS : va_S A s.heap H locs) (kk : sn_Lk p l e s m below meth c D K ad a b ou sb j A md cells slots Q) : W p l e room_1 s m #[Value.ref sb] below meth c H locs cells slots Q (F0 m 364 ls []) := by
  rcases sn_sl (xs (4 * j + 1)) 16 (by decide) with h1 | ⟨t, hr1, h1⟩
  · rcases sn_sl (xs (4 * j + 3)) 16 (by decide) with h3 | ⟨r, hr3, h3⟩
    · exact lc_set_t1a C hj hok hpc hmd hcl hsl hl hP hD hS h1 h3 kk
    · exact lc_set_t1b C hj hok hpc hmd hcl hsl hl hP hD hS h1 r hr3 h3 kk
  · rcases sn_sl (xs (4 * j + 3)) 16 (by decide) with h3 | ⟨r, hr3, h3⟩
    · exact lc_set_t2 C hj hok hpc hmd hcl hsl hl hP hD hS t hr1 h1 h3 kk
    · rcases (hok.work pc).root hr1 with ⟨e0, err, -⟩ | ⟨e0, err, -, k, hk6, hk, hz⟩
      · exact lc_set_n C hj hok hpc hmd hcl hsl hl hP hD hS t hr1 h1 r hr3 h3 e0 err kk
      · have hZk := hok.2.1 k
        rcases sn_sl (xs (4 * j + 2)) (Z k) (by omega) with h2 | ⟨i, hi, h2⟩
        · exact lc_set_b C hj hok hpc hmd hcl hsl hl hP hD hS t hr1 h1 r hr3 h3 k err hk hk6 hz h2 kk
        · exact lc_set C hj hok hpc hmd hcl hsl hl hP hD hS t hr1 h1 r hr3 h3 i h2 e0 (by rw [← hz]; exact hi) kk
theorem lk_5 (C : sn_Lc p l s m c D K ad A sb Ls xs) (hj : 4 * j + 4 ≤ Ls) (hok : sn_ok x vv rv vr rr Z) (hpc : pc ≤ 50) (hmd : md ≤ 512) (hcl : cells + 1 ≤ 1058) (hsl : slots + 6 ≤ 57221) (hl : lv_has ls 8 [(0, .ref sb), (1, .ref (a 18)), (2, .ref (b 0)), (3, .ref ou), (4, .int (nI (4 * j)))]) (hP : va_P D classes (sn_LW K ad a b ou x z T Wh pc md re ce th tp vv rv vr rr Ir Z Td Mt Nx f) H) (hD : va_D A (sn_LW K ad a b ou x z T Wh pc md re ce th tp vv rv vr rr Ir Z Td Mt Nx f)) (hS : va_S A s.heap H locs) (kk : sn_Lk p l e s m below meth c D K ad a b ou sb j A md cells slots Q) : W p l e room_1 s m #[Value.ref sb] below meth c H locs cells slots Q (F0 m 424 ls []) := by
  rcases sn_wn (xs (4 * j + 1)) 1 1000 (by decide) (by decide) with h1 | ⟨n, hlo, hhi, h1⟩
  · exact lc_step_t C hj hok hpc hmd hcl hsl hl hP hD hS h1 kk
  · exact lc_step C hj hok hpc hmd hcl hsl hl hP hD hS n hlo hhi h1 kk
theorem lk_6 (C : sn_Lc p l s m c D K ad A sb Ls xs) (hj : 4 * j + 4 ≤ Ls) (hok : sn_ok x vv rv vr rr Z) (hpc : pc ≤ 50) (hmd : md ≤ 512) (hcl : cells + 1 ≤ 1058) (hsl : slots + 6 ≤ 57221) (hl : lv_has ls 8 [(0, .ref sb), (1, .ref (a 18)), (2, .ref (b 0)), (3, .ref ou), (4, .int (nI (4 * j)))]) (hP : va_P D classes (sn_LW K ad a b ou x z T Wh pc md re ce th tp vv rv vr rr Ir Z Td Mt Nx f) H) (hD : va_D A (sn_LW K ad a b ou x z T Wh pc md re ce th tp vv rv vr rr Ir Z Td Mt Nx f)) (hS : va_S A s.heap H locs) (kk : sn_Lk p l e s m below meth c D K ad a b ou sb j A md cells slots Q) : W p l e room_1 s m #[Value.ref sb] below meth c H locs cells slots Q (F0 m 460 ls []) := by
  rcases sn_wn (xs (4 * j + 1)) 0 50 (by decide) (by decide) with h1 | ⟨n, hlo, hhi, h1⟩
  · exact lc_pace_t C hj hok hpc hmd hcl hsl hl hP hD hS h1 kk
  · exact lc_pace C hj hok hpc hmd hcl hsl hl hP hD hS n hlo hhi h1 kk
theorem lk_7 (C : sn_Lc p l s m c D K ad A sb Ls xs) (hj : 4 * j + 4 ≤ Ls) (hok : sn_ok x vv rv vr rr Z) (hpc : pc ≤ 50) (hmd : md ≤ 512) (hcl : cells + 1 ≤ 1058) (hsl : slots + 6 ≤ 57221) (hl : lv_has ls 8 [(0, .ref sb), (1, .ref (a 18)), (2, .ref (b 0)), (3, .ref ou), (4, .int (nI (4 * j)))]) (hP : va_P D classes (sn_LW K ad a b ou x z T Wh pc md re ce th tp vv rv vr rr Ir Z Td Mt Nx f) H) (hD : va_D A (sn_LW K ad a b ou x z T Wh pc md re ce th tp vv rv vr rr Ir Z Td Mt Nx f)) (hS : va_S A s.heap H locs) (kk : sn_Lk p l e s m below meth c D K ad a b ou sb j A md cells slots Q) : W p l e room_1 s m #[Value.ref sb] below meth c H locs cells slots Q (F0 m 516 ls []) := by
  rcases sn_sl (xs (4 * j + 1)) 16 (by decide) with h1 | ⟨r, hr1, h1⟩
  · exact lc_size_t C hj hok hpc hmd hcl hsl hl hP hD hS h1 kk
  · rcases (hok.work pc).root hr1 with ⟨e0, err, -⟩ | ⟨e0, err, -, k, hk6, hk, hz⟩
    · exact lc_size_n C hj hok hpc hmd hcl hsl hl hP hD hS r hr1 h1 e0 err kk
    · exact lc_size C hj hok hpc hmd hcl hsl hl hP hD hS r hr1 h1 k e0 err hk hk6 hz kk
theorem lk_8 (C : sn_Lc p l s m c D K ad A sb Ls xs) (hj : 4 * j + 4 ≤ Ls) (hok : sn_ok x vv rv vr rr Z) (hpc : pc ≤ 50) (hmd : md ≤ 512) (hcl : cells + 1 ≤ 1058) (hsl : slots + 6 ≤ 57221) (hl : lv_has ls 8 [(0, .ref sb), (1, .ref (a 18)), (2, .ref (b 0)), (3, .ref ou), (4, .int (nI (4 * j)))]) (hP : va_P D classes (sn_LW K ad a b ou x z T Wh pc md re ce th tp vv rv vr rr Ir Z Td Mt Nx f) H) (hD : va_D A (sn_LW K ad a b ou x z T Wh pc md re ce th tp vv rv vr rr Ir Z Td Mt Nx f)) (hS : va_S A s.heap H locs) (kk : sn_Lk p l e s m below meth c D K ad a b ou sb j A md cells slots Q) : W p l e room_1 s m #[Value.ref sb] below meth c H locs cells slots Q (F0 m 572 ls []) := by
  rcases sn_sl (xs (4 * j + 1)) 16 (by decide) with h1 | ⟨r, hr1, h1⟩
  · exact lc_value_t C hj hok hpc hmd hcl hsl hl hP hD hS h1 kk
  · exact lc_value C hj hok hpc hmd hcl hsl hl hP hD hS r hr1 h1 kk
theorem lk_9 (C : sn_Lc p l s m c D K ad A sb Ls xs) (hj : 4 * j + 4 ≤ Ls) (hok : sn_ok x vv rv vr rr Z) (hpc : pc ≤ 50) (hmd : md ≤ 512) (hcl : cells + 1 ≤ 1058) (hsl : slots + 6 ≤ 57221) (hl : lv_has ls 8 [(0, .ref sb), (1, .ref (a 18)), (2, .ref (b 0)), (3, .ref ou), (4, .int (nI (4 * j)))]) (hP : va_P D classes (sn_LW K ad a b ou x z T Wh pc md re ce th tp vv rv vr rr Ir Z Td Mt Nx f) H) (hD : va_D A (sn_LW K ad a b ou x z T Wh pc md re ce th tp vv rv vr rr Ir Z Td Mt Nx f)) (hS : va_S A s.heap H locs) (kk : sn_Lk p l e s m below meth c D K ad a b ou sb j A md cells slots Q) : W p l e room_1 s m #[Value.ref sb] below meth c H locs cells slots Q (F0 m 627 ls []) := by
  rcases sn_sl (xs (4 * j + 1)) 16 (by decide) with h1 | ⟨r, hr1, h1⟩
  · exact lc_same_t1 C hj hok hpc hmd hcl hsl hl hP hD hS h1 kk
  · rcases sn_sl (xs (4 * j + 2)) 16 (by decide) with h2 | ⟨t, hr2, h2⟩
    · exact lc_same_t2 C hj hok hpc hmd hcl hsl hl hP hD hS r hr1 h1 h2 kk
    · exact lc_same C hj hok hpc hmd hcl hsl hl hP hD hS r hr1 h1 t hr2 h2 kk
theorem lk_10 (C : sn_Lc p l s m c D K ad A sb Ls xs) (hj : 4 * j + 4 ≤ Ls) (hok : sn_ok x vv rv vr rr Z) (hpc : pc ≤ 50) (hmd : md ≤ 512) (hcl : cells + 1 ≤ 1058) (hsl : slots + 6 ≤ 57221) (hl : lv_has ls 8 [(0, .ref sb), (1, .ref (a 18)), (2, .ref (b 0)), (3, .ref ou), (4, .int (nI (4 * j)))]) (hP : va_P D classes (sn_LW K ad a b ou x z T Wh pc md re ce th tp vv rv vr rr Ir Z Td Mt Nx f) H) (hD : va_D A (sn_LW K ad a b ou x z T Wh pc md re ce th tp vv rv vr rr Ir Z Td Mt Nx f)) (hS : va_S A s.heap H locs) (kk : sn_Lk p l e s m below meth c D K ad a b ou sb j A md cells slots Q) : W p l e room_1 s m #[Value.ref sb] below meth c H locs cells slots Q (F0 m 702 ls []) := by
  rcases sn_wn (xs (4 * j + 1)) 0 2 (by decide) (by decide) with h1 | ⟨n, hlo, hhi, h1⟩
  · exact lc_count_t C hj hok hpc hmd hcl hsl hl hP hD hS h1 kk
  · by_cases hk : n < 2
    · exact lc_count C hj hok hpc hmd hcl hsl hl hP hD hS n hk h1 kk
    · have e2 : n = 2 := by omega
      subst e2
      exact lc_count2 C hj hok hpc hmd hcl hsl hl hP hD hS h1 kk
theorem lk_11 (C : sn_Lc p l s m c D K ad A sb Ls xs) (hj : 4 * j + 4 ≤ Ls) (hok : sn_ok x vv rv vr rr Z) (hpc : pc ≤ 50) (hmd : md ≤ 512) (hcl : cells + 1 ≤ 1058) (hsl : slots + 6 ≤ 57221) (hl : lv_has ls 8 [(0, .ref sb), (1, .ref (a 18)), (2, .ref (b 0)), (3, .ref ou), (4, .int (nI (4 * j)))]) (hP : va_P D classes (sn_LW K ad a b ou x z T Wh pc md re ce th tp vv rv vr rr Ir Z Td Mt Nx f) H) (hD : va_D A (sn_LW K ad a b ou x z T Wh pc md re ce th tp vv rv vr rr Ir Z Td Mt Nx f)) (hS : va_S A s.heap H locs) (kk : sn_Lk p l e s m below meth c D K ad a b ou sb j A md cells slots Q) : W p l e room_1 s m #[Value.ref sb] below meth c H locs cells slots Q (F0 m 758 ls []) := by
  exact lc_digest C hj hok hpc hmd hcl hsl hl hP hD hS kk
theorem lk_12 (C : sn_Lc p l s m c D K ad A sb Ls xs) (hj : 4 * j + 4 ≤ Ls) (hok : sn_ok x vv rv vr rr Z) (hpc : pc ≤ 50) (hmd : md ≤ 512) (hcl : cells + 1 ≤ 1058) (hsl : slots + 6 ≤ 57221) (hl : lv_has ls 8 [(0, .ref sb), (1, .ref (a 18)), (2, .ref (b 0)), (3, .ref ou), (4, .int (nI (4 * j)))]) (hP : va_P D classes (sn_LW K ad a b ou x z T Wh pc md re ce th tp vv rv vr rr Ir Z Td Mt Nx f) H) (hD : va_D A (sn_LW K ad a b ou x z T Wh pc md re ce th tp vv rv vr rr Ir Z Td Mt Nx f)) (hS : va_S A s.heap H locs) (kk : sn_Lk p l e s m below meth c D K ad a b ou sb j A md cells slots Q) : W p l e room_1 s m #[Value.ref sb] below meth c H locs cells slots Q (F0 m 772 ls []) := by
  exact lc_collect C hj hok hpc hmd hcl hsl hl hP hD hS kk
theorem lk_13 (C : sn_Lc p l s m c D K ad A sb Ls xs) (hj : 4 * j + 4 ≤ Ls) (hok : sn_ok x vv rv vr rr Z) (hpc : pc ≤ 50) (hmd : md ≤ 512) (hcl : cells + 1 ≤ 1058) (hsl : slots + 6 ≤ 57221) (hl : lv_has ls 8 [(0, .ref sb), (1, .ref (a 18)), (2, .ref (b 0)), (3, .ref ou), (4, .int (nI (4 * j)))]) (hP : va_P D classes (sn_LW K ad a b ou x z T Wh pc md re ce th tp vv rv vr rr Ir Z Td Mt Nx f) H) (hD : va_D A (sn_LW K ad a b ou x z T Wh pc md re ce th tp vv rv vr rr Ir Z Td Mt Nx f)) (hS : va_S A s.heap H locs) (kk : sn_Lk p l e s m below meth c D K ad a b ou sb j A md cells slots Q) : W p l e room_1 s m #[Value.ref sb] below meth c H locs cells slots Q (F0 m 785 ls []) := by
  exact lc_check C hj hok hpc hmd hcl hsl hl hP hD hS kk
end SNLD
theorem sn_hd {Ls j : Nat} (hLs : Ls ≤ 2048) (hj : 4 * j ≤ 4096) : nI Ls - nI 4 < nI (4 * j) ↔ Ls < 4 * j + 4 := by
  by_cases h : 4 ≤ Ls
  · rw [pk_sub h, nI_ltI (by omega) (by omega)]
    omega
  · refine ⟨fun _ => by omega, fun _ => ?_⟩
    rw [Int32.lt_iff_toInt_lt, nI_toInt (by omega)]
    rcases (show Ls = 0 ∨ Ls = 1 ∨ Ls = 2 ∨ Ls = 3 by omega) with rfl | rfl | rfl | rfl
    · have e9 : (nI 0 - nI 4).toInt = -4 := by decide
      omega
    · have e9 : (nI 1 - nI 4).toInt = -3 := by decide
      omega
    · have e9 : (nI 2 - nI 4).toInt = -2 := by decide
      omega
    · have e9 : (nI 3 - nI 4).toInt = -1 := by decide
      omega
theorem sn_inc4 (i : Nat) : nI i + Int32.ofInt 4 = nI (i + 4) := by
  have h : Int32.ofInt 4 = nI 4 := by decide
  rw [h]
  exact nI_add _ _
theorem sn_wk {p : Program} {l : Launch} {e : Env} {R : Room} {s : State} {m : MethodId} {args : Array Value} {below : List Frame} {meth : Method} {c : Code} {H : Heap} {locs : List Loc} {cells slots c2 s2 : Nat} {Q : State → Prop} {g : JFrame} (h : ∀ q ∈ locs, s.heap.size ≤ q.base) (hc : cells ≤ c2) (hs : slots ≤ s2) (k : W p l e R s m args below meth c H [] c2 s2 Q g) : W p l e R s m args below meth c H locs cells slots Q g :=
  fun T hT X => k T hT { X with same := X.same.weaken (fun y hy hlt => absurd hlt (Nat.not_lt.mpr (h y hy))) hc hs }
section SNLE
variable {p : Program} {l : Launch} {e : Env} {s : State} {m : MethodId} {below : List Frame} {meth : Method} {c : Code} {Q : State → Prop} {D : va_G} {K : Nat → ClassId} {ad a b : Nat → Nat} {ou sb Ls : Nat} {xs : Nat → Int32} {A : Nat → Prop}
set_option maxHeartbeats 4000000 in
set_option maxRecDepth 100000 in
theorem lw_loop (C : sn_Lc p l s m c D K ad A sb Ls xs) (kx : ∀ (ls : Array Slot) (H : Heap) (locs : List Loc) (cells slots : Nat), va_S A s.heap H locs → cells ≤ 1058 → slots ≤ 57221 → W p l e room_1 s m #[Value.ref sb] below meth c H locs cells slots Q (F0 m 804 ls [])) : ∀ (n j : Nat) (x : SnG) (z : SnW) (T : SnM) (Wh : Nat → Nat) (pc md re ce th tp : Nat) (vv rv : Nat → Int64) (vr rr Ir : Nat → Bool) (Z Td Mt Nx : Nat → Nat) (f : Nat → Int64) (ls : Array Slot) (H : Heap) (locs : List Loc) (cells slots : Nat), Ls - 4 * j < n → 4 * j ≤ Ls → sn_ok x vv rv vr rr Z → pc ≤ 50 → md ≤ j → cells ≤ 30 + j → slots ≤ 49005 + 6 * j → lv_has ls 8 [(0, .ref sb), (1, .ref (a 18)), (2, .ref (b 0)), (3, .ref ou), (4, .int (nI (4 * j)))] → va_P D classes (sn_LW K ad a b ou x z T Wh pc md re ce th tp vv rv vr rr Ir Z Td Mt Nx f) H → va_D A (sn_LW K ad a b ou x z T Wh pc md re ce th tp vv rv vr rr Ir Z Td Mt Nx f) → va_S A s.heap H locs → W p l e room_1 s m #[Value.ref sb] below meth c H locs cells slots Q (F0 m 23 ls []) := by
  have C9 := C
  obtain ⟨hx, hb, hml, hown, hts, hK, hN, hE, hT, hX, hbl, hbA, hLs, hnt⟩ := C
  intro n
  induction n with
  | zero => intro j x z T Wh pc md re ce th tp vv rv vr rr Ir Z Td Mt Nx f ls H locs cells slots hn; exact absurd hn (Nat.not_lt_zero _)
  | succ n ih =>
    intro j x z T Wh pc md re ce th tp vv rv vr rr Ir Z Td Mt Nx f ls H locs cells slots hn h4 hok hpc hmd hcl hsl hl hP hD hS
    refine lv_iload hx hb d_La_law_23 (lv_at hl 4 rfl) ?_
    refine lv_aload_n hx hb d_La_law_25 rfl (lv_at hl 0 rfl) ?_
    refine va_slen hx hb hX hbl hbA hS d_La_law_26 ?_
    refine lv_iconst (v := nI 4) hx hb d_La_law_27 (by decide) ?_
    refine lv_isub hx hb d_La_law_28 ?_
    refine lv_icmp_gt (tgt := 804) hx hb d_La_law_29 (by decide) (fun h => kx _ _ _ _ _ hS (by omega) (by omega)) (fun h => ?_)
    have hj : 4 * j + 4 ≤ Ls := Nat.not_lt.mp (fun h9 => h ((sn_hd hLs (by omega)).mpr h9))
    have kk : sn_Lk p l e s m below meth c D K ad a b ou sb j A md cells slots Q := by
      intro x z T Wh pc md1 re ce th tp vv rv vr rr Ir Z Td Mt Nx f ls H locs cells1 slots1 hok hpc hmd1 hc1 hs1 hl hP hD hS
      refine lv_iinc (k := 4) (v := nI (4 * (j + 1))) (lv' := [(4, .int (nI (4 * (j + 1)))), (0, .ref sb), (1, .ref (a 18)), (2, .ref (b 0)), (3, .ref ou)]) hx hb d_La_law_798 hl rfl (sn_inc4 _) (by decide) rfl (fun ls hl => ?_)
      refine lv_goto (tgt := 23) hx hb d_La_law_801 (by decide) ?_
      have hl := lv_sub (l' := [(0, .ref sb), (1, .ref (a 18)), (2, .ref (b 0)), (3, .ref ou), (4, .int (nI (4 * (j + 1))))]) hl [1, 2, 3, 4, 0] rfl
      exact ih (j + 1) x z T Wh pc md1 re ce th tp vv rv vr rr Ir Z Td Mt Nx f ls H locs cells1 slots1 (by omega) (by omega) hok hpc (by omega) (by omega) (by omega) hl hP hD hS
    have C := C9
    have hmd : md ≤ 512 := by omega
    have hcl : cells + 1 ≤ 1058 := by omega
    have hsl : slots + 6 ≤ 57221 := by omega
    refine lv_aload_n hx hb d_La_law_32 rfl (lv_at hl 0 rfl) ?_
    refine lv_iload hx hb d_La_law_33 (lv_at hl 4 rfl) ?_
    refine sn_sld hx hb hX hbl hbA hS (by omega) (by omega) d_La_law_35 ?_
    refine lv_bipush (v := nI 15) hx hb d_La_law_36 (by decide) ?_
    refine lv_iand hx hb d_La_law_38 ?_
    generalize hv : xs (4 * j) &&& nI 15 = v
    by_cases h0 : v.toInt < 0 ∨ 13 < v.toInt
    · refine lv_tableOut (tgt := 798) hx hb d_La_law_39 h0 (by decide) ?_
      exact kk x z T Wh pc md re ce th tp vv rv vr rr Ir Z Td Mt Nx f ls H locs cells slots hok hpc (by omega) (by omega) (by omega) hl hP hD hS
    · rcases (show v.toInt = 0 ∨ v.toInt = 1 ∨ v.toInt = 2 ∨ v.toInt = 3 ∨ v.toInt = 4 ∨ v.toInt = 5 ∨ v.toInt = 6 ∨ v.toInt = 7 ∨ v.toInt = 8 ∨ v.toInt = 9 ∨ v.toInt = 10 ∨ v.toInt = 11 ∨ v.toInt = 12 ∨ v.toInt = 13 by omega) with h | h | h | h | h | h | h | h | h | h | h | h | h | h
      · refine lv_tableIn (tgt := 108) hx hb d_La_law_39 (by omega) (by omega) (by rw [h]; rfl) (by decide) ?_
        exact lk_0 C hj hok hpc hmd hcl hsl hl hP hD hS kk
      · refine lv_tableIn (tgt := 176) hx hb d_La_law_39 (by omega) (by omega) (by rw [h]; rfl) (by decide) ?_
        exact lk_1 C hj hok hpc hmd hcl hsl hl hP hD hS kk
      · refine lv_tableIn (tgt := 256) hx hb d_La_law_39 (by omega) (by omega) (by rw [h]; rfl) (by decide) ?_
        exact lk_2 C hj hok hpc hmd hcl hsl hl hP hD hS kk
      · refine lv_tableIn (tgt := 304) hx hb d_La_law_39 (by omega) (by omega) (by rw [h]; rfl) (by decide) ?_
        exact lk_3 C hj hok hpc hmd hcl hsl hl hP hD hS kk
      · refine lv_tableIn (tgt := 364) hx hb d_La_law_39 (by omega) (by omega) (by rw [h]; rfl) (by decide) ?_
        exact lk_4 C hj hok hpc hmd hcl hsl hl hP hD hS kk
      · refine lv_tableIn (tgt := 424) hx hb d_La_law_39 (by omega) (by omega) (by rw [h]; rfl) (by decide) ?_
        exact lk_5 C hj hok hpc hmd hcl hsl hl hP hD hS kk
      · refine lv_tableIn (tgt := 460) hx hb d_La_law_39 (by omega) (by omega) (by rw [h]; rfl) (by decide) ?_
        exact lk_6 C hj hok hpc hmd hcl hsl hl hP hD hS kk
      · refine lv_tableIn (tgt := 516) hx hb d_La_law_39 (by omega) (by omega) (by rw [h]; rfl) (by decide) ?_
        exact lk_7 C hj hok hpc hmd hcl hsl hl hP hD hS kk
      · refine lv_tableIn (tgt := 572) hx hb d_La_law_39 (by omega) (by omega) (by rw [h]; rfl) (by decide) ?_
        exact lk_8 C hj hok hpc hmd hcl hsl hl hP hD hS kk
      · refine lv_tableIn (tgt := 627) hx hb d_La_law_39 (by omega) (by omega) (by rw [h]; rfl) (by decide) ?_
        exact lk_9 C hj hok hpc hmd hcl hsl hl hP hD hS kk
      · refine lv_tableIn (tgt := 702) hx hb d_La_law_39 (by omega) (by omega) (by rw [h]; rfl) (by decide) ?_
        exact lk_10 C hj hok hpc hmd hcl hsl hl hP hD hS kk
      · refine lv_tableIn (tgt := 758) hx hb d_La_law_39 (by omega) (by omega) (by rw [h]; rfl) (by decide) ?_
        exact lk_11 C hj hok hpc hmd hcl hsl hl hP hD hS kk
      · refine lv_tableIn (tgt := 772) hx hb d_La_law_39 (by omega) (by omega) (by rw [h]; rfl) (by decide) ?_
        exact lk_12 C hj hok hpc hmd hcl hsl hl hP hD hS kk
      · refine lv_tableIn (tgt := 785) hx hb d_La_law_39 (by omega) (by omega) (by rw [h]; rfl) (by decide) ?_
        exact lk_13 C hj hok hpc hmd hcl hsl hl hP hD hS kk
end SNLE
