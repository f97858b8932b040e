def sn_v2 (L : Nat → Nat) (N : Nat → Int64) (t : Nat) : Int64 := if L t = 0 then N t else lN (L t - 1)
def sn_m1 (A : Nat → Nat) : Nat → Nat := fun k => A (k + 1)
def sn_p1 (pa : Nat → Nat) : Nat → Nat := fun k => pa k - 1
def sn_dmu (Z A : Nat → Nat) (w : List (Nat × Int64)) : Nat := sn_s (fun q => if A q ≠ 0 then 0 else Z (q - 1) + 1) 641 + w.length
def sn_db (Z A pa nv : Nat → Nat) (d m : Nat) : Prop := A 0 = 0 ∧ (∀ q, A q ≤ m) ∧ m = sn_s (fun q => if A q ≠ 0 then 1 else 0) 641 ∧ d ≤ m ∧ ∀ k, k < d → 0 < pa k ∧ pa k ≤ 640 ∧ nv k ≤ Z (pa k - 1)
def sn_rw (Z L : Nat → Nat) (N : Nat → Int64) (pa nv : Nat → Nat) (d i : Nat) : List (Nat × Int64) := sn_stk (sn_S2 Z) L N pa nv d ++ sn_vl L N (i + 1) (15 - i)
def sn_dk (Z L : Nat → Nat) (N : Nat → Int64) (A : Nat → Nat) (m : Nat) (h : Int64) (w : List (Nat × Int64)) : Prop := ∃ (k c : Nat), sn_drun (sn_S2 Z) L N k (sn_d0 L N) = ((A, m, c, h, w) : SnD)
theorem sn_dk_s {Z L : Nat → Nat} {N : Nat → Int64} {k : Nat} {x : SnD} (h : sn_drun (sn_S2 Z) L N k (sn_d0 L N) = x) : sn_drun (sn_S2 Z) L N (k + 1) (sn_d0 L N) = sn_dst (sn_S2 Z) L N x := by
  rw [sn_drun_add, h]
  rfl
theorem sn_dk_num {Z L : Nat → Nat} {N : Nat → Int64} {A : Nat → Nat} {m : Nat} {h : Int64} {t : Nat} {w : List (Nat × Int64)} (hk : sn_dk Z L N A m h ((L t, N t) :: w)) (h0 : L t = 0) : sn_dk Z L N A m (31 * h + N t) w := by
  obtain ⟨k, c, e⟩ := hk
  refine ⟨k + 1, c, (sn_dk_s e).trans ?_⟩
  exact if_pos h0
theorem sn_dk_old {Z L : Nat → Nat} {N : Nat → Int64} {A : Nat → Nat} {m : Nat} {h : Int64} {t : Nat} {w : List (Nat × Int64)} (hk : sn_dk Z L N A m h ((L t, N t) :: w)) (h0 : L t ≠ 0) (h1 : 0 < A (L t)) : sn_dk Z L N A m ((31 * h + 2) + lN (A (L t))) w := by
  obtain ⟨k, c, e⟩ := hk
  refine ⟨k + 1, c, (sn_dk_s e).trans ?_⟩
  have e1 : sn_dst (sn_S2 Z) L N ((A, m, c, h, (L t, N t) :: w) : SnD) = ((A, m, c, 31 * h + lN (2 + A (L t)), w) : SnD) := by
    show sn_meet (sn_S2 Z) L N A m c h (L t, N t) w = _
    unfold sn_meet
    rw [if_neg (show ¬ ((L t, N t) : Nat × Int64).1 = 0 from h0)]
    exact if_pos h1
  rw [e1, ← lN_add, ← Int64.add_assoc]
  rfl
theorem sn_dk_new {Z L : Nat → Nat} {N : Nat → Int64} {A : Nat → Nat} {m : Nat} {h : Int64} {t : Nat} {w : List (Nat × Int64)} (hk : sn_dk Z L N A m h ((L t, N t) :: w)) (h0 : L t ≠ 0) (h1 : A (L t) = 0) : sn_dk Z L N (va_up A (L t) (m + 1)) (m + 1) (31 * (31 * h + 3) + lN (Z (L t - 1))) (sn_vl L N (16 * L t) (Z (L t - 1)) ++ w) := by
  obtain ⟨k, c, e⟩ := hk
  refine ⟨k + 1, c + (sn_sz (sn_S2 Z) (L t) + 2), (sn_dk_s e).trans ?_⟩
  show sn_meet (sn_S2 Z) L N A m c h (L t, N t) w = _
  unfold sn_meet
  rw [if_neg (show ¬ ((L t, N t) : Nat × Int64).1 = 0 from h0), if_neg (show ¬ 0 < A ((L t, N t) : Nat × Int64).1 by show ¬ 0 < A (L t); omega)]
  have e2 := sn_S2_sz Z (k := L t) (by omega)
  show ((va_up A (L t) (m + 1), m + 1, c + (sn_sz (sn_S2 Z) (L t) + 2), 31 * (31 * h + 3) + lN (sn_sz (sn_S2 Z) (L t)), sn_vl L N (16 * L t) (sn_sz (sn_S2 Z) (L t)) ++ w) : SnD) = _
  rw [e2]
theorem sn_dmu_num {Z A : Nat → Nat} {v : Nat × Int64} {w : List (Nat × Int64)} {n : Nat} (h : sn_dmu Z A (v :: w) < n + 1) : sn_dmu Z A w < n := by
  unfold sn_dmu at h ⊢
  rw [List.length_cons] at h
  omega
theorem sn_dmu_new {Z A L : Nat → Nat} {N : Nat → Int64} {v : Nat × Int64} {w : List (Nat × Int64)} {q m n : Nat} (hq : q ≤ 640) (h0 : A q = 0) (h : sn_dmu Z A (v :: w) < n + 1) : sn_dmu Z (va_up A q (m + 1)) (sn_vl L N (16 * q) (Z (q - 1)) ++ w) < n := by
  unfold sn_dmu at h ⊢
  rw [List.length_append, sn_vl_len]
  rw [List.length_cons] at h
  have e : (fun k => if va_up A q (m + 1) k ≠ 0 then 0 else Z (k - 1) + 1) = va_up (fun k => if A k ≠ 0 then 0 else Z (k - 1) + 1) q 0 := by
    funext k
    by_cases e : k = q
    · rw [e, va_up_self, va_up_self, if_pos (by omega)]
    · rw [va_up_ne _ _ e, va_up_ne _ _ e]
  rw [e]
  have a := sn_s_up (f := fun k => if A k ≠ 0 then 0 else Z (k - 1) + 1) (k := q) (v := 0) (n := 641) (by omega)
  rw [if_neg (show ¬ (A q ≠ 0) from fun h9 => h9 h0)] at a
  omega
theorem sn_cnt_lt6 {A : Nat → Nat} {q : Nat} (h0 : A 0 = 0) (hq : 0 < q) (h6 : q ≤ 640) (hA : A q = 0) : sn_s (fun k => if A k ≠ 0 then 1 else 0) 641 < 640 := by
  have a1 := sn_s_up (f := fun _ => 1) (k := 0) (v := 0) (n := 641) (by omega)
  have a2 := sn_s_up (f := va_up (fun _ => 1) 0 0) (k := q) (v := 0) (n := 641) (by omega)
  have a3 : va_up (fun _ => 1) 0 0 q = 1 := va_up_ne (fun _ => 1) 0 (by omega)
  have a4 : sn_s (fun k => if A k ≠ 0 then 1 else 0) 641 ≤ sn_s (va_up (va_up (fun _ => 1) 0 0) q 0) 641 := sn_s_le (fun k _ => by
    by_cases e : k = q
    · rw [e, va_up_self, if_neg (fun h9 => h9 hA)]; exact Nat.le_refl _
    · rw [va_up_ne _ 0 e]
      by_cases e0 : k = 0
      · rw [e0, va_up_self, if_neg (fun h9 => h9 h0)]; exact Nat.le_refl _
      · rw [va_up_ne _ 0 e0]; split <;> omega)
  rw [sn_s_const] at a1
  rw [a3] at a2
  omega
theorem sn_db_m {Z A pa nv : Nat → Nat} {d m : Nat} (h : sn_db Z A pa nv d m) : m ≤ 640 := by
  obtain ⟨h0, -, h2, -⟩ := h
  have a1 := sn_s_up (f := fun _ => 1) (k := 0) (v := 0) (n := 641) (by omega)
  have a4 : sn_s (fun k => if A k ≠ 0 then 1 else 0) 641 ≤ sn_s (va_up (fun _ => 1) 0 0) 641 := sn_s_le (fun k _ => by
    by_cases e0 : k = 0
    · rw [e0, va_up_self, if_neg (fun h9 => h9 h0)]; exact Nat.le_refl _
    · rw [va_up_ne _ 0 e0]; split <;> omega)
  rw [sn_s_const] at a1
  omega
theorem sn_db_new {Z A pa nv : Nat → Nat} {d m q : Nat} (h : sn_db Z A pa nv d m) (hq : 0 < q) (h6 : q ≤ 640) (hA : A q = 0) : d < 640 ∧ m < 640 ∧ sn_db Z (va_up A q (m + 1)) (va_up pa d q) (va_up nv d 0) (d + 1) (m + 1) := by
  obtain ⟨h0, h1, h2, h3, h4⟩ := h
  have hc := sn_cnt_lt6 h0 hq h6 hA
  refine ⟨by omega, by omega, ?_, fun k => ?_, ?_, by omega, fun k hk => ?_⟩
  · rw [va_up_ne _ _ (by omega)]; exact h0
  · by_cases e : k = q
    · rw [e, va_up_self]; exact Nat.le_refl _
    · rw [va_up_ne _ _ e]; have := h1 k; omega
  · have e : (fun k => if va_up A q (m + 1) k ≠ 0 then 1 else 0) = va_up (fun k => if A k ≠ 0 then 1 else 0) q 1 := by
      funext k
      by_cases e : k = q
      · rw [e, va_up_self, va_up_self, if_pos (by omega)]
      · rw [va_up_ne _ _ e, va_up_ne _ _ e]
    rw [e]
    have a := sn_s_up (f := fun k => if A k ≠ 0 then 1 else 0) (k := q) (v := 1) (n := 641) (by omega)
    rw [if_neg (show ¬ (A q ≠ 0) from fun h9 => h9 hA)] at a
    omega
  · by_cases e : k = d
    · rw [e, va_up_self, va_up_self]; exact ⟨hq, h6, Nat.zero_le _⟩
    · rw [va_up_ne _ _ e, va_up_ne _ _ e]; exact h4 k (by omega)
theorem sn_rw_new (Z L : Nat → Nat) (N : Nat → Int64) (pa nv : Nat → Nat) (d i : Nat) {q : Nat} (hq : 0 < q) : sn_rw Z L N (va_up pa d q) (va_up nv d 0) (d + 1) i = sn_vl L N (16 * q) (Z (q - 1)) ++ sn_rw Z L N pa nv d i := by
  unfold sn_rw
  rw [← List.append_assoc]
  congr 1
  show sn_vl L N (16 * va_up pa d q d + va_up nv d 0 d) (sn_sz (sn_S2 Z) (va_up pa d q d) - va_up nv d 0 d) ++ sn_stk (sn_S2 Z) L N (va_up pa d q) (va_up nv d 0) d = _
  rw [va_up_self, va_up_self, sn_S2_sz Z hq, sn_stk_congr (pa := pa) (nv := nv) (fun j hj => ⟨va_up_ne _ _ (by omega), va_up_ne _ _ (by omega)⟩)]
  rfl
theorem sn_rw_pop {Z L : Nat → Nat} {N : Nat → Int64} {pa nv : Nat → Nat} {d i : Nat} (hp : 0 < pa d) (h : nv d = Z (pa d - 1)) : sn_rw Z L N pa nv (d + 1) i = sn_rw Z L N pa nv d i := by
  unfold sn_rw
  congr 1
  show sn_vl L N (16 * pa d + nv d) (sn_sz (sn_S2 Z) (pa d) - nv d) ++ sn_stk (sn_S2 Z) L N pa nv d = _
  rw [sn_S2_sz Z hp, h, Nat.sub_self]
  rfl
theorem sn_rw_next {Z L : Nat → Nat} {N : Nat → Int64} {pa nv : Nat → Nat} {d i : Nat} (hp : 0 < pa d) (h : nv d < Z (pa d - 1)) : sn_rw Z L N pa nv (d + 1) i = (L (16 * pa d + nv d), N (16 * pa d + nv d)) :: sn_rw Z L N pa (va_up nv d (nv d + 1)) (d + 1) i := by
  unfold sn_rw
  rw [← List.cons_append]
  congr 1
  show sn_vl L N (16 * pa d + nv d) (sn_sz (sn_S2 Z) (pa d) - nv d) ++ sn_stk (sn_S2 Z) L N pa nv d = _ :: (sn_vl L N (16 * pa d + va_up nv d (nv d + 1) d) (sn_sz (sn_S2 Z) (pa d) - va_up nv d (nv d + 1) d) ++ sn_stk (sn_S2 Z) L N pa (va_up nv d (nv d + 1)) d)
  rw [sn_S2_sz Z hp, va_up_self, sn_stk_congr (pa' := pa) (nv' := va_up nv d (nv d + 1)) (pa := pa) (nv := nv) (fun j hj => ⟨rfl, va_up_ne _ _ (by omega)⟩), show Z (pa d - 1) - nv d = (Z (pa d - 1) - (nv d + 1)) + 1 by omega]
  rfl
theorem sn_db_pop {Z A pa nv : Nat → Nat} {d m : Nat} (h : sn_db Z A pa nv (d + 1) m) : sn_db Z A pa nv d m := ⟨h.1, h.2.1, h.2.2.1, by have := h.2.2.2.1; omega, fun k hk => h.2.2.2.2 k (by omega)⟩
theorem sn_db_next {Z A pa nv : Nat → Nat} {d m : Nat} (h : sn_db Z A pa nv (d + 1) m) (hn : nv d < Z (pa d - 1)) : sn_db Z A pa (va_up nv d (nv d + 1)) (d + 1) m := by
  refine ⟨h.1, h.2.1, h.2.2.1, h.2.2.2.1, fun k hk => ⟨(h.2.2.2.2 k hk).1, (h.2.2.2.2 k hk).2.1, ?_⟩⟩
  by_cases e : k = d
  · rw [e, va_up_self]; omega
  · rw [va_up_ne _ _ e]; exact (h.2.2.2.2 k hk).2.2
theorem sn_rw_0 (Z L : Nat → Nat) (N : Nat → Int64) (pa nv : Nat → Nat) (i : Nat) : sn_rw Z L N pa nv 0 i = sn_vl L N (i + 1) (15 - i) := rfl
theorem sn_m1_up (A : Nat → Nat) {q : Nat} (hq : 0 < q) (v : Nat) : sn_m1 (va_up A q v) = va_up (sn_m1 A) (q - 1) v := by
  funext k
  show va_up A q v (k + 1) = va_up (fun k => A (k + 1)) (q - 1) v k
  by_cases e : k = q - 1
  · rw [e, va_up_self, show q - 1 + 1 = q by omega, va_up_self]
  · rw [va_up_ne _ _ e, va_up_ne _ _ (by omega)]
theorem sn_p1_up (pa : Nat → Nat) (d q : Nat) : sn_p1 (va_up pa d q) = va_up (sn_p1 pa) d (q - 1) := by
  funext k
  show va_up pa d q k - 1 = va_up (fun k => pa k - 1) d (q - 1) k
  by_cases e : k = d
  · rw [e, va_up_self, va_up_self]
  · rw [va_up_ne _ _ e, va_up_ne _ _ e]
theorem sn_vl_16 (L : Nat → Nat) (N : Nat → Int64) {i : Nat} (h : i < 16) : sn_vl L N i (16 - i) = (L i, N i) :: sn_vl L N (i + 1) (15 - i) := by
  rw [show 16 - i = (15 - i) + 1 by omega]
  rfl
def sn_QX (D : va_G) {α : Type} (wc : va_W) (W1 : α → va_W) (v : Option Value) : Array Value → State → Outcome → State → Prop := fun _ st o t => o = .returned v ∧ (∃ u : α, va_P D classes (W1 u) t.heap) ∧ va_F (sn_A wc) st t
theorem sn_wrx {p : Program} {l : Launch} {e : Env} {R : Room} {s : State} {m : MethodId} {args : Array Value} {below : List Frame} {meth : Method} {c : Code} {H : Heap} {locs : List Loc} {cells slots : Nat} {Q : State → Prop} {pc : Nat} {ls : Array Slot} {rest st0 : List Value} {a : Array Value} {D : va_G} {ws wc : va_W} {A : Nat → Prop} {H0 : Heap} {α : Type} {W1 : α → va_W} {v : Option Value} {st1 : List Value}
    (hr : va_Run p l e R s m args below meth c H locs cells slots 0 0 (F0 m pc ls st0) rest (sn_QX D wc W1 v a) (sn_A wc)) (h1 : v.toList ++ rest = st1) (hP : va_P D classes ws H) (hD : va_D A ws) (hS : va_S A H0 H locs)
    (is : List Nat) (hC : is.map (fun i => ws[i]?) = wc.map some) (hadr : ∀ u, (W1 u).map (fun q => q.1) = wc.map (fun q => q.1))
    (kk : ∀ (u : α) (H1 : Heap) (locs1 : List Loc), va_P D classes (sn_sets ws is (W1 u)) H1 → va_D A (sn_sets ws is (W1 u)) → va_S A H0 H1 locs1 → W p l e R s m args below meth c H1 locs1 cells slots Q (F0 m (pc + 3) ls st1)) : W p l e R s m args below meth c H locs cells slots Q (F0 m pc ls st0) := by
  subst h1
  intro T hT X
  obtain ⟨v', st₀, t, T', L, h0, X', hL, e1, -, ⟨hv, ⟨u, hp1⟩, hz, hk⟩, st⟩ := hr T hT X
  cases hv
  rw [h0] at hz hk
  rw [← e1] at hp1 hz hk
  obtain ⟨j1, j2⟩ := sn_join hP hD is hC (hadr u) hk hp1
  have hf := sn_free hD hC
  obtain ⟨t2, a1, b1⟩ := kk u T'.heap (locs ++ L) j1 j2 ⟨Nat.le_trans hS.1 hz, fun q h1 h2 => by rw [hk q (Nat.lt_of_lt_of_le h1 hS.1) (fun z => h2 (hf q z))]; exact hS.2.1 q h1 h2, fun q hq => by
      rcases List.mem_append.mp hq with h | h
      · exact hS.2.2 q h
      · exact hf _ (hL q h)⟩ T' rfl X'
  exact ⟨t2, st t2 a1, b1⟩
theorem sx_xl {p : Program} {l : Launch} {e : Env} {R : Room} {s : State} {m : MethodId} {args : Array Value} {below : List Frame} {meth : Method} {c : Code} {H : Heap} {locs : List Loc} {Q : State → Prop} {cc : ByteArray} {pc : Nat} {ls : Array Slot} {D : va_G} {wc : va_W} {α : Type} {W1 : α → va_W} {x v : Int64} (hQ : MQ below (sn_QX D wc W1 (some (.long v))) args s 0 0 (sn_A wc) = Q) (hexec : p.tables.exec = Jvm.exec) (hb : c.code = cc) (hr : meth.sig.returnType = some .long) (hlk : meth.locks = false) (hv : x = v) (u : α) (hP : va_P D classes (W1 u) H) (hS : va_S (sn_A wc) s.heap H locs) (hdg : decode cc pc = .ok (.lreturn, 1)) : W p l e R s m args below meth c H locs 0 0 Q (F0 m pc ls [.long x]) := by
  subst hQ
  subst hv
  exact W.lret hexec hb hr (fun t ht _ => ⟨rfl, ⟨u, by rw [ht]; exact hP⟩, hS.F ht⟩) hS.2.2 hdg hlk
theorem sn_dec {d : Nat} (h : 0 < d) : nI d + Int32.ofInt (-1) = nI (d - 1) := by
  have e : Int32.ofInt (-1) = -1 := by decide
  rw [e]
  exact sb_m1 h
theorem sn_d_of {d : Nat} (h : 0 < d) : ∃ k, d = k + 1 := ⟨d - 1, by omega⟩
theorem sn_rw_popd {Z L : Nat → Nat} {N : Nat → Int64} {pa nv : Nat → Nat} {d i : Nat} (hd : 0 < d) (hp : 0 < pa (d - 1)) (h : nv (d - 1) = Z (pa (d - 1) - 1)) : sn_rw Z L N pa nv d i = sn_rw Z L N pa nv (d - 1) i := by
  obtain ⟨k, rfl⟩ := sn_d_of hd
  exact sn_rw_pop hp h
theorem sn_rw_nextd {Z L : Nat → Nat} {N : Nat → Int64} {pa nv : Nat → Nat} {d i : Nat} (hd : 0 < d) (hp : 0 < pa (d - 1)) (h : nv (d - 1) < Z (pa (d - 1) - 1)) : sn_rw Z L N pa nv d i = (L (16 * pa (d - 1) + nv (d - 1)), N (16 * pa (d - 1) + nv (d - 1))) :: sn_rw Z L N pa (va_up nv (d - 1) (nv (d - 1) + 1)) d i := by
  obtain ⟨k, rfl⟩ := sn_d_of hd
  exact sn_rw_next hp h
theorem sn_db_popd {Z A pa nv : Nat → Nat} {d m : Nat} (hd : 0 < d) (h : sn_db Z A pa nv d m) : sn_db Z A pa nv (d - 1) m := by
  obtain ⟨k, rfl⟩ := sn_d_of hd
  exact sn_db_pop h
theorem sn_db_nextd {Z A pa nv : Nat → Nat} {d m : Nat} (hd : 0 < d) (h : sn_db Z A pa nv d m) (hn : nv (d - 1) < Z (pa (d - 1) - 1)) : sn_db Z A pa (va_up nv (d - 1) (nv (d - 1) + 1)) d m := by
  obtain ⟨k, rfl⟩ := sn_d_of hd
  exact sn_db_next h hn
theorem sn_dk_end {Z L : Nat → Nat} {N : Nat → Int64} {A : Nat → Nat} {m : Nat} {h hf : Int64} (hhf : ∀ k, (sn_drun (sn_S2 Z) L N k (sn_d0 L N)).2.2.2.2 = [] → (sn_drun (sn_S2 Z) L N k (sn_d0 L N)).2.2.2.1 = hf) (hk : sn_dk Z L N A m h []) : h = hf := by
  obtain ⟨k, c, e⟩ := hk
  have h1 := hhf k (by rw [e])
  rw [e] at h1
  exact h1
theorem sn_db_0 (Z pa nv : Nat → Nat) : sn_db Z (fun _ => 0) pa nv 0 0 := by
  refine ⟨rfl, fun _ => Nat.le_refl _, ?_, Nat.le_refl _, fun k hk => absurd hk (Nat.not_lt_zero _)⟩
  show 0 = sn_s (fun q => if (0 : Nat) ≠ 0 then 1 else 0) 641
  rw [sn_s_congr (g := fun _ => 0) (fun k _ => if_neg (fun h9 => h9 rfl)), sn_s_zero]
theorem sn_p1_0 (Td : Nat → Nat) : sn_p1 (fun k => Td k + 1) = Td := by
  funext k
  show Td k + 1 - 1 = Td k
  omega
theorem sn_dk_0 (Z L : Nat → Nat) (N : Nat → Int64) : sn_dk Z L N (fun _ => 0) 0 7 (sn_vl L N 0 (16 - 0)) := ⟨0, 0, rfl⟩
theorem sn_dk_next {Z L : Nat → Nat} {N : Nat → Int64} {A pa nv : Nat → Nat} {d m i : Nat} {h : Int64} (hd : d = 0) (hi : i < 16) (hk : sn_dk Z L N A m h (sn_rw Z L N pa nv d i)) : sn_dk Z L N A m h (sn_vl L N (i + 1) (16 - (i + 1))) := by
  subst hd
  rw [sn_rw_0] at hk
  rw [show 16 - (i + 1) = 15 - i by omega]
  exact hk
