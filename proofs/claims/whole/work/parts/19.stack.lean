def sn_stk (S : Nat → Option Nat) (L : Nat → Nat) (N : Nat → Int64) (pa nv : Nat → Nat) : Nat → List (Nat × Int64)
  | 0 => []
  | d + 1 => sn_vl L N (16 * pa d + nv d) (sn_sz S (pa d) - nv d) ++ sn_stk S L N pa nv d
theorem sn_stk_congr {S : Nat → Option Nat} {L : Nat → Nat} {N : Nat → Int64} {pa nv pa' nv' : Nat → Nat} : ∀ {d : Nat}, (∀ k, k < d → pa' k = pa k ∧ nv' k = nv k) → sn_stk S L N pa' nv' d = sn_stk S L N pa nv d
  | 0, _ => rfl
  | d + 1, h => by
    show sn_vl L N (16 * pa' d + nv' d) (sn_sz S (pa' d) - nv' d) ++ sn_stk S L N pa' nv' d = sn_vl L N (16 * pa d + nv d) (sn_sz S (pa d) - nv d) ++ sn_stk S L N pa nv d
    rw [(h d (by omega)).1, (h d (by omega)).2, sn_stk_congr (d := d) (fun k hk => h k (by omega))]
abbrev SnW : Type := (Nat → Nat) × (Nat → Nat) × (Nat → Nat) × Nat × Nat × Nat × Int64
def sn_goin (x : SnW) (p : Nat) : SnW := if x.2.2.2.1 < 601 then (x.1, va_up x.2.1 x.2.2.2.1 p, va_up x.2.2.1 x.2.2.2.1 0, x.2.2.2.1 + 1, x.2.2.2.2) else x
def sn_wmeet (S : Nat → Option Nat) (L : Nat → Nat) (N : Nat → Int64) (x : SnW) (t : Nat) : SnW :=
  if ¬ (0 < L t ∧ L t ≤ 600) then (x.1, x.2.1, x.2.2.1, x.2.2.2.1, x.2.2.2.2.1, x.2.2.2.2.2.1, 31 * x.2.2.2.2.2.2 + N t)
  else if 0 < x.1 (L t) then (x.1, x.2.1, x.2.2.1, x.2.2.2.1, x.2.2.2.2.1, x.2.2.2.2.2.1, 31 * x.2.2.2.2.2.2 + lN (2 + x.1 (L t)))
  else sn_goin (va_up x.1 (L t) (x.2.2.2.2.1 + 1), x.2.1, x.2.2.1, x.2.2.2.1, x.2.2.2.2.1 + 1, x.2.2.2.2.2.1 + (sn_sz S (L t) + 2), 31 * (31 * x.2.2.2.2.2.2 + 3) + lN (sn_sz S (L t))) (L t)
def sn_goon (S : Nat → Option Nat) (L : Nat → Nat) (N : Nat → Int64) (x : SnW) : SnW :=
  if x.2.2.1 (x.2.2.2.1 - 1) < sn_sz S (x.2.1 (x.2.2.2.1 - 1)) then sn_wmeet S L N (x.1, x.2.1, va_up x.2.2.1 (x.2.2.2.1 - 1) (x.2.2.1 (x.2.2.2.1 - 1) + 1), x.2.2.2) (16 * x.2.1 (x.2.2.2.1 - 1) + x.2.2.1 (x.2.2.2.1 - 1))
  else (x.1, x.2.1, x.2.2.1, x.2.2.2.1 - 1, x.2.2.2.2)
def sn_wrun (S : Nat → Option Nat) (L : Nat → Nat) (N : Nat → Int64) : Nat → SnW → SnW
  | 0, x => x
  | n + 1, x => if 0 < x.2.2.2.1 then sn_wrun S L N n (sn_goon S L N x) else x
def sn_wabs (S : Nat → Option Nat) (L : Nat → Nat) (N : Nat → Int64) (x : SnW) : SnD := (x.1, x.2.2.2.2.1, x.2.2.2.2.2.1, x.2.2.2.2.2.2, sn_stk S L N x.2.1 x.2.2.1 x.2.2.2.1)
def sn_wi (x : SnW) : Prop := x.1 0 = 0 ∧ x.2.2.2.1 ≤ x.2.2.2.2.1 + 1 ∧ x.2.2.2.2.1 = sn_s (fun q => if x.1 q ≠ 0 then 1 else 0) 601
def sn_wmu (S : Nat → Option Nat) (L : Nat → Nat) (N : Nat → Int64) (x : SnW) : Nat := sn_s (fun q => if x.1 q ≠ 0 then 0 else sn_sz S q + 1) 601 + (sn_stk S L N x.2.1 x.2.2.1 x.2.2.2.1).length + x.2.2.2.1
theorem sn_cnt_lt {A : Nat → Nat} {l : Nat} (h0 : A 0 = 0) (hl : 0 < l) (h6 : l ≤ 600) (hA : A l = 0) : sn_s (fun q => if A q ≠ 0 then 1 else 0) 601 < 600 := by
  have a1 := sn_s_up (f := fun _ => 1) (k := 0) (v := 0) (n := 601) (by omega)
  have a2 := sn_s_up (f := va_up (fun _ => 1) 0 0) (k := l) (v := 0) (n := 601) (by omega)
  have a3 : va_up (fun _ => 1) 0 0 l = 1 := va_up_ne (fun _ => 1) 0 (by omega)
  have a4 : sn_s (fun q => if A q ≠ 0 then 1 else 0) 601 ≤ sn_s (va_up (va_up (fun _ => 1) 0 0) l 0) 601 := sn_s_le (fun k _ => by
    by_cases e : k = l
    · rw [e, va_up_self, if_neg (fun h9 => h9 hA)]; exact Nat.le_refl _
    · rw [va_up_ne _ 0 e]
      by_cases e0 : k = 0
      · rw [e0, va_up_self, if_neg (fun h9 => h9 h0)]; exact Nat.le_refl _
      · rw [va_up_ne _ 0 e0]; split <;> omega)
  rw [sn_s_const] at a1
  rw [a3] at a2
  have a5 : (fun _ => 1 : Nat → Nat) 0 = 1 := rfl
  try rw [a5] at a1
  omega
theorem sn_goon_ok {S : Nat → Option Nat} {L : Nat → Nat} {N : Nat → Int64} (hL : ∀ s, L s ≤ 600) {x : SnW} (h : sn_wi x) (hd : 0 < x.2.2.2.1) :
    sn_wi (sn_goon S L N x) ∧ (sn_wabs S L N (sn_goon S L N x) = sn_wabs S L N x ∨ sn_wabs S L N (sn_goon S L N x) = sn_dst S L N (sn_wabs S L N x)) ∧ sn_wmu S L N (sn_goon S L N x) < sn_wmu S L N x := by
  obtain ⟨A, pa, nv, d, m, c, g⟩ := x
  obtain ⟨h0, h1, h2⟩ := h
  have h0 : A 0 = 0 := h0
  have h1 : d ≤ m + 1 := h1
  have h2 : m = sn_s (fun q => if A q ≠ 0 then 1 else 0) 601 := h2
  have hd : 0 < d := hd
  obtain ⟨k, rfl⟩ : ∃ k, d = k + 1 := ⟨d - 1, by omega⟩
  have ek : k + 1 - 1 = k := rfl
  by_cases hi : nv k < sn_sz S (pa k)
  · have eg : sn_goon S L N (A, pa, nv, k + 1, m, c, g) = sn_wmeet S L N (A, pa, va_up nv k (nv k + 1), k + 1, m, c, g) (16 * pa k + nv k) := if_pos hi
    rw [eg]
    have hlow : sn_stk S L N pa (va_up nv k (nv k + 1)) k = sn_stk S L N pa nv k := sn_stk_congr (fun j hj => ⟨rfl, va_up_ne _ _ (by omega)⟩)
    have hst : sn_stk S L N pa nv (k + 1) = (L (16 * pa k + nv k), N (16 * pa k + nv k)) :: sn_stk S L N pa (va_up nv k (nv k + 1)) (k + 1) := by
      show sn_vl L N (16 * pa k + nv k) (sn_sz S (pa k) - nv k) ++ sn_stk S L N pa nv k = _ :: (sn_vl L N (16 * pa k + va_up nv k (nv k + 1) k) (sn_sz S (pa k) - va_up nv k (nv k + 1) k) ++ sn_stk S L N pa (va_up nv k (nv k + 1)) k)
      rw [hlow, va_up_self, show sn_sz S (pa k) - nv k = (sn_sz S (pa k) - (nv k + 1)) + 1 by omega]
      rfl
    generalize hw : sn_stk S L N pa (va_up nv k (nv k + 1)) (k + 1) = w at hst
    generalize ht : 16 * pa k + nv k = t at hst ⊢
    generalize va_up nv k (nv k + 1) = nv' at hw ⊢
    have ha : sn_wabs S L N (A, pa, nv, k + 1, m, c, g) = (A, m, c, g, (L t, N t) :: w) := by show (A, m, c, g, sn_stk S L N pa nv (k + 1)) = _; rw [hst]
    have hmu : sn_wmu S L N (A, pa, nv, k + 1, m, c, g) = sn_s (fun q => if A q ≠ 0 then 0 else sn_sz S q + 1) 601 + (w.length + 1) + (k + 1) := by
      show sn_s (fun q => if A q ≠ 0 then 0 else sn_sz S q + 1) 601 + (sn_stk S L N pa nv (k + 1)).length + (k + 1) = _
      rw [hst]; rfl
    have hdst : sn_dst S L N (A, m, c, g, (L t, N t) :: w) = sn_meet S L N A m c g (L t, N t) w := rfl
    rw [ha, hmu, hdst]
    unfold sn_wmeet
    by_cases e0 : L t = 0
    · rw [if_pos (show ¬ (0 < L t ∧ L t ≤ 600) by omega)]
      refine ⟨⟨h0, h1, h2⟩, Or.inr ?_, ?_⟩
      · show (A, m, c, 31 * g + N t, sn_stk S L N pa nv' (k + 1)) = sn_meet S L N A m c g (L t, N t) w
        unfold sn_meet
        rw [if_pos (show ((L t, N t) : Nat × Int64).1 = 0 from e0), hw]
      · show sn_s (fun q => if A q ≠ 0 then 0 else sn_sz S q + 1) 601 + (sn_stk S L N pa nv' (k + 1)).length + (k + 1) < _
        rw [hw]; omega
    · have hl0 : 0 < L t := by omega
      rw [if_neg (show ¬ ¬ (0 < L t ∧ L t ≤ 600) from fun h9 => h9 ⟨hl0, hL t⟩)]
      by_cases hm : 0 < A (L t)
      · rw [if_pos (show 0 < ((A, pa, nv', k + 1, m, c, g) : SnW).1 (L t) from hm)]
        refine ⟨⟨h0, h1, h2⟩, Or.inr ?_, ?_⟩
        · show (A, m, c, 31 * g + lN (2 + A (L t)), sn_stk S L N pa nv' (k + 1)) = sn_meet S L N A m c g (L t, N t) w
          unfold sn_meet
          rw [if_neg (show ¬ ((L t, N t) : Nat × Int64).1 = 0 from e0), if_pos (show 0 < A ((L t, N t) : Nat × Int64).1 from hm), hw]
        · show sn_s (fun q => if A q ≠ 0 then 0 else sn_sz S q + 1) 601 + (sn_stk S L N pa nv' (k + 1)).length + (k + 1) < _
          rw [hw]; omega
      · rw [if_neg (show ¬ 0 < ((A, pa, nv', k + 1, m, c, g) : SnW).1 (L t) from hm)]
        have hA0 : A (L t) = 0 := by omega
        have hcnt : sn_s (fun q => if A q ≠ 0 then 1 else 0) 601 < 600 := sn_cnt_lt h0 hl0 (hL t) hA0
        have hgo : sn_goin (va_up A (L t) (m + 1), pa, nv', k + 1, m + 1, c + (sn_sz S (L t) + 2), 31 * (31 * g + 3) + lN (sn_sz S (L t))) (L t) = (va_up A (L t) (m + 1), va_up pa (k + 1) (L t), va_up nv' (k + 1) 0, k + 1 + 1, m + 1, c + (sn_sz S (L t) + 2), 31 * (31 * g + 3) + lN (sn_sz S (L t))) := if_pos (show k + 1 < 601 by omega)
        have hgo2 : sn_goin (va_up ((A, pa, nv', k + 1, m, c, g) : SnW).1 (L t) (((A, pa, nv', k + 1, m, c, g) : SnW).2.2.2.2.1 + 1), ((A, pa, nv', k + 1, m, c, g) : SnW).2.1, ((A, pa, nv', k + 1, m, c, g) : SnW).2.2.1, ((A, pa, nv', k + 1, m, c, g) : SnW).2.2.2.1, ((A, pa, nv', k + 1, m, c, g) : SnW).2.2.2.2.1 + 1, ((A, pa, nv', k + 1, m, c, g) : SnW).2.2.2.2.2.1 + (sn_sz S (L t) + 2), 31 * (31 * ((A, pa, nv', k + 1, m, c, g) : SnW).2.2.2.2.2.2 + 3) + lN (sn_sz S (L t))) (L t) = (va_up A (L t) (m + 1), va_up pa (k + 1) (L t), va_up nv' (k + 1) 0, k + 1 + 1, m + 1, c + (sn_sz S (L t) + 2), 31 * (31 * g + 3) + lN (sn_sz S (L t))) := hgo
        rw [hgo2]
        have hs2 : sn_stk S L N (va_up pa (k + 1) (L t)) (va_up nv' (k + 1) 0) (k + 1 + 1) = sn_vl L N (16 * L t) (sn_sz S (L t)) ++ w := by
          show sn_vl L N (16 * va_up pa (k + 1) (L t) (k + 1) + va_up nv' (k + 1) 0 (k + 1)) (sn_sz S (va_up pa (k + 1) (L t) (k + 1)) - va_up nv' (k + 1) 0 (k + 1)) ++ sn_stk S L N (va_up pa (k + 1) (L t)) (va_up nv' (k + 1) 0) (k + 1) = _
          rw [sn_stk_congr (pa := pa) (nv := nv') (fun j hj => ⟨va_up_ne _ _ (by omega), va_up_ne _ _ (by omega)⟩), hw, va_up_self, va_up_self, Nat.add_zero, Nat.sub_zero]
        refine ⟨⟨?_, ?_, ?_⟩, Or.inr ?_, ?_⟩
        · show va_up A (L t) (m + 1) 0 = 0
          rw [va_up_ne _ _ (by omega)]; exact h0
        · show k + 1 + 1 ≤ m + 1 + 1
          omega
        · show m + 1 = sn_s (fun q => if va_up A (L t) (m + 1) q ≠ 0 then 1 else 0) 601
          rw [sn_if_up (f := fun _ => 1) (by omega)]
          have a1 := sn_s_up (f := fun q => if A q ≠ 0 then 1 else 0) (k := L t) (v := 1) (n := 601) (by have := hL t; omega)
          have a2 : (fun q => if A q ≠ 0 then 1 else 0 : Nat → Nat) (L t) = 0 := if_neg (fun h9 => h9 hA0)
          rw [if_neg (show ¬ (A (L t) ≠ 0) from fun h9 => h9 hA0)] at a1
          omega
        · show (va_up A (L t) (m + 1), m + 1, c + (sn_sz S (L t) + 2), 31 * (31 * g + 3) + lN (sn_sz S (L t)), sn_stk S L N (va_up pa (k + 1) (L t)) (va_up nv' (k + 1) 0) (k + 1 + 1)) = sn_meet S L N A m c g (L t, N t) w
          rw [hs2]
          unfold sn_meet
          rw [if_neg (show ¬ ((L t, N t) : Nat × Int64).1 = 0 from e0), if_neg (show ¬ 0 < A ((L t, N t) : Nat × Int64).1 from hm)]
        · show sn_s (fun q => if va_up A (L t) (m + 1) q ≠ 0 then 0 else sn_sz S q + 1) 601 + (sn_stk S L N (va_up pa (k + 1) (L t)) (va_up nv' (k + 1) 0) (k + 1 + 1)).length + (k + 1 + 1) < _
          rw [hs2, List.length_append, sn_vl_len]
          have hf : (fun q => if va_up A (L t) (m + 1) q ≠ 0 then 0 else sn_sz S q + 1) = va_up (fun q => if A q ≠ 0 then 0 else sn_sz S q + 1) (L t) 0 := by
            funext q
            by_cases e : q = L t
            · rw [e, va_up_self, va_up_self, if_pos (by omega)]
            · rw [va_up_ne _ _ e, va_up_ne _ _ e]
          rw [hf]
          have a1 := sn_s_up (f := fun q => if A q ≠ 0 then 0 else sn_sz S q + 1) (k := L t) (v := 0) (n := 601) (by have := hL t; omega)
          have a2 : (fun q => if A q ≠ 0 then 0 else sn_sz S q + 1 : Nat → Nat) (L t) = sn_sz S (L t) + 1 := if_neg (fun h9 => h9 hA0)
          rw [if_neg (show ¬ (A (L t) ≠ 0) from fun h9 => h9 hA0)] at a1
          omega
  · have eg : sn_goon S L N (A, pa, nv, k + 1, m, c, g) = (A, pa, nv, k, m, c, g) := if_neg hi
    rw [eg]
    have hst : sn_stk S L N pa nv (k + 1) = sn_stk S L N pa nv k := by
      show sn_vl L N (16 * pa k + nv k) (sn_sz S (pa k) - nv k) ++ sn_stk S L N pa nv k = _
      rw [show sn_sz S (pa k) - nv k = 0 by omega]
      rfl
    refine ⟨⟨h0, by show k ≤ m + 1; omega, h2⟩, Or.inl ?_, ?_⟩
    · show (A, m, c, g, sn_stk S L N pa nv k) = (A, m, c, g, sn_stk S L N pa nv (k + 1))
      rw [hst]
    · show sn_s (fun q => if A q ≠ 0 then 0 else sn_sz S q + 1) 601 + (sn_stk S L N pa nv k).length + k < sn_s (fun q => if A q ≠ 0 then 0 else sn_sz S q + 1) 601 + (sn_stk S L N pa nv (k + 1)).length + (k + 1)
      rw [hst]; omega
theorem sn_wmu_d {S : Nat → Option Nat} {L : Nat → Nat} {N : Nat → Int64} (x : SnW) : x.2.2.2.1 ≤ sn_wmu S L N x := by
  unfold sn_wmu
  exact Nat.le_add_left _ _
theorem sn_wrun_ok {S : Nat → Option Nat} {L : Nat → Nat} {N : Nat → Int64} (hL : ∀ s, L s ≤ 600) (n : Nat) : ∀ {x : SnW}, sn_wi x → sn_wmu S L N x ≤ n → sn_wi (sn_wrun S L N n x) ∧ (sn_wrun S L N n x).2.2.2.1 = 0 ∧ ∃ k, sn_wabs S L N (sn_wrun S L N n x) = sn_drun S L N k (sn_wabs S L N x) := by
  induction n with
  | zero =>
    intro x h hm
    have hd : x.2.2.2.1 = 0 := by have := sn_wmu_d (S := S) (L := L) (N := N) x; omega
    exact ⟨h, hd, 0, rfl⟩
  | succ n ih =>
    intro x h hm
    by_cases hd : 0 < x.2.2.2.1
    · have e : sn_wrun S L N (n + 1) x = sn_wrun S L N n (sn_goon S L N x) := if_pos hd
      rw [e]
      obtain ⟨a1, a2, a3⟩ := sn_goon_ok (S := S) (N := N) hL h hd
      obtain ⟨b1, b2, k, b3⟩ := ih a1 (by omega)
      refine ⟨b1, b2, ?_⟩
      rcases a2 with a2 | a2
      · exact ⟨k, by rw [b3, a2]⟩
      · exact ⟨k + 1, by rw [b3, a2]; rfl⟩
    · have e : sn_wrun S L N (n + 1) x = x := if_neg hd
      rw [e]
      exact ⟨h, by omega, 0, rfl⟩
