theorem sn_sz_some {S : Nat → Option Nat} {q n : Nat} (h : S q = some n) : sn_sz S q = n := by unfold sn_sz; rw [h]; rfl
theorem sn_uc_ge {x : SnS} (h : sn_st x) {A : Nat → Nat} (hA : ∀ q, A q ≠ 0 → 0 < q ∧ sn_S x q ≠ none) : sn_s (fun q => if A q ≠ 0 then sn_sz (sn_S x) q + 2 else 0) 601 ≤ sn_uc x := by
  rw [h.2.2.2.2.1]
  refine sn_s_le (fun q _ => ?_)
  by_cases e : A q ≠ 0
  · obtain ⟨h0, hs⟩ := hA q e
    rw [if_pos e]
    cases hn : sn_S x q with
    | none => exact absurd hn hs
    | some n => rw [sn_cel_some h0 hn, sn_sz_some hn]; exact Nat.le_refl _
  · rw [if_neg e]; exact Nat.zero_le _
theorem sn_uc_eq {x : SnS} (h : sn_st x) {A : Nat → Nat} (hA : ∀ q, A q ≠ 0 ↔ (0 < q ∧ sn_S x q ≠ none)) : sn_s (fun q => if A q ≠ 0 then sn_sz (sn_S x) q + 2 else 0) 601 = sn_uc x := by
  rw [h.2.2.2.2.1]
  refine sn_s_congr (fun q _ => ?_)
  by_cases e : A q ≠ 0
  · obtain ⟨h0, hs⟩ := (hA q).mp e
    rw [if_pos e]
    cases hn : sn_S x q with
    | none => exact absurd hn hs
    | some n => rw [sn_cel_some h0 hn, sn_sz_some hn]
  · rw [if_neg e]
    by_cases h0 : q = 0
    · rw [h0]; rfl
    · have hn : sn_S x q = none := Classical.byContradiction fun hs => e ((hA q).mpr ⟨by omega, hs⟩)
      rw [sn_cel_none hn]
theorem sn_s_plus (f g : Nat → Nat) : ∀ n : Nat, sn_s (fun q => f q + g q) n = sn_s f n + sn_s g n
  | 0 => rfl
  | n + 1 => by rw [sn_s_succ, sn_s_succ, sn_s_succ, sn_s_plus f g n]; omega
theorem sn_tuples {x : SnS} (h : sn_st x) {A : Nat → Nat} (hA : ∀ q, A q ≠ 0 ↔ (0 < q ∧ sn_S x q ≠ none)) : sn_s (fun q => if A q ≠ 0 then 1 else 0) 601 + sn_rc x = sn_tp x := by
  have h6 := h.2.2.1
  have e1 : sn_s (fun q => if A q ≠ 0 then 1 else 0) 601 = sn_s (fun q => if A q ≠ 0 then 1 else 0) (sn_tp x + 1) := sn_s_tail (by omega) (fun q h1 _ => if_neg (fun e => by
    obtain ⟨h0, hs⟩ := (hA q).mp e
    cases hn : sn_S x q with
    | none => exact hs hn
    | some n => have := (h.2.1 q n hn).2; omega))
  have e2 := h.2.2.2.2.2.2.1
  have e3 := sn_s_plus (fun q => if A q ≠ 0 then 1 else 0) (sn_fre (sn_S x)) (sn_tp x + 1)
  have e4 : sn_s (fun q => (if A q ≠ 0 then 1 else 0) + sn_fre (sn_S x) q) (sn_tp x + 1) = sn_s (va_up (fun _ => 1) 0 0) (sn_tp x + 1) := sn_s_congr (fun q _ => by
    by_cases h0 : q = 0
    · rw [h0, va_up_self, if_neg (fun e => by have := ((hA 0).mp e).1; omega), sn_fre_some h.1]
    · rw [va_up_ne _ _ h0]
      cases hn : sn_S x q with
      | none => rw [if_neg (fun e => ((hA q).mp e).2 hn), sn_fre_none (by omega) hn]
      | some n => rw [if_pos ((hA q).mpr ⟨by omega, by rw [hn]; exact fun h9 => by cases h9⟩), sn_fre_some hn])
  have a1 := sn_s_up (f := fun _ => 1) (k := 0) (v := 0) (n := sn_tp x + 1) (by omega)
  rw [sn_s_const] at a1
  have a5 : (fun _ => 1 : Nat → Nat) 0 = 1 := rfl
  try rw [a5] at a1
  omega
theorem sn_R_lt {x : SnG} (h : sn_gc x) {q : Nat} (hq : sn_R (sn_S x.1) (sn_L x.1) q) : q < 601 := by
  have hs := h.2.1 q hq
  cases hn : sn_S x.1 q with
  | none => exact absurd hn hs
  | some n => have := (h.1.2.1 q n hn).2; have := h.1.2.2.1; omega
theorem sn_full {x : SnG} (h : sn_gc x) {A : Nat → Nat} (hA : ∀ q, A q ≠ 0 ↔ sn_R (sn_S x.1) (sn_L x.1) q) {n : Nat} :
    (sn_uc x.1 + n + 2 ≤ 1200 → sn_s (fun q => if A q ≠ 0 then sn_sz (sn_S x.1) q + 2 else 0) 601 + n + 2 ≤ 1200) ∧
    (sn_uc (sn_whole x).1 = sn_s (fun q => if A q ≠ 0 then sn_sz (sn_S x.1) q + 2 else 0) 601) := by
  constructor
  · intro hr
    have := sn_uc_ge h.1 (A := A) (fun q hq => ⟨sn_R.pos ((hA q).mp hq), h.2.1 q ((hA q).mp hq)⟩)
    omega
  · obtain ⟨b1, b2, b3, b4⟩ := sn_whole_ok h
    have e := sn_uc_eq b1.1 (A := A) (fun q => ⟨fun hq => ⟨sn_R.pos ((hA q).mp hq), (b4 q (sn_R.pos ((hA q).mp hq))).mpr ((hA q).mp hq)⟩, fun ⟨h0, hs⟩ => (hA q).mpr ((b4 q h0).mp hs)⟩)
    rw [← e]
    refine sn_s_congr (fun q _ => ?_)
    by_cases hq : A q ≠ 0
    · rw [if_pos hq, if_pos hq]
      unfold sn_sz
      rw [b2.size ((hA q).mp hq)]
    · rw [if_neg hq, if_neg hq]
theorem sn_collect {x : SnG} (h : sn_gc x) {A : Nat → Nat} (hA : ∀ q, A q ≠ 0 ↔ sn_R (sn_S x.1) (sn_L x.1) q) : sn_s (fun q => if A q ≠ 0 then 1 else 0) 601 + sn_rc (sn_whole x).1 = sn_tp (sn_whole x).1 := by
  obtain ⟨b1, b2, b3, b4⟩ := sn_whole_ok h
  exact sn_tuples b1.1 (fun q => ⟨fun hq => ⟨sn_R.pos ((hA q).mp hq), (b4 q (sn_R.pos ((hA q).mp hq))).mpr ((hA q).mp hq)⟩, fun ⟨h0, hs⟩ => (hA q).mpr ((b4 q h0).mp hs)⟩)
