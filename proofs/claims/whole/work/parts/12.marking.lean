abbrev SnM : Type := (Nat → Nat) × (Nat → Nat) × Nat
def sn_shade (M : Nat) (x : SnM) (q : Nat) : SnM := if 0 < q ∧ q ≤ M ∧ x.1 q = 0 ∧ x.2.2 < M then (va_up x.1 q 1, va_up x.2.1 x.2.2 q, x.2.2 + 1) else x
def sn_shv (M : Nat) (L : Nat → Nat) (b : Nat) : Nat → SnM → SnM
  | 0, x => x
  | n + 1, x => sn_shade M (sn_shv M L b n x) (L (b + n))
def sn_black (M : Nat) (x : SnM) (q : Nat) : SnM := if 0 < q ∧ q ≤ M then (va_up x.1 q 2, x.2) else x
def sn_mark1 (M : Nat) (S : Nat → Option Nat) (L : Nat → Nat) (x : SnM) : SnM :=
  if 0 < x.2.2 then sn_shv M L (16 * x.2.1 (x.2.2 - 1)) ((S (x.2.1 (x.2.2 - 1))).getD 0) (sn_black M (x.1, x.2.1, x.2.2 - 1) (x.2.1 (x.2.2 - 1))) else x
def sn_grey (C : Nat → Nat) : Nat → Nat := fun q => if C q = 1 then 1 else 0
def sn_wl (M : Nat) (x : SnM) : Prop := x.1 0 = 0 ∧ (∀ i, i < x.2.2 → x.1 (x.2.1 i) = 1 ∧ 0 < x.2.1 i ∧ x.2.1 i ≤ M) ∧ (∀ i j, i < x.2.2 → j < x.2.2 → x.2.1 i = x.2.1 j → i = j) ∧
  (∀ q, x.1 q = 1 → ∃ i, i < x.2.2 ∧ x.2.1 i = q) ∧ x.2.2 = sn_s (sn_grey x.1) (M + 1)
theorem sn_s_const : ∀ n : Nat, sn_s (fun _ => 1) n = n
  | 0 => rfl
  | n + 1 => by rw [sn_s_succ, sn_s_const n]
theorem sn_grey_le (C : Nat → Nat) (q : Nat) : sn_grey C q ≤ 1 := by unfold sn_grey; split <;> omega
theorem sn_wl.room {M : Nat} {x : SnM} (h : sn_wl M x) {q : Nat} (h0 : 0 < q) (h6 : q ≤ M) (hq : x.1 q = 0) : x.2.2 < M := by
  obtain ⟨h1, -, -, -, h5⟩ := h
  have a1 := sn_s_up (f := fun _ => 1) (k := 0) (v := 0) (n := M + 1) (by omega)
  have a2 := sn_s_up (f := va_up (fun _ => 1) 0 0) (k := q) (v := 0) (n := M + 1) (by omega)
  have a3 : va_up (fun _ => 1) 0 0 q = 1 := va_up_ne (fun _ => 1) 0 (by omega)
  have a4 : sn_s (sn_grey x.1) (M + 1) ≤ sn_s (va_up (va_up (fun _ => 1) 0 0) q 0) (M + 1) := sn_s_le (fun k _ => by
    by_cases e : k = q
    · rw [e, va_up_self]; unfold sn_grey; rw [if_neg (by rw [hq]; decide)]; exact Nat.le_refl _
    · rw [va_up_ne _ 0 e]
      by_cases e0 : k = 0
      · rw [e0, va_up_self]; unfold sn_grey; rw [if_neg (by rw [h1]; decide)]; exact Nat.le_refl _
      · rw [va_up_ne _ 0 e0]; exact sn_grey_le _ _)
  rw [sn_s_const] at a1
  rw [a3] at a2
  have a5 : (fun _ => 1 : Nat → Nat) 0 = 1 := rfl
  try rw [a5] at a1
  omega
theorem sn_grey_up (C : Nat → Nat) (q v : Nat) : sn_grey (va_up C q v) = va_up (sn_grey C) q (if v = 1 then 1 else 0) := by
  funext j
  unfold sn_grey
  by_cases e : j = q
  · rw [e, va_up_self, va_up_self]
  · rw [va_up_ne C v e, va_up_ne _ _ e]
theorem sn_shade_wl {M : Nat} {x : SnM} (h : sn_wl M x) (q : Nat) (h6 : q ≤ M) : sn_wl M (sn_shade M x q) ∧ (∀ k, (sn_shade M x q).1 k ≠ 0 ↔ x.1 k ≠ 0 ∨ (k = q ∧ 0 < q)) ∧ (∀ k, (sn_shade M x q).1 k = 2 ↔ x.1 k = 2) ∧ (∀ k, x.1 k ≤ 2 → (sn_shade M x q).1 k ≤ 2) := by
  unfold sn_shade
  by_cases hc : 0 < q ∧ q ≤ M ∧ x.1 q = 0 ∧ x.2.2 < M
  · rw [if_pos hc]
    obtain ⟨h0, -, hq, hw⟩ := hc
    obtain ⟨g1, g2, g3, g4, g5⟩ := h
    have ne : ∀ i, i < x.2.2 → x.2.1 i ≠ q := fun i hi e => by have := (g2 i hi).1; rw [e, hq] at this; omega
    refine ⟨⟨?_, fun i hi => ?_, fun i j hi hj e => ?_, fun k hk => ?_, ?_⟩, fun k => ?_, fun k => ?_, fun k hk => ?_⟩
    · show va_up x.1 q 1 0 = 0
      rw [va_up_ne x.1 1 (by omega)]; exact g1
    · show va_up x.1 q 1 (va_up x.2.1 x.2.2 q i) = 1 ∧ 0 < va_up x.2.1 x.2.2 q i ∧ va_up x.2.1 x.2.2 q i ≤ M
      have hi : i < x.2.2 + 1 := hi
      by_cases e : i = x.2.2
      · rw [e, va_up_self, va_up_self]; exact ⟨rfl, h0, h6⟩
      · rw [va_up_ne x.2.1 q e, va_up_ne x.1 1 (ne i (by omega))]; exact g2 i (by omega)
    · have hi : i < x.2.2 + 1 := hi
      have hj : j < x.2.2 + 1 := hj
      have e : va_up x.2.1 x.2.2 q i = va_up x.2.1 x.2.2 q j := e
      by_cases ei : i = x.2.2 <;> by_cases ej : j = x.2.2
      · omega
      · rw [ei, va_up_self, va_up_ne x.2.1 q ej] at e
        exact absurd e.symm (ne j (by omega))
      · rw [ej, va_up_self, va_up_ne x.2.1 q ei] at e
        exact absurd e (ne i (by omega))
      · rw [va_up_ne x.2.1 q ei, va_up_ne x.2.1 q ej] at e
        exact g3 i j (by omega) (by omega) e
    · have hk : va_up x.1 q 1 k = 1 := hk
      show ∃ i, i < x.2.2 + 1 ∧ va_up x.2.1 x.2.2 q i = k
      by_cases e : k = q
      · exact ⟨x.2.2, by omega, by rw [va_up_self]; exact e.symm⟩
      · rw [va_up_ne x.1 1 e] at hk
        obtain ⟨i, hi, he⟩ := g4 k hk
        exact ⟨i, by omega, by rw [va_up_ne x.2.1 q (by omega)]; exact he⟩
    · show x.2.2 + 1 = sn_s (sn_grey (va_up x.1 q 1)) (M + 1)
      rw [sn_grey_up]
      have a1 := sn_s_up (f := sn_grey x.1) (k := q) (v := 1) (n := M + 1) (by omega)
      have a2 : sn_grey x.1 q = 0 := by unfold sn_grey; rw [if_neg (by rw [hq]; decide)]
      rw [if_pos rfl]
      omega
    · show va_up x.1 q 1 k ≠ 0 ↔ _
      by_cases e : k = q
      · rw [e, va_up_self]; exact ⟨fun _ => Or.inr ⟨rfl, h0⟩, fun _ => by decide⟩
      · rw [va_up_ne x.1 1 e]; exact ⟨Or.inl, fun h9 => h9.elim id (fun h8 => absurd h8.1 e)⟩
    · show va_up x.1 q 1 k = 2 ↔ _
      by_cases e : k = q
      · rw [e, va_up_self, hq]; exact ⟨fun h9 => by omega, fun h9 => by omega⟩
      · rw [va_up_ne x.1 1 e]
    · show va_up x.1 q 1 k ≤ 2
      by_cases e : k = q
      · rw [e, va_up_self]; decide
      · rw [va_up_ne x.1 1 e]; exact hk
  · rw [if_neg hc]
    refine ⟨h, fun k => ⟨Or.inl, fun h9 => h9.elim id (fun h8 => ?_)⟩, fun k => Iff.rfl, fun k hk => hk⟩
    obtain ⟨rfl, h0⟩ := h8
    intro hk
    exact hc ⟨h0, h6, hk, h.room h0 h6 hk⟩
theorem sn_shv_wl {M : Nat} {x : SnM} (h : sn_wl M x) {L : Nat → Nat} (hL : ∀ s, L s ≤ M) (b : Nat) : ∀ n : Nat, sn_wl M (sn_shv M L b n x) ∧ (∀ k, (sn_shv M L b n x).1 k ≠ 0 ↔ x.1 k ≠ 0 ∨ ∃ i, i < n ∧ L (b + i) = k ∧ 0 < k) ∧ (∀ k, (sn_shv M L b n x).1 k = 2 ↔ x.1 k = 2) ∧ (∀ k, x.1 k ≤ 2 → (sn_shv M L b n x).1 k ≤ 2)
  | 0 => ⟨h, fun k => ⟨Or.inl, fun h9 => h9.elim id (fun ⟨i, hi, _⟩ => absurd hi (Nat.not_lt_zero _))⟩, fun _ => Iff.rfl, fun _ hk => hk⟩
  | n + 1 => by
    obtain ⟨a1, a2, a3, a4⟩ := sn_shv_wl h hL b n
    obtain ⟨b1, b2, b3, b4⟩ := sn_shade_wl a1 (L (b + n)) (hL _)
    refine ⟨b1, fun k => ?_, fun k => (b3 k).trans (a3 k), fun k hk => b4 k (a4 k hk)⟩
    constructor
    · intro h9
      rcases (b2 k).mp h9 with h8 | ⟨h8, h7⟩
      · rcases (a2 k).mp h8 with h6 | ⟨i, hi, h6⟩
        · exact Or.inl h6
        · exact Or.inr ⟨i, by omega, h6⟩
      · exact Or.inr ⟨n, by omega, h8.symm, by rw [h8]; exact h7⟩
    · rintro (h9 | ⟨i, hi, h8, h7⟩)
      · exact (b2 k).mpr (Or.inl ((a2 k).mpr (Or.inl h9)))
      · by_cases e : i = n
        · subst e
          exact (b2 k).mpr (Or.inr ⟨h8.symm, by rw [h8]; exact h7⟩)
        · exact (b2 k).mpr (Or.inl ((a2 k).mpr (Or.inr ⟨i, by omega, h8, h7⟩)))
theorem sn_mark1_wl {M : Nat} {x : SnM} (h : sn_wl M x) (hw : 0 < x.2.2) {S : Nat → Option Nat} {L : Nat → Nat} (hL : ∀ s, L s ≤ M) : ∃ g, x.1 g = 1 ∧ 0 < g ∧ g ≤ M ∧ sn_wl M (sn_mark1 M S L x) ∧
    (∀ k, (sn_mark1 M S L x).1 k ≠ 0 ↔ x.1 k ≠ 0 ∨ ∃ i, i < (S g).getD 0 ∧ L (16 * g + i) = k ∧ 0 < k) ∧ (∀ k, (sn_mark1 M S L x).1 k = 2 ↔ x.1 k = 2 ∨ k = g) ∧ ((∀ k, x.1 k ≤ 2) → ∀ k, (sn_mark1 M S L x).1 k ≤ 2) := by
  obtain ⟨g1, g2, g3, g4, g5⟩ := h
  obtain ⟨c1, c0, c6⟩ := g2 (x.2.2 - 1) (by omega)
  refine ⟨x.2.1 (x.2.2 - 1), c1, c0, c6, ?_⟩
  unfold sn_mark1
  rw [if_pos hw]
  unfold sn_black
  rw [if_pos ⟨c0, c6⟩]
  generalize hg : x.2.1 (x.2.2 - 1) = g at c1 c0 c6 ⊢
  have hb : sn_wl M (va_up x.1 g 2, x.2.1, x.2.2 - 1) := by
    refine ⟨?_, fun i hi => ?_, fun i j hi hj e => ?_, fun k hk => ?_, ?_⟩
    · show va_up x.1 g 2 0 = 0
      rw [va_up_ne x.1 2 (by omega)]; exact g1
    · have hi : i < x.2.2 - 1 := hi
      show va_up x.1 g 2 (x.2.1 i) = 1 ∧ 0 < x.2.1 i ∧ x.2.1 i ≤ M
      have ne : x.2.1 i ≠ g := fun e => by have := g3 i (x.2.2 - 1) (by omega) (by omega) (by rw [e, hg]); omega
      rw [va_up_ne x.1 2 ne]; exact g2 i (by omega)
    · have hi : i < x.2.2 - 1 := hi
      have hj : j < x.2.2 - 1 := hj
      exact g3 i j (by omega) (by omega) e
    · have hk : va_up x.1 g 2 k = 1 := hk
      show ∃ i, i < x.2.2 - 1 ∧ x.2.1 i = k
      by_cases e : k = g
      · rw [e, va_up_self] at hk; omega
      · rw [va_up_ne x.1 2 e] at hk
        obtain ⟨i, hi, he⟩ := g4 k hk
        have : i ≠ x.2.2 - 1 := fun e2 => e (by rw [← he, e2, hg])
        exact ⟨i, by omega, he⟩
    · show x.2.2 - 1 = sn_s (sn_grey (va_up x.1 g 2)) (M + 1)
      rw [sn_grey_up]
      have a1 := sn_s_up (f := sn_grey x.1) (k := g) (v := if (2 : Nat) = 1 then 1 else 0) (n := M + 1) (by omega)
      have a2 : sn_grey x.1 g = 1 := by unfold sn_grey; rw [if_pos c1]
      have a3 : (if (2 : Nat) = 1 then 1 else 0) = 0 := rfl
      rw [a3] at a1 ⊢
      omega
  obtain ⟨d1, d2, d3, d4⟩ := sn_shv_wl hb hL (16 * g) ((S g).getD 0)
  refine ⟨d1, fun k => (d2 k).trans ?_, fun k => (d3 k).trans ?_, fun h9 k => d4 k ?_⟩
  · show va_up x.1 g 2 k ≠ 0 ∨ _ ↔ _
    by_cases e : k = g
    · rw [e, va_up_self]; exact ⟨fun _ => Or.inl (by rw [c1]; decide), fun _ => Or.inl (by decide)⟩
    · rw [va_up_ne x.1 2 e]
  · show va_up x.1 g 2 k = 2 ↔ _
    by_cases e : k = g
    · rw [e, va_up_self]; exact ⟨fun _ => Or.inr rfl, fun _ => rfl⟩
    · rw [va_up_ne x.1 2 e]; exact ⟨Or.inl, fun h9 => h9.elim id (fun h8 => absurd h8 e)⟩
  · show va_up x.1 g 2 k ≤ 2
    by_cases e : k = g
    · rw [e, va_up_self]; exact Nat.le_refl _
    · rw [va_up_ne x.1 2 e]; exact h9 k
theorem sn_black_wl {M : Nat} {x : SnM} (h : sn_wl M x) {p : Nat} (h0 : 0 < p) (h6 : p ≤ M) (hp : x.1 p = 0) : sn_wl M (sn_black M x p) ∧ (sn_black M x p).1 = va_up x.1 p 2 := by
  obtain ⟨g1, g2, g3, g4, g5⟩ := h
  unfold sn_black
  rw [if_pos ⟨h0, h6⟩]
  refine ⟨⟨?_, fun i hi => ?_, g3, fun k hk => ?_, ?_⟩, rfl⟩
  · show va_up x.1 p 2 0 = 0
    rw [va_up_ne x.1 2 (by omega)]; exact g1
  · show va_up x.1 p 2 (x.2.1 i) = 1 ∧ 0 < x.2.1 i ∧ x.2.1 i ≤ M
    have ne : x.2.1 i ≠ p := fun e => by have := (g2 i hi).1; rw [e, hp] at this; omega
    rw [va_up_ne x.1 2 ne]; exact g2 i hi
  · have hk : va_up x.1 p 2 k = 1 := hk
    by_cases e : k = p
    · rw [e, va_up_self] at hk; omega
    · rw [va_up_ne x.1 2 e] at hk; exact g4 k hk
  · show x.2.2 = sn_s (sn_grey (va_up x.1 p 2)) (M + 1)
    rw [sn_grey_up]
    have a1 := sn_s_up (f := sn_grey x.1) (k := p) (v := if (2 : Nat) = 1 then 1 else 0) (n := M + 1) (by omega)
    have a2 : sn_grey x.1 p = 0 := by unfold sn_grey; rw [if_neg (by rw [hp]; decide)]
    have a3 : (if (2 : Nat) = 1 then 1 else 0) = 0 := rfl
    rw [a3] at a1 ⊢
    omega
