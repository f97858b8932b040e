abbrev SnS : Type := (Nat → Option Nat) × (Nat → Nat) × (Nat → Int64) × (Nat → Nat) × Nat × Nat × Nat
abbrev sn_S (x : SnS) : Nat → Option Nat := x.1
abbrev sn_L (x : SnS) : Nat → Nat := x.2.1
abbrev sn_Nm (x : SnS) : Nat → Int64 := x.2.2.1
abbrev sn_rl (x : SnS) : Nat → Nat := x.2.2.2.1
abbrev sn_rc (x : SnS) : Nat := x.2.2.2.2.1
abbrev sn_tp (x : SnS) : Nat := x.2.2.2.2.2.1
abbrev sn_uc (x : SnS) : Nat := x.2.2.2.2.2.2
def sn_sz (S : Nat → Option Nat) (p : Nat) : Nat := (S p).getD 0
def sn_cel (S : Nat → Option Nat) : Nat → Nat := fun p => if p = 0 then 0 else match S p with | none => 0 | some n => n + 2
def sn_fre (S : Nat → Option Nat) : Nat → Nat := fun p => if p = 0 then 0 else match S p with | none => 1 | some _ => 0
def sn_use (S : Nat → Option Nat) : Nat → Nat := fun p => if p = 0 then 0 else match S p with | none => 0 | some _ => 1
theorem sn_cel_up (S : Nat → Option Nat) {p : Nat} (hp : 0 < p) (v : Option Nat) : sn_cel (va_up S p v) = va_up (sn_cel S) p (match v with | none => 0 | some n => n + 2) := by
  funext j
  by_cases e : j = p
  · rw [e, va_up_self]
    unfold sn_cel
    rw [if_neg (by omega), va_up_self]
  · rw [va_up_ne _ _ e]
    unfold sn_cel
    rw [va_up_ne S v e]
theorem sn_fre_up (S : Nat → Option Nat) {p : Nat} (hp : 0 < p) (v : Option Nat) : sn_fre (va_up S p v) = va_up (sn_fre S) p (match v with | none => 1 | some _ => 0) := by
  funext j
  by_cases e : j = p
  · rw [e, va_up_self]
    unfold sn_fre
    rw [if_neg (by omega), va_up_self]
  · rw [va_up_ne _ _ e]
    unfold sn_fre
    rw [va_up_ne S v e]
theorem sn_cel_none {S : Nat → Option Nat} {p : Nat} (h : S p = none) : sn_cel S p = 0 := by
  unfold sn_cel; rw [h]; split <;> rfl
theorem sn_cel_some {S : Nat → Option Nat} {p n : Nat} (hp : 0 < p) (h : S p = some n) : sn_cel S p = n + 2 := by
  unfold sn_cel; rw [h, if_neg (by omega)]
theorem sn_fre_none {S : Nat → Option Nat} {p : Nat} (hp : 0 < p) (h : S p = none) : sn_fre S p = 1 := by
  unfold sn_fre; rw [h, if_neg (by omega)]
theorem sn_fre_some {S : Nat → Option Nat} {p n : Nat} (h : S p = some n) : sn_fre S p = 0 := by
  unfold sn_fre; rw [h]; split <;> rfl
theorem sn_fre_le (S : Nat → Option Nat) (p : Nat) : sn_fre S p ≤ 1 := by
  unfold sn_fre; split
  · omega
  · cases S p <;> simp
def sn_st (x : SnS) : Prop :=
  sn_S x 0 = some 16 ∧ (∀ p n, sn_S x p = some n → n ≤ 16 ∧ p ≤ sn_tp x) ∧ sn_tp x ≤ 600 ∧ (∀ s, sn_L x s ≤ 600) ∧ sn_uc x = sn_s (sn_cel (sn_S x)) 601 ∧ sn_uc x ≤ 1200 ∧ sn_rc x = sn_s (sn_fre (sn_S x)) (sn_tp x + 1) ∧
  (∀ i, i < sn_rc x → 0 < sn_rl x i ∧ sn_rl x i ≤ sn_tp x ∧ sn_S x (sn_rl x i) = none) ∧ (∀ i j, i < sn_rc x → j < sn_rc x → sn_rl x i = sn_rl x j → i = j) ∧ (∀ p, 0 < p → p ≤ sn_tp x → sn_S x p = none → ∃ i, i < sn_rc x ∧ sn_rl x i = p)
theorem sn_s_mul (c : Nat) : ∀ n : Nat, sn_s (fun _ => c) n = c * n
  | 0 => rfl
  | n + 1 => by rw [sn_s_succ, sn_s_mul c n, Nat.mul_add, Nat.mul_one]
def sn_release (x : SnS) (p : Nat) : SnS :=
  if 0 < p ∧ p ≤ 600 ∧ sn_rc x < 600 then (va_up (sn_S x) p none, sn_L x, sn_Nm x, va_up (sn_rl x) (sn_rc x) p, sn_rc x + 1, sn_tp x, sn_uc x - (sn_sz (sn_S x) p + 2)) else x
theorem sn_st.room {x : SnS} (h : sn_st x) {p n : Nat} (hp : 0 < p) (hs : sn_S x p = some n) : sn_rc x < 600 := by
  obtain ⟨h0, h1, h2, -, -, -, h6, -⟩ := h
  have hpt := (h1 p n hs).2
  have a1 := sn_s_up (f := fun _ => 1) (k := 0) (v := 0) (n := sn_tp x + 1) (by omega)
  have a2 := sn_s_up (f := va_up (fun _ => 1) 0 0) (k := p) (v := 0) (n := sn_tp x + 1) (by omega)
  have a3 : va_up (fun _ => 1) 0 0 p = 1 := va_up_ne (fun _ => 1) 0 (by omega)
  have a4 : sn_s (sn_fre (sn_S x)) (sn_tp x + 1) ≤ sn_s (va_up (va_up (fun _ => 1) 0 0) p 0) (sn_tp x + 1) := sn_s_le (fun k _ => by
    by_cases e : k = p
    · rw [e, va_up_self, sn_fre_some hs]; exact Nat.le_refl _
    · rw [va_up_ne _ 0 e]
      by_cases e0 : k = 0
      · rw [e0, va_up_self, sn_fre_some h0]; exact Nat.le_refl _
      · rw [va_up_ne _ 0 e0]; exact sn_fre_le _ _)
  rw [sn_s_const] at a1
  rw [a3] at a2
  have a5 : (fun _ => 1 : Nat → Nat) 0 = 1 := rfl
  try rw [a5] at a1
  omega
theorem sn_release_eq {x : SnS} (h : sn_st x) {p n : Nat} (hp : 0 < p) (hs : sn_S x p = some n) :
    sn_release x p = (va_up (sn_S x) p none, sn_L x, sn_Nm x, va_up (sn_rl x) (sn_rc x) p, sn_rc x + 1, sn_tp x, sn_uc x - (n + 2)) := by
  have hr := h.room hp hs
  have hpt := (h.2.1 p n hs).2
  have h2 := h.2.2.1
  unfold sn_release
  rw [if_pos ⟨hp, by omega, hr⟩]
  unfold sn_sz
  rw [hs]
  rfl
theorem sn_release_st {x : SnS} (h : sn_st x) {p n : Nat} (hp : 0 < p) (hs : sn_S x p = some n) : sn_st (sn_release x p) := by
  rw [sn_release_eq h hp hs]
  obtain ⟨h0, h1, h2, h3, h4, h5, h6, h7, h8, h9⟩ := h
  have hpt := (h1 p n hs).2
  have ne : ∀ i, i < sn_rc x → sn_rl x i ≠ p := fun i hi e => by have := (h7 i hi).2.2; rw [e, hs] at this; cases this
  refine ⟨?_, fun q k hq => ?_, h2, h3, ?_, ?_, ?_, fun i hi => ?_, fun i j hi hj e => ?_, fun q hq0 hqt hq => ?_⟩
  · show va_up (sn_S x) p none 0 = some 16
    rw [va_up_ne _ _ (by omega)]; exact h0
  · have hq : va_up (sn_S x) p none q = some k := hq
    by_cases e : q = p
    · rw [e, va_up_self] at hq; cases hq
    · rw [va_up_ne _ _ e] at hq; exact h1 q k hq
  · show sn_uc x - (n + 2) = sn_s (sn_cel (va_up (sn_S x) p none)) 601
    rw [sn_cel_up _ hp]
    have a1 := sn_s_up (f := sn_cel (sn_S x)) (k := p) (v := 0) (n := 601) (by omega)
    rw [sn_cel_some hp hs] at a1
    show sn_uc x - (n + 2) = sn_s (va_up (sn_cel (sn_S x)) p 0) 601
    omega
  · show sn_uc x - (n + 2) ≤ 1200
    omega
  · show sn_rc x + 1 = sn_s (sn_fre (va_up (sn_S x) p none)) (sn_tp x + 1)
    rw [sn_fre_up _ hp]
    have a1 := sn_s_up (f := sn_fre (sn_S x)) (k := p) (v := 1) (n := sn_tp x + 1) (by omega)
    rw [sn_fre_some hs] at a1
    show sn_rc x + 1 = sn_s (va_up (sn_fre (sn_S x)) p 1) (sn_tp x + 1)
    omega
  · have hi : i < sn_rc x + 1 := hi
    show 0 < va_up (sn_rl x) (sn_rc x) p i ∧ va_up (sn_rl x) (sn_rc x) p i ≤ sn_tp x ∧ va_up (sn_S x) p none (va_up (sn_rl x) (sn_rc x) p i) = none
    by_cases e : i = sn_rc x
    · rw [e, va_up_self, va_up_self]; exact ⟨hp, hpt, rfl⟩
    · rw [va_up_ne _ _ e, va_up_ne _ _ (ne i (by omega))]; exact h7 i (by omega)
  · have hi : i < sn_rc x + 1 := hi
    have hj : j < sn_rc x + 1 := hj
    have e : va_up (sn_rl x) (sn_rc x) p i = va_up (sn_rl x) (sn_rc x) p j := e
    by_cases ei : i = sn_rc x <;> by_cases ej : j = sn_rc x
    · omega
    · rw [ei, va_up_self, va_up_ne _ _ ej] at e
      exact absurd e.symm (ne j (by omega))
    · rw [ej, va_up_self, va_up_ne _ _ ei] at e
      exact absurd e (ne i (by omega))
    · rw [va_up_ne _ _ ei, va_up_ne _ _ ej] at e
      exact h8 i j (by omega) (by omega) e
  · have hq : va_up (sn_S x) p none q = none := hq
    show ∃ i, i < sn_rc x + 1 ∧ va_up (sn_rl x) (sn_rc x) p i = q
    by_cases e : q = p
    · exact ⟨sn_rc x, by omega, by rw [va_up_self]; exact e.symm⟩
    · rw [va_up_ne _ _ e] at hq
      obtain ⟨i, hi, he⟩ := h9 q hq0 hqt hq
      exact ⟨i, by omega, by rw [va_up_ne _ _ (by omega)]; exact he⟩
def sn_pl (x : SnS) : Nat := if 0 < sn_rc x then sn_rl x (sn_rc x - 1) else sn_tp x + 1
def sn_clr {α : Type} (f : Nat → α) (b n : Nat) (z : α) : Nat → α := fun j => if b ≤ j ∧ j < b + n then z else f j
def sn_take (x : SnS) (n : Nat) : SnS :=
  (va_up (sn_S x) (sn_pl x) (some n), sn_clr (sn_L x) (16 * sn_pl x) n 0, sn_clr (sn_Nm x) (16 * sn_pl x) n 0, sn_rl x, sn_rc x - 1, if 0 < sn_rc x then sn_tp x else sn_tp x + 1, sn_uc x + (n + 2))
theorem sn_pl_ok {x : SnS} (h : sn_st x) {n : Nat} (hr : sn_uc x + n + 2 ≤ 1200) : 0 < sn_pl x ∧ sn_pl x ≤ 600 ∧ sn_S x (sn_pl x) = none := by
  obtain ⟨h0, h1, h2, h3, h4, h5, h6, h7, h8, h9⟩ := h
  unfold sn_pl
  by_cases hc : 0 < sn_rc x
  · rw [if_pos hc]
    obtain ⟨a, b, c⟩ := h7 (sn_rc x - 1) (by omega)
    exact ⟨a, by omega, c⟩
  · rw [if_neg hc]
    have hu : ∀ k, k < sn_tp x + 1 → 0 < k → 2 ≤ sn_cel (sn_S x) k := fun k hk h0k => by
      have a := sn_s_one (f := sn_fre (sn_S x)) (k := k) hk
      cases hs : sn_S x k with
      | none => rw [sn_fre_none h0k hs] at a; omega
      | some n => rw [sn_cel_some h0k hs]; omega
    have a1 := sn_s_up (f := fun _ => 2) (k := 0) (v := 0) (n := sn_tp x + 1) (by omega)
    have a2 : sn_s (va_up (fun _ => 2) 0 0) (sn_tp x + 1) ≤ sn_s (sn_cel (sn_S x)) (sn_tp x + 1) := sn_s_le (fun k hk => by
      by_cases e0 : k = 0
      · rw [e0, va_up_self]; exact Nat.zero_le _
      · rw [va_up_ne _ 0 e0]; exact hu k hk (by omega))
    have a3 := sn_s_mono (f := sn_cel (sn_S x)) (n := sn_tp x + 1) (m := 601) (by omega)
    rw [sn_s_mul] at a1
    have a5 : (fun _ => 2 : Nat → Nat) 0 = 2 := rfl
    try rw [a5] at a1
    refine ⟨by omega, by omega, ?_⟩
    cases hs : sn_S x (sn_tp x + 1) with
    | none => rfl
    | some k => have := (h1 _ _ hs).2; omega
theorem sn_take_st {x : SnS} (h : sn_st x) {n : Nat} (hn : n ≤ 16) (hr : sn_uc x + n + 2 ≤ 1200) : sn_st (sn_take x n) := by
  obtain ⟨p0, p6, ps⟩ := sn_pl_ok h hr
  obtain ⟨h0, h1, h2, h3, h4, h5, h6, h7, h8, h9⟩ := h
  have htp : sn_tp x ≤ (if 0 < sn_rc x then sn_tp x else sn_tp x + 1) := by split <;> omega
  have hpt : sn_pl x ≤ (if 0 < sn_rc x then sn_tp x else sn_tp x + 1) := by
    unfold sn_pl
    by_cases hc : 0 < sn_rc x
    · rw [if_pos hc, if_pos hc]; exact (h7 (sn_rc x - 1) (by omega)).2.1
    · rw [if_neg hc, if_neg hc]; exact Nat.le_refl _
  refine ⟨?_, fun q k hq => ?_, ?_, fun s => ?_, ?_, ?_, ?_, fun i hi => ?_, fun i j hi hj e => ?_, fun q hq0 hqt hq => ?_⟩
  · show va_up (sn_S x) (sn_pl x) (some n) 0 = some 16
    rw [va_up_ne _ _ (by omega)]; exact h0
  · have hq : va_up (sn_S x) (sn_pl x) (some n) q = some k := hq
    show k ≤ 16 ∧ q ≤ (if 0 < sn_rc x then sn_tp x else sn_tp x + 1)
    by_cases e : q = sn_pl x
    · rw [e, va_up_self] at hq; cases hq
      exact ⟨hn, by rw [e]; exact hpt⟩
    · rw [va_up_ne _ _ e] at hq
      have := h1 q k hq
      exact ⟨this.1, by omega⟩
  · show (if 0 < sn_rc x then sn_tp x else sn_tp x + 1) ≤ 600
    by_cases hc : 0 < sn_rc x
    · rw [if_pos hc]; exact h2
    · rw [if_neg hc]
      have e : sn_pl x = sn_tp x + 1 := by unfold sn_pl; rw [if_neg hc]
      omega
  · show sn_clr (sn_L x) (16 * sn_pl x) n 0 s ≤ 600
    unfold sn_clr
    split
    · omega
    · exact h3 s
  · show sn_uc x + (n + 2) = sn_s (sn_cel (va_up (sn_S x) (sn_pl x) (some n))) 601
    rw [sn_cel_up _ p0]
    have a1 := sn_s_up (f := sn_cel (sn_S x)) (k := sn_pl x) (v := n + 2) (n := 601) (by omega)
    rw [sn_cel_none ps] at a1
    show sn_uc x + (n + 2) = sn_s (va_up (sn_cel (sn_S x)) (sn_pl x) (n + 2)) 601
    omega
  · show sn_uc x + (n + 2) ≤ 1200
    omega
  · show sn_rc x - 1 = sn_s (sn_fre (va_up (sn_S x) (sn_pl x) (some n))) ((if 0 < sn_rc x then sn_tp x else sn_tp x + 1) + 1)
    rw [sn_fre_up _ p0]
    show sn_rc x - 1 = sn_s (va_up (sn_fre (sn_S x)) (sn_pl x) 0) ((if 0 < sn_rc x then sn_tp x else sn_tp x + 1) + 1)
    have a1 := sn_s_up (f := sn_fre (sn_S x)) (k := sn_pl x) (v := 0) (n := (if 0 < sn_rc x then sn_tp x else sn_tp x + 1) + 1) (by omega)
    rw [sn_fre_none p0 ps] at a1
    by_cases hc : 0 < sn_rc x
    · rw [if_pos hc] at a1 ⊢; omega
    · rw [if_neg hc] at a1 ⊢
      have e : sn_pl x = sn_tp x + 1 := by unfold sn_pl; rw [if_neg hc]
      have a2 := sn_s_succ (sn_fre (sn_S x)) (sn_tp x + 1)
      rw [← e, sn_fre_none p0 ps, e] at a2
      omega
  · have hi : i < sn_rc x - 1 := hi
    show 0 < sn_rl x i ∧ sn_rl x i ≤ (if 0 < sn_rc x then sn_tp x else sn_tp x + 1) ∧ va_up (sn_S x) (sn_pl x) (some n) (sn_rl x i) = none
    have ne : sn_rl x i ≠ sn_pl x := fun e => by
      unfold sn_pl at e
      rw [if_pos (by omega)] at e
      have := h8 i (sn_rc x - 1) (by omega) (by omega) e
      omega
    obtain ⟨b1, b2, b3⟩ := h7 i (by omega)
    exact ⟨b1, by omega, by rw [va_up_ne _ _ ne]; exact b3⟩
  · have hi : i < sn_rc x - 1 := hi
    have hj : j < sn_rc x - 1 := hj
    exact h8 i j (by omega) (by omega) e
  · have hq : va_up (sn_S x) (sn_pl x) (some n) q = none := hq
    have hqt : q ≤ (if 0 < sn_rc x then sn_tp x else sn_tp x + 1) := hqt
    show ∃ i, i < sn_rc x - 1 ∧ sn_rl x i = q
    have e : q ≠ sn_pl x := fun e => by rw [e, va_up_self] at hq; cases hq
    rw [va_up_ne _ _ e] at hq
    have hqt2 : q ≤ sn_tp x := by
      by_cases hc : 0 < sn_rc x
      · rw [if_pos hc] at hqt; exact hqt
      · rw [if_neg hc] at hqt
        have e2 : sn_pl x = sn_tp x + 1 := by unfold sn_pl; rw [if_neg hc]
        omega
    obtain ⟨i, hi, he⟩ := h9 q hq0 hqt2 hq
    have ne : i ≠ sn_rc x - 1 := fun e2 => e (by unfold sn_pl; rw [if_pos (by omega), ← e2]; exact he.symm)
    exact ⟨i, by omega, he⟩
