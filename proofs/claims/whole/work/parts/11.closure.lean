def sn_rch (R0 : Nat → Prop) (E : Nat → Nat → Prop) (q : Nat) : Prop := ∀ X : Nat → Prop, (∀ q, R0 q → X q) → (∀ p q, X p → E p q → X q) → X q
theorem sn_rch.root {R0 : Nat → Prop} {E : Nat → Nat → Prop} {q : Nat} (h : R0 q) : sn_rch R0 E q := fun _ h0 _ => h0 q h
theorem sn_rch.next {R0 : Nat → Prop} {E : Nat → Nat → Prop} {p q : Nat} (h : sn_rch R0 E p) (e : E p q) : sn_rch R0 E q := fun X h0 h1 => h1 p q (h X h0 h1) e
def sn_fin (NW BK : Nat → Prop) (E : Nat → Nat → Prop) (q : Nat) : Prop := ∀ X : Nat → Prop, (∀ q, NW q → X q) → (∀ p q, X p → ¬ BK p → E p q → X q) → X q
theorem sn_fin.nw {NW BK : Nat → Prop} {E : Nat → Nat → Prop} {q : Nat} (h : NW q) : sn_fin NW BK E q := fun _ h0 _ => h0 q h
theorem sn_fin.next {NW BK : Nat → Prop} {E : Nat → Nat → Prop} {p q : Nat} (h : sn_fin NW BK E p) (hb : ¬ BK p) (e : E p q) : sn_fin NW BK E q := fun X h0 h1 => h1 p q (h X h0 h1) hb e
theorem sn_fin_start {R0 NW BK : Nat → Prop} {E : Nat → Nat → Prop} (h1 : ∀ q, NW q ↔ R0 q) (h2 : ∀ q, ¬ BK q) (q : Nat) : sn_fin NW BK E q ↔ sn_rch R0 E q :=
  ⟨fun h => h _ (fun q hq => sn_rch.root ((h1 q).mp hq)) (fun p q hp _ e => hp.next e), fun h => h _ (fun q hq => sn_fin.nw ((h1 q).mpr hq)) (fun p q hp e => hp.next (h2 p) e)⟩
theorem sn_fin_end {NW BK : Nat → Prop} {E : Nat → Nat → Prop} (h : ∀ q, NW q → BK q) (q : Nat) : sn_fin NW BK E q ↔ NW q :=
  ⟨fun hf => hf NW (fun _ h0 => h0) (fun p _ hp hb _ => absurd (h p hp) hb), sn_fin.nw⟩
theorem sn_fin_pop {NW BK NW' BK' : Nat → Prop} {E : Nat → Nat → Prop} {g : Nat} (hg : NW g) (hgb : ¬ BK g) (hB : ∀ q, BK' q ↔ BK q ∨ q = g) (hN : ∀ q, NW' q ↔ NW q ∨ E g q) (q : Nat) :
    sn_fin NW' BK' E q ↔ sn_fin NW BK E q := by
  constructor
  · intro h
    refine h _ (fun q hq => ?_) (fun p q hp hb e => hp.next (fun h9 => hb ((hB p).mpr (Or.inl h9))) e)
    rcases (hN q).mp hq with h1 | h1
    · exact sn_fin.nw h1
    · exact (sn_fin.nw hg).next hgb h1
  · intro h
    refine h _ (fun q hq => sn_fin.nw ((hN q).mpr (Or.inl hq))) (fun p q hp hb e => ?_)
    by_cases hpg : p = g
    · exact sn_fin.nw ((hN q).mpr (Or.inr (by rw [← hpg]; exact e)))
    · refine hp.next (fun h9 => ?_) e
      rcases (hB p).mp h9 with h1 | h1
      · exact hb h1
      · exact hpg h1
theorem sn_fin_new {NW BK NW' BK' : Nat → Prop} {E E' : Nat → Nat → Prop} {g : Nat} (hB : ∀ q, BK' q ↔ BK q ∨ q = g) (hN : ∀ q, NW' q ↔ NW q ∨ q = g) (hE : ∀ p q, p ≠ g → (E' p q ↔ E p q)) (hg : ∀ q, ¬ E g q) (q : Nat) :
    sn_fin NW' BK' E' q ↔ sn_fin NW BK E q ∨ q = g := by
  constructor
  · intro h
    refine h (fun q => sn_fin NW BK E q ∨ q = g) (fun q hq => ?_) (fun p q hp hb e => ?_)
    · rcases (hN q).mp hq with h1 | h1
      · exact Or.inl (sn_fin.nw h1)
      · exact Or.inr h1
    · have hpg : p ≠ g := fun h9 => hb ((hB p).mpr (Or.inr h9))
      rcases hp with h1 | h1
      · exact Or.inl (h1.next (fun h9 => hb ((hB p).mpr (Or.inl h9))) ((hE p q hpg).mp e))
      · exact absurd h1 hpg
  · rintro (h | h)
    · refine h _ (fun q hq => sn_fin.nw ((hN q).mpr (Or.inl hq))) (fun p q hp hb e => ?_)
      have hpg : p ≠ g := fun h9 => hg q (by rw [← h9]; exact e)
      refine hp.next (fun h9 => ?_) ((hE p q hpg).mpr e)
      rcases (hB p).mp h9 with h1 | h1
      · exact hb h1
      · exact hpg h1
    · exact sn_fin.nw ((hN q).mpr (Or.inr h))
theorem sn_fin_set {NW BK NW' : Nat → Prop} {E E' : Nat → Nat → Prop} {a : Nat} {O : Nat → Prop} (hN : ∀ q, NW' q ↔ NW q ∨ O q) (hO : ∀ q, O q → sn_fin NW BK E q)
    (h1 : ∀ p q, E p q → E' p q ∨ O q) (h2 : ∀ p q, E' p q → E p q ∨ sn_fin NW BK E q) (q : Nat) : sn_fin NW' BK E' q ↔ sn_fin NW BK E q := by
  constructor
  · intro h
    refine h _ (fun q hq => ?_) (fun p q hp hb e => ?_)
    · rcases (hN q).mp hq with h3 | h3
      · exact sn_fin.nw h3
      · exact hO q h3
    · rcases h2 p q e with h3 | h3
      · exact hp.next hb h3
      · exact h3
  · intro h
    refine h _ (fun q hq => sn_fin.nw ((hN q).mpr (Or.inl hq))) (fun p q hp hb e => ?_)
    rcases h1 p q e with h3 | h3
    · exact hp.next hb h3
    · exact sn_fin.nw ((hN q).mpr (Or.inr h3))
