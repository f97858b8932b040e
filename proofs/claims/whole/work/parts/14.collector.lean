def sn_E (S : Nat → Option Nat) (L : Nat → Nat) (p q : Nat) : Prop := 0 < p ∧ ∃ i, i < sn_sz S p ∧ L (16 * p + i) = q ∧ 0 < q
def sn_R0 (L : Nat → Nat) (q : Nat) : Prop := ∃ r, r < 16 ∧ L r = q ∧ 0 < q
abbrev sn_R (S : Nat → Option Nat) (L : Nat → Nat) (q : Nat) : Prop := sn_rch (sn_R0 L) (sn_E S L) q
abbrev sn_F (S : Nat → Option Nat) (L C : Nat → Nat) (q : Nat) : Prop := sn_fin (fun q => C q ≠ 0) (fun q => C q = 2) (sn_E S L) q
theorem sn_R.pos {S : Nat → Option Nat} {L : Nat → Nat} {q : Nat} (h : sn_R S L q) : 0 < q := h (fun q => 0 < q) (fun _ ⟨_, _, _, h⟩ => h) (fun _ _ _ ⟨_, _, _, _, h⟩ => h)
abbrev SnG : Type := SnS × SnM × Nat × Nat
abbrev sn_C (x : SnG) : Nat → Nat := x.2.1.1
def sn_g0 (x : SnG) : Prop := x.2.2.1 = 0 ∧ (∀ q, sn_C x q = 0) ∧ x.2.1.2.2 = 0
def sn_g1 (x : SnG) : Prop := x.2.2.1 = 1 ∧ sn_wl 600 x.2.1 ∧ (∀ q, sn_C x q ≤ 2) ∧ (∀ q, sn_R (sn_S x.1) (sn_L x.1) q → sn_F (sn_S x.1) (sn_L x.1) (sn_C x) q) ∧ (∀ q, sn_F (sn_S x.1) (sn_L x.1) (sn_C x) q → sn_S x.1 q ≠ none) ∧
  (∀ p q, sn_C x p = 2 → sn_E (sn_S x.1) (sn_L x.1) p q → sn_F (sn_S x.1) (sn_L x.1) (sn_C x) q)
def sn_g2 (x : SnG) : Prop := x.2.2.1 = 2 ∧ x.2.1.2.2 = 0 ∧ 1 ≤ x.2.2.2 ∧ (x.2.2.2 ≤ sn_tp x.1 ∨ x.2.2.2 = 1) ∧ (∀ q, sn_C x q = 0 ∨ sn_C x q = 2) ∧ (∀ q, q < x.2.2.2 → sn_C x q = 0) ∧ (∀ q, sn_C x q = 2 → sn_S x.1 q ≠ none) ∧
  (∀ q, sn_R (sn_S x.1) (sn_L x.1) q → x.2.2.2 ≤ q → sn_C x q = 2)
def sn_gc (x : SnG) : Prop := sn_st x.1 ∧ (∀ q, sn_R (sn_S x.1) (sn_L x.1) q → sn_S x.1 q ≠ none) ∧ (sn_g0 x ∨ sn_g1 x ∨ sn_g2 x)
def sn_keep (x y : SnS) : Prop := sn_L y = sn_L x ∧ sn_Nm y = sn_Nm x ∧ sn_tp y = sn_tp x ∧ sn_S y 0 = sn_S x 0 ∧ ∀ q, sn_S y q = sn_S x q ∨ (sn_S y q = none ∧ ¬ sn_R (sn_S x) (sn_L x) q)
theorem sn_keep.rf (x : SnS) : sn_keep x x := ⟨rfl, rfl, rfl, rfl, fun _ => Or.inl rfl⟩
theorem sn_E_eq {S S' : Nat → Option Nat} {L : Nat → Nat} {p q : Nat} (h : S' p = S p) : sn_E S' L p q ↔ sn_E S L p q := by
  unfold sn_E sn_sz
  rw [h]
theorem sn_keep.size {x y : SnS} (h : sn_keep x y) {q : Nat} (hq : sn_R (sn_S x) (sn_L x) q) : sn_S y q = sn_S x q := (h.2.2.2.2 q).elim id (fun h9 => absurd hq h9.2)
theorem sn_keep.rch {x y : SnS} (h : sn_keep x y) (q : Nat) : sn_R (sn_S y) (sn_L y) q ↔ sn_R (sn_S x) (sn_L x) q := by
  rw [h.1]
  constructor
  · intro h9
    exact h9 _ (fun q hq => sn_rch.root hq) (fun p q hp e => hp.next ((sn_E_eq (h.size hp)).mp e))
  · intro h9
    refine (h9 (fun q => sn_R (sn_S x) (sn_L x) q ∧ sn_R (sn_S y) (sn_L x) q) (fun q hq => ⟨sn_rch.root hq, sn_rch.root hq⟩) (fun p q hp e => ⟨hp.1.next e, hp.2.next ((sn_E_eq (h.size hp.1)).mpr e)⟩)).2
theorem sn_keep.tr {x y z : SnS} (h : sn_keep x y) (g : sn_keep y z) : sn_keep x z := by
  refine ⟨g.1.trans h.1, g.2.1.trans h.2.1, g.2.2.1.trans h.2.2.1, g.2.2.2.1.trans h.2.2.2.1, fun q => ?_⟩
  rcases g.2.2.2.2 q with h1 | ⟨h1, h2⟩
  · rcases h.2.2.2.2 q with h3 | ⟨h3, h4⟩
    · exact Or.inl (h1.trans h3)
    · exact Or.inr ⟨h1.trans h3, h4⟩
  · exact Or.inr ⟨h1, fun h9 => h2 ((h.rch q).mpr h9)⟩
theorem sn_wl_white {M : Nat} {C wt : Nat → Nat} (h : ∀ q, C q = 0) : sn_wl M (C, wt, 0) := by
  refine ⟨h 0, fun i hi => absurd hi (Nat.not_lt_zero _), fun i j hi => absurd hi (Nat.not_lt_zero _), fun q hq => ?_, ?_⟩
  · have hq : C q = 1 := hq
    rw [h q] at hq; cases hq
  · show 0 = sn_s (sn_grey C) (M + 1)
    rw [sn_s_congr (f := sn_grey C) (g := fun _ => 0) (fun k _ => by unfold sn_grey; rw [h k]; rfl), sn_s_zero]
theorem sn_begin {st : SnS} {wt C : Nat → Nat} {cu : Nat} (hst : sn_st st) (hR : ∀ q, sn_R (sn_S st) (sn_L st) q → sn_S st q ≠ none) (hC : ∀ q, C q = 0) :
    sn_g1 (st, sn_shv 600 (sn_L st) 0 16 (C, wt, 0), 1, cu) ∧ ∀ q, sn_F (sn_S st) (sn_L st) (sn_shv 600 (sn_L st) 0 16 (C, wt, 0)).1 q ↔ sn_R (sn_S st) (sn_L st) q := by
  obtain ⟨a1, a2, a3, a4⟩ := sn_shv_wl (sn_wl_white (wt := wt) hC) (L := sn_L st) hst.2.2.2.1 0 16
  have hF : ∀ q, sn_F (sn_S st) (sn_L st) (sn_shv 600 (sn_L st) 0 16 (C, wt, 0)).1 q ↔ sn_R (sn_S st) (sn_L st) q := by
    refine sn_fin_start (fun q => ?_) (fun q h => ?_)
    · refine (a2 q).trans ⟨fun h => ?_, fun ⟨r, h1, h2, h3⟩ => Or.inr ⟨r, h1, by rw [Nat.zero_add]; exact h2, h3⟩⟩
      rcases h with h | ⟨r, h1, h2, h3⟩
      · exact absurd (hC q) h
      · exact ⟨r, h1, by rw [Nat.zero_add] at h2; exact h2, h3⟩
    · have h2 := (a3 q).mp h
      have h3 : C q = 2 := h2
      rw [hC q] at h3; cases h3
  refine ⟨⟨rfl, a1, fun q => a4 q (by show C q ≤ 2; rw [hC q]; omega), fun q hq => (hF q).mpr hq, fun q hq => hR q ((hF q).mp hq), fun p q hp _ => ?_⟩, hF⟩
  have h2 : C p = 2 := (a3 p).mp hp
  rw [hC p] at h2; cases h2
theorem sn_mark_g1 {st : SnS} {mk : SnM} {cu : Nat} (hst : sn_st st) (h : sn_g1 (st, mk, 1, cu)) (hw : 0 < mk.2.2) :
    sn_g1 (st, sn_mark1 600 (sn_S st) (sn_L st) mk, 1, cu) ∧ (∀ q, sn_F (sn_S st) (sn_L st) (sn_mark1 600 (sn_S st) (sn_L st) mk).1 q ↔ sn_F (sn_S st) (sn_L st) mk.1 q) ∧
    ∃ g, mk.1 g = 1 ∧ 0 < g ∧ g ≤ 600 ∧ ∀ k, (sn_mark1 600 (sn_S st) (sn_L st) mk).1 k = 2 ↔ mk.1 k = 2 ∨ k = g := by
  obtain ⟨-, w, c2, f1, f2, f3⟩ := h
  obtain ⟨g, d1, d2, d3, d4, d5, d6, d7⟩ := sn_mark1_wl w hw (S := sn_S st) (L := sn_L st) hst.2.2.2.1
  have hF : ∀ q, sn_F (sn_S st) (sn_L st) (sn_mark1 600 (sn_S st) (sn_L st) mk).1 q ↔ sn_F (sn_S st) (sn_L st) mk.1 q :=
    sn_fin_pop (g := g) (by show mk.1 g ≠ 0; rw [d1]; decide) (by show ¬ mk.1 g = 2; rw [d1]; decide) d6 (fun k => (d5 k).trans ⟨fun h => h.imp id (fun h9 => ⟨d2, h9⟩), fun h => h.imp id (fun h9 => h9.2)⟩)
  refine ⟨⟨rfl, d4, d7 c2, fun q hq => (hF q).mpr (f1 q hq), fun q hq => f2 q ((hF q).mp hq), fun p q hp e => (hF q).mpr ?_⟩, hF, g, d1, d2, d3, d6⟩
  rcases (d6 p).mp hp with h1 | h1
  · exact f3 p q h1 e
  · subst h1
    exact (sn_fin.nw (by show mk.1 p ≠ 0; rw [d1]; decide)).next (by show ¬ mk.1 p = 2; rw [d1]; decide) e
theorem sn_done_g2 {st : SnS} {mk : SnM} {cu : Nat} (h : sn_g1 (st, mk, 1, cu)) (hw : mk.2.2 = 0) : sn_g2 (st, mk, 2, 1) ∧ ∀ q, sn_F (sn_S st) (sn_L st) mk.1 q ↔ mk.1 q = 2 := by
  obtain ⟨-, ⟨w0, w1, w2, w3, w4⟩, c2, f1, f2, f3⟩ := h
  have w0 : mk.1 0 = 0 := w0
  have ng : ∀ q, mk.1 q = 0 ∨ mk.1 q = 2 := fun q => by
    have a : mk.1 q ≤ 2 := c2 q
    have b : mk.1 q ≠ 1 := fun e => by
      obtain ⟨i, hi, -⟩ := w3 q e
      have hi : i < mk.2.2 := hi
      omega
    omega
  have hF : ∀ q, sn_F (sn_S st) (sn_L st) mk.1 q ↔ mk.1 q = 2 := fun q => (sn_fin_end (fun q hq => (ng q).resolve_left hq) q).trans ⟨fun h => (ng q).resolve_left h, fun h => by rw [h]; decide⟩
  refine ⟨⟨rfl, hw, Nat.le_refl _, Or.inr rfl, ng, fun q hq => ?_, fun q hq => f2 q ((hF q).mpr hq), fun q hq _ => (hF q).mp (f1 q hq)⟩, hF⟩
  have hq : q < 1 := hq
  rw [show q = 0 by omega]
  exact w0
def sn_sweep (x : SnG) : SnG :=
  (if 0 < x.2.2.2 ∧ x.2.2.2 ≤ 600 ∧ sn_C x x.2.2.2 = 2 then x.1 else if 0 < x.2.2.2 ∧ x.2.2.2 ≤ 600 ∧ sn_S x.1 x.2.2.2 = none then x.1 else sn_release x.1 x.2.2.2,
   if 0 < x.2.2.2 ∧ x.2.2.2 ≤ 600 ∧ sn_C x x.2.2.2 = 2 then (va_up (sn_C x) x.2.2.2 0, x.2.1.2) else x.2.1,
   if sn_tp x.1 < x.2.2.2 + 1 then 0 else x.2.2.1, x.2.2.2 + 1)
def sn_ex2 (x : SnG) : Prop := (∀ q, sn_C x q = 2 → sn_R (sn_S x.1) (sn_L x.1) q) ∧ ∀ q, 0 < q → q < x.2.2.2 → sn_S x.1 q ≠ none → sn_R (sn_S x.1) (sn_L x.1) q
def sn_ex0 (x : SnG) : Prop := ∀ q, 0 < q → sn_S x.1 q ≠ none → sn_R (sn_S x.1) (sn_L x.1) q
theorem sn_sweep_g {st : SnS} {mk : SnM} {cu : Nat} (hst : sn_st st) (hR : ∀ q, sn_R (sn_S st) (sn_L st) q → sn_S st q ≠ none) (h : sn_g2 (st, mk, 2, cu)) :
    sn_gc (sn_sweep (st, mk, 2, cu)) ∧ sn_keep st (sn_sweep (st, mk, 2, cu)).1 ∧ ((sn_sweep (st, mk, 2, cu)).2.2 = (if sn_tp st < cu + 1 then 0 else 2, cu + 1)) ∧
    (sn_ex2 (st, mk, 2, cu) → (sn_tp st < cu + 1 → sn_ex0 (sn_sweep (st, mk, 2, cu))) ∧ (¬ sn_tp st < cu + 1 → sn_ex2 (sn_sweep (st, mk, 2, cu)))) := by
  obtain ⟨-, w, c1, ct, c02, clo, cu2, cR⟩ := h
  have w : mk.2.2 = 0 := w
  have c1 : 1 ≤ cu := c1
  have ct : cu ≤ sn_tp st ∨ cu = 1 := ct
  have c02 : ∀ q, mk.1 q = 0 ∨ mk.1 q = 2 := c02
  have clo : ∀ q, q < cu → mk.1 q = 0 := clo
  have cu2 : ∀ q, mk.1 q = 2 → sn_S st q ≠ none := cu2
  have cR : ∀ q, sn_R (sn_S st) (sn_L st) q → cu ≤ q → mk.1 q = 2 := cR
  have ht6 := hst.2.2.1
  have hus : ∀ q, sn_S st q ≠ none → q ≤ sn_tp st := fun q hq => by
    cases hs : sn_S st q with
    | none => exact absurd hs hq
    | some n => exact (hst.2.1 q n hs).2
  have fin : ∀ (st' : SnS) (C' : Nat → Nat), sn_st st' → sn_keep st st' → (∀ q, q ≠ cu → C' q = mk.1 q) → C' cu = 0 → (mk.1 cu = 2 ∨ sn_S st' cu = none) → (∀ q, q ≠ cu → sn_S st' q = sn_S st q) →
      sn_gc (st', (C', mk.2), (if sn_tp st < cu + 1 then 0 else 2), cu + 1) ∧
      (sn_ex2 (st, mk, 2, cu) → (sn_tp st < cu + 1 → sn_ex0 (st', (C', mk.2), (if sn_tp st < cu + 1 then 0 else 2), cu + 1)) ∧ (¬ sn_tp st < cu + 1 → sn_ex2 (st', (C', mk.2), (if sn_tp st < cu + 1 then 0 else 2), cu + 1))) := by
    intro st' C' k1 k2 k3 k4 k5 k6
    have hR' : ∀ q, sn_R (sn_S st') (sn_L st') q → sn_S st' q ≠ none := fun q hq => by
      have h1 := (k2.rch q).mp hq
      rw [k2.size h1]; exact hR q h1
    have hC0 : ∀ q, C' q = 2 → q ≠ cu ∧ mk.1 q = 2 := fun q hq => by
      by_cases e : q = cu
      · rw [e, k4] at hq; cases hq
      · rw [k3 q e] at hq; exact ⟨e, hq⟩
    constructor
    · refine ⟨k1, hR', ?_⟩
      by_cases ht : sn_tp st < cu + 1
      · rw [if_pos ht]
        refine Or.inl ⟨rfl, fun q => ?_, w⟩
        show C' q = 0
        by_cases e : q = cu
        · rw [e]; exact k4
        · rw [k3 q e]
          rcases c02 q with h1 | h1
          · exact h1
          · have h2 := hus q (cu2 q h1)
            exact clo q (by omega)
      · rw [if_neg ht]
        refine Or.inr (Or.inr ⟨rfl, w, Nat.le_add_left _ _, Or.inl ?_, fun q => ?_, fun q hq => ?_, fun q hq => ?_, fun q hq hcu => ?_⟩)
        · show cu + 1 ≤ sn_tp st'
          rw [k2.2.2.1]; omega
        · show C' q = 0 ∨ C' q = 2
          by_cases e : q = cu
          · rw [e, k4]; exact Or.inl rfl
          · rw [k3 q e]; exact c02 q
        · have hq : q < cu + 1 := hq
          show C' q = 0
          by_cases e : q = cu
          · rw [e]; exact k4
          · rw [k3 q e]; exact clo q (by omega)
        · have hq : C' q = 2 := hq
          show sn_S st' q ≠ none
          rw [k6 q (hC0 q hq).1]
          exact cu2 q (hC0 q hq).2
        · have hcu : cu + 1 ≤ q := hcu
          show C' q = 2
          rw [k3 q (by omega)]
          exact cR q ((k2.rch q).mp hq) (by omega)
    · rintro ⟨x1, x2⟩
      have x1 : ∀ q, mk.1 q = 2 → sn_R (sn_S st) (sn_L st) q := x1
      have x2 : ∀ q, 0 < q → q < cu → sn_S st q ≠ none → sn_R (sn_S st) (sn_L st) q := x2
      have low : ∀ q, 0 < q → q < cu + 1 → sn_S st' q ≠ none → sn_R (sn_S st') (sn_L st') q := fun q h0 hq hs => by
        refine (k2.rch q).mpr ?_
        by_cases e : q = cu
        · rcases k5 with h1 | h1
          · rw [e]; exact x1 cu h1
          · rw [e] at hs; exact absurd h1 hs
        · rw [k6 q e] at hs
          exact x2 q h0 (by omega) hs
      refine ⟨fun ht q h0 hs => ?_, fun ht => ⟨fun q hq => (k2.rch q).mpr (x1 q (hC0 q hq).2), fun q h0 hq hs => low q h0 hq hs⟩⟩
      have hs : sn_S st' q ≠ none := hs
      have h2 : q ≤ sn_tp st := by
        by_cases e : q = cu
        · rw [e]
          rcases k5 with h1 | h1
          · exact hus cu (cu2 cu h1)
          · rw [e] at hs; exact absurd h1 hs
        · rw [k6 q e] at hs; exact hus q hs
      exact low q h0 (by omega) hs
  unfold sn_sweep
  show sn_gc (_, _, _, _) ∧ sn_keep st _ ∧ _ ∧ _
  by_cases hb : 0 < cu ∧ cu ≤ 600 ∧ mk.1 cu = 2
  · have hb' : 0 < (st, mk, 2, cu).2.2.2 ∧ (st, mk, 2, cu).2.2.2 ≤ 600 ∧ sn_C (st, mk, 2, cu) (st, mk, 2, cu).2.2.2 = 2 := hb
    rw [if_pos hb', if_pos hb']
    obtain ⟨f1, f2⟩ := fin st (va_up mk.1 cu 0) hst (sn_keep.rf st) (fun q e => va_up_ne mk.1 0 e) (va_up_self mk.1 cu 0) (Or.inl hb.2.2) (fun _ _ => rfl)
    exact ⟨f1, sn_keep.rf st, rfl, f2⟩
  · have hb' : ¬ (0 < (st, mk, 2, cu).2.2.2 ∧ (st, mk, 2, cu).2.2.2 ≤ 600 ∧ sn_C (st, mk, 2, cu) (st, mk, 2, cu).2.2.2 = 2) := hb
    rw [if_neg hb', if_neg hb']
    have hc6 : cu ≤ 600 := by omega
    have hw0 : mk.1 cu = 0 := (c02 cu).resolve_right (fun h9 => hb ⟨by omega, hc6, h9⟩)
    by_cases hn : 0 < cu ∧ cu ≤ 600 ∧ sn_S st cu = none
    · have hn' : 0 < (st, mk, 2, cu).2.2.2 ∧ (st, mk, 2, cu).2.2.2 ≤ 600 ∧ sn_S (st, mk, 2, cu).1 (st, mk, 2, cu).2.2.2 = none := hn
      rw [if_pos hn']
      obtain ⟨f1, f2⟩ := fin st mk.1 hst (sn_keep.rf st) (fun _ _ => rfl) hw0 (Or.inr hn.2.2) (fun _ _ => rfl)
      exact ⟨f1, sn_keep.rf st, rfl, f2⟩
    · have hn' : ¬ (0 < (st, mk, 2, cu).2.2.2 ∧ (st, mk, 2, cu).2.2.2 ≤ 600 ∧ sn_S (st, mk, 2, cu).1 (st, mk, 2, cu).2.2.2 = none) := hn
      rw [if_neg hn']
      cases hs : sn_S st cu with
      | none => exact absurd ⟨by omega, hc6, hs⟩ hn
      | some n =>
        have h0 : 0 < cu := by omega
        have hnr : ¬ sn_R (sn_S st) (sn_L st) cu := fun h9 => by
          have := cR cu h9 (Nat.le_refl _)
          omega
        have hst' := sn_release_st hst h0 hs
        have he := sn_release_eq hst h0 hs
        have hk : sn_keep st (sn_release st cu) := by
          rw [he]
          refine ⟨rfl, rfl, rfl, ?_, fun q => ?_⟩
          · show va_up (sn_S st) cu none 0 = sn_S st 0
            exact va_up_ne _ _ (by omega)
          · show va_up (sn_S st) cu none q = sn_S st q ∨ _
            by_cases e : q = cu
            · exact Or.inr ⟨by rw [e]; exact va_up_self _ _ _, by rw [e]; exact hnr⟩
            · exact Or.inl (va_up_ne _ _ e)
        have hS' : sn_S (sn_release st cu) = va_up (sn_S st) cu none := by rw [he]
        obtain ⟨f1, f2⟩ := fin (sn_release st cu) mk.1 hst' hk (fun _ _ => rfl) hw0 (Or.inr (by rw [hS']; exact va_up_self _ _ _)) (fun q e => by rw [hS']; exact va_up_ne _ _ e)
        exact ⟨f1, hk, rfl, f2⟩
