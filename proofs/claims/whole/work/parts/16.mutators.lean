theorem sn_E_ext {S S' : Nat → Option Nat} {L L' : Nat → Nat} (h : ∀ p q, sn_E S' L' p q ↔ sn_E S L p q) : sn_E S' L' = sn_E S L := funext fun p => funext fun q => propext (h p q)
theorem sn_E_root {S : Nat → Option Nat} {L : Nat → Nat} {r v : Nat} (hr : r < 16) : sn_E S (va_up L r v) = sn_E S L := by
  refine sn_E_ext (fun p q => ?_)
  unfold sn_E
  constructor
  · rintro ⟨h0, i, h1, h2, h3⟩
    rw [va_up_ne L v (show 16 * p + i ≠ r by omega)] at h2
    exact ⟨h0, i, h1, h2, h3⟩
  · rintro ⟨h0, i, h1, h2, h3⟩
    exact ⟨h0, i, h1, by rw [va_up_ne L v (show 16 * p + i ≠ r by omega)]; exact h2, h3⟩
abbrev sn_with (x : SnS) (L : Nat → Nat) (N : Nat → Int64) : SnS := (sn_S x, L, N, sn_rl x, sn_rc x, sn_tp x, sn_uc x)
theorem sn_with_st {x : SnS} (h : sn_st x) {L : Nat → Nat} {N : Nat → Int64} (hL : ∀ s, L s ≤ 600) : sn_st (sn_with x L N) :=
  ⟨h.1, h.2.1, h.2.2.1, hL, h.2.2.2.2⟩
def sn_may (x : SnG) (v : Nat) : Prop := v = 0 ∨ (v ≤ 600 ∧ sn_S x.1 v ≠ none ∧ (x.2.2.1 = 1 → sn_F (sn_S x.1) (sn_L x.1) (sn_C x) v) ∧ (x.2.2.1 = 2 → x.2.2.2 ≤ v → sn_C x v = 2) ∧ ∀ q, sn_E (sn_S x.1) (sn_L x.1) v q → sn_R (sn_S x.1) (sn_L x.1) q)
theorem sn_may_R {x : SnG} (h : sn_gc x) {v : Nat} (hv : sn_R (sn_S x.1) (sn_L x.1) v) : sn_may x v := by
  obtain ⟨h1, h2, h3⟩ := h
  have hs := h2 v hv
  refine Or.inr ⟨?_, hs, fun e => ?_, fun e hc => ?_, fun q hq => hv.next hq⟩
  · cases hn : sn_S x.1 v with
    | none => exact absurd hn hs
    | some n => have := (h1.2.1 v n hn).2; have := h1.2.2.1; omega
  · rcases h3 with ⟨g, -⟩ | ⟨-, -, -, g, -⟩ | ⟨g, -⟩
    · omega
    · exact g v hv
    · omega
  · rcases h3 with ⟨g, -⟩ | ⟨g, -⟩ | ⟨-, -, -, -, -, -, -, g⟩
    · omega
    · omega
    · exact g v hv hc
theorem sn_root_gc {x : SnG} (h : sn_gc x) {r v : Nat} {w : Int64} (hr : r < 16) (hv : sn_may x v) :
    sn_gc (sn_with x.1 (va_up (sn_L x.1) r v) (va_up (sn_Nm x.1) r w), x.2) ∧ ∀ q, sn_R (sn_S x.1) (va_up (sn_L x.1) r v) q → sn_R (sn_S x.1) (sn_L x.1) q ∨ (q = v ∧ 0 < v) := by
  obtain ⟨st, mk, ph, cu⟩ := x
  obtain ⟨h1, h2, h3⟩ := h
  have hE := sn_E_root (S := sn_S st) (L := sn_L st) (v := v) hr
  have hL : ∀ s, va_up (sn_L st) r v s ≤ 600 := fun s => by
    by_cases e : s = r
    · rw [e, va_up_self]
      rcases hv with hv | hv
      · omega
      · exact hv.1
    · rw [va_up_ne _ _ e]; exact h1.2.2.2.1 s
  have hR : ∀ q, sn_R (sn_S st) (va_up (sn_L st) r v) q → sn_R (sn_S st) (sn_L st) q ∨ (q = v ∧ 0 < v) := fun q hq => by
    refine hq (fun q => sn_R (sn_S st) (sn_L st) q ∨ (q = v ∧ 0 < v)) (fun q ⟨a, a1, a2, a3⟩ => ?_) (fun p q hp e => ?_)
    · by_cases e : a = r
      · rw [e, va_up_self] at a2
        exact Or.inr ⟨a2.symm, by omega⟩
      · rw [va_up_ne _ _ e] at a2
        exact Or.inl (sn_rch.root ⟨a, a1, a2, a3⟩)
    · rw [hE] at e
      rcases hp with hp | ⟨hp, hp0⟩
      · exact Or.inl (hp.next e)
      · rcases hv with hv | hv
        · omega
        · rw [hp] at e
          exact Or.inl (hv.2.2.2.2 q e)
  refine ⟨⟨sn_with_st h1 hL, fun q hq => ?_, ?_⟩, hR⟩
  · show sn_S st q ≠ none
    rcases hR q hq with h9 | ⟨h9, h8⟩
    · exact h2 q h9
    · rcases hv with hv | hv
      · omega
      · rw [h9]; exact hv.2.1
  · rcases h3 with ⟨a1, a2, a3⟩ | ⟨a1, a2, a3, a4, a5, a6⟩ | ⟨a1, a2, a3, a4, a5, a6, a7, a8⟩
    · exact Or.inl ⟨a1, a2, a3⟩
    · refine Or.inr (Or.inl ⟨a1, a2, a3, fun q hq => ?_, fun q hq => ?_, fun p q hp e => ?_⟩)
      · show sn_fin _ _ (sn_E (sn_S st) (va_up (sn_L st) r v)) q
        rw [hE]
        rcases hR q hq with h9 | ⟨h9, h8⟩
        · exact a4 q h9
        · rcases hv with hv | hv
          · omega
          · rw [h9]; exact hv.2.2.1 a1
      · have hq : sn_fin (fun q => mk.1 q ≠ 0) (fun q => mk.1 q = 2) (sn_E (sn_S st) (va_up (sn_L st) r v)) q := hq
        rw [hE] at hq
        exact a5 q hq
      · have e : sn_E (sn_S st) (va_up (sn_L st) r v) p q := e
        show sn_fin (fun q => mk.1 q ≠ 0) (fun q => mk.1 q = 2) (sn_E (sn_S st) (va_up (sn_L st) r v)) q
        rw [hE] at e ⊢
        exact a6 p q hp e
    · refine Or.inr (Or.inr ⟨a1, a2, a3, a4, a5, a6, a7, fun q hq hc => ?_⟩)
      show mk.1 q = 2
      rcases hR q hq with h9 | ⟨h9, h8⟩
      · exact a8 q h9 hc
      · rcases hv with hv | hv
        · omega
        · rw [h9]; exact hv.2.2.2.1 a1 (by rw [← h9]; exact hc)
def sn_setm (x : SnG) (t : Nat) : SnM := if x.2.2.1 = 1 then sn_shade 600 x.2.1 (sn_L x.1 t) else x.2.1
theorem sn_set_gc {x : SnG} (h : sn_gc x) {a i v : Nat} {w : Int64} (ha : sn_R (sn_S x.1) (sn_L x.1) a) (hi : i < sn_sz (sn_S x.1) a) (hv : v = 0 ∨ sn_R (sn_S x.1) (sn_L x.1) v) :
    sn_gc (sn_with x.1 (va_up (sn_L x.1) (16 * a + i) v) (va_up (sn_Nm x.1) (16 * a + i) w), sn_setm x (16 * a + i), x.2.2) ∧ ∀ q, sn_R (sn_S x.1) (va_up (sn_L x.1) (16 * a + i) v) q → sn_R (sn_S x.1) (sn_L x.1) q := by
  obtain ⟨st, mk, ph, cu⟩ := x
  obtain ⟨h1, h2, h3⟩ := h
  have ha0 : 0 < a := sn_R.pos ha
  have hv6 : v ≤ 600 := by
    rcases hv with hv | hv
    · omega
    · have hs := h2 v hv
      cases hn : sn_S st v with
      | none => exact absurd hn hs
      | some n => have := (h1.2.1 v n hn).2; have := h1.2.2.1; omega
  have hL : ∀ s, va_up (sn_L st) (16 * a + i) v s ≤ 600 := fun s => by
    by_cases e : s = 16 * a + i
    · rw [e, va_up_self]; exact hv6
    · rw [va_up_ne _ _ e]; exact h1.2.2.2.1 s
  have e1 : ∀ p q, sn_E (sn_S st) (va_up (sn_L st) (16 * a + i) v) p q → sn_E (sn_S st) (sn_L st) p q ∨ (q = v ∧ 0 < v) := fun p q ⟨b0, j, b1, b2, b3⟩ => by
    by_cases e : 16 * p + j = 16 * a + i
    · rw [e, va_up_self] at b2
      exact Or.inr ⟨b2.symm, by omega⟩
    · rw [va_up_ne _ _ e] at b2
      exact Or.inl ⟨b0, j, b1, b2, b3⟩
  have e2 : ∀ p q, sn_E (sn_S st) (sn_L st) p q → sn_E (sn_S st) (va_up (sn_L st) (16 * a + i) v) p q ∨ (q = sn_L st (16 * a + i) ∧ 0 < sn_L st (16 * a + i)) := fun p q ⟨b0, j, b1, b2, b3⟩ => by
    by_cases e : 16 * p + j = 16 * a + i
    · rw [e] at b2
      exact Or.inr ⟨b2.symm, by omega⟩
    · exact Or.inl ⟨b0, j, b1, by rw [va_up_ne _ _ e]; exact b2, b3⟩
  have hR : ∀ q, sn_R (sn_S st) (va_up (sn_L st) (16 * a + i) v) q → sn_R (sn_S st) (sn_L st) q := fun q hq => by
    refine hq _ (fun q ⟨b, b1, b2, b3⟩ => ?_) (fun p q hp e => ?_)
    · rw [va_up_ne _ _ (show b ≠ 16 * a + i by omega)] at b2
      exact sn_rch.root ⟨b, b1, b2, b3⟩
    · rcases e1 p q e with h9 | ⟨h9, h8⟩
      · exact hp.next h9
      · rcases hv with hv | hv
        · omega
        · rw [h9]; exact hv
  refine ⟨⟨sn_with_st h1 hL, fun q hq => h2 q (hR q hq), ?_⟩, hR⟩
  rcases h3 with ⟨a1, a2, a3⟩ | ⟨a1, a2, a3, a4, a5, a6⟩ | ⟨a1, a2, a3, a4, a5, a6, a7, a8⟩
  · have em : sn_setm (st, mk, ph, cu) (16 * a + i) = mk := if_neg (by show ¬ ph = 1; have a1 : ph = 0 := a1; omega)
    rw [em]
    exact Or.inl ⟨a1, a2, a3⟩
  · have em : sn_setm (st, mk, ph, cu) (16 * a + i) = sn_shade 600 mk (sn_L st (16 * a + i)) := if_pos a1
    rw [em]
    obtain ⟨b1, b2, b3, b4⟩ := sn_shade_wl a2 (sn_L st (16 * a + i)) (h1.2.2.2.1 _)
    have fa : sn_F (sn_S st) (sn_L st) mk.1 a := a4 a ha
    have hO : ∀ q, (q = sn_L st (16 * a + i) ∧ 0 < sn_L st (16 * a + i)) → sn_F (sn_S st) (sn_L st) mk.1 q := fun q ⟨c1, c2⟩ => by
      have ed : sn_E (sn_S st) (sn_L st) a q := ⟨ha0, i, hi, c1.symm, by omega⟩
      by_cases hb : mk.1 a = 2
      · exact a6 a q hb ed
      · exact fa.next hb ed
    have hV : ∀ q, (q = v ∧ 0 < v) → sn_F (sn_S st) (sn_L st) mk.1 q := fun q ⟨c1, c2⟩ => by
      rcases hv with hv | hv
      · omega
      · rw [c1]; exact a4 v hv
    have hF : ∀ q, sn_F (sn_S st) (va_up (sn_L st) (16 * a + i) v) (sn_shade 600 mk (sn_L st (16 * a + i))).1 q ↔ sn_F (sn_S st) (sn_L st) mk.1 q := fun q => by
      have hBK : (fun q => (sn_shade 600 mk (sn_L st (16 * a + i))).1 q = 2) = (fun q => mk.1 q = 2) := funext fun q => propext (b3 q)
      show sn_fin _ (fun q => (sn_shade 600 mk (sn_L st (16 * a + i))).1 q = 2) _ q ↔ _
      rw [hBK]
      exact sn_fin_set (a := a) b2 hO e2 (fun p q e => (e1 p q e).imp id (hV q)) q
    refine Or.inr (Or.inl ⟨a1, b1, fun q => b4 q (a3 q), fun q hq => (hF q).mpr (a4 q (hR q hq)), fun q hq => a5 q ((hF q).mp hq), fun p q hp e => (hF q).mpr ?_⟩)
    have hp : mk.1 p = 2 := (b3 p).mp hp
    rcases e1 p q e with h9 | h9
    · exact a6 p q hp h9
    · exact hV q h9
  · have em : sn_setm (st, mk, ph, cu) (16 * a + i) = mk := if_neg (by show ¬ ph = 1; have a1 : ph = 2 := a1; omega)
    rw [em]
    exact Or.inr (Or.inr ⟨a1, a2, a3, a4, a5, a6, a7, fun q hq hc => a8 q (hR q hq) hc⟩)
def sn_allm (x : SnG) : SnM := if x.2.2.1 = 1 ∨ (x.2.2.1 = 2 ∧ x.2.2.2 ≤ sn_pl x.1) then sn_black 600 x.2.1 (sn_pl x.1) else x.2.1
theorem sn_all_gc {x : SnG} (h : sn_gc x) {n : Nat} (hn : n ≤ 16) (hr : sn_uc x.1 + n + 2 ≤ 1200) :
    sn_gc (sn_take x.1 n, sn_allm x, x.2.2) ∧ (∀ q, sn_R (sn_S (sn_take x.1 n)) (sn_L (sn_take x.1 n)) q ↔ sn_R (sn_S x.1) (sn_L x.1) q) ∧ sn_may (sn_take x.1 n, sn_allm x, x.2.2) (sn_pl x.1) ∧ (∀ q, ¬ sn_E (sn_S (sn_take x.1 n)) (sn_L (sn_take x.1 n)) (sn_pl x.1) q) := by
  obtain ⟨st, mk, ph, cu⟩ := x
  obtain ⟨h1, h2, h3⟩ := h
  have p9 : 0 < sn_pl st ∧ sn_pl st ≤ 600 ∧ sn_S st (sn_pl st) = none := sn_pl_ok h1 hr
  obtain ⟨p0, p6, ps⟩ := p9
  have hst' := sn_take_st h1 hn hr
  have hS : sn_S (sn_take st n) = va_up (sn_S st) (sn_pl st) (some n) := rfl
  have hLr : ∀ s, sn_L (sn_take st n) s = if 16 * sn_pl st ≤ s ∧ s < 16 * sn_pl st + n then 0 else sn_L st s := fun s => rfl
  have hsz16 : ∀ p, sn_sz (sn_S st) p ≤ 16 := fun p => by
    unfold sn_sz
    cases hs : sn_S st p with
    | none => exact Nat.zero_le _
    | some k => exact (h1.2.1 p k hs).1
  have nE : ∀ q, ¬ sn_E (sn_S (sn_take st n)) (sn_L (sn_take st n)) (sn_pl st) q := fun q ⟨_, i, b1, b2, b3⟩ => by
    have b1 : i < n := by
      unfold sn_sz at b1
      rw [hS, va_up_self] at b1
      exact b1
    rw [hLr, if_pos (by omega)] at b2
    omega
  have nE0 : ∀ q, ¬ sn_E (sn_S st) (sn_L st) (sn_pl st) q := fun q ⟨_, i, b1, _⟩ => by
    unfold sn_sz at b1
    rw [ps] at b1
    exact absurd b1 (Nat.not_lt_zero _)
  have hE : sn_E (sn_S (sn_take st n)) (sn_L (sn_take st n)) = sn_E (sn_S st) (sn_L st) := by
    refine sn_E_ext (fun p q => ?_)
    by_cases e : p = sn_pl st
    · rw [e]; exact ⟨fun h9 => absurd h9 (nE q), fun h9 => absurd h9 (nE0 q)⟩
    · have hsz : sn_sz (sn_S (sn_take st n)) p = sn_sz (sn_S st) p := by unfold sn_sz; rw [hS, va_up_ne _ _ e]
      have hs16 := hsz16 p
      unfold sn_E
      rw [hsz]
      constructor
      · rintro ⟨b0, i, b1, b2, b3⟩
        rw [hLr, if_neg (by omega)] at b2
        exact ⟨b0, i, b1, b2, b3⟩
      · rintro ⟨b0, i, b1, b2, b3⟩
        exact ⟨b0, i, b1, by rw [hLr, if_neg (by omega)]; exact b2, b3⟩
  have hR0 : sn_R0 (sn_L (sn_take st n)) = sn_R0 (sn_L st) := funext fun q => propext (by
    unfold sn_R0
    constructor
    · rintro ⟨r, b1, b2, b3⟩
      rw [hLr, if_neg (by omega)] at b2
      exact ⟨r, b1, b2, b3⟩
    · rintro ⟨r, b1, b2, b3⟩
      exact ⟨r, b1, by rw [hLr, if_neg (by omega)]; exact b2, b3⟩)
  have hR : ∀ q, sn_R (sn_S (sn_take st n)) (sn_L (sn_take st n)) q ↔ sn_R (sn_S st) (sn_L st) q := fun q => by
    show sn_rch (sn_R0 (sn_L (sn_take st n))) (sn_E (sn_S (sn_take st n)) (sn_L (sn_take st n))) q ↔ _
    rw [hR0, hE]
  have hus : ∀ q, sn_S st q ≠ none → sn_S (sn_take st n) q ≠ none ∧ q ≠ sn_pl st := fun q hq => by
    have ne : q ≠ sn_pl st := fun e => hq (by rw [e]; exact ps)
    exact ⟨by rw [hS, va_up_ne _ _ ne]; exact hq, ne⟩
  have hpS : sn_S (sn_take st n) (sn_pl st) ≠ none := by rw [hS, va_up_self]; exact fun h9 => by cases h9
  refine ⟨?_, hR, ?_, nE⟩
  · refine ⟨hst', fun q hq => (hus q (h2 q ((hR q).mp hq))).1, ?_⟩
    rcases h3 with ⟨a1, a2, a3⟩ | ⟨a1, a2, a3, a4, a5, a6⟩ | ⟨a1, a2, a3, a4, a5, a6, a7, a8⟩
    · have em : sn_allm (st, mk, ph, cu) = mk := if_neg (by show ¬ (ph = 1 ∨ (ph = 2 ∧ _)); have a1 : ph = 0 := a1; omega)
      rw [em]
      exact Or.inl ⟨a1, a2, a3⟩
    · have em : sn_allm (st, mk, ph, cu) = sn_black 600 mk (sn_pl st) := if_pos (Or.inl a1)
      rw [em]
      have hw : mk.1 (sn_pl st) = 0 := Classical.byContradiction fun h9 => a5 (sn_pl st) (sn_fin.nw h9) ps
      obtain ⟨b1, b2⟩ := sn_black_wl a2 p0 p6 hw
      have hF : ∀ q, sn_F (sn_S (sn_take st n)) (sn_L (sn_take st n)) (sn_black 600 mk (sn_pl st)).1 q ↔ sn_F (sn_S st) (sn_L st) mk.1 q ∨ q = sn_pl st := by
        rw [b2]
        refine sn_fin_new (fun q => ?_) (fun q => ?_) (fun p q _ => by rw [hE]) nE0
        · by_cases e : q = sn_pl st
          · rw [e, va_up_self]; exact ⟨fun _ => Or.inr rfl, fun _ => rfl⟩
          · rw [va_up_ne _ _ e]; exact ⟨Or.inl, fun h9 => h9.elim id (fun h8 => absurd h8 e)⟩
        · by_cases e : q = sn_pl st
          · rw [e, va_up_self]; exact ⟨fun _ => Or.inr rfl, fun _ => by decide⟩
          · rw [va_up_ne _ _ e]; exact ⟨Or.inl, fun h9 => h9.elim id (fun h8 => absurd h8 e)⟩
      refine Or.inr (Or.inl ⟨a1, b1, fun q => ?_, fun q hq => (hF q).mpr (Or.inl (a4 q ((hR q).mp hq))), fun q hq => ?_, fun p q hp e => ?_⟩)
      · show (sn_black 600 mk (sn_pl st)).1 q ≤ 2
        rw [b2]
        by_cases e : q = sn_pl st
        · rw [e, va_up_self]; exact Nat.le_refl _
        · rw [va_up_ne _ _ e]; exact a3 q
      · show sn_S (sn_take st n) q ≠ none
        rcases (hF q).mp hq with h9 | h9
        · exact (hus q (a5 q h9)).1
        · rw [h9]; exact hpS
      · have hp : (sn_black 600 mk (sn_pl st)).1 p = 2 := hp
        have e : sn_E (sn_S (sn_take st n)) (sn_L (sn_take st n)) p q := e
        by_cases ep : p = sn_pl st
        · rw [ep] at e; exact absurd e (nE q)
        · rw [b2, va_up_ne _ _ ep] at hp
          rw [hE] at e
          exact (hF q).mpr (Or.inl (a6 p q hp e))
    · by_cases hc : cu ≤ sn_pl st
      · have em : sn_allm (st, mk, ph, cu) = (va_up mk.1 (sn_pl st) 2, mk.2) := by
          unfold sn_allm
          rw [if_pos (show (ph = 1 ∨ (ph = 2 ∧ cu ≤ sn_pl st)) from Or.inr ⟨a1, hc⟩)]
          exact if_pos ⟨p0, p6⟩
        rw [em]
        have tp' : sn_tp st ≤ sn_tp (sn_take st n) := by show sn_tp st ≤ (if 0 < sn_rc st then sn_tp st else sn_tp st + 1); split <;> omega
        refine Or.inr (Or.inr ⟨a1, a2, a3, ?_, fun q => ?_, fun q hq => ?_, fun q hq => ?_, fun q hq hcq => ?_⟩)
        · rcases a4 with a4 | a4
          · exact Or.inl (Nat.le_trans a4 tp')
          · exact Or.inr a4
        · show va_up mk.1 (sn_pl st) 2 q = 0 ∨ va_up mk.1 (sn_pl st) 2 q = 2
          by_cases e : q = sn_pl st
          · rw [e, va_up_self]; exact Or.inr rfl
          · rw [va_up_ne _ _ e]; exact a5 q
        · have hq : q < cu := hq
          show va_up mk.1 (sn_pl st) 2 q = 0
          rw [va_up_ne _ _ (by omega)]; exact a6 q hq
        · have hq : va_up mk.1 (sn_pl st) 2 q = 2 := hq
          show sn_S (sn_take st n) q ≠ none
          by_cases e : q = sn_pl st
          · rw [e]; exact hpS
          · rw [va_up_ne _ _ e] at hq; exact (hus q (a7 q hq)).1
        · show va_up mk.1 (sn_pl st) 2 q = 2
          by_cases e : q = sn_pl st
          · rw [e, va_up_self]
          · rw [va_up_ne _ _ e]; exact a8 q ((hR q).mp hq) hcq
      · have em : sn_allm (st, mk, ph, cu) = mk := if_neg (by show ¬ (ph = 1 ∨ (ph = 2 ∧ cu ≤ sn_pl st)); have a1 : ph = 2 := a1; omega)
        rw [em]
        have tp' : sn_tp st ≤ sn_tp (sn_take st n) := by show sn_tp st ≤ (if 0 < sn_rc st then sn_tp st else sn_tp st + 1); split <;> omega
        refine Or.inr (Or.inr ⟨a1, a2, a3, ?_, a5, a6, fun q hq => (hus q (a7 q hq)).1, fun q hq hcq => a8 q ((hR q).mp hq) hcq⟩)
        rcases a4 with a4 | a4
        · exact Or.inl (Nat.le_trans a4 tp')
        · exact Or.inr a4
  · refine Or.inr ⟨p6, hpS, fun e => ?_, fun e hc => ?_, fun q hq => absurd hq (nE q)⟩
    · have e : ph = 1 := e
      have em : sn_allm (st, mk, ph, cu) = (va_up mk.1 (sn_pl st) 2, mk.2) := by
        unfold sn_allm
        rw [if_pos (show (ph = 1 ∨ (ph = 2 ∧ cu ≤ sn_pl st)) from Or.inl e)]
        exact if_pos ⟨p0, p6⟩
      show sn_fin (fun q => (sn_allm (st, mk, ph, cu)).1 q ≠ 0) _ _ (sn_pl st)
      rw [em]
      exact sn_fin.nw (by show va_up mk.1 (sn_pl st) 2 (sn_pl st) ≠ 0; rw [va_up_self]; decide)
    · have e : ph = 2 := e
      have hc : cu ≤ sn_pl st := hc
      have em : sn_allm (st, mk, ph, cu) = (va_up mk.1 (sn_pl st) 2, mk.2) := by
        unfold sn_allm
        rw [if_pos (show (ph = 1 ∨ (ph = 2 ∧ cu ≤ sn_pl st)) from Or.inr ⟨e, hc⟩)]
        exact if_pos ⟨p0, p6⟩
      show (sn_allm (st, mk, ph, cu)).1 (sn_pl st) = 2
      rw [em]
      exact va_up_self _ _ _
