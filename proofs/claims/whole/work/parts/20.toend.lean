def sn_mloop (M : Nat) (S : Nat → Option Nat) (L : Nat → Nat) : Nat → SnM → SnM
  | 0, x => x
  | n + 1, x => if 0 < x.2.2 then sn_mloop M S L n (sn_mark1 M S L x) else x
theorem sn_mark1_fin {M : Nat} {S : Nat → Option Nat} {L : Nat → Nat} (hL : ∀ s, L s ≤ M) {x : SnM} (h : sn_wl M x) (hw : 0 < x.2.2) : (∀ q, sn_F S L (sn_mark1 M S L x).1 q ↔ sn_F S L x.1 q) ∧ sn_s (sn_nb (sn_mark1 M S L x).1) (M + 1) + 1 = sn_s (sn_nb x.1) (M + 1) := by
  obtain ⟨g, d1, d2, d3, d4, d5, d6, d7⟩ := sn_mark1_wl h hw (S := S) (L := L) hL
  refine ⟨sn_fin_pop (g := g) (by show x.1 g ≠ 0; rw [d1]; decide) (by show ¬ x.1 g = 2; rw [d1]; decide) d6 (fun k => (d5 k).trans ⟨fun h => h.imp id (fun h9 => ⟨d2, h9⟩), fun h => h.imp id (fun h9 => h9.2)⟩), ?_⟩
  have hf : sn_nb (sn_mark1 M S L x).1 = va_up (sn_nb x.1) g 0 := by
    funext q
    by_cases e : q = g
    · rw [e, va_up_self]; unfold sn_nb; rw [if_pos (Or.inr ((d6 g).mpr (Or.inr rfl)))]
    · rw [va_up_ne _ _ e]; unfold sn_nb
      by_cases e2 : q = 0 ∨ x.1 q = 2
      · rw [if_pos e2, if_pos (e2.imp id (fun h9 => (d6 q).mpr (Or.inl h9)))]
      · rw [if_neg e2, if_neg (fun h9 => e2 (h9.imp id (fun h8 => ((d6 q).mp h8).resolve_right e)))]
  have a1 := sn_s_up (f := sn_nb x.1) (k := g) (v := 0) (n := M + 1) (by omega)
  have a2 : sn_nb x.1 g = 1 := by unfold sn_nb; rw [if_neg (by rw [d1]; omega)]
  rw [hf]; omega
theorem sn_mloop_ok {M : Nat} {S : Nat → Option Nat} {L : Nat → Nat} (hL : ∀ s, L s ≤ M) : ∀ (n : Nat) {x : SnM}, sn_wl M x → (∀ q, x.1 q ≤ 2) → sn_s (sn_nb x.1) (M + 1) ≤ n →
    sn_wl M (sn_mloop M S L n x) ∧ (sn_mloop M S L n x).2.2 = 0 ∧ (∀ q, (sn_mloop M S L n x).1 q ≤ 2) ∧ ∀ q, sn_F S L (sn_mloop M S L n x).1 q ↔ sn_F S L x.1 q
  | 0, x, h, h2, hn => by
    refine ⟨h, Classical.byContradiction fun hw => ?_, h2, fun _ => Iff.rfl⟩
    have hw : 0 < x.2.2 := by have hw : ¬ x.2.2 = 0 := hw; omega
    have := (sn_mark1_fin (S := S) hL h hw).2
    omega
  | n + 1, x, h, h2, hn => by
    by_cases hw : 0 < x.2.2
    · have e : sn_mloop M S L (n + 1) x = sn_mloop M S L n (sn_mark1 M S L x) := if_pos hw
      rw [e]
      obtain ⟨a1, a2⟩ := sn_mark1_fin (S := S) hL h hw
      obtain ⟨g, -, -, -, d4, -, -, d7⟩ := sn_mark1_wl h hw (S := S) (L := L) hL
      obtain ⟨b1, b2, b3, b4⟩ := sn_mloop_ok (S := S) hL n d4 (d7 h2) (by omega)
      exact ⟨b1, b2, b3, fun q => (b4 q).trans (a1 q)⟩
    · have e : sn_mloop M S L (n + 1) x = x := if_neg hw
      rw [e]
      exact ⟨h, by omega, h2, fun _ => Iff.rfl⟩
theorem sn_wl_end {M : Nat} {S : Nat → Option Nat} {L : Nat → Nat} {x : SnM} (h : sn_wl M x) (h2 : ∀ q, x.1 q ≤ 2) (hw : x.2.2 = 0) (q : Nat) : (x.1 q = 0 ∨ x.1 q = 2) ∧ (x.1 q ≠ 0 ↔ sn_F S L x.1 q) ∧ (x.1 q = 2 ↔ sn_F S L x.1 q) := by
  have ng : ∀ q, x.1 q = 0 ∨ x.1 q = 2 := fun q => by
    have a := h2 q
    have b : x.1 q ≠ 1 := fun e => by
      obtain ⟨i, hi, -⟩ := h.2.2.2.1 q e
      omega
    omega
  have hF := sn_fin_end (NW := fun q => x.1 q ≠ 0) (BK := fun q => x.1 q = 2) (E := sn_E S L) (fun q hq => (ng q).resolve_left hq) q
  refine ⟨ng q, hF.symm, ⟨fun e => hF.mpr (by show x.1 q ≠ 0; rw [e]; decide), fun e => (ng q).resolve_left (hF.mp e)⟩⟩
theorem sn_nb_le (C : Nat → Nat) (M : Nat) : sn_s (sn_nb C) (M + 1) ≤ M := by
  have a1 := sn_s_up (f := fun _ => 1) (k := 0) (v := 0) (n := M + 1) (by omega)
  have a2 : sn_s (sn_nb C) (M + 1) ≤ sn_s (va_up (fun _ => 1) 0 0) (M + 1) := sn_s_le (fun k _ => by
    by_cases e0 : k = 0
    · rw [e0, va_up_self]; unfold sn_nb; rw [if_pos (Or.inl rfl)]; exact Nat.le_refl _
    · rw [va_up_ne _ 0 e0]; unfold sn_nb; split <;> omega)
  rw [sn_s_const] at a1
  have a5 : (fun _ => 1 : Nat → Nat) 0 = 1 := rfl
  try rw [a5] at a1
  omega
theorem sn_reachAll {M : Nat} {S : Nat → Option Nat} {L wt : Nat → Nat} (hL : ∀ s, L s ≤ M) {n : Nat} (hn : M ≤ n) : (sn_mloop M S L n (sn_shv M L 0 16 (fun _ => 0, wt, 0))).2.2 = 0 ∧ ∀ q, (sn_mloop M S L n (sn_shv M L 0 16 (fun _ => 0, wt, 0))).1 q ≠ 0 ↔ sn_R S L q := by
  obtain ⟨a1, a2, a3, a4⟩ := sn_shv_wl (sn_wl_white (M := M) (wt := wt) (fun _ => rfl)) (L := L) hL 0 16
  have hF : ∀ q, sn_F S L (sn_shv M L 0 16 (fun _ => 0, wt, 0)).1 q ↔ sn_R S L q := by
    refine sn_fin_start (fun q => ?_) (fun q h => ?_)
    · refine (a2 q).trans ⟨fun h => ?_, fun ⟨r, h1, h2, h3⟩ => Or.inr ⟨r, h1, by rw [Nat.zero_add]; exact h2, h3⟩⟩
      rcases h with h | ⟨r, h1, h2, h3⟩
      · exact absurd rfl h
      · exact ⟨r, h1, by rw [Nat.zero_add] at h2; exact h2, h3⟩
    · have h2 : (0 : Nat) = 2 := (a3 q).mp h
      omega
  have h2 : ∀ q, (sn_shv M L 0 16 (fun _ => 0, wt, 0)).1 q ≤ 2 := fun q => a4 q (Nat.zero_le _)
  have hb := sn_nb_le (sn_shv M L 0 16 (fun _ => 0, wt, 0)).1 M
  obtain ⟨b1, b2, b3, b4⟩ := sn_mloop_ok (S := S) hL n a1 h2 (by omega)
  exact ⟨b2, fun q => (sn_wl_end (S := S) (L := L) b1 b3 b2 q).2.1.trans ((b4 q).trans (hF q))⟩
def sn_occ (rl : Nat → Nat) (p : Nat) : Nat → Nat
  | 0 => 0
  | n + 1 => sn_occ rl p n + (if rl n = p then 1 else 0)
theorem sn_occ_none {rl : Nat → Nat} {p : Nat} : ∀ {n : Nat}, (∀ i, i < n → rl i ≠ p) → sn_occ rl p n = 0
  | 0, _ => rfl
  | n + 1, h => by
    show sn_occ rl p n + (if rl n = p then 1 else 0) = 0
    rw [sn_occ_none (fun i hi => h i (by omega)), if_neg (h n (by omega))]
theorem sn_occ_one {rl : Nat → Nat} {p : Nat} : ∀ {n : Nat}, (∀ i j, i < n → j < n → rl i = rl j → i = j) → (∃ i, i < n ∧ rl i = p) → sn_occ rl p n = 1
  | 0, _, ⟨i, hi, _⟩ => absurd hi (Nat.not_lt_zero _)
  | n + 1, h, ⟨i, hi, e⟩ => by
    show sn_occ rl p n + (if rl n = p then 1 else 0) = 1
    by_cases e2 : rl n = p
    · rw [if_pos e2, sn_occ_none (fun j hj e3 => by have := h j n (by omega) (by omega) (e3.trans e2.symm); omega)]
    · rw [if_neg e2, sn_occ_one (fun a b ha hb => h a b (by omega) (by omega)) ⟨i, by
        have : i ≠ n := fun e3 => e2 (by rw [← e3]; exact e)
        omega, e⟩]
theorem sn_holders {x : SnS} (h : sn_st x) {p : Nat} (hp : 0 < p) (ht : p ≤ sn_tp x) : (if sn_S x p = none then 0 else 1) + sn_occ (sn_rl x) p (sn_rc x) = 1 := by
  obtain ⟨h0, h1, h2, h3, h4, h5, h6, h7, h8, h9⟩ := h
  by_cases e : sn_S x p = none
  · rw [if_pos e, sn_occ_one h8 (h9 p hp ht e)]
  · rw [if_neg e, sn_occ_none (fun i hi e2 => e (by rw [← e2]; exact (h7 i hi).2.2))]
def sn_trial (x : SnG) : SnM := if x.2.2.1 = 1 then sn_mloop 600 (sn_S x.1) (sn_L x.1) 600 x.2.1 else x.2.1
theorem sn_marks {x : SnG} (h : sn_gc x) (p : Nat) : ((sn_S x.1 p = none ∨ ¬ (x.2.2.1 = 1 ∨ (x.2.2.1 = 2 ∧ x.2.2.2 ≤ p))) → sn_C x p = 0) ∧ ((x.2.2.1 = 1 ∨ (x.2.2.1 = 2 ∧ x.2.2.2 ≤ p)) → (sn_trial x).1 p ≠ 1 ∧ (sn_R (sn_S x.1) (sn_L x.1) p → (sn_trial x).1 p = 2)) := by
  obtain ⟨h1, h2, h3⟩ := h
  rcases h3 with ⟨a1, a2, a3⟩ | ⟨a1, a2, a3, a4, a5, a6⟩ | ⟨a1, a2, a3, a4, a5, a6, a7, a8⟩
  · exact ⟨fun _ => a2 p, fun h9 => by omega⟩
  · have et : sn_trial x = sn_mloop 600 (sn_S x.1) (sn_L x.1) 600 x.2.1 := if_pos a1
    obtain ⟨b1, b2, b3, b4⟩ := sn_mloop_ok (S := sn_S x.1) h1.2.2.2.1 600 a2 a3 (sn_nb_le _ 600)
    obtain ⟨c1, c2, c3⟩ := sn_wl_end (S := sn_S x.1) (L := sn_L x.1) b1 b3 b2 p
    refine ⟨fun h9 => ?_, fun _ => ?_⟩
    · rcases h9 with h9 | h9
      · exact Classical.byContradiction fun h8 => a5 p (sn_fin.nw h8) h9
      · exact absurd (Or.inl a1) h9
    · rw [et]
      exact ⟨by omega, fun hr => c3.mpr ((b4 p).mpr (a4 p hr))⟩
  · have et : sn_trial x = x.2.1 := if_neg (by omega)
    refine ⟨fun h9 => ?_, fun h9 => ?_⟩
    · rcases h9 with h9 | h9
      · exact (a5 p).resolve_right (fun h8 => a7 p h8 h9)
      · exact a6 p (by omega)
    · rw [et]
      refine ⟨?_, fun hr => a8 p hr (by omega)⟩
      rcases a5 p with e | e
      · show sn_C x p ≠ 1
        omega
      · show sn_C x p ≠ 1
        omega
