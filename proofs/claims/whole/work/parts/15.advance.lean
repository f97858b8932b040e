def sn_beg (x : SnG) : SnG := if x.2.2.1 = 0 then (x.1, sn_shv 600 (sn_L x.1) 0 (sn_sz (sn_S x.1) 0) x.2.1, 1, x.2.2.2) else x
def sn_trn (x : SnG) : SnG := if x.2.2.1 = 1 ∧ x.2.1.2.2 = 0 then (x.1, x.2.1, 2, 1) else x
def sn_one (x : SnG) : SnG := if x.2.2.1 = 1 then (x.1, sn_mark1 600 (sn_S x.1) (sn_L x.1) x.2.1, 1, x.2.2.2) else sn_sweep x
def sn_adv (x : SnG) : SnG := sn_one (sn_trn (sn_beg x))
def sn_work : Nat → SnG → SnG
  | 0, x => x
  | n + 1, x => sn_work n (sn_adv x)
theorem sn_sz0 {st : SnS} (h : sn_st st) : sn_sz (sn_S st) 0 = 16 := by unfold sn_sz; rw [h.1]; rfl
theorem sn_beg_gc {x : SnG} (h : sn_gc x) : sn_gc (sn_beg x) ∧ (sn_beg x).1 = x.1 ∧ (sn_beg x).2.2.1 ≠ 0 := by
  obtain ⟨st, mk, ph, cu⟩ := x
  obtain ⟨h1, h2, h3⟩ := h
  unfold sn_beg
  by_cases e : ph = 0
  · have e' : ((st, mk, ph, cu) : SnG).2.2.1 = 0 := e
    rw [if_pos e']
    rcases h3 with ⟨g1, g2, g3⟩ | ⟨g1, -⟩ | ⟨g1, -⟩
    · have hb := (sn_begin (st := st) (wt := mk.2.1) (C := mk.1) (cu := cu) h1 h2 g2).1
      have em : mk = (mk.1, mk.2.1, 0) := by
        have g3 : mk.2.2 = 0 := g3
        rw [← g3]
      have hz := sn_sz0 h1
      refine ⟨⟨h1, h2, Or.inr (Or.inl ?_)⟩, rfl, by show 1 ≠ 0; decide⟩
      show sn_g1 (st, sn_shv 600 (sn_L st) 0 (sn_sz (sn_S st) 0) mk, 1, cu)
      rw [hz, em]
      exact hb
    · have g1 : ph = 1 := g1
      omega
    · have g1 : ph = 2 := g1
      omega
  · have e' : ¬ ((st, mk, ph, cu) : SnG).2.2.1 = 0 := e
    rw [if_neg e']
    exact ⟨⟨h1, h2, h3⟩, rfl, e⟩
theorem sn_trn_gc {x : SnG} (h : sn_gc x) (h0 : x.2.2.1 ≠ 0) : sn_gc (sn_trn x) ∧ (sn_trn x).1 = x.1 ∧ (sn_trn x).2.1 = x.2.1 ∧ ((sn_trn x).2.2.1 = 1 ∧ 0 < (sn_trn x).2.1.2.2 ∨ (sn_trn x).2.2.1 = 2) := by
  obtain ⟨st, mk, ph, cu⟩ := x
  obtain ⟨h1, h2, h3⟩ := h
  have h0 : ph ≠ 0 := h0
  unfold sn_trn
  by_cases e : ph = 1 ∧ mk.2.2 = 0
  · have e' : ((st, mk, ph, cu) : SnG).2.2.1 = 1 ∧ ((st, mk, ph, cu) : SnG).2.1.2.2 = 0 := e
    rw [if_pos e']
    rcases h3 with ⟨g1, -⟩ | hg | ⟨g1, -⟩
    · exact absurd g1 h0
    · obtain ⟨rfl, e2⟩ := e
      exact ⟨⟨h1, h2, Or.inr (Or.inr (sn_done_g2 hg e2).1)⟩, rfl, rfl, Or.inr rfl⟩
    · have g1 : ph = 2 := g1
      omega
  · have e' : ¬ (((st, mk, ph, cu) : SnG).2.2.1 = 1 ∧ ((st, mk, ph, cu) : SnG).2.1.2.2 = 0) := e
    rw [if_neg e']
    refine ⟨⟨h1, h2, h3⟩, rfl, rfl, ?_⟩
    show ph = 1 ∧ 0 < mk.2.2 ∨ ph = 2
    rcases h3 with ⟨g1, -⟩ | ⟨g1, -⟩ | ⟨g1, -⟩
    · exact absurd g1 h0
    · have g1 : ph = 1 := g1
      exact Or.inl ⟨g1, by omega⟩
    · exact Or.inr g1
theorem sn_one_gc {x : SnG} (h : sn_gc x) (h0 : x.2.2.1 = 1 ∧ 0 < x.2.1.2.2 ∨ x.2.2.1 = 2) : sn_gc (sn_one x) ∧ sn_keep x.1 (sn_one x).1 := by
  obtain ⟨st, mk, ph, cu⟩ := x
  obtain ⟨h1, h2, h3⟩ := h
  unfold sn_one
  rcases h0 with ⟨e, hw⟩ | e
  · have e : ph = 1 := e
    subst e
    have hw : 0 < mk.2.2 := hw
    rw [if_pos (show ((st, mk, 1, cu) : SnG).2.2.1 = 1 from rfl)]
    rcases h3 with ⟨g1, -⟩ | hg | ⟨g1, -⟩
    · have g1 : (1 : Nat) = 0 := g1
      omega
    · exact ⟨⟨h1, h2, Or.inr (Or.inl (sn_mark_g1 h1 hg hw).1)⟩, sn_keep.rf st⟩
    · have g1 : (1 : Nat) = 2 := g1
      omega
  · have e : ph = 2 := e
    subst e
    rw [if_neg (show ¬ ((st, mk, 2, cu) : SnG).2.2.1 = 1 by show ¬ (2 : Nat) = 1; omega)]
    rcases h3 with ⟨g1, -⟩ | ⟨g1, -⟩ | hg
    · have g1 : (2 : Nat) = 0 := g1
      omega
    · have g1 : (2 : Nat) = 1 := g1
      omega
    · obtain ⟨a, b, -⟩ := sn_sweep_g h1 h2 hg
      exact ⟨a, b⟩
theorem sn_adv_gc {x : SnG} (h : sn_gc x) : sn_gc (sn_adv x) ∧ sn_keep x.1 (sn_adv x).1 := by
  obtain ⟨a1, a2, a3⟩ := sn_beg_gc h
  obtain ⟨b1, b2, b3, b4⟩ := sn_trn_gc a1 a3
  obtain ⟨c1, c2⟩ := sn_one_gc b1 b4
  refine ⟨c1, ?_⟩
  rw [b2, a2] at c2
  exact c2
theorem sn_work_gc : ∀ (n : Nat) {x : SnG}, sn_gc x → sn_gc (sn_work n x) ∧ sn_keep x.1 (sn_work n x).1
  | 0, x, h => ⟨h, sn_keep.rf _⟩
  | n + 1, x, h => by
    obtain ⟨a, b⟩ := sn_adv_gc h
    obtain ⟨c, d⟩ := sn_work_gc n a
    exact ⟨c, b.tr d⟩
def sn_nb (C : Nat → Nat) : Nat → Nat := fun q => if q = 0 ∨ C q = 2 then 0 else 1
def sn_pot (x : SnG) : Nat := if x.2.2.1 = 0 then 0 else if x.2.2.1 = 1 then 600 + sn_s (sn_nb (sn_C x)) 601 else if x.2.2.2 ≤ sn_tp x.1 then sn_tp x.1 + 1 - x.2.2.2 else 1
def sn_ex (x : SnG) : Prop := (x.2.2.1 = 1 → ∀ q, sn_F (sn_S x.1) (sn_L x.1) (sn_C x) q → sn_R (sn_S x.1) (sn_L x.1) q) ∧ (x.2.2.1 = 2 → sn_ex2 x) ∧ (x.2.2.1 = 0 → sn_ex0 x)
theorem sn_sweep_pot {st : SnS} {mk : SnM} {cu : Nat} (h : sn_st st) (h1 : 1 ≤ cu) (hc : cu ≤ sn_tp st ∨ cu = 1) (hk : sn_tp (sn_sweep (st, mk, 2, cu)).1 = sn_tp st) : sn_pot (sn_sweep (st, mk, 2, cu)) < sn_pot (st, mk, 2, cu) ∧ sn_pot (st, mk, 2, cu) ≤ 600 := by
  have h6 := h.2.2.1
  have e1 : (sn_sweep (st, mk, 2, cu)).2.2 = (if sn_tp st < cu + 1 then 0 else 2, cu + 1) := rfl
  have e2 : sn_pot (st, mk, 2, cu) = if cu ≤ sn_tp st then sn_tp st + 1 - cu else 1 := rfl
  have e3 : sn_pot (sn_sweep (st, mk, 2, cu)) = if (if sn_tp st < cu + 1 then 0 else 2) = 0 then 0 else if (if sn_tp st < cu + 1 then 0 else 2) = 1 then 600 + sn_s (sn_nb (sn_C (sn_sweep (st, mk, 2, cu)))) 601 else if cu + 1 ≤ sn_tp (sn_sweep (st, mk, 2, cu)).1 then sn_tp (sn_sweep (st, mk, 2, cu)).1 + 1 - (cu + 1) else 1 := rfl
  rw [hk] at e3
  rw [e3, e2]
  by_cases ht : sn_tp st < cu + 1
  · rw [if_pos ht, if_pos rfl]
    split <;> omega
  · rw [if_neg ht, if_neg (by decide), if_neg (by decide), if_pos (by omega), if_pos (by omega)]
    omega
theorem sn_adv_ex {x : SnG} (h : sn_gc x) (h0 : x.2.2.1 ≠ 0) (he : sn_ex x) : sn_ex (sn_adv x) ∧ sn_pot (sn_adv x) < sn_pot x := by
  obtain ⟨st, mk, ph, cu⟩ := x
  have h0 : ph ≠ 0 := h0
  have eb : sn_beg (st, mk, ph, cu) = (st, mk, ph, cu) := by unfold sn_beg; rw [if_neg (show ¬ ((st, mk, ph, cu) : SnG).2.2.1 = 0 from h0)]
  unfold sn_adv
  rw [eb]
  obtain ⟨h1, h2, h3⟩ := h
  obtain ⟨x1, x2, x0⟩ := he
  rcases h3 with ⟨g1, -⟩ | hg | hg
  · exact absurd g1 h0
  · have hp : ph = 1 := hg.1
    subst hp
    have x1 : ∀ q, sn_F (sn_S st) (sn_L st) mk.1 q → sn_R (sn_S st) (sn_L st) q := x1 rfl
    have p1 : sn_pot (st, mk, 1, cu) = 600 + sn_s (sn_nb mk.1) 601 := rfl
    by_cases hw : mk.2.2 = 0
    · have et : sn_trn (st, mk, 1, cu) = (st, mk, 2, 1) := by unfold sn_trn; rw [if_pos (show ((st, mk, 1, cu) : SnG).2.2.1 = 1 ∧ ((st, mk, 1, cu) : SnG).2.1.2.2 = 0 from ⟨rfl, hw⟩)]
      have eo : sn_one (st, mk, 2, 1) = sn_sweep (st, mk, 2, 1) := by unfold sn_one; rw [if_neg (show ¬ ((st, mk, 2, 1) : SnG).2.2.1 = 1 by show ¬ (2 : Nat) = 1; omega)]
      rw [et, eo]
      obtain ⟨g2, hF⟩ := sn_done_g2 hg hw
      obtain ⟨s1, s2, s3, s4⟩ := sn_sweep_g h1 h2 g2
      have hx : sn_ex2 (st, mk, 2, 1) := ⟨fun q hq => x1 q ((hF q).mpr hq), fun q a b => by have b : q < 1 := b; omega⟩
      obtain ⟨y1, y2⟩ := s4 hx
      have s31 : (sn_sweep (st, mk, 2, 1)).2.2.1 = if sn_tp st < 1 + 1 then 0 else 2 := rfl
      refine ⟨⟨fun e => ?_, fun e => y2 (fun ht => ?_), fun e => y1 ?_⟩, ?_⟩
      · rw [s31] at e; split at e <;> omega
      · rw [s31, if_pos ht] at e; omega
      · rw [s31] at e; split at e
        · assumption
        · omega
      · have a := sn_sweep_pot (st := st) (mk := mk) (cu := 1) h1 (Nat.le_refl _) (Or.inr rfl) s2.2.2.1
        rw [p1]; omega
    · have et : sn_trn (st, mk, 1, cu) = (st, mk, 1, cu) := by unfold sn_trn; rw [if_neg (show ¬ (((st, mk, 1, cu) : SnG).2.2.1 = 1 ∧ ((st, mk, 1, cu) : SnG).2.1.2.2 = 0) from fun h9 => hw h9.2)]
      have eo : sn_one (st, mk, 1, cu) = (st, sn_mark1 600 (sn_S st) (sn_L st) mk, 1, cu) := by unfold sn_one; rw [if_pos (show ((st, mk, 1, cu) : SnG).2.2.1 = 1 from rfl)]
      rw [et, eo]
      obtain ⟨m1, m2, g, m3, m4, m5, m6⟩ := sn_mark_g1 h1 hg (by omega)
      refine ⟨⟨fun _ q hq => x1 q ((m2 q).mp hq), fun e => ?_, fun e => ?_⟩, ?_⟩
      · have e : (1 : Nat) = 2 := e
        omega
      · have e : (1 : Nat) = 0 := e
        omega
      · rw [p1]
        show 600 + sn_s (sn_nb (sn_mark1 600 (sn_S st) (sn_L st) mk).1) 601 < 600 + sn_s (sn_nb mk.1) 601
        have hf : sn_nb (sn_mark1 600 (sn_S st) (sn_L st) mk).1 = va_up (sn_nb mk.1) g 0 := by
          funext q
          by_cases e : q = g
          · rw [e, va_up_self]; unfold sn_nb; rw [if_pos (Or.inr ((m6 g).mpr (Or.inr rfl)))]
          · rw [va_up_ne _ _ e]; unfold sn_nb
            by_cases e2 : q = 0 ∨ mk.1 q = 2
            · rw [if_pos e2, if_pos (e2.imp id (fun h9 => (m6 q).mpr (Or.inl h9)))]
            · rw [if_neg e2, if_neg (fun h9 => e2 (h9.imp id (fun h8 => ((m6 q).mp h8).resolve_right e)))]
        have a1 := sn_s_up (f := sn_nb mk.1) (k := g) (v := 0) (n := 601) (by omega)
        have a2 : sn_nb mk.1 g = 1 := by unfold sn_nb; rw [if_neg (by rw [m3]; omega)]
        rw [hf]; omega
  · have hp : ph = 2 := hg.1
    subst hp
    have et : sn_trn (st, mk, 2, cu) = (st, mk, 2, cu) := by unfold sn_trn; rw [if_neg (show ¬ (((st, mk, 2, cu) : SnG).2.2.1 = 1 ∧ ((st, mk, 2, cu) : SnG).2.1.2.2 = 0) from fun h9 => by have h9 : (2 : Nat) = 1 := h9.1; omega)]
    have eo : sn_one (st, mk, 2, cu) = sn_sweep (st, mk, 2, cu) := by unfold sn_one; rw [if_neg (show ¬ ((st, mk, 2, cu) : SnG).2.2.1 = 1 by show ¬ (2 : Nat) = 1; omega)]
    rw [et, eo]
    obtain ⟨s1, s2, s3, s4⟩ := sn_sweep_g h1 h2 hg
    obtain ⟨y1, y2⟩ := s4 (x2 rfl)
    have s31 : (sn_sweep (st, mk, 2, cu)).2.2.1 = if sn_tp st < cu + 1 then 0 else 2 := rfl
    refine ⟨⟨fun e => ?_, fun e => y2 (fun ht => ?_), fun e => y1 ?_⟩, (sn_sweep_pot (st := st) (mk := mk) h1 hg.2.2.1 hg.2.2.2.1 s2.2.2.1).1⟩
    · rw [s31] at e; split at e <;> omega
    · rw [s31, if_pos ht] at e; omega
    · rw [s31] at e; split at e
      · assumption
      · omega
def sn_it : Nat → SnG → SnG
  | 0, x => x
  | n + 1, x => if x.2.2.1 = 0 then x else sn_it n (sn_adv x)
theorem sn_it_ok : ∀ (n : Nat) {x : SnG}, sn_gc x → sn_ex x → sn_pot x ≤ n → sn_gc (sn_it n x) ∧ sn_keep x.1 (sn_it n x).1 ∧ (sn_it n x).2.2.1 = 0 ∧ sn_ex0 (sn_it n x)
  | 0, x, h, he, hp => by
    have h0 : x.2.2.1 = 0 := Classical.byContradiction fun h0 => by
      obtain ⟨-, a⟩ := sn_adv_ex h h0 he
      omega
    exact ⟨h, sn_keep.rf _, h0, he.2.2 h0⟩
  | n + 1, x, h, he, hp => by
    by_cases h0 : x.2.2.1 = 0
    · have e : sn_it (n + 1) x = x := if_pos h0
      rw [e]
      exact ⟨h, sn_keep.rf _, h0, he.2.2 h0⟩
    · have e : sn_it (n + 1) x = sn_it n (sn_adv x) := if_neg h0
      rw [e]
      obtain ⟨a1, a2⟩ := sn_adv_ex h h0 he
      obtain ⟨b1, b2⟩ := sn_adv_gc h
      obtain ⟨c1, c2, c3, c4⟩ := sn_it_ok n b1 a1 (by omega)
      exact ⟨c1, b2.tr c2, c3, c4⟩
def sn_whole (x : SnG) : SnG := sn_it 1200 (x.1, sn_shv 600 (sn_L x.1) 0 (sn_sz (sn_S x.1) 0) (fun _ => 0, x.2.1.2.1, 0), 1, x.2.2.2)
theorem sn_whole_ok {x : SnG} (h : sn_gc x) : sn_gc (sn_whole x) ∧ sn_keep x.1 (sn_whole x).1 ∧ (sn_whole x).2.2.1 = 0 ∧ ∀ q, 0 < q → (sn_S (sn_whole x).1 q ≠ none ↔ sn_R (sn_S x.1) (sn_L x.1) q) := by
  obtain ⟨h1, h2, -⟩ := h
  have hz := sn_sz0 h1
  obtain ⟨b1, b2⟩ := sn_begin (st := x.1) (wt := x.2.1.2.1) (C := fun _ => 0) (cu := x.2.2.2) h1 h2 (fun _ => rfl)
  unfold sn_whole
  rw [hz]
  have hp : sn_pot (x.1, sn_shv 600 (sn_L x.1) 0 16 (fun _ => 0, x.2.1.2.1, 0), 1, x.2.2.2) ≤ 1200 := by
    show 600 + sn_s (sn_nb (sn_shv 600 (sn_L x.1) 0 16 (fun _ => 0, x.2.1.2.1, 0)).1) 601 ≤ 1200
    have a1 := sn_s_up (f := fun _ => 1) (k := 0) (v := 0) (n := 601) (by omega)
    have a2 : sn_s (sn_nb (sn_shv 600 (sn_L x.1) 0 16 (fun _ => 0, x.2.1.2.1, 0)).1) 601 ≤ sn_s (va_up (fun _ => 1) 0 0) 601 := sn_s_le (fun k _ => by
      by_cases e0 : k = 0
      · rw [e0, va_up_self]; unfold sn_nb; rw [if_pos (Or.inl rfl)]; exact Nat.le_refl _
      · rw [va_up_ne _ 0 e0]; unfold sn_nb; split <;> omega)
    rw [sn_s_const] at a1
    have a5 : (fun _ => 1 : Nat → Nat) 0 = 1 := rfl
    try rw [a5] at a1
    omega
  have he : sn_ex (x.1, sn_shv 600 (sn_L x.1) 0 16 (fun _ => 0, x.2.1.2.1, 0), 1, x.2.2.2) := by
    refine ⟨fun _ q hq => (b2 q).mp hq, fun e => ?_, fun e => ?_⟩
    · have e : (1 : Nat) = 2 := e
      omega
    · have e : (1 : Nat) = 0 := e
      omega
  obtain ⟨c1, c2, c3, c4⟩ := sn_it_ok 1200 (x := (x.1, sn_shv 600 (sn_L x.1) 0 16 (fun _ => 0, x.2.1.2.1, 0), 1, x.2.2.2)) ⟨h1, h2, Or.inr (Or.inl b1)⟩ he hp
  refine ⟨c1, c2, c3, fun q hq => ⟨fun hs => (c2.rch q).mp (c4 q hq hs), fun hr => c1.2.1 q ((c2.rch q).mpr hr)⟩⟩
