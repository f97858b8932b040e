abbrev aI (K : Nat → ClassId) (x n : Nat) (f : Nat → Nat) : Nat × va_E := (x, .inl (K 0, n, .inl (fun j => nI (f j))))
abbrev aS (K : Nat → ClassId) (x n : Nat) (f : Nat → Option Nat) : Nat × va_E := (x, .inl (K 0, n, .inl (fun j => sn_i (f j))))
abbrev aZ (K : Nat → ClassId) (x n : Nat) (f : Nat → Bool) : Nat × va_E := (x, .inl (K 2, n, .inl (fun j => zb (f j))))
abbrev aL (K : Nat → ClassId) (x n : Nat) (f : Nat → Int64) : Nat × va_E := (x, .inl (K 1, n, .inr (.inl f)))
abbrev ce0 (a : Nat → Nat) (rc tp uc : Nat) : Nat × va_E := (a 0, .inr (0, [.ref (a 1), .ref (a 2), .ref (a 3), .ref (a 4), .int (nI rc), .int (nI tp), .int (nI uc)]))
abbrev cm0 (a : Nat → Nat) (o c w wc : Nat) : Nat × va_E := (o, .inr (1, [.ref (a 0), .ref c, .ref w, .int (nI wc)]))
abbrev cc0 (a ad : Nat → Nat) (ph cu : Nat) : Nat × va_E := (a 8, .inr (2, [.ref (a 0), .ref (a 5), .ref (ad ph), .int (nI cu)]))
abbrev cw0 (a : Nat → Nat) (d m c : Nat) (h : Int64) : Nat × va_E := (a 9, .inr (3, [.ref (a 0), .ref (a 10), .ref (a 11), .ref (a 12), .int (nI d), .int (nI m), .int (nI c), .long h]))
abbrev ca0 (a : Nat → Nat) : Nat × va_E := (a 13, .inr (4, [.ref (a 0), .ref (a 8), .ref (a 9), .ref (a 14), .ref (a 17)]))
abbrev cs0 (a : Nat → Nat) (pc md : Nat) : Nat × va_E := (a 18, .inr (5, [.ref (a 0), .ref (a 8), .ref (a 9), .ref (a 13), .int (nI pc), .int (nI md)]))
theorem sn_i_sz {S : Nat → Option Nat} {p : Nat} (h : S p ≠ none) : sn_i (S p) = nI (sn_sz S p) := by
  unfold sn_sz
  cases hs : S p with
  | none => exact absurd hs h
  | some n => rfl
theorem sn_sz_free {S : Nat → Option Nat} {p : Nat} (h : S p = none) : nI 0 = nI (sn_sz S p) := by
  unfold sn_sz
  rw [h]
  rfl
theorem sn_clr_0 {α : Type} (f : Nat → α) (b : Nat) (z : α) : sn_clr f b 0 z = f := by
  funext j
  unfold sn_clr
  rw [if_neg (by omega)]
theorem sn_clr_s {α : Type} (f : Nat → α) (b i : Nat) (z : α) : va_up (sn_clr f b i z) (b + i) z = sn_clr f b (i + 1) z := by
  funext j
  by_cases e : j = b + i
  · rw [e, va_up_self]
    unfold sn_clr
    rw [if_pos (by omega)]
  · rw [va_up_ne _ _ e]
    unfold sn_clr
    by_cases h : b ≤ j ∧ j < b + i
    · rw [if_pos h, if_pos (by omega)]
    · rw [if_neg h, if_neg (by omega)]
theorem sn_clr_s0 {α : Type} (f : Nat → α) (i : Nat) (z : α) : va_up (sn_clr f 0 i z) i z = sn_clr f 0 (i + 1) z := by
  have h := sn_clr_s f 0 i z
  rw [Nat.zero_add] at h
  exact h
abbrev aG {α : Type} (K : Nat → ClassId) (g : α → Int32) (x n : Nat) (f : Nat → α) : Nat × va_E := (x, .inl (K 0, n, .inl (fun j => g (f j))))
theorem sn_arrV {cI : ClassId} {n : Nat} {f g : Nat → Value} (h : ∀ j, j < n → f j = g j) : arrV cI n f = arrV cI n g := by
  unfold arrV
  have e : (fun j : Fin n => f j.val) = fun j : Fin n => g j.val := funext fun j => h j.val j.isLt
  rw [e]
theorem sn_reG {α : Type} {D : va_G} {K : Nat → ClassId} {ws : va_W} {H : Heap} {A : Nat → Prop} {r : α → Int32} {x n : Nat} {f g : Nat → α} (hP : va_P D classes ws H) (hD : va_D A ws) (q0 : Nat) (ha : ws[q0]? = some (aG K r x n f)) (h : ∀ j, j < n → f j = g j) :
    va_P D classes (ws.set q0 (aG K r x n g)) H ∧ va_D A (ws.set q0 (aG K r x n g)) := by
  refine ⟨hP.set hD ha ?_ (fun q _ => rfl), hD.set ha⟩
  have h1 : H[x]? = some (vp_cell (K 0) (n, .inl (fun j => r (f j)))) := hP q0 _ ha
  show H[x]? = some (vp_cell (K 0) (n, .inl (fun j => r (g j))))
  rw [h1, vp_cell_i, vp_cell_i, sn_arrV (fun j hj => by rw [h j hj])]
section SNY
variable {p : Program} {l : Launch} {e : Env} {R : Room} {s : State} {m : MethodId} {args : Array Value} {below : List Frame} {meth : Method} {c : Code} {H : Heap} {locs : List Loc} {cells slots : Nat} {Q : State → Prop}
variable {cc : ByteArray} {pc : Nat} {ls : Array Slot} {rest : List Value} {D : va_G} {K : Nat → ClassId} {ws : va_W} {A : Nat → Prop} {H0 : Heap}
theorem sn_copy (hexec : p.tables.exec = Jvm.exec) (hb : c.code = cc) (hml : c.maxLocals = ls.size) {own : String} {index : Nat} (hown : s.vm.findClass own = some m.cls) (hlink : (Cond.methodLink own index arraycopyName).before args s = true) (hnat : (Cond.native arraycopyName).before args s = true) (hstat : (Cond.static arraycopyName).before args s = true) (hini : (Cond.initialized "java/lang/System").before args s = true)
    (hK : va_K D classes (kt K) s) (hP : va_P D classes ws H) (hD : va_D A ws) (hS : va_S A H0 H locs) (q0 q1 : Nat) {a0 a1 n : Nat} {f g : Nat → Nat} (ha0 : ws[q0]? = some (aI K a0 n f)) (ha1 : ws[q1]? = some (aI K a1 n g)) (hn : n < 2 ^ 31)
    (hframes : 1 ≤ R.frames) (hlocals : (rest.map fun v => v.category).sum + (nativeFrameWords "java/lang/System" "arraycopy" 5 + 11) ≤ R.locals) (hdg : decode cc pc = .ok (.invokestatic index, 3))
    (kk : ∀ (H1 : Heap) (locs1 : List Loc), va_P D classes (ws.set q1 (aI K a1 n f)) H1 → va_D A (ws.set q1 (aI K a1 n f)) → va_S A H0 H1 locs1 → W p l e R s m args below meth c H1 locs1 cells slots Q (F0 m (pc + 3) ls rest)) :
    W p l e R s m args below meth c H locs cells slots Q (F0 m pc ls (.int (nI n) :: .int (nI 0) :: .ref a1 :: .int (nI 0) :: .ref a0 :: rest)) := by
  have c0 : (nI 0).toNatClampNeg = 0 := nI_clamp (by decide)
  have cn : (nI n).toNatClampNeg = n := nI_clamp hn
  refine va_copyi hexec hb hml hown hlink hnat hstat hini hK hP hD hS q0 q1 0 0 ha0 ha1 rfl rfl rfl (nI_pos (by decide)) (nI_pos (by decide)) (nI_pos hn) (by rw [c0, cn]; omega) (by rw [c0, cn]; omega) (fun _ _ => rfl) hframes hlocals hdg (fun H1 locs1 h1 h2 h3 => ?_)
  rw [c0, cn] at h1 h2
  have hlt : q1 < ws.length := (List.getElem?_eq_some_iff.mp ha1).1
  have hget : ∀ X : Nat × va_E, (ws.set q1 X)[q1]? = some X := fun X => List.getElem?_set_self hlt
  have e0 : ∀ X Y : Nat × va_E, (ws.set q1 X).set q1 Y = ws.set q1 Y := fun X Y => List.set_set ..
  have k1 : va_at D classes (aI K a1 n f) H1 := by
    have h4 : H1[a1]? = some (vp_cell (K 0) (n, .inl (va_cpy (fun j => nI (f j)) (fun j => nI (g j)) 0 0 n))) := h1 q1 _ (hget _)
    show H1[a1]? = some (vp_cell (K 0) (n, .inl (fun j => nI (f j))))
    rw [h4, vp_cell_i, vp_cell_i, sn_arrV (fun j hj => by rw [pk_cpy_in (by omega) (by omega), Nat.zero_add, Nat.sub_zero])]
  have k2 := h1.set h2 (hget _) (e := .inl (K 0, n, .inl (fun j => nI (f j)))) k1 (fun q _ => rfl)
  have k3 := h2.set (hget _) (e := .inl (K 0, n, .inl (fun j => nI (f j))))
  rw [e0] at k2 k3
  exact kk H1 locs1 k2 k3 h3
end SNY
theorem sn_shade_le {x : SnM} (h : (∀ q, x.1 q ≤ 2) ∧ x.2.2 ≤ 600) (p : Nat) : (∀ q, (sn_shade 600 x p).1 q ≤ 2) ∧ (sn_shade 600 x p).2.2 ≤ 600 := by
  unfold sn_shade
  split
  · rename_i hc
    refine ⟨fun q => ?_, ?_⟩
    · show va_up x.1 p 1 q ≤ 2
      by_cases e : q = p
      · rw [e, va_up_self]; decide
      · rw [va_up_ne _ _ e]; exact h.1 q
    · show x.2.2 + 1 ≤ 600
      omega
  · exact h
theorem sn_shv_le {x : SnM} (h : (∀ q, x.1 q ≤ 2) ∧ x.2.2 ≤ 600) (L : Nat → Nat) (b : Nat) : ∀ n : Nat, (∀ q, (sn_shv 600 L b n x).1 q ≤ 2) ∧ (sn_shv 600 L b n x).2.2 ≤ 600
  | 0 => h
  | n + 1 => sn_shade_le (sn_shv_le h L b n) _
theorem sn_sz_le {S : Nat → Option Nat} (h : ∀ q n, S q = some n → n ≤ 16) (p : Nat) : sn_sz S p ≤ 16 := by
  unfold sn_sz
  cases hs : S p with
  | none => exact Nat.zero_le _
  | some n => exact h p n hs
theorem sn_gc_hSz {x : SnG} (h : sn_gc x) : ∀ q n, sn_S x.1 q = some n → n ≤ 16 := fun q n hq => (h.1.2.1 q n hq).1
theorem sn_gc_hL {x : SnG} (h : sn_gc x) : ∀ s, sn_L x.1 s ≤ 600 := h.1.2.2.2.1
theorem sn_gc_ph {x : SnG} (h : sn_gc x) : x.2.2.1 < 3 := by
  rcases h.2.2 with ⟨e, -⟩ | ⟨e, -⟩ | ⟨e, -⟩ <;> omega
theorem sn_wl_le {x : SnM} (h : sn_wl 600 x) : x.2.2 ≤ 600 := by
  obtain ⟨h1, -, -, -, h5⟩ := h
  have h5 : x.2.2 = sn_s (sn_grey x.1) 601 := h5
  have a1 := sn_s_up (f := fun _ => 1) (k := 0) (v := 0) (n := 601) (by omega)
  have a4 : sn_s (sn_grey x.1) 601 ≤ sn_s (va_up (fun _ => 1) 0 0) 601 := sn_s_le (fun k _ => by
    by_cases e0 : k = 0
    · rw [e0, va_up_self]; unfold sn_grey; rw [if_neg (by rw [h1]; decide)]; exact Nat.le_refl _
    · rw [va_up_ne _ 0 e0]; exact sn_grey_le _ _)
  rw [sn_s_const] at a1
  have a5 : (fun _ => 1 : Nat → Nat) 0 = 1 := rfl
  try rw [a5] at a1
  omega
theorem sn_gc_hX {x : SnG} (h : sn_gc x) : (∀ q, x.2.1.1 q ≤ 2) ∧ x.2.1.2.2 ≤ 600 := by
  rcases h.2.2 with ⟨-, a, b⟩ | ⟨-, a, b, -⟩ | ⟨-, a, -, -, b, -⟩
  · exact ⟨fun q => by have := a q; show sn_C x q ≤ 2; omega, by omega⟩
  · exact ⟨b, sn_wl_le a⟩
  · exact ⟨fun q => by have := b q; show sn_C x q ≤ 2; omega, by omega⟩
theorem sn_gc_g2 {x : SnG} (h : sn_gc x) (h2 : x.2.2.1 = 2) : sn_g2 x := by
  rcases h.2.2 with ⟨e, -⟩ | ⟨e, -⟩ | g
  · omega
  · omega
  · exact g
theorem sn_gc_cu {x : SnG} (h : sn_gc x) (h2 : x.2.2.1 = 2) : 1 ≤ x.2.2.2 ∧ x.2.2.2 ≤ 600 := by
  have g := sn_gc_g2 h h2
  have h6 := h.1.2.2.1
  have a := g.2.2.1
  have b := g.2.2.2.1
  omega
theorem sn_gc_cu2 {x : SnG} (h : sn_gc x) (h2 : x.2.2.1 = 2) : x.2.2.2 < 2 ^ 31 := by
  have := sn_gc_cu h h2
  omega
theorem sn_gc_top {x : SnG} (h : sn_gc x) (h1 : x.2.2.1 = 1) (hw : 0 < x.2.1.2.2) : 0 < x.2.1.2.1 (x.2.1.2.2 - 1) ∧ x.2.1.2.1 (x.2.1.2.2 - 1) ≤ 600 := by
  rcases h.2.2 with ⟨e, -⟩ | ⟨-, g, -⟩ | ⟨e, -⟩
  · omega
  · exact (g.2.1 (x.2.1.2.2 - 1) (by omega)).2
  · omega
theorem sn_st_use {x : SnS} (h : sn_st x) {p : Nat} (hp : 0 < p) (hs : sn_S x p ≠ none) : sn_rc x < 600 ∧ sn_sz (sn_S x) p + 2 ≤ sn_uc x := by
  cases hn : sn_S x p with
  | none => exact absurd hn hs
  | some n =>
    have hpt := (h.2.1 p n hn).2
    have h6 := h.2.2.1
    refine ⟨h.room hp hn, ?_⟩
    have a := sn_s_one (f := sn_cel (sn_S x)) (k := p) (n := 601) (by omega)
    rw [sn_cel_some hp hn] at a
    have e := h.2.2.2.2.1
    have z : sn_sz (sn_S x) p = n := by unfold sn_sz; rw [hn]; rfl
    omega
theorem sn_adv_mark {x z : SnG} (ez : z = sn_trn (sn_beg x)) (h : z.2.2.1 = 1) : sn_adv x = (z.1, sn_mark1 600 (sn_S z.1) (sn_L z.1) z.2.1, z.2.2.1, z.2.2.2) := by
  unfold sn_adv
  rw [← ez, h]
  exact if_pos h
theorem sn_adv_sweep {x z : SnG} (ez : z = sn_trn (sn_beg x)) (h : z.2.2.1 ≠ 1) : sn_adv x = sn_sweep z := by
  unfold sn_adv
  rw [← ez]
  exact if_neg h
theorem sn_it_0 {y : SnG} (n : Nat) (h : y.2.2.1 = 0) : sn_it n y = y := by
  cases n with
  | zero => rfl
  | succ n => exact if_pos h
theorem sn_whole_gc {x : SnG} (h : sn_gc x) : sn_gc (x.1, sn_shv 600 (sn_L x.1) 0 (sn_sz (sn_S x.1) 0) (fun _ => 0, x.2.1.2.1, 0), 1, x.2.2.2) := by
  obtain ⟨h1, h2, -⟩ := h
  have b := (sn_begin (st := x.1) (wt := x.2.1.2.1) (C := fun _ => 0) (cu := x.2.2.2) h1 h2 (fun _ => rfl)).1
  rw [sn_sz0 h1]
  exact ⟨h1, h2, Or.inr (Or.inl b)⟩
theorem sn_allm_pos {x : SnG} (h0 : 0 < sn_pl x.1) (h6 : sn_pl x.1 ≤ 600) (h : x.2.2.1 = 1 ∨ (x.2.2.1 = 2 ∧ x.2.2.2 ≤ sn_pl x.1)) : sn_allm x = (va_up x.2.1.1 (sn_pl x.1) 2, x.2.1.2) := by
  unfold sn_allm
  rw [if_pos h]
  exact if_pos ⟨h0, h6⟩
theorem sn_rc_le {x : SnS} (h : sn_st x) : sn_rc x ≤ sn_tp x := by
  have e := h.2.2.2.2.2.2.1
  have a1 := sn_s_up (f := fun _ => 1) (k := 0) (v := 0) (n := sn_tp x + 1) (by omega)
  have a4 : sn_s (sn_fre (sn_S x)) (sn_tp x + 1) ≤ sn_s (va_up (fun _ => 1) 0 0) (sn_tp x + 1) := sn_s_le (fun k _ => by
    by_cases e0 : k = 0
    · rw [e0, va_up_self, sn_fre_some h.1]; exact Nat.le_refl _
    · rw [va_up_ne _ 0 e0]; exact sn_fre_le _ _)
  rw [sn_s_const] at a1
  omega
theorem sn_st_rc {x : SnS} (h : sn_st x) : sn_rc x ≤ 600 := by
  have h6 := h.2.2.1
  have := sn_rc_le h
  omega
theorem sn_take_htk {x : SnS} (h : sn_st x) {n : Nat} (hr : sn_uc x + n + 2 ≤ 1200) : (0 < sn_rc x ∧ sn_pl x = sn_rl x (sn_rc x - 1) ∧ sn_rc x - 1 = sn_rc x - 1 ∧ (if 0 < sn_rc x then sn_tp x else sn_tp x + 1) = sn_tp x) ∨ (sn_rc x = 0 ∧ sn_tp x < 600 ∧ sn_pl x = sn_tp x + 1 ∧ sn_rc x - 1 = 0 ∧ (if 0 < sn_rc x then sn_tp x else sn_tp x + 1) = sn_tp x + 1) := by
  have hp := sn_pl_ok h hr
  unfold sn_pl at hp ⊢
  by_cases hc : 0 < sn_rc x
  · rw [if_pos hc, if_pos hc]; exact Or.inl ⟨hc, rfl, rfl, rfl⟩
  · rw [if_neg hc] at hp
    rw [if_neg hc, if_neg hc]; exact Or.inr ⟨by omega, by omega, rfl, by omega, rfl⟩
def sn_wb (z : SnW) : Prop := (∀ q, z.1 q ≤ z.2.2.2.2.1) ∧ (∀ k, k < z.2.2.2.1 → z.2.1 k ≤ 600 ∧ z.2.2.1 k ≤ 16) ∧ z.2.2.2.2.2.1 ≤ 18 * z.2.2.2.2.1
theorem sn_wi_m {z : SnW} (h : sn_wi z) : z.2.2.2.2.1 ≤ 600 := by
  obtain ⟨h0, -, h2⟩ := h
  have a1 := sn_s_up (f := fun _ => 1) (k := 0) (v := 0) (n := 601) (by omega)
  have a4 : sn_s (fun q => if z.1 q ≠ 0 then 1 else 0) 601 ≤ sn_s (va_up (fun _ => 1) 0 0) 601 := sn_s_le (fun k _ => by
    by_cases e0 : k = 0
    · rw [e0, va_up_self, if_neg (fun h9 => h9 h0)]; exact Nat.le_refl _
    · rw [va_up_ne _ 0 e0]; split <;> omega)
  rw [sn_s_const] at a1
  have a5 : (fun _ => 1 : Nat → Nat) 0 = 1 := rfl
  try rw [a5] at a1
  omega
theorem sn_wi_d {z : SnW} (h : sn_wi z) {l : Nat} (hl : 0 < l ∧ l ≤ 600) (hn : ¬ 0 < z.1 l) : z.2.2.2.1 < 601 := by
  have h1 := sn_cnt_lt h.1 hl.1 hl.2 (by omega)
  have h2 := h.2.1
  have h3 := h.2.2
  omega
theorem sn_wmeet_num {S : Nat → Option Nat} {L : Nat → Nat} {N : Nat → Int64} {z : SnW} {t : Nat} (h : ¬ (0 < L t ∧ L t ≤ 600)) : sn_wmeet S L N z t = (z.1, z.2.1, z.2.2.1, z.2.2.2.1, z.2.2.2.2.1, z.2.2.2.2.2.1, 31 * z.2.2.2.2.2.2 + N t) := if_pos h
theorem sn_wmeet_old {S : Nat → Option Nat} {L : Nat → Nat} {N : Nat → Int64} {z : SnW} {t : Nat} (h : 0 < L t ∧ L t ≤ 600) (h2 : 0 < z.1 (L t)) : sn_wmeet S L N z t = (z.1, z.2.1, z.2.2.1, z.2.2.2.1, z.2.2.2.2.1, z.2.2.2.2.2.1, 31 * z.2.2.2.2.2.2 + lN (2 + z.1 (L t))) := by
  unfold sn_wmeet
  rw [if_neg (fun h9 => h9 h), if_pos h2]
theorem sn_wmeet_new {S : Nat → Option Nat} {L : Nat → Nat} {N : Nat → Int64} {z : SnW} {t : Nat} (h : 0 < L t ∧ L t ≤ 600) (h2 : ¬ 0 < z.1 (L t)) (hd : z.2.2.2.1 < 601) : sn_wmeet S L N z t = (va_up z.1 (L t) (z.2.2.2.2.1 + 1), va_up z.2.1 z.2.2.2.1 (L t), va_up z.2.2.1 z.2.2.2.1 0, z.2.2.2.1 + 1, z.2.2.2.2.1 + 1, z.2.2.2.2.2.1 + (sn_sz S (L t) + 2), 31 * (31 * z.2.2.2.2.2.2 + 3) + lN (sn_sz S (L t))) := by
  unfold sn_wmeet
  rw [if_neg (fun h9 => h9 h), if_neg h2]
  exact if_pos hd
theorem sn_wb_nv {z : SnW} (h : sn_wb z) (h0 : 0 < z.2.2.2.1) (hn : z.2.2.1 (z.2.2.2.1 - 1) < 16) : sn_wb (z.1, z.2.1, va_up z.2.2.1 (z.2.2.2.1 - 1) (z.2.2.1 (z.2.2.2.1 - 1) + 1), z.2.2.2) := by
  refine ⟨h.1, fun k hk => ⟨(h.2.1 k hk).1, ?_⟩, h.2.2⟩
  show va_up z.2.2.1 (z.2.2.2.1 - 1) (z.2.2.1 (z.2.2.2.1 - 1) + 1) k ≤ 16
  by_cases e : k = z.2.2.2.1 - 1
  · rw [e, va_up_self]; omega
  · rw [va_up_ne _ _ e]; exact (h.2.1 k hk).2
theorem sn_wmeet_wb {S : Nat → Option Nat} {L : Nat → Nat} {N : Nat → Int64} (hSz : ∀ q n, S q = some n → n ≤ 16) {z : SnW} (hz : sn_wi z) (h : sn_wb z) (t : Nat) : sn_wb (sn_wmeet S L N z t) := by
  by_cases h1 : 0 < L t ∧ L t ≤ 600
  · by_cases h2 : 0 < z.1 (L t)
    · rw [sn_wmeet_old h1 h2]; exact h
    · rw [sn_wmeet_new h1 h2 (sn_wi_d hz h1 h2)]
      have hzz := sn_sz_le hSz (L t)
      obtain ⟨a1, a2, a3⟩ := h
      refine ⟨fun q => ?_, fun k hk => ?_, ?_⟩
      · show va_up z.1 (L t) (z.2.2.2.2.1 + 1) q ≤ z.2.2.2.2.1 + 1
        by_cases e : q = L t
        · rw [e, va_up_self]; exact Nat.le_refl _
        · rw [va_up_ne _ _ e]; have := a1 q; omega
      · have hk : k < z.2.2.2.1 + 1 := hk
        show va_up z.2.1 z.2.2.2.1 (L t) k ≤ 600 ∧ va_up z.2.2.1 z.2.2.2.1 0 k ≤ 16
        by_cases e : k = z.2.2.2.1
        · rw [e, va_up_self, va_up_self]; exact ⟨h1.2, by omega⟩
        · rw [va_up_ne _ _ e, va_up_ne _ _ e]; exact a2 k (by omega)
      · show z.2.2.2.2.2.1 + (sn_sz S (L t) + 2) ≤ 18 * (z.2.2.2.2.1 + 1)
        omega
  · rw [sn_wmeet_num h1]; exact h
theorem sn_goon_wb {S : Nat → Option Nat} {L : Nat → Nat} {N : Nat → Int64} (hL : ∀ s, L s ≤ 600) (hSz : ∀ q n, S q = some n → n ≤ 16) {z : SnW} (hz : sn_wi z) (h : sn_wb z) (hd : 0 < z.2.2.2.1) : sn_wb (sn_goon S L N z) := by
  unfold sn_goon
  by_cases h1 : z.2.2.1 (z.2.2.2.1 - 1) < sn_sz S (z.2.1 (z.2.2.2.1 - 1))
  · rw [if_pos h1]
    have hzz := sn_sz_le hSz (z.2.1 (z.2.2.2.1 - 1))
    exact sn_wmeet_wb (z := (z.1, z.2.1, va_up z.2.2.1 (z.2.2.2.1 - 1) (z.2.2.1 (z.2.2.2.1 - 1) + 1), z.2.2.2)) hSz hz (sn_wb_nv h hd (by omega)) _
  · rw [if_neg h1]
    exact ⟨h.1, fun k hk => h.2.1 k (by have hk : k < z.2.2.2.1 - 1 := hk; omega), h.2.2⟩
theorem sn_wi_0 (z : SnW) : sn_wi (fun _ => 0, va_up z.2.1 0 0, va_up z.2.2.1 0 0, 1, 0, 0, 7) := by
  refine ⟨rfl, Nat.le_refl _, ?_⟩
  show 0 = sn_s (fun q => if (0 : Nat) ≠ 0 then 1 else 0) 601
  rw [sn_s_congr (g := fun _ => 0) (fun k _ => if_neg (fun h9 => h9 rfl)), sn_s_zero]
theorem sn_wb_0 (z : SnW) : sn_wb (fun _ => 0, va_up z.2.1 0 0, va_up z.2.2.1 0 0, 1, 0, 0, 7) := by
  refine ⟨fun _ => Nat.le_refl _, fun k hk => ?_, Nat.le_refl _⟩
  have hk : k < 1 := hk
  have e : k = 0 := by omega
  show va_up z.2.1 0 0 k ≤ 600 ∧ va_up z.2.2.1 0 0 k ≤ 16
  rw [e, va_up_self, va_up_self]
  omega
theorem sn_wrun_0 (S : Nat → Option Nat) (L : Nat → Nat) (N : Nat → Int64) (n : Nat) {y : SnW} (h : y.2.2.2.1 = 0) : sn_wrun S L N n y = y := by
  cases n with
  | zero => rfl
  | succ n => exact if_neg (by omega)
def sn_h1 (S : Nat → Option Nat) (W : Nat → Nat) (n : Nat) : Nat → Nat := fun p => if 0 < p ∧ p ≤ n then (if S p = none then 0 else 1) else W p
def sn_h2 (rl g : Nat → Nat) (n : Nat) : Nat → Nat := fun p => g p + sn_occ rl p n
theorem sn_h1_0 (S : Nat → Option Nat) (W : Nat → Nat) : sn_h1 S W 0 = W := by
  funext p
  unfold sn_h1
  rw [if_neg (by omega)]
theorem sn_h1_a {S : Nat → Option Nat} {W : Nat → Nat} {i : Nat} (h : S (i + 1) = none) : va_up (sn_h1 S W i) (i + 1) 0 = sn_h1 S W (i + 1) := by
  funext p
  by_cases e : p = i + 1
  · rw [e, va_up_self]; unfold sn_h1; rw [if_pos (by omega), if_pos h]
  · rw [va_up_ne _ _ e]; unfold sn_h1
    by_cases h9 : 0 < p ∧ p ≤ i
    · rw [if_pos h9, if_pos (show 0 < p ∧ p ≤ i + 1 by omega)]
    · rw [if_neg h9, if_neg (show ¬ (0 < p ∧ p ≤ i + 1) by omega)]
theorem sn_h1_b {S : Nat → Option Nat} {W : Nat → Nat} {i : Nat} (h : S (i + 1) ≠ none) : va_up (sn_h1 S W i) (i + 1) 1 = sn_h1 S W (i + 1) := by
  funext p
  by_cases e : p = i + 1
  · rw [e, va_up_self]; unfold sn_h1; rw [if_pos (by omega), if_neg h]
  · rw [va_up_ne _ _ e]; unfold sn_h1
    by_cases h9 : 0 < p ∧ p ≤ i
    · rw [if_pos h9, if_pos (show 0 < p ∧ p ≤ i + 1 by omega)]
    · rw [if_neg h9, if_neg (show ¬ (0 < p ∧ p ≤ i + 1) by omega)]
theorem sn_h2_0 (rl g : Nat → Nat) : sn_h2 rl g 0 = g := rfl
theorem sn_h2_s (rl g : Nat → Nat) (i : Nat) : va_up (sn_h2 rl g i) (rl i) (sn_h2 rl g i (rl i) + 1) = sn_h2 rl g (i + 1) := by
  funext p
  by_cases e : p = rl i
  · rw [e, va_up_self]
    show g (rl i) + sn_occ rl (rl i) i + 1 = g (rl i) + (sn_occ rl (rl i) i + (if rl i = rl i then 1 else 0))
    rw [if_pos rfl]; omega
  · rw [va_up_ne _ _ e]
    show g p + sn_occ rl p i = g p + (sn_occ rl p i + (if rl i = p then 1 else 0))
    rw [if_neg (fun h => e h.symm)]; omega
theorem sn_h2_le (rl g : Nat → Nat) (n p : Nat) : sn_occ rl p n ≤ n := by
  induction n with
  | zero => exact Nat.le_refl _
  | succ n ih =>
    show sn_occ rl p n + (if rl n = p then 1 else 0) ≤ n + 1
    split <;> omega
theorem sn_mark1_2 {S : Nat → Option Nat} {L : Nat → Nat} (hL : ∀ s, L s ≤ 600) {y : SnM} (h : sn_wl 600 y) (h2 : ∀ q, y.1 q ≤ 2) (hw : 0 < y.2.2) : sn_wl 600 (sn_mark1 600 S L y) ∧ ∀ q, (sn_mark1 600 S L y).1 q ≤ 2 := by
  obtain ⟨g, -, -, -, d4, -, -, d7⟩ := sn_mark1_wl h hw (S := S) (L := L) hL
  exact ⟨d4, d7 h2⟩
theorem sn_mloop_0 {S : Nat → Option Nat} {L : Nat → Nat} (n : Nat) {y : SnM} (h : y.2.2 = 0) : sn_mloop 600 S L n y = y := by
  cases n with
  | zero => rfl
  | succ n => exact if_neg (by omega)
