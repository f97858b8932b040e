abbrev cr0 (b : Nat → Nat) (md pc re ce th tp : Nat) : Nat × va_E := (b 0, .inr (6, [.ref (b 1), .ref (b 2), .ref (b 3), .ref (b 4), .ref (b 5), .ref (b 6), .ref (b 7), .ref (b 8), .ref (b 9), .int (nI md), .int (nI pc), .int (nI re), .int (nI ce), .int (nI th), .int (nI tp)]))
def sn_rep (rv : Nat → Int64) (rr : Nat → Bool) (vv : Nat → Int64) (vr : Nat → Bool) (L : Nat → Nat) : Prop :=
  (∀ r, r < 16 → rr r = decide (L r ≠ 0) ∧ (L r ≠ 0 → rv r = lN (L r - 1))) ∧ (∀ j, j < 10240 → vr j = decide (L (16 + j) ≠ 0) ∧ (L (16 + j) ≠ 0 → vv j = lN (L (16 + j) - 1))) ∧ ∀ t, L t ≤ 640
def sn_S2 (Z : Nat → Nat) : Nat → Option Nat := fun k => if k = 0 then some 16 else some (Z (k - 1))
theorem sn_S2_sz (Z : Nat → Nat) {k : Nat} (h : 0 < k) : sn_sz (sn_S2 Z) k = Z (k - 1) := by
  unfold sn_sz sn_S2
  rw [if_neg (by omega)]
  rfl
def sn_ir (X : SnM) : Nat → Bool := fun k => decide (X.1 (k + 1) ≠ 0)
def sn_td (X : SnM) : Nat → Nat := fun i => X.2.1 i - 1
def sn_cr (X : SnM) : Nat := sn_s (fun q => if X.1 q ≠ 0 then 1 else 0) 641
def sn_cc (Z : Nat → Nat) (X : SnM) : Nat := sn_s (fun q => if X.1 q ≠ 0 then Z (q - 1) + 2 else 0) 641
def sn_x0 (Td : Nat → Nat) : SnM := (fun _ => 0, fun i => Td i + 1, 0)
def sn_xr (L Td : Nat → Nat) (n : Nat) : SnM := sn_shv 640 L 0 n (sn_x0 Td)
def sn_xf (Z L Td : Nat → Nat) : SnM := sn_mloop 640 (sn_S2 Z) L 640 (sn_xr L Td 16)
theorem sn_cr_0 (Td : Nat → Nat) : sn_cr (sn_x0 Td) = 0 := by
  unfold sn_cr
  rw [sn_s_congr (g := fun _ => 0) (fun k _ => if_neg (fun h9 => h9 rfl)), sn_s_zero]
theorem sn_cc_0 (Z Td : Nat → Nat) : sn_cc Z (sn_x0 Td) = 0 := by
  unfold sn_cc
  rw [sn_s_congr (g := fun _ => 0) (fun k _ => if_neg (fun h9 => h9 rfl)), sn_s_zero]
theorem sn_td_0 (Td : Nat → Nat) : sn_td (sn_x0 Td) = Td := by
  funext i
  show Td i + 1 - 1 = Td i
  omega
theorem sn_cr_up {C w : Nat → Nat} {wc : Nat} {q v : Nat} (hq : q ≤ 640) (h0 : C q = 0) (hv : v ≠ 0) (w' : Nat → Nat) (wc' : Nat) : sn_cr (va_up C q v, w', wc') = sn_cr (C, w, wc) + 1 := by
  have e : (fun k => if va_up C q v k ≠ 0 then 1 else 0) = va_up (fun k => if C k ≠ 0 then 1 else 0) q 1 := by
    funext k
    by_cases e : k = q
    · rw [e, va_up_self, va_up_self, if_pos hv]
    · rw [va_up_ne _ _ e, va_up_ne _ _ e]
  show sn_s (fun k => if va_up C q v k ≠ 0 then 1 else 0) 641 = sn_s (fun k => if C k ≠ 0 then 1 else 0) 641 + 1
  rw [e]
  have a := sn_s_up (f := fun k => if C k ≠ 0 then 1 else 0) (k := q) (v := 1) (n := 641) (by omega)
  rw [if_neg (show ¬ (C q ≠ 0) from fun h9 => h9 h0)] at a
  omega
theorem sn_cc_up {Z C w : Nat → Nat} {wc : Nat} {q v : Nat} (hq : q ≤ 640) (h0 : C q = 0) (hv : v ≠ 0) (w' : Nat → Nat) (wc' : Nat) : sn_cc Z (va_up C q v, w', wc') = sn_cc Z (C, w, wc) + (Z (q - 1) + 2) := by
  have e : (fun k => if va_up C q v k ≠ 0 then Z (k - 1) + 2 else 0) = va_up (fun k => if C k ≠ 0 then Z (k - 1) + 2 else 0) q (Z (q - 1) + 2) := by
    funext k
    by_cases e : k = q
    · rw [e, va_up_self, va_up_self, if_pos hv]
    · rw [va_up_ne _ _ e, va_up_ne _ _ e]
  show sn_s (fun k => if va_up C q v k ≠ 0 then Z (k - 1) + 2 else 0) 641 = sn_s (fun k => if C k ≠ 0 then Z (k - 1) + 2 else 0) 641 + (Z (q - 1) + 2)
  rw [e]
  have a := sn_s_up (f := fun k => if C k ≠ 0 then Z (k - 1) + 2 else 0) (k := q) (v := Z (q - 1) + 2) (n := 641) (by omega)
  rw [if_neg (show ¬ (C q ≠ 0) from fun h9 => h9 h0)] at a
  omega
theorem sn_ir_up {C w : Nat → Nat} {wc : Nat} {q v : Nat} (hq : 0 < q) (hv : v ≠ 0) (w' : Nat → Nat) (wc' : Nat) : sn_ir (va_up C q v, w', wc') = va_up (sn_ir (C, w, wc)) (q - 1) true := by
  funext k
  show decide (va_up C q v (k + 1) ≠ 0) = va_up (fun k => decide (C (k + 1) ≠ 0)) (q - 1) true k
  by_cases e : k = q - 1
  · rw [e, va_up_self, show q - 1 + 1 = q by omega, va_up_self]
    exact decide_eq_true hv
  · rw [va_up_ne _ _ e, va_up_ne _ _ (by omega)]
theorem sn_td_up {C C' w : Nat → Nat} {wc wc' : Nat} {q : Nat} : sn_td (C', va_up w wc q, wc') = va_up (sn_td (C, w, wc)) wc (q - 1) := by
  funext k
  show va_up w wc q k - 1 = va_up (fun i => w i - 1) wc (q - 1) k
  by_cases e : k = wc
  · rw [e, va_up_self, va_up_self]
  · rw [va_up_ne _ _ e, va_up_ne _ _ e]
theorem sn_ir_bl {X : SnM} {g : Nat} (h : X.1 g = 1) (wc : Nat) : sn_ir (va_up X.1 g 2, X.2.1, wc) = sn_ir X := by
  funext k
  show decide (va_up X.1 g 2 (k + 1) ≠ 0) = decide (X.1 (k + 1) ≠ 0)
  by_cases e : k + 1 = g
  · rw [e, va_up_self, h]; rfl
  · rw [va_up_ne _ _ e]
theorem sn_cr_bl {X : SnM} {g : Nat} (h : X.1 g = 1) (wc : Nat) : sn_cr (va_up X.1 g 2, X.2.1, wc) = sn_cr X := by
  unfold sn_cr
  refine sn_s_congr (fun k _ => ?_)
  show (if va_up X.1 g 2 k ≠ 0 then 1 else 0) = if X.1 k ≠ 0 then 1 else 0
  by_cases e : k = g
  · rw [e, va_up_self, h]; rfl
  · rw [va_up_ne _ _ e]
theorem sn_cc_bl {Z : Nat → Nat} {X : SnM} {g : Nat} (h : X.1 g = 1) (wc : Nat) : sn_cc Z (va_up X.1 g 2, X.2.1, wc) = sn_cc Z X := by
  unfold sn_cc
  refine sn_s_congr (fun k _ => ?_)
  show (if va_up X.1 g 2 k ≠ 0 then Z (k - 1) + 2 else 0) = if X.1 k ≠ 0 then Z (k - 1) + 2 else 0
  by_cases e : k = g
  · rw [e, va_up_self, h]; rfl
  · rw [va_up_ne _ _ e]
theorem sn_shade_q0 (X : SnM) : sn_shade 640 X 0 = X := if_neg (fun h => absurd h.1 (Nat.lt_irrefl _))
theorem sn_reZ {D : va_G} {K : Nat → ClassId} {ws : va_W} {H : Heap} {A : Nat → Prop} {x n : Nat} {f g : Nat → Bool} (hP : va_P D classes ws H) (hD : va_D A ws) (q0 : Nat) (ha : ws[q0]? = some (aZ K x n f)) (h : ∀ j, j < n → f j = g j) :
    va_P D classes (ws.set q0 (aZ K x n g)) H ∧ va_D A (ws.set q0 (aZ K x n g)) := by
  refine ⟨hP.set hD ha ?_ (fun q _ => rfl), hD.set ha⟩
  have h1 : H[x]? = some (vp_cell (K 2) (n, .inl (fun j => zb (f j)))) := hP q0 _ ha
  show H[x]? = some (vp_cell (K 2) (n, .inl (fun j => zb (g j))))
  rw [h1, vp_cell_i, vp_cell_i, sn_arrV (fun j hj => by rw [h j hj])]
theorem sn_xr_wl {L Td : Nat → Nat} (hL : ∀ t, L t ≤ 640) (n : Nat) : sn_wl 640 (sn_xr L Td n) ∧ ∀ q, (sn_xr L Td n).1 q ≤ 2 := by
  have h := sn_shv_wl (sn_wl_white (M := 640) (wt := fun i => Td i + 1) (fun _ => rfl)) (L := L) hL 0 n
  exact ⟨h.1, fun q => h.2.2.2 q (Nat.zero_le _)⟩
theorem sn_mloop_0' {M : Nat} {S : Nat → Option Nat} {L : Nat → Nat} (n : Nat) {y : SnM} (h : y.2.2 = 0) : sn_mloop M S L n y = y := by
  cases n with
  | zero => rfl
  | succ n => exact if_neg (by omega)
section SNB
variable {p : Program} {l : Launch} {e : Env} {R : Room} {s : State} {m : MethodId} {args : Array Value} {below : List Frame} {meth : Method} {c : Code} {H : Heap} {locs : List Loc} {cells slots : Nat} {Q : State → Prop}
variable {cc : ByteArray} {pc : Nat} {ls : Array Slot} {rest : List Value}
theorem sn_ibb_ne {x y : Bool} (hexec : p.tables.exec = Jvm.exec) (hb : c.code = cc) {off : Int} {tgt : Nat} (hdg : decode cc pc = .ok (.if_icmp .ne off, 3)) (ht : (pc : Int) + off = (tgt : Int))
    (kt : x ≠ y → W p l e R s m args below meth c H locs cells slots Q (F0 m tgt ls rest)) (kf : x = y → W p l e R s m args below meth c H locs cells slots Q (F0 m (pc + 3) ls rest)) : W p l e R s m args below meth c H locs cells slots Q (F0 m pc ls (.int (zb y) :: .int (zb x) :: rest)) := by
  cases x <;> cases y
  · exact lv_icmp_ne hexec hb hdg ht (fun h => absurd rfl h) (fun _ => kf rfl)
  · exact lv_icmp_ne hexec hb hdg ht (fun _ => kt (by decide)) (fun h => absurd h (by decide))
  · exact lv_icmp_ne hexec hb hdg ht (fun _ => kt (by decide)) (fun h => absurd h (by decide))
  · exact lv_icmp_ne hexec hb hdg ht (fun h => absurd rfl h) (fun _ => kf rfl)
end SNB
theorem sn_wl_le6 {M : Nat} {x : SnM} (h : sn_wl M x) : x.2.2 ≤ M := by
  obtain ⟨h1, -, -, -, h5⟩ := h
  have a1 := sn_s_up (f := fun _ => 1) (k := 0) (v := 0) (n := M + 1) (by omega)
  have a4 : sn_s (sn_grey x.1) (M + 1) ≤ sn_s (va_up (fun _ => 1) 0 0) (M + 1) := sn_s_le (fun k _ => by
    by_cases e0 : k = 0
    · rw [e0, va_up_self]; unfold sn_grey; rw [if_neg (by rw [h1]; decide)]; exact Nat.le_refl _
    · rw [va_up_ne _ 0 e0]; exact sn_grey_le _ _)
  rw [sn_s_const] at a1
  omega
theorem sn_mark1_3 {S : Nat → Option Nat} {L : Nat → Nat} (hL : ∀ s, L s ≤ 640) {y : SnM} (h : sn_wl 640 y) (h2 : ∀ q, y.1 q ≤ 2) (hw : 0 < y.2.2) : sn_wl 640 (sn_mark1 640 S L y) ∧ (∀ q, (sn_mark1 640 S L y).1 q ≤ 2) ∧ sn_s (sn_nb (sn_mark1 640 S L y).1) 641 + 1 = sn_s (sn_nb y.1) 641 := by
  obtain ⟨g, -, -, -, d4, -, -, d7⟩ := sn_mark1_wl h hw (S := S) (L := L) hL
  exact ⟨d4, d7 h2, (sn_mark1_fin (S := S) hL h hw).2⟩
theorem sn_mark1_eq {Z L : Nat → Nat} {X : SnM} (hw : 0 < X.2.2) (hg : 0 < X.2.1 (X.2.2 - 1) ∧ X.2.1 (X.2.2 - 1) ≤ 640) : sn_mark1 640 (sn_S2 Z) L X = sn_shv 640 L (16 * X.2.1 (X.2.2 - 1)) (Z (X.2.1 (X.2.2 - 1) - 1)) ((va_up X.1 (X.2.1 (X.2.2 - 1)) 2, X.2.1, X.2.2 - 1) : SnM) := by
  unfold sn_mark1
  rw [if_pos hw]
  unfold sn_black
  rw [if_pos hg]
  have e : (sn_S2 Z (X.2.1 (X.2.2 - 1))).getD 0 = Z (X.2.1 (X.2.2 - 1) - 1) := sn_S2_sz Z hg.1
  rw [e]
theorem sn_pop_wl {X : SnM} (h : sn_wl 640 X) (hw : 0 < X.2.2) : sn_wl 640 ((va_up X.1 (X.2.1 (X.2.2 - 1)) 2, X.2.1, X.2.2 - 1) : SnM) := by
  obtain ⟨c1, c0, c6⟩ := h.2.1 (X.2.2 - 1) (by omega)
  have e : sn_mark1 640 (fun _ => none) (fun _ => 0) X = ((va_up X.1 (X.2.1 (X.2.2 - 1)) 2, X.2.1, X.2.2 - 1) : SnM) := by
    unfold sn_mark1
    rw [if_pos hw]
    unfold sn_black
    rw [if_pos ⟨c0, c6⟩]
    rfl
  obtain ⟨g, -, -, -, d4, -⟩ := sn_mark1_wl h hw (S := fun _ => none) (L := fun _ => 0) (fun _ => Nat.zero_le _)
  rw [e] at d4
  exact d4
theorem sn_nb_le6 (C : Nat → Nat) : sn_s (sn_nb C) 641 + 0 ≤ 640 := by
  have h : sn_s (sn_nb C) 641 ≤ 640 := sn_nb_le C 640
  omega
theorem sn_xf_eq (Z L Td : Nat → Nat) : sn_mloop 640 (sn_S2 Z) L (640 - 0) (sn_xr L Td 16) = sn_xf Z L Td := by
  unfold sn_xf
  rw [Nat.sub_zero]
