def sn_rp (rv : Nat → Int64) (rr : Nat → Bool) (vv : Nat → Int64) (vr : Nat → Bool) (L : Nat → Nat) (N : Nat → Int64) : Prop := sn_rep rv rr vv vr L ∧ (∀ r, r < 16 → rv r = sn_v2 L N r) ∧ ∀ j, j < 10240 → vv j = sn_v2 L N (16 + j)
theorem sn_rp_root {rv : Nat → Int64} {rr : Nat → Bool} {vv : Nat → Int64} {vr : Nat → Bool} {L : Nat → Nat} {N : Nat → Int64} (h : sn_rp rv rr vv vr L N) {r l : Nat} {n v : Int64} {b : Bool} (hr : r < 16) (hl : l ≤ 640) (e1 : v = if l = 0 then n else lN (l - 1)) (e2 : b = decide (l ≠ 0)) :
    sn_rp (va_up rv r v) (va_up rr r b) vv vr (va_up L r l) (va_up N r n) := by
  obtain ⟨⟨a1, a2, a3⟩, b1, b2⟩ := h
  refine ⟨⟨fun k hk => ?_, fun j hj => ?_, fun t => ?_⟩, fun k hk => ?_, fun j hj => ?_⟩
  · by_cases e : k = r
    · rw [e, va_up_self, va_up_self, va_up_self]
      refine ⟨e2, fun h0 => ?_⟩
      rw [e1, if_neg h0]
    · rw [va_up_ne _ _ e, va_up_ne _ _ e, va_up_ne _ _ e]; exact a1 k hk
  · rw [va_up_ne L _ (show 16 + j ≠ r by omega)]; exact a2 j hj
  · by_cases e : t = r
    · rw [e, va_up_self]; exact hl
    · rw [va_up_ne _ _ e]; exact a3 t
  · unfold sn_v2
    by_cases e : k = r
    · rw [e, va_up_self, va_up_self, va_up_self]; exact e1
    · rw [va_up_ne _ _ e, va_up_ne _ _ e, va_up_ne _ _ e]; exact b1 k hk
  · unfold sn_v2
    rw [va_up_ne L _ (show 16 + j ≠ r by omega), va_up_ne N _ (show 16 + j ≠ r by omega)]; exact b2 j hj
theorem sn_rp_val {rv : Nat → Int64} {rr : Nat → Bool} {vv : Nat → Int64} {vr : Nat → Bool} {L : Nat → Nat} {N : Nat → Int64} (h : sn_rp rv rr vv vr L N) {j l : Nat} {n v : Int64} {b : Bool} (hl : l ≤ 640) (e1 : v = if l = 0 then n else lN (l - 1)) (e2 : b = decide (l ≠ 0)) :
    sn_rp rv rr (va_up vv j v) (va_up vr j b) (va_up L (16 + j) l) (va_up N (16 + j) n) := by
  obtain ⟨⟨a1, a2, a3⟩, b1, b2⟩ := h
  refine ⟨⟨fun k hk => ?_, fun i hi => ?_, fun t => ?_⟩, fun k hk => ?_, fun i hi => ?_⟩
  · rw [va_up_ne L _ (show k ≠ 16 + j by omega)]; exact a1 k hk
  · by_cases e : i = j
    · rw [e, va_up_self, va_up_self, va_up_self]
      refine ⟨e2, fun h0 => ?_⟩
      rw [e1, if_neg h0]
    · rw [va_up_ne _ _ e, va_up_ne _ _ e, va_up_ne L _ (show 16 + i ≠ 16 + j by omega)]; exact a2 i hi
  · by_cases e : t = 16 + j
    · rw [e, va_up_self]; exact hl
    · rw [va_up_ne _ _ e]; exact a3 t
  · unfold sn_v2
    rw [va_up_ne L _ (show k ≠ 16 + j by omega), va_up_ne N _ (show k ≠ 16 + j by omega)]; exact b1 k hk
  · unfold sn_v2
    by_cases e : i = j
    · rw [e, va_up_self, va_up_self, va_up_self]; exact e1
    · rw [va_up_ne _ _ e, va_up_ne L _ (show 16 + i ≠ 16 + j by omega), va_up_ne N _ (show 16 + i ≠ 16 + j by omega)]; exact b2 i hi
theorem sn_rp_clr {rv : Nat → Int64} {rr : Nat → Bool} {vv : Nat → Int64} {vr : Nat → Bool} {L : Nat → Nat} {N : Nat → Int64} (h : sn_rp rv rr vv vr L N) (k : Nat) :
    sn_rp rv rr (sn_clr vv (16 * k) 16 0) (sn_clr vr (16 * k) 16 false) (sn_clr L (16 * (k + 1)) 16 0) (sn_clr N (16 * (k + 1)) 16 0) := by
  obtain ⟨⟨a1, a2, a3⟩, b1, b2⟩ := h
  have no : ∀ r, r < 16 → sn_clr L (16 * (k + 1)) 16 0 r = L r ∧ sn_clr N (16 * (k + 1)) 16 0 r = N r := fun r hr => by
    unfold sn_clr
    rw [if_neg (by omega), if_neg (by omega)]
    exact ⟨rfl, rfl⟩
  refine ⟨⟨fun r hr => ?_, fun i hi => ?_, fun t => ?_⟩, fun r hr => ?_, fun i hi => ?_⟩
  · rw [(no r hr).1]; exact a1 r hr
  · unfold sn_clr
    by_cases e : 16 * k ≤ i ∧ i < 16 * k + 16
    · rw [if_pos e, if_pos e, if_pos (by omega)]
      exact ⟨rfl, fun h9 => absurd rfl h9⟩
    · rw [if_neg e, if_neg e, if_neg (by omega)]; exact a2 i hi
  · unfold sn_clr
    split
    · exact Nat.zero_le _
    · exact a3 t
  · unfold sn_v2
    rw [(no r hr).1, (no r hr).2]; exact b1 r hr
  · unfold sn_v2 sn_clr
    by_cases e : 16 * k ≤ i ∧ i < 16 * k + 16
    · have e2 : 16 * (k + 1) ≤ 16 + i ∧ 16 + i < 16 * (k + 1) + 16 := by omega
      rw [if_pos e, if_pos e2, if_pos e2, if_pos rfl]
    · have e2 : ¬ (16 * (k + 1) ≤ 16 + i ∧ 16 + i < 16 * (k + 1) + 16) := by omega
      rw [if_neg e, if_neg e2, if_neg e2]; exact b2 i hi
def sn_ok (x : SnG) (vv rv : Nat → Int64) (vr rr : Nat → Bool) (Z : Nat → Nat) : Prop := sn_gc x ∧ (∀ k, Z k ≤ 16) ∧ ∃ (φ L : Nat → Nat) (N : Nat → Int64), sn_iso φ (sn_S x.1) (sn_L x.1) (sn_Nm x.1) (sn_S2 Z) L N ∧ sn_rp rv rr vv vr L N
section SNOK
variable {x : SnG} {vv rv : Nat → Int64} {vr rr : Nat → Bool} {Z : Nat → Nat}
theorem sn_ok.keep (h : sn_ok x vv rv vr rr Z) {y : SnG} (hy : sn_gc y) (k : sn_keep x.1 y.1) : sn_ok y vv rv vr rr Z := by
  obtain ⟨-, hZ, φ, L, N, hi, hp⟩ := h
  exact ⟨hy, hZ, φ, L, N, sn_iso_keep hi k, hp⟩
theorem sn_ok.work (h : sn_ok x vv rv vr rr Z) (n : Nat) : sn_ok (sn_work n x) vv rv vr rr Z := h.keep (sn_work_gc n h.1).1 (sn_work_gc n h.1).2
theorem sn_ok.whole (h : sn_ok x vv rv vr rr Z) : sn_ok (sn_whole x) vv rv vr rr Z := h.keep (sn_whole_ok h.1).1 (sn_whole_ok h.1).2.1
theorem sn_ok.room (h : sn_ok x vv rv vr rr Z) (n : Nat) : sn_ok (sn_room n x) vv rv vr rr Z := h.keep (sn_room_gc h.1 n).1 (sn_room_gc h.1 n).2
theorem sn_ok.rep (h : sn_ok x vv rv vr rr Z) : ∃ L, sn_rep rv rr vv vr L := by
  obtain ⟨-, -, φ, L, N, -, hp⟩ := h
  exact ⟨L, hp.1⟩
theorem sn_ok.root (h : sn_ok x vv rv vr rr Z) {r : Nat} (hr : r < 16) : (sn_L x.1 r = 0 ∧ rr r = false ∧ rv r = sn_Nm x.1 r) ∨
    (0 < sn_L x.1 r ∧ rr r = true ∧ sn_Nm x.1 r = 0 ∧ ∃ k, k < 640 ∧ rv r = lN k ∧ Z k = sn_sz (sn_S x.1) (sn_L x.1 r)) := by
  obtain ⟨hg, hZ, φ, L, N, hi, ⟨⟨a1, a2, a3⟩, b1, b2⟩⟩ := h
  rcases hi.1 r hr with ⟨c1, c2, c3⟩ | ⟨c1, c2, c3, c4⟩
  · refine Or.inl ⟨c1, ?_, ?_⟩
    · rw [(a1 r hr).1, c2]; rfl
    · rw [b1 r hr, ← c3]; unfold sn_v2; rw [if_pos c2]
  · have hR : sn_R (sn_S x.1) (sn_L x.1) (sn_L x.1 r) := sn_rch.root ⟨r, hr, rfl, c1⟩
    obtain ⟨d1, d2, d3, d4, -⟩ := hi.2.1 _ hR
    have hne : L r ≠ 0 := by omega
    refine Or.inr ⟨c1, ?_, c4, φ (sn_L x.1 r) - 1, by omega, ?_, ?_⟩
    · rw [(a1 r hr).1]; exact decide_eq_true hne
    · rw [(a1 r hr).2 hne, c3]
    · rw [← d4, sn_S2_sz Z d1]
theorem sn_ok.number (h : sn_ok x vv rv vr rr Z) {r : Nat} (hr : r < 16) (v : Int64) : sn_ok (sn_with x.1 (va_up (sn_L x.1) r 0) (va_up (sn_Nm x.1) r v), x.2) vv (va_up rv r v) vr (va_up rr r false) Z := by
  obtain ⟨hg, hZ, φ, L, N, hi, hp⟩ := h
  obtain ⟨g1, g2⟩ := sn_root_gc hg (w := v) hr (Or.inl rfl : sn_may x 0)
  refine ⟨g1, hZ, φ, va_up L r 0, va_up N r v, sn_iso_root hi hr (fun q hq => ?_) (Or.inl ⟨rfl, rfl, rfl⟩), sn_rp_root hp hr (Nat.zero_le _) (by rw [if_pos rfl]) rfl⟩
  rcases g2 q hq with h9 | ⟨-, h9⟩
  · exact h9
  · exact absurd h9 (Nat.lt_irrefl _)
theorem sn_ok_mv {φ L : Nat → Nat} {N : Nat → Int64} (hg : sn_gc x) (hZ : ∀ k, Z k ≤ 16) (hi : sn_iso φ (sn_S x.1) (sn_L x.1) (sn_Nm x.1) (sn_S2 Z) L N) (hp : sn_rp rv rr vv vr L N) {r t t' : Nat} {v : Int64} {b : Bool} (hr : r < 16) (hR : 0 < sn_L x.1 t → sn_R (sn_S x.1) (sn_L x.1) (sn_L x.1 t))
    (hv : sn_vm φ (sn_L x.1 t) (sn_Nm x.1 t) (L t') (N t')) (e1 : v = sn_v2 L N t') (e2 : b = decide (L t' ≠ 0)) : sn_ok (sn_with x.1 (va_up (sn_L x.1) r (sn_L x.1 t)) (va_up (sn_Nm x.1) r (sn_Nm x.1 t)), x.2) vv (va_up rv r v) vr (va_up rr r b) Z := by
  have hm : sn_may x (sn_L x.1 t) := by
    by_cases h0 : sn_L x.1 t = 0
    · exact Or.inl h0
    · exact sn_may_R hg (hR (Nat.pos_of_ne_zero h0))
  obtain ⟨g1, g2⟩ := sn_root_gc hg (w := sn_Nm x.1 t) hr hm
  refine ⟨g1, hZ, φ, va_up L r (L t'), va_up N r (N t'), sn_iso_root hi hr (fun q hq => ?_) hv, sn_rp_root hp hr (hp.1.2.2 _) e1 e2⟩
  rcases g2 q hq with h9 | ⟨h8, h9⟩
  · exact h9
  · rw [h8]; exact hR h9
theorem sn_ok.copy (h : sn_ok x vv rv vr rr Z) {r s : Nat} (hr : r < 16) (hs : s < 16) : sn_ok (sn_with x.1 (va_up (sn_L x.1) r (sn_L x.1 s)) (va_up (sn_Nm x.1) r (sn_Nm x.1 s)), x.2) vv (va_up rv r (rv s)) vr (va_up rr r (rr s)) Z := by
  obtain ⟨hg, hZ, φ, L, N, hi, hp⟩ := h
  exact sn_ok_mv hg hZ hi hp hr (fun h0 => sn_rch.root ⟨s, hs, rfl, h0⟩) (hi.1 s hs) (hp.2.1 s hs) (hp.1.1 s hs).1
theorem sn_ok.get (h : sn_ok x vv rv vr rr Z) {r s i : Nat} (hr : r < 16) (hs : s < 16) (h0 : 0 < sn_L x.1 s) (hi0 : i < sn_sz (sn_S x.1) (sn_L x.1 s)) : ∃ k, k < 640 ∧ rr s = true ∧ rv s = lN k ∧ i < Z k ∧ Z k ≤ 16 ∧
    sn_ok (sn_with x.1 (va_up (sn_L x.1) r (sn_L x.1 (16 * sn_L x.1 s + i))) (va_up (sn_Nm x.1) r (sn_Nm x.1 (16 * sn_L x.1 s + i))), x.2) vv (va_up rv r (vv (16 * k + i))) vr (va_up rr r (vr (16 * k + i))) Z := by
  obtain ⟨hg, hZ, φ, L, N, hi, hp⟩ := h
  have hR : sn_R (sn_S x.1) (sn_L x.1) (sn_L x.1 s) := sn_rch.root ⟨s, hs, rfl, h0⟩
  obtain ⟨d1, d2, d3, d4, d5⟩ := hi.2.1 _ hR
  rcases hi.1 s hs with ⟨c1, -, -⟩ | ⟨-, -, c3, -⟩
  · omega
  have hne : L s ≠ 0 := by omega
  have ez : Z (φ (sn_L x.1 s) - 1) = sn_sz (sn_S x.1) (sn_L x.1 s) := by rw [← d4, sn_S2_sz Z d1]
  have e16 : 16 + (16 * (φ (sn_L x.1 s) - 1) + i) = 16 * φ (sn_L x.1 s) + i := by omega
  have hv := d5 i hi0
  rw [← e16] at hv
  refine ⟨φ (sn_L x.1 s) - 1, by omega, ?_, ?_, by rw [ez]; exact hi0, hZ _, ?_⟩
  · rw [(hp.1.1 s hs).1]; exact decide_eq_true hne
  · rw [(hp.1.1 s hs).2 hne, c3]
  · exact sn_ok_mv hg hZ hi hp hr (fun h9 => hR.next ⟨h0, i, hi0, rfl, h9⟩) hv (hp.2.2 _ (by omega)) (hp.1.2.1 _ (by omega)).1
theorem sn_ok.set (h : sn_ok x vv rv vr rr Z) {r s i : Nat} (hr : r < 16) (hs : s < 16) (h0 : 0 < sn_L x.1 s) (hi0 : i < sn_sz (sn_S x.1) (sn_L x.1 s)) : ∃ k, k < 640 ∧ rr s = true ∧ rv s = lN k ∧ i < Z k ∧ Z k ≤ 16 ∧
    sn_ok (sn_with x.1 (va_up (sn_L x.1) (16 * sn_L x.1 s + i) (sn_L x.1 r)) (va_up (sn_Nm x.1) (16 * sn_L x.1 s + i) (sn_Nm x.1 r)), sn_setm x (16 * sn_L x.1 s + i), x.2.2) (va_up vv (16 * k + i) (rv r)) rv (va_up vr (16 * k + i) (rr r)) rr Z := by
  obtain ⟨hg, hZ, φ, L, N, hi, hp⟩ := h
  have hR : sn_R (sn_S x.1) (sn_L x.1) (sn_L x.1 s) := sn_rch.root ⟨s, hs, rfl, h0⟩
  obtain ⟨d1, d2, d3, d4, d5⟩ := hi.2.1 _ hR
  rcases hi.1 s hs with ⟨c1, -, -⟩ | ⟨-, -, c3, -⟩
  · omega
  have hne : L s ≠ 0 := by omega
  have ez : Z (φ (sn_L x.1 s) - 1) = sn_sz (sn_S x.1) (sn_L x.1 s) := by rw [← d4, sn_S2_sz Z d1]
  have e16 : 16 + (16 * (φ (sn_L x.1 s) - 1) + i) = 16 * φ (sn_L x.1 s) + i := by omega
  have hv : sn_L x.1 r = 0 ∨ sn_R (sn_S x.1) (sn_L x.1) (sn_L x.1 r) := by
    by_cases h9 : sn_L x.1 r = 0
    · exact Or.inl h9
    · exact Or.inr (sn_rch.root ⟨r, hr, rfl, Nat.pos_of_ne_zero h9⟩)
  obtain ⟨g1, g2⟩ := sn_set_gc hg (w := sn_Nm x.1 r) hR hi0 hv
  have hp2 := sn_rp_val hp (j := 16 * (φ (sn_L x.1 s) - 1) + i) (hp.1.2.2 r) (hp.2.1 r hr) (hp.1.1 r hr).1
  have hi2 := sn_iso_set hi hR hi0 g2 (hi.1 r hr)
  rw [← e16] at hi2
  refine ⟨φ (sn_L x.1 s) - 1, by omega, ?_, ?_, by rw [ez]; exact hi0, hZ _, g1, hZ, φ, _, _, hi2, hp2⟩
  · rw [(hp.1.1 s hs).1]; exact decide_eq_true hne
  · rw [(hp.1.1 s hs).2 hne, c3]
theorem sn_ok.same (h : sn_ok x vv rv vr rr Z) {r s : Nat} (hr : r < 16) (hs : s < 16) : (sn_L x.1 r = sn_L x.1 s ∧ sn_Nm x.1 r = sn_Nm x.1 s) ↔ (rv r = rv s ∧ rr r = rr s) := by
  obtain ⟨hg, hZ, φ, L, N, hi, hp⟩ := h
  have rd : ∀ t, t < 16 → (sn_L x.1 t = 0 ∧ rr t = false ∧ rv t = sn_Nm x.1 t) ∨ (0 < sn_L x.1 t ∧ rr t = true ∧ sn_Nm x.1 t = 0 ∧ rv t = lN (φ (sn_L x.1 t) - 1) ∧ 0 < φ (sn_L x.1 t) ∧ φ (sn_L x.1 t) ≤ 640 ∧ sn_R (sn_S x.1) (sn_L x.1) (sn_L x.1 t)) := fun t ht => by
    rcases hi.1 t ht with ⟨c1, c2, c3⟩ | ⟨c1, c2, c3, c4⟩
    · refine Or.inl ⟨c1, ?_, ?_⟩
      · rw [(hp.1.1 t ht).1, c2]; rfl
      · rw [hp.2.1 t ht, ← c3]; unfold sn_v2; rw [if_pos c2]
    · have hR : sn_R (sn_S x.1) (sn_L x.1) (sn_L x.1 t) := sn_rch.root ⟨t, ht, rfl, c1⟩
      obtain ⟨d1, d2, -⟩ := hi.2.1 _ hR
      have hne : L t ≠ 0 := by omega
      refine Or.inr ⟨c1, ?_, c4, ?_, d1, d2, hR⟩
      · rw [(hp.1.1 t ht).1]; exact decide_eq_true hne
      · rw [(hp.1.1 t ht).2 hne, c3]
  rcases rd r hr with ⟨a1, a2, a3⟩ | ⟨a1, a2, a3, a4, a5, a6, a7⟩ <;> rcases rd s hs with ⟨b1, b2, b3⟩ | ⟨b1, b2, b3, b4, b5, b6, b7⟩
  · rw [a1, b1, a2, b2, a3, b3]
    exact ⟨fun h9 => ⟨h9.2, rfl⟩, fun h9 => ⟨rfl, h9.1⟩⟩
  · refine ⟨fun h9 => ?_, fun h9 => ?_⟩
    · have := h9.1; omega
    · rw [a2, b2] at h9; exact absurd h9.2 (by decide)
  · refine ⟨fun h9 => ?_, fun h9 => ?_⟩
    · have := h9.1; omega
    · rw [a2, b2] at h9; exact absurd h9.2 (by decide)
  · rw [a2, b2, a3, b3, a4, b4]
    refine ⟨fun h9 => ⟨by rw [h9.1], rfl⟩, fun h9 => ⟨?_, rfl⟩⟩
    have e : φ (sn_L x.1 r) - 1 = φ (sn_L x.1 s) - 1 := by
      have h1 := congrArg Int64.toInt h9.1
      rw [lN_toInt (by omega), lN_toInt (by omega)] at h1
      omega
    exact hi.2.2 _ _ a7 b7 (by omega)
end SNOK
