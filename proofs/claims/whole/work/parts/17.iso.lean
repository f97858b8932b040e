def sn_vm (φ : Nat → Nat) (l : Nat) (n : Int64) (l' : Nat) (n' : Int64) : Prop := (l = 0 ∧ l' = 0 ∧ n' = n) ∨ (0 < l ∧ 0 < φ l ∧ l' = φ l ∧ n = 0)
def sn_iso (φ : Nat → Nat) (S : Nat → Option Nat) (L : Nat → Nat) (N : Nat → Int64) (S' : Nat → Option Nat) (L' : Nat → Nat) (N' : Nat → Int64) : Prop :=
  (∀ r, r < 16 → sn_vm φ (L r) (N r) (L' r) (N' r)) ∧ (∀ p, sn_R S L p → 0 < φ p ∧ φ p ≤ 640 ∧ sn_sz S p ≤ 16 ∧ sn_sz S' (φ p) = sn_sz S p ∧ ∀ i, i < sn_sz S p → sn_vm φ (L (16 * p + i)) (N (16 * p + i)) (L' (16 * φ p + i)) (N' (16 * φ p + i))) ∧
  (∀ p q, sn_R S L p → sn_R S L q → φ p = φ q → p = q)
theorem sn_iso_R {φ : Nat → Nat} {S : Nat → Option Nat} {L : Nat → Nat} {N : Nat → Int64} {S' : Nat → Option Nat} {L' : Nat → Nat} {N' : Nat → Int64} (h : sn_iso φ S L N S' L' N') (k : Nat) : sn_R S' L' k ↔ ∃ p, sn_R S L p ∧ φ p = k := by
  obtain ⟨h1, h2, -⟩ := h
  constructor
  · intro hk
    refine hk (fun k => ∃ p, sn_R S L p ∧ φ p = k) (fun k ⟨r, a1, a2, a3⟩ => ?_) (fun k j hk e => ?_)
    · rcases h1 r a1 with ⟨-, b2, -⟩ | ⟨b1, -, b3, -⟩
      · omega
      · exact ⟨L r, sn_rch.root ⟨r, a1, rfl, b1⟩, by rw [← b3]; exact a2⟩
    · obtain ⟨p, hp, hk⟩ := hk
      obtain ⟨-, i, a1, a2, a3⟩ := e
      obtain ⟨-, -, -, b4, b5⟩ := h2 p hp
      rw [← hk] at a1 a2
      rw [b4] at a1
      rcases b5 i a1 with ⟨-, c2, -⟩ | ⟨c1, -, c3, -⟩
      · omega
      · exact ⟨L (16 * p + i), hp.next ⟨sn_R.pos hp, i, a1, rfl, c1⟩, by rw [← c3]; exact a2⟩
  · rintro ⟨p, hp, rfl⟩
    refine (hp (fun p => sn_R S L p ∧ sn_R S' L' (φ p)) (fun q ⟨r, a1, a2, a3⟩ => ?_) (fun p q hp e => ?_)).2
    · refine ⟨sn_rch.root ⟨r, a1, a2, a3⟩, ?_⟩
      rcases h1 r a1 with ⟨b1, -, -⟩ | ⟨-, b2, b3, -⟩
      · omega
      · rw [a2] at b2 b3
        exact sn_rch.root ⟨r, a1, b3, b2⟩
    · refine ⟨hp.1.next e, ?_⟩
      obtain ⟨a0, i, a1, a2, a3⟩ := e
      obtain ⟨b1, -, -, b4, b5⟩ := h2 p hp.1
      rcases b5 i a1 with ⟨c1, -, -⟩ | ⟨-, c2, c3, -⟩
      · omega
      · rw [a2] at c2 c3
        exact hp.2.next ⟨b1, i, by rw [b4]; exact a1, c3, c2⟩
theorem sn_iso_keep {φ : Nat → Nat} {x y : SnS} {S' : Nat → Option Nat} {L' : Nat → Nat} {N' : Nat → Int64} (h : sn_iso φ (sn_S x) (sn_L x) (sn_Nm x) S' L' N') (k : sn_keep x y) : sn_iso φ (sn_S y) (sn_L y) (sn_Nm y) S' L' N' := by
  obtain ⟨h1, h2, h3⟩ := h
  refine ⟨fun r hr => ?_, fun p hp => ?_, fun p q hp hq => h3 p q ((k.rch p).mp hp) ((k.rch q).mp hq)⟩
  · rw [k.1, k.2.1]; exact h1 r hr
  · have hp' := (k.rch p).mp hp
    have hz : sn_sz (sn_S y) p = sn_sz (sn_S x) p := by unfold sn_sz; rw [k.size hp']
    rw [hz, k.1, k.2.1]; exact h2 p hp'
theorem sn_iso_root {φ : Nat → Nat} {S : Nat → Option Nat} {L : Nat → Nat} {N : Nat → Int64} {S' : Nat → Option Nat} {L' : Nat → Nat} {N' : Nat → Int64} (h : sn_iso φ S L N S' L' N') {r v v' : Nat} {w w' : Int64} (hr : r < 16)
    (hR : ∀ q, sn_R S (va_up L r v) q → sn_R S L q) (hv : sn_vm φ v w v' w') : sn_iso φ S (va_up L r v) (va_up N r w) S' (va_up L' r v') (va_up N' r w') := by
  obtain ⟨h1, h2, h3⟩ := h
  refine ⟨fun k hk => ?_, fun p hp => ?_, fun p q hp hq => h3 p q (hR p hp) (hR q hq)⟩
  · by_cases e : k = r
    · rw [e, va_up_self, va_up_self, va_up_self, va_up_self]; exact hv
    · rw [va_up_ne _ _ e, va_up_ne _ _ e, va_up_ne _ _ e, va_up_ne _ _ e]; exact h1 k hk
  · obtain ⟨b1, b2, b3, b4, b5⟩ := h2 p (hR p hp)
    have hp0 := sn_R.pos (hR p hp)
    refine ⟨b1, b2, b3, b4, fun i hi => ?_⟩
    rw [va_up_ne L _ (show 16 * p + i ≠ r by omega), va_up_ne N _ (show 16 * p + i ≠ r by omega), va_up_ne L' _ (show 16 * φ p + i ≠ r by omega), va_up_ne N' _ (show 16 * φ p + i ≠ r by omega)]
    exact b5 i hi
theorem sn_iso_set {φ : Nat → Nat} {S : Nat → Option Nat} {L : Nat → Nat} {N : Nat → Int64} {S' : Nat → Option Nat} {L' : Nat → Nat} {N' : Nat → Int64} (h : sn_iso φ S L N S' L' N') {a j v v' : Nat} {w w' : Int64} (ha : sn_R S L a) (hj : j < sn_sz S a)
    (hR : ∀ q, sn_R S (va_up L (16 * a + j) v) q → sn_R S L q) (hv : sn_vm φ v w v' w') : sn_iso φ S (va_up L (16 * a + j) v) (va_up N (16 * a + j) w) S' (va_up L' (16 * φ a + j) v') (va_up N' (16 * φ a + j) w') := by
  obtain ⟨h1, h2, h3⟩ := h
  obtain ⟨a1, -, a3, -, -⟩ := h2 a ha
  have ha0 := sn_R.pos ha
  refine ⟨fun k hk => ?_, fun p hp => ?_, fun p q hp hq => h3 p q (hR p hp) (hR q hq)⟩
  · rw [va_up_ne L _ (show k ≠ 16 * a + j by omega), va_up_ne N _ (show k ≠ 16 * a + j by omega), va_up_ne L' _ (show k ≠ 16 * φ a + j by omega), va_up_ne N' _ (show k ≠ 16 * φ a + j by omega)]
    exact h1 k hk
  · obtain ⟨b1, b2, b3, b4, b5⟩ := h2 p (hR p hp)
    refine ⟨b1, b2, b3, b4, fun i hi => ?_⟩
    by_cases e : p = a ∧ i = j
    · obtain ⟨rfl, rfl⟩ := e
      rw [va_up_self, va_up_self, va_up_self, va_up_self]; exact hv
    · have ne1 : 16 * p + i ≠ 16 * a + j := fun e9 => e ⟨by omega, by omega⟩
      have ne2 : 16 * φ p + i ≠ 16 * φ a + j := fun e9 => by
        have e8 : φ p = φ a := by omega
        have e7 := h3 p a (hR p hp) ha e8
        exact e ⟨e7, by omega⟩
      rw [va_up_ne L _ ne1, va_up_ne N _ ne1, va_up_ne L' _ ne2, va_up_ne N' _ ne2]
      exact b5 i hi
theorem sn_iso_new {φ : Nat → Nat} {S : Nat → Option Nat} {L : Nat → Nat} {N : Nat → Int64} {S' : Nat → Option Nat} {L' : Nat → Nat} {N' : Nat → Int64} (h : sn_iso φ S L N S' L' N') {p k n r : Nat} (hr : r < 16) (hn : n ≤ 16) (hp0 : 0 < p) (hp : ¬ sn_R S L p) (hk0 : 0 < k) (hk6 : k ≤ 640) (hk : ¬ sn_R S' L' k)
    (hR : ∀ q, sn_R (va_up S p (some n)) (va_up (sn_clr L (16 * p) n 0) r p) q → sn_R S L q ∨ q = p) :
    sn_iso (va_up φ p k) (va_up S p (some n)) (va_up (sn_clr L (16 * p) n 0) r p) (va_up (sn_clr N (16 * p) n 0) r 0) (va_up S' k (some n)) (va_up (sn_clr L' (16 * k) 16 0) r k) (va_up (sn_clr N' (16 * k) 16 0) r 0) := by
  have hRm := sn_iso_R h
  obtain ⟨h1, h2, h3⟩ := h
  have neR : ∀ q, sn_R S L q → q ≠ p ∧ φ q ≠ k := fun q hq => ⟨fun e => hp (by rw [← e]; exact hq), fun e => hk ((hRm k).mpr ⟨q, hq, e⟩)⟩
  have vmk : ∀ (l : Nat) (n : Int64) (l' : Nat) (n' : Int64), (0 < l → sn_R S L l) → sn_vm φ l n l' n' → sn_vm (va_up φ p k) l n l' n' := fun l n l' n' hl hv => by
    rcases hv with hv | ⟨c1, c2, c3, c4⟩
    · exact Or.inl hv
    · have ne := (neR l (hl c1)).1
      exact Or.inr ⟨c1, by rw [va_up_ne _ _ ne]; exact c2, by rw [va_up_ne _ _ ne]; exact c3, c4⟩
  refine ⟨fun s hs => ?_, fun q hq => ?_, fun a b ha hb e => ?_⟩
  · by_cases e : s = r
    · rw [e, va_up_self, va_up_self, va_up_self, va_up_self]
      exact Or.inr ⟨hp0, by rw [va_up_self]; exact hk0, by rw [va_up_self], rfl⟩
    · rw [va_up_ne _ _ e, va_up_ne _ _ e, va_up_ne _ _ e, va_up_ne _ _ e]
      unfold sn_clr
      rw [if_neg (by omega), if_neg (by omega), if_neg (by omega), if_neg (by omega)]
      exact vmk _ _ _ _ (fun h0 => sn_rch.root ⟨s, hs, rfl, h0⟩) (h1 s hs)
  · rcases hR q hq with hq | hq
    · obtain ⟨ne1, ne2⟩ := neR q hq
      obtain ⟨b1, b2, b3, b4, b5⟩ := h2 q hq
      have hq0 := sn_R.pos hq
      have z1 : sn_sz (va_up S p (some n)) q = sn_sz S q := by unfold sn_sz; rw [va_up_ne _ _ ne1]
      have z2 : sn_sz (va_up S' k (some n)) (φ q) = sn_sz S' (φ q) := by unfold sn_sz; rw [va_up_ne _ _ ne2]
      rw [va_up_ne φ _ ne1, z1, z2]
      refine ⟨b1, b2, b3, b4, fun i hi => ?_⟩
      rw [va_up_ne _ _ (show 16 * q + i ≠ r by omega), va_up_ne _ _ (show 16 * q + i ≠ r by omega), va_up_ne _ _ (show 16 * φ q + i ≠ r by omega), va_up_ne _ _ (show 16 * φ q + i ≠ r by omega)]
      unfold sn_clr
      rw [if_neg (by omega), if_neg (by omega), if_neg (by omega), if_neg (by omega)]
      exact vmk _ _ _ _ (fun h0 => hq.next ⟨hq0, i, hi, rfl, h0⟩) (b5 i hi)
    · have z1 : sn_sz (va_up S p (some n)) p = n := by unfold sn_sz; rw [va_up_self]; rfl
      have z2 : sn_sz (va_up S' k (some n)) k = n := by unfold sn_sz; rw [va_up_self]; rfl
      rw [hq, va_up_self, z1, z2]
      refine ⟨hk0, hk6, hn, rfl, fun i hi => ?_⟩
      rw [va_up_ne _ _ (show 16 * p + i ≠ r by omega), va_up_ne _ _ (show 16 * p + i ≠ r by omega), va_up_ne _ _ (show 16 * k + i ≠ r by omega), va_up_ne _ _ (show 16 * k + i ≠ r by omega)]
      unfold sn_clr
      rw [if_pos (by omega), if_pos (by omega), if_pos (by omega), if_pos (by omega)]
      exact Or.inl ⟨rfl, rfl, rfl⟩
  · rcases hR a ha with ha | ha <;> rcases hR b hb with hb | hb
    · rw [va_up_ne _ _ (neR a ha).1, va_up_ne _ _ (neR b hb).1] at e
      exact h3 a b ha hb e
    · rw [hb, va_up_self, va_up_ne _ _ (neR a ha).1] at e
      exact absurd e (neR a ha).2
    · rw [ha, va_up_self, va_up_ne _ _ (neR b hb).1] at e
      exact absurd e.symm (neR b hb).2
    · rw [ha, hb]
theorem sn_iso_sum {φ : Nat → Nat} {S : Nat → Option Nat} {L : Nat → Nat} {N : Nat → Int64} {S' : Nat → Option Nat} {L' : Nat → Nat} {N' : Nat → Int64} (h : sn_iso φ S L N S' L' N') {A B f g : Nat → Nat} (hA : ∀ q, A q ≠ 0 ↔ sn_R S L q) (hB : ∀ q, B q ≠ 0 ↔ sn_R S' L' q) {n m : Nat}
    (hn : ∀ q, sn_R S L q → q < n) (hm : ∀ q, sn_R S' L' q → q < m) (hf : ∀ q, sn_R S L q → f q ≠ 0 ∧ g (φ q) = f q) : sn_s (fun q => if A q ≠ 0 then f q else 0) n = sn_s (fun q => if B q ≠ 0 then g q else 0) m := by
  have hRm := sn_iso_R h
  have nz : ∀ q, (if A q ≠ 0 then f q else 0) ≠ 0 → sn_R S L q := fun q hq => by
    by_cases e : A q ≠ 0
    · exact (hA q).mp e
    · rw [if_neg e] at hq; exact absurd rfl hq
  refine sn_s_bij φ m n _ _ (fun q hq h0 => ?_) (fun a b _ _ ha hb e => h.2.2 a b (nz a ha) (nz b hb) e) (fun k hk h0 => ?_)
  · have hr := nz q h0
    have hrm := (hRm (φ q)).mpr ⟨q, hr, rfl⟩
    refine ⟨hm _ hrm, ?_⟩
    show (if B (φ q) ≠ 0 then g (φ q) else 0) = if A q ≠ 0 then f q else 0
    rw [if_pos ((hB _).mpr hrm), if_pos ((hA q).mpr hr)]
    exact (hf q hr).2
  · have h0 : (if B k ≠ 0 then g k else 0) ≠ 0 := h0
    by_cases e : B k ≠ 0
    · obtain ⟨p, hp, hpk⟩ := (hRm k).mp ((hB k).mp e)
      refine ⟨p, hn p hp, ?_, hpk⟩
      show (if A p ≠ 0 then f p else 0) ≠ 0
      rw [if_pos ((hA p).mpr hp)]
      exact (hf p hp).1
    · rw [if_neg e] at h0; exact absurd rfl h0
