def sn_vl (L : Nat → Nat) (N : Nat → Int64) : Nat → Nat → List (Nat × Int64)
  | _, 0 => []
  | b, n + 1 => (L b, N b) :: sn_vl L N (b + 1) n
theorem sn_vl_len (L : Nat → Nat) (N : Nat → Int64) : ∀ (n b : Nat), (sn_vl L N b n).length = n
  | 0, _ => rfl
  | n + 1, b => by show (sn_vl L N (b + 1) n).length + 1 = n + 1; rw [sn_vl_len L N n]
theorem sn_vl_mem {L : Nat → Nat} {N : Nat → Int64} {v : Nat × Int64} : ∀ {n b : Nat}, v ∈ sn_vl L N b n ↔ ∃ i, i < n ∧ v = (L (b + i), N (b + i))
  | 0, b => ⟨fun h => (List.not_mem_nil h).elim, fun ⟨_, h, _⟩ => absurd h (Nat.not_lt_zero _)⟩
  | n + 1, b => by
    show v ∈ (L b, N b) :: sn_vl L N (b + 1) n ↔ _
    rw [List.mem_cons, sn_vl_mem (n := n) (b := b + 1)]
    constructor
    · rintro (h | ⟨i, hi, h⟩)
      · exact ⟨0, by omega, h⟩
      · exact ⟨i + 1, by omega, by rw [h, show b + 1 + i = b + (i + 1) by omega]⟩
    · rintro ⟨i, hi, h⟩
      cases i with
      | zero => exact Or.inl h
      | succ i => exact Or.inr ⟨i, by omega, by rw [h, show b + 1 + i = b + (i + 1) by omega]⟩
abbrev SnD : Type := (Nat → Nat) × Nat × Nat × Int64 × List (Nat × Int64)
def sn_meet (S : Nat → Option Nat) (L : Nat → Nat) (N : Nat → Int64) (A : Nat → Nat) (m c : Nat) (h : Int64) (v : Nat × Int64) (w : List (Nat × Int64)) : SnD :=
  if v.1 = 0 then (A, m, c, 31 * h + v.2, w) else if 0 < A v.1 then (A, m, c, 31 * h + lN (2 + A v.1), w)
  else (va_up A v.1 (m + 1), m + 1, c + (sn_sz S v.1 + 2), 31 * (31 * h + 3) + lN (sn_sz S v.1), sn_vl L N (16 * v.1) (sn_sz S v.1) ++ w)
def sn_dst (S : Nat → Option Nat) (L : Nat → Nat) (N : Nat → Int64) : SnD → SnD
  | (A, m, c, h, []) => (A, m, c, h, [])
  | (A, m, c, h, v :: w) => sn_meet S L N A m c h v w
def sn_drun (S : Nat → Option Nat) (L : Nat → Nat) (N : Nat → Int64) : Nat → SnD → SnD
  | 0, x => x
  | n + 1, x => sn_drun S L N n (sn_dst S L N x)
theorem sn_drun_add (S : Nat → Option Nat) (L : Nat → Nat) (N : Nat → Int64) : ∀ (n k : Nat) (x : SnD), sn_drun S L N (n + k) x = sn_drun S L N k (sn_drun S L N n x)
  | 0, k, x => by rw [Nat.zero_add]; rfl
  | n + 1, k, x => by rw [show n + 1 + k = (n + k) + 1 by omega]; exact sn_drun_add S L N n k (sn_dst S L N x)
theorem sn_drun_nil (S : Nat → Option Nat) (L : Nat → Nat) (N : Nat → Int64) : ∀ (k : Nat) {x : SnD}, x.2.2.2.2 = [] → sn_drun S L N k x = x
  | 0, _, _ => rfl
  | k + 1, (A, m, c, h, w), hx => by
    have hw : w = [] := hx
    subst hw
    exact sn_drun_nil S L N k (x := (A, m, c, h, [])) rfl
theorem sn_drun_eq {S : Nat → Option Nat} {L : Nat → Nat} {N : Nat → Int64} {x : SnD} {n k : Nat} (hn : (sn_drun S L N n x).2.2.2.2 = []) (hk : (sn_drun S L N k x).2.2.2.2 = []) : sn_drun S L N n x = sn_drun S L N k x := by
  rw [← sn_drun_nil S L N k hn, ← sn_drun_nil S L N n hk, ← sn_drun_add, ← sn_drun_add, Nat.add_comm]
def sn_d0 (L : Nat → Nat) (N : Nat → Int64) : SnD := (fun _ => 0, 0, 0, 7, sn_vl L N 0 16)
def sn_wr (φ : Nat → Nat) (Z : Nat → Prop) : List (Nat × Int64) → List (Nat × Int64) → Prop
  | [], [] => True
  | v :: w, v' :: w' => (0 < v.1 → Z v.1) ∧ sn_vm φ v.1 v.2 v'.1 v'.2 ∧ sn_wr φ Z w w'
  | _, _ => False
theorem sn_wr_app {φ : Nat → Nat} {Z : Nat → Prop} {b b' : List (Nat × Int64)} (hb : sn_wr φ Z b b') : ∀ {a a' : List (Nat × Int64)}, sn_wr φ Z a a' → sn_wr φ Z (a ++ b) (a' ++ b')
  | [], [], _ => hb
  | _ :: _, _ :: _, h => ⟨h.1, h.2.1, sn_wr_app hb h.2.2⟩
  | [], _ :: _, h => h.elim
  | _ :: _, [], h => h.elim
theorem sn_wr_vl {φ : Nat → Nat} {Z : Nat → Prop} {L L' : Nat → Nat} {N N' : Nat → Int64} : ∀ {n b b' : Nat}, (∀ i, i < n → (0 < L (b + i) → Z (L (b + i))) ∧ sn_vm φ (L (b + i)) (N (b + i)) (L' (b' + i)) (N' (b' + i))) → sn_wr φ Z (sn_vl L N b n) (sn_vl L' N' b' n)
  | 0, _, _, _ => trivial
  | n + 1, b, b', h => by
    refine ⟨(h 0 (by omega)).1, (h 0 (by omega)).2, sn_wr_vl (n := n) (b := b + 1) (b' := b' + 1) (fun i hi => ?_)⟩
    have := h (i + 1) (by omega)
    rw [show b + 1 + i = b + (i + 1) by omega, show b' + 1 + i = b' + (i + 1) by omega]
    exact this
def sn_dr (φ : Nat → Nat) (Z : Nat → Prop) (x y : SnD) : Prop := y.2.1 = x.2.1 ∧ y.2.2.1 = x.2.2.1 ∧ y.2.2.2.1 = x.2.2.2.1 ∧ (∀ q, Z q → y.1 (φ q) = x.1 q) ∧ sn_wr φ Z x.2.2.2.2 y.2.2.2.2
theorem sn_dr_step {φ : Nat → Nat} {S : Nat → Option Nat} {L : Nat → Nat} {N : Nat → Int64} {S' : Nat → Option Nat} {L' : Nat → Nat} {N' : Nat → Int64} (h : sn_iso φ S L N S' L' N') {x y : SnD} (hr : sn_dr φ (sn_R S L) x y) : sn_dr φ (sn_R S L) (sn_dst S L N x) (sn_dst S' L' N' y) := by
  obtain ⟨A, m, c, g, w⟩ := x
  obtain ⟨A', m', c', g', w'⟩ := y
  obtain ⟨e1, e2, e3, hA, hw⟩ := hr
  have e1 : m' = m := e1
  have e2 : c' = c := e2
  have e3 : g' = g := e3
  subst e1; subst e2; subst e3
  have hA : ∀ q, sn_R S L q → A' (φ q) = A q := hA
  cases w with
  | nil => cases w' with
    | nil => exact ⟨rfl, rfl, rfl, hA, trivial⟩
    | cons v' w' => exact hw.elim
  | cons v w => cases w' with
    | nil => exact hw.elim
    | cons v' w' =>
      obtain ⟨hz, hv, hw⟩ : (0 < v.1 → sn_R S L v.1) ∧ sn_vm φ v.1 v.2 v'.1 v'.2 ∧ sn_wr φ (sn_R S L) w w' := hw
      show sn_dr φ (sn_R S L) (sn_meet S L N A m' c' g' v w) (sn_meet S' L' N' A' m' c' g' v' w')
      unfold sn_meet
      rcases hv with ⟨a1, a2, a3⟩ | ⟨a1, a2, a3, -⟩
      · rw [if_pos a1, if_pos a2, a3]
        exact ⟨rfl, rfl, rfl, hA, hw⟩
      · have hR := hz a1
        obtain ⟨b1, b2, b3, b4, b5⟩ := h.2.1 v.1 hR
        rw [if_neg (show ¬ v.1 = 0 by omega), if_neg (show ¬ v'.1 = 0 by omega), a3, show A' (φ v.1) = A v.1 from hA v.1 hR]
        by_cases hm : 0 < A v.1
        · rw [if_pos hm, if_pos hm]
          exact ⟨rfl, rfl, rfl, hA, hw⟩
        · rw [if_neg hm, if_neg hm, b4]
          refine ⟨rfl, rfl, rfl, fun q hq => ?_, sn_wr_app hw (sn_wr_vl (fun i hi => ⟨fun h0 => hR.next ⟨a1, i, hi, rfl, h0⟩, b5 i hi⟩))⟩
          show va_up A' (φ v.1) (m' + 1) (φ q) = va_up A v.1 (m' + 1) q
          by_cases e : q = v.1
          · rw [e, va_up_self, va_up_self]
          · rw [va_up_ne _ _ e, va_up_ne _ _ (fun e9 => e (h.2.2 q v.1 hq hR e9))]
            exact hA q hq
theorem sn_dr_run {φ : Nat → Nat} {S : Nat → Option Nat} {L : Nat → Nat} {N : Nat → Int64} {S' : Nat → Option Nat} {L' : Nat → Nat} {N' : Nat → Int64} (h : sn_iso φ S L N S' L' N') : ∀ (n : Nat) {x y : SnD}, sn_dr φ (sn_R S L) x y → sn_dr φ (sn_R S L) (sn_drun S L N n x) (sn_drun S' L' N' n y)
  | 0, _, _, hr => hr
  | n + 1, _, _, hr => sn_dr_run h n (sn_dr_step h hr)
theorem sn_dr_0 {φ : Nat → Nat} {S : Nat → Option Nat} {L : Nat → Nat} {N : Nat → Int64} {S' : Nat → Option Nat} {L' : Nat → Nat} {N' : Nat → Int64} (h : sn_iso φ S L N S' L' N') : sn_dr φ (sn_R S L) (sn_d0 L N) (sn_d0 L' N') := by
  refine ⟨rfl, rfl, rfl, fun _ _ => rfl, sn_wr_vl (b := 0) (b' := 0) (fun i hi => ?_)⟩
  rw [Nat.zero_add]
  exact ⟨fun h0 => sn_rch.root ⟨i, hi, rfl, h0⟩, h.1 i hi⟩
theorem sn_wr_nil {φ : Nat → Nat} {Z : Nat → Prop} {w w' : List (Nat × Int64)} (h : sn_wr φ Z w w') : w = [] ↔ w' = [] := by
  cases w <;> cases w'
  · exact ⟨fun _ => rfl, fun _ => rfl⟩
  · exact h.elim
  · exact h.elim
  · exact ⟨fun e => absurd e (List.cons_ne_nil _ _), fun e => absurd e (List.cons_ne_nil _ _)⟩
theorem sn_digest {φ : Nat → Nat} {S : Nat → Option Nat} {L : Nat → Nat} {N : Nat → Int64} {S' : Nat → Option Nat} {L' : Nat → Nat} {N' : Nat → Int64} (h : sn_iso φ S L N S' L' N') {n k : Nat} (hn : (sn_drun S L N n (sn_d0 L N)).2.2.2.2 = []) (hk : (sn_drun S' L' N' k (sn_d0 L' N')).2.2.2.2 = []) :
    (sn_drun S L N n (sn_d0 L N)).2.2.2.1 = (sn_drun S' L' N' k (sn_d0 L' N')).2.2.2.1 := by
  have a := sn_dr_run h n (sn_dr_0 h)
  have e : (sn_drun S' L' N' n (sn_d0 L' N')).2.2.2.2 = [] := (sn_wr_nil a.2.2.2.2).mp hn
  rw [← sn_drun_eq e hk]
  exact a.2.2.1.symm
def sn_dj (S : Nat → Option Nat) (L : Nat → Nat) (M : Nat) (x : SnD) : Prop :=
  (∀ q, x.1 q ≠ 0 → sn_R S L q) ∧ (∀ v, v ∈ x.2.2.2.2 → 0 < v.1 → sn_R S L v.1) ∧ (∀ q, sn_R0 L q → x.1 q ≠ 0 ∨ ∃ v, v ∈ x.2.2.2.2 ∧ v.1 = q) ∧ (∀ p q, x.1 p ≠ 0 → sn_E S L p q → x.1 q ≠ 0 ∨ ∃ v, v ∈ x.2.2.2.2 ∧ v.1 = q) ∧
  x.2.1 = sn_s (fun q => if x.1 q ≠ 0 then 1 else 0) M ∧ x.2.2.1 = sn_s (fun q => if x.1 q ≠ 0 then sn_sz S q + 2 else 0) M
theorem sn_if_up {A f : Nat → Nat} {l k : Nat} (hk : k ≠ 0) : (fun q => if va_up A l k q ≠ 0 then f q else 0) = va_up (fun q => if A q ≠ 0 then f q else 0) l (f l) := by
  funext q
  by_cases e : q = l
  · rw [e, va_up_self, va_up_self, if_pos hk]
  · rw [va_up_ne _ _ e, va_up_ne _ _ e]
theorem sn_dj_step {S : Nat → Option Nat} {L : Nat → Nat} {N : Nat → Int64} {M : Nat} (hM : ∀ q, sn_R S L q → q < M) {x : SnD} (h : sn_dj S L M x) : sn_dj S L M (sn_dst S L N x) := by
  obtain ⟨A, m, c, g, w⟩ := x
  cases w with
  | nil => exact h
  | cons v w =>
    obtain ⟨h1, h2, h3, h4, h5, h6⟩ := h
    have h1 : ∀ q, A q ≠ 0 → sn_R S L q := h1
    have h2 : ∀ u, u ∈ v :: w → 0 < u.1 → sn_R S L u.1 := h2
    have h3 : ∀ q, sn_R0 L q → A q ≠ 0 ∨ ∃ u, u ∈ v :: w ∧ u.1 = q := h3
    have h4 : ∀ p q, A p ≠ 0 → sn_E S L p q → A q ≠ 0 ∨ ∃ u, u ∈ v :: w ∧ u.1 = q := h4
    have h5 : m = sn_s (fun q => if A q ≠ 0 then 1 else 0) M := h5
    have h6 : c = sn_s (fun q => if A q ≠ 0 then sn_sz S q + 2 else 0) M := h6
    have pos : ∀ q, sn_R0 L q → 0 < q := fun q ⟨_, _, _, h0⟩ => h0
    have posE : ∀ p q, sn_E S L p q → 0 < q := fun p q ⟨_, _, _, _, h0⟩ => h0
    have drop : ∀ q, 0 < q → (A v.1 ≠ 0 ∨ v.1 = 0) → (A q ≠ 0 ∨ ∃ u, u ∈ v :: w ∧ u.1 = q) → A q ≠ 0 ∨ ∃ u, u ∈ w ∧ u.1 = q := fun q h0 hv hq => by
      rcases hq with hq | ⟨u, hu, e⟩
      · exact Or.inl hq
      · rcases List.mem_cons.mp hu with hu | hu
        · rw [hu] at e
          rcases hv with hv | hv
          · exact Or.inl (by rw [← e]; exact hv)
          · omega
        · exact Or.inr ⟨u, hu, e⟩
    show sn_dj S L M (sn_meet S L N A m c g v w)
    unfold sn_meet
    by_cases e0 : v.1 = 0
    · rw [if_pos e0]
      exact ⟨h1, fun u hu => h2 u (List.mem_cons_of_mem _ hu), fun q hq => drop q (pos q hq) (Or.inr e0) (h3 q hq), fun p q hp e => drop q (posE p q e) (Or.inr e0) (h4 p q hp e), h5, h6⟩
    · rw [if_neg e0]
      by_cases hm : 0 < A v.1
      · rw [if_pos hm]
        have hm' : A v.1 ≠ 0 := by omega
        exact ⟨h1, fun u hu => h2 u (List.mem_cons_of_mem _ hu), fun q hq => drop q (pos q hq) (Or.inl hm') (h3 q hq), fun p q hp e => drop q (posE p q e) (Or.inl hm') (h4 p q hp e), h5, h6⟩
      · rw [if_neg hm]
        have hR := h2 v List.mem_cons_self (by omega)
        have hA0 : A v.1 = 0 := by omega
        have up : ∀ q, A q ≠ 0 → va_up A v.1 (m + 1) q ≠ 0 := fun q hq => by
          by_cases e : q = v.1
          · rw [e, va_up_self]; omega
          · rw [va_up_ne _ _ e]; exact hq
        have new : ∀ q, (A q ≠ 0 ∨ ∃ u, u ∈ v :: w ∧ u.1 = q) → va_up A v.1 (m + 1) q ≠ 0 ∨ ∃ u, u ∈ sn_vl L N (16 * v.1) (sn_sz S v.1) ++ w ∧ u.1 = q := fun q hq => by
          rcases hq with hq | ⟨u, hu, e⟩
          · exact Or.inl (up q hq)
          · rcases List.mem_cons.mp hu with hu | hu
            · exact Or.inl (by rw [← e, hu, va_up_self]; omega)
            · exact Or.inr ⟨u, List.mem_append_right _ hu, e⟩
        refine ⟨fun q hq => ?_, fun u hu h0 => ?_, fun q hq => new q (h3 q hq), fun p q hp e => ?_, ?_, ?_⟩
        · have hq : va_up A v.1 (m + 1) q ≠ 0 := hq
          by_cases e : q = v.1
          · rw [e]; exact hR
          · rw [va_up_ne _ _ e] at hq; exact h1 q hq
        · have hu : u ∈ sn_vl L N (16 * v.1) (sn_sz S v.1) ++ w := hu
          rcases List.mem_append.mp hu with hu | hu
          · obtain ⟨i, hi, e⟩ := sn_vl_mem.mp hu
            have e1 : L (16 * v.1 + i) = u.1 := by rw [e]
            exact hR.next ⟨by omega, i, hi, e1, h0⟩
          · exact h2 u (List.mem_cons_of_mem _ hu) h0
        · have hp : va_up A v.1 (m + 1) p ≠ 0 := hp
          by_cases ep : p = v.1
          · obtain ⟨-, i, b1, b2, b3⟩ := e
            rw [ep] at b1 b2
            exact Or.inr ⟨(L (16 * v.1 + i), N (16 * v.1 + i)), List.mem_append_left _ (sn_vl_mem.mpr ⟨i, b1, rfl⟩), b2⟩
          · rw [va_up_ne _ _ ep] at hp
            exact new q (h4 p q hp e)
        · show m + 1 = sn_s (fun q => if va_up A v.1 (m + 1) q ≠ 0 then 1 else 0) M
          rw [sn_if_up (f := fun _ => 1) (by omega)]
          have a1 := sn_s_up (f := fun q => if A q ≠ 0 then 1 else 0) (k := v.1) (v := 1) (hM _ hR)
          have a2 : (fun q => if A q ≠ 0 then 1 else 0 : Nat → Nat) v.1 = 0 := if_neg (fun h9 => h9 hA0)
          rw [if_neg (show ¬ (A v.1 ≠ 0) from fun h9 => h9 hA0)] at a1
          omega
        · show c + (sn_sz S v.1 + 2) = sn_s (fun q => if va_up A v.1 (m + 1) q ≠ 0 then sn_sz S q + 2 else 0) M
          rw [sn_if_up (f := fun q => sn_sz S q + 2) (by omega)]
          have a1 := sn_s_up (f := fun q => if A q ≠ 0 then sn_sz S q + 2 else 0) (k := v.1) (v := sn_sz S v.1 + 2) (hM _ hR)
          have a2 : (fun q => if A q ≠ 0 then sn_sz S q + 2 else 0 : Nat → Nat) v.1 = 0 := if_neg (fun h9 => h9 hA0)
          rw [if_neg (show ¬ (A v.1 ≠ 0) from fun h9 => h9 hA0)] at a1
          omega
theorem sn_dj_run {S : Nat → Option Nat} {L : Nat → Nat} {N : Nat → Int64} {M : Nat} (hM : ∀ q, sn_R S L q → q < M) : ∀ (n : Nat) {x : SnD}, sn_dj S L M x → sn_dj S L M (sn_drun S L N n x)
  | 0, _, h => h
  | n + 1, _, h => sn_dj_run hM n (sn_dj_step hM h)
theorem sn_dj_0 {S : Nat → Option Nat} {L : Nat → Nat} {N : Nat → Int64} {M : Nat} : sn_dj S L M (sn_d0 L N) := by
  refine ⟨fun q hq => absurd rfl hq, fun v hv h0 => ?_, fun q hq => Or.inr ?_, fun p q hp => absurd rfl hp, ?_, ?_⟩
  · obtain ⟨i, hi, e⟩ := sn_vl_mem.mp (show v ∈ sn_vl L N 0 16 from hv)
    rw [Nat.zero_add] at e
    exact sn_rch.root ⟨i, hi, by rw [e], h0⟩
  · obtain ⟨r, a1, a2, a3⟩ := hq
    exact ⟨(L r, N r), sn_vl_mem.mpr ⟨r, a1, by rw [Nat.zero_add]⟩, a2⟩
  · show 0 = sn_s (fun q => if (0 : Nat) ≠ 0 then 1 else 0) M
    rw [sn_s_congr (g := fun _ => 0) (fun k _ => if_neg (fun h9 => h9 rfl)), sn_s_zero]
  · show 0 = sn_s (fun q => if (0 : Nat) ≠ 0 then sn_sz S q + 2 else 0) M
    rw [sn_s_congr (g := fun _ => 0) (fun k _ => if_neg (fun h9 => h9 rfl)), sn_s_zero]
theorem sn_dj_end {S : Nat → Option Nat} {L : Nat → Nat} {M : Nat} {x : SnD} (h : sn_dj S L M x) (hw : x.2.2.2.2 = []) (q : Nat) : x.1 q ≠ 0 ↔ sn_R S L q := by
  obtain ⟨h1, -, h3, h4, -⟩ := h
  refine ⟨h1 q, fun hq => hq (fun q => x.1 q ≠ 0) (fun q hq => ?_) (fun p q hp e => ?_)⟩
  · rcases h3 q hq with h9 | ⟨v, hv, -⟩
    · exact h9
    · rw [hw] at hv; exact (List.not_mem_nil hv).elim
  · rcases h4 p q hp e with h9 | ⟨v, hv, -⟩
    · exact h9
    · rw [hw] at hv; exact (List.not_mem_nil hv).elim
