def sn_s (f : Nat → Nat) : Nat → Nat
  | 0 => 0
  | n + 1 => sn_s f n + f n
theorem sn_s_succ (f : Nat → Nat) (n : Nat) : sn_s f (n + 1) = sn_s f n + f n := rfl
theorem sn_s_congr {f g : Nat → Nat} : ∀ {n : Nat}, (∀ k, k < n → f k = g k) → sn_s f n = sn_s g n
  | 0, _ => rfl
  | n + 1, h => by
    rw [sn_s_succ, sn_s_succ, sn_s_congr (n := n) (fun k hk => h k (by omega)), h n (by omega)]
theorem sn_s_zero : ∀ n : Nat, sn_s (fun _ => 0) n = 0
  | 0 => rfl
  | n + 1 => by rw [sn_s_succ, sn_s_zero n]
theorem sn_s_le {f g : Nat → Nat} : ∀ {n : Nat}, (∀ k, k < n → f k ≤ g k) → sn_s f n ≤ sn_s g n
  | 0, _ => Nat.le_refl _
  | n + 1, h => by
    have h1 := sn_s_le (n := n) (fun k hk => h k (by omega))
    have h2 := h n (by omega)
    rw [sn_s_succ, sn_s_succ]; omega
theorem sn_s_one {f : Nat → Nat} {k : Nat} : ∀ {n : Nat}, k < n → f k ≤ sn_s f n
  | 0, h => absurd h (Nat.not_lt_zero _)
  | n + 1, h => by
    rw [sn_s_succ]
    by_cases hk : k = n
    · subst hk; omega
    · have := sn_s_one (f := f) (k := k) (n := n) (by omega); omega
theorem sn_s_out {f : Nat → Nat} {k v n : Nat} (h : n ≤ k) : sn_s (va_up f k v) n = sn_s f n := sn_s_congr (fun j hj => va_up_ne f v (by omega))
theorem sn_s_up {f : Nat → Nat} {k v : Nat} : ∀ {n : Nat}, k < n → sn_s (va_up f k v) n + f k = sn_s f n + v
  | 0, h => absurd h (Nat.not_lt_zero _)
  | n + 1, h => by
    rw [sn_s_succ, sn_s_succ]
    by_cases hk : k = n
    · subst hk
      rw [va_up_self, sn_s_out (Nat.le_refl _)]; omega
    · have := sn_s_up (f := f) (k := k) (v := v) (n := n) (by omega)
      rw [va_up_ne f v (show n ≠ k by omega)]; omega
theorem sn_s_mono {f : Nat → Nat} {n : Nat} : ∀ {m : Nat}, n ≤ m → sn_s f n ≤ sn_s f m
  | 0, h => by rw [show n = 0 by omega]; exact Nat.le_refl _
  | m + 1, h => by
    by_cases e : n = m + 1
    · rw [e]; exact Nat.le_refl _
    · have := sn_s_mono (f := f) (n := n) (m := m) (by omega)
      rw [sn_s_succ]; omega
theorem sn_s_tail {f : Nat → Nat} {n : Nat} : ∀ {m : Nat}, n ≤ m → (∀ k, n ≤ k → k < m → f k = 0) → sn_s f m = sn_s f n
  | 0, h, _ => by rw [show n = 0 by omega]
  | m + 1, h, h0 => by
    by_cases e : n = m + 1
    · rw [e]
    · rw [sn_s_succ, sn_s_tail (m := m) (by omega) (fun k h1 h2 => h0 k h1 (by omega)), h0 m (by omega) (by omega), Nat.add_zero]
theorem sn_s_bij (φ : Nat → Nat) (m : Nat) : ∀ (n : Nat) (f g : Nat → Nat), (∀ k, k < n → f k ≠ 0 → φ k < m ∧ g (φ k) = f k) →
    (∀ a b, a < n → b < n → f a ≠ 0 → f b ≠ 0 → φ a = φ b → a = b) → (∀ j, j < m → g j ≠ 0 → ∃ k, k < n ∧ f k ≠ 0 ∧ φ k = j) → sn_s f n = sn_s g m
  | 0, f, g, _, _, h3 => by
    have h : ∀ j, j < m → g j = 0 := fun j hj => Classical.byContradiction fun hg => by
      obtain ⟨k, hk, -⟩ := h3 j hj hg
      exact absurd hk (Nat.not_lt_zero _)
    rw [sn_s_congr (f := g) (g := fun _ => 0) h, sn_s_zero]
    rfl
  | n + 1, f, g, h1, h2, h3 => by
    by_cases h0 : f n = 0
    · rw [sn_s_succ, h0, Nat.add_zero]
      refine sn_s_bij φ m n f g (fun k hk => h1 k (by omega)) (fun a b ha hb => h2 a b (by omega) (by omega)) (fun j hj hg => ?_)
      obtain ⟨k, hk, hf, e⟩ := h3 j hj hg
      have hkn : k ≠ n := fun e2 => hf (by rw [e2]; exact h0)
      exact ⟨k, by omega, hf, e⟩
    · obtain ⟨hm, hg⟩ := h1 n (by omega) h0
      have ih := sn_s_bij φ m n f (va_up g (φ n) 0) (fun k hk hf => by
          obtain ⟨a, b⟩ := h1 k (by omega) hf
          have hne : φ k ≠ φ n := fun e => by have := h2 k n (by omega) (by omega) hf h0 e; omega
          exact ⟨a, by rw [va_up_ne g 0 hne]; exact b⟩)
        (fun a b ha hb => h2 a b (by omega) (by omega)) (fun j hj hg2 => by
          have hne : j ≠ φ n := fun e => hg2 (by rw [e]; exact va_up_self g (φ n) 0)
          rw [va_up_ne g 0 hne] at hg2
          obtain ⟨k, hk, hf, e⟩ := h3 j hj hg2
          have hkn : k ≠ n := fun e2 => hne (by rw [← e, e2])
          exact ⟨k, by omega, hf, e⟩)
      have hu := sn_s_up (f := g) (k := φ n) (v := 0) hm
      rw [sn_s_succ, ih]
      omega
