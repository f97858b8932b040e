def sn_room (n : Nat) (x : SnG) : SnG := if sn_uc x.1 + (n + 2) ≤ 1200 then x else sn_whole x
theorem sn_room_gc {x : SnG} (h : sn_gc x) (n : Nat) : sn_gc (sn_room n x) ∧ sn_keep x.1 (sn_room n x).1 := by
  unfold sn_room
  split
  · exact ⟨h, sn_keep.rf _⟩
  · exact ⟨(sn_whole_ok h).1, (sn_whole_ok h).2.1⟩
theorem sn_wmu_0 {x : SnG} (h : sn_gc x) (z : SnW) : sn_wmu (sn_S x.1) (sn_L x.1) (sn_Nm x.1) ((fun _ => 0, va_up z.2.1 0 0, va_up z.2.2.1 0 0, 1, 0, 0, 7) : SnW) ≤ 10217 := by
  have e1 : sn_s (fun q => if (0 : Nat) ≠ 0 then 0 else sn_sz (sn_S x.1) q + 1) 601 ≤ sn_s (fun q => sn_cel (sn_S x.1) q + 17) 601 := sn_s_le (fun k _ => by
    rw [if_neg (show ¬ ((0 : Nat) ≠ 0) from fun h9 => h9 rfl)]
    cases hs : sn_S x.1 k with
    | none => unfold sn_sz; rw [hs]; exact Nat.le_trans (by decide : 0 + 1 ≤ 17) (Nat.le_add_left _ _)
    | some n =>
      have hn := (h.1.2.1 k n hs).1
      unfold sn_sz; rw [hs]
      show n + 1 ≤ _
      omega)
  have e2 := sn_s_plus (sn_cel (sn_S x.1)) (fun _ => 17) 601
  rw [sn_s_mul] at e2
  have e3 := h.1.2.2.2.2.1
  have e4 := h.1.2.2.2.2.2.1
  have e5 : sn_s (fun q => if (0 : Nat) ≠ 0 then 0 else sn_sz (sn_S x.1) q + 1) 601 ≤ 1834 := by
    have f1 : ∀ k, (if (0 : Nat) ≠ 0 then 0 else sn_sz (sn_S x.1) k + 1) ≤ sn_cel (sn_S x.1) k + va_up (fun _ => 1) 0 17 k := fun k => by
      rw [if_neg (show ¬ ((0 : Nat) ≠ 0) from fun h9 => h9 rfl)]
      by_cases e0 : k = 0
      · rw [e0, va_up_self]
        have := sn_sz0 h.1
        omega
      · rw [va_up_ne _ _ e0]
        cases hs : sn_S x.1 k with
        | none => unfold sn_sz; rw [hs]; exact Nat.le_add_left _ _
        | some n => rw [sn_cel_some (by omega) hs]; unfold sn_sz; rw [hs]; show n + 1 ≤ n + 2 + 1; omega
    have f2 : sn_s (fun q => if (0 : Nat) ≠ 0 then 0 else sn_sz (sn_S x.1) q + 1) 601 ≤ sn_s (fun q => sn_cel (sn_S x.1) q + va_up (fun _ => 1) 0 17 q) 601 := sn_s_le (fun k _ => f1 k)
    have f3 := sn_s_plus (sn_cel (sn_S x.1)) (va_up (fun _ => 1) 0 17) 601
    have f4 := sn_s_up (f := fun _ => 1) (k := 0) (v := 17) (n := 601) (by omega)
    rw [sn_s_const] at f4
    omega
  unfold sn_wmu
  have e6 : (sn_stk (sn_S x.1) (sn_L x.1) (sn_Nm x.1) (va_up z.2.1 0 0) (va_up z.2.2.1 0 0) 1).length = 16 := by
    show (sn_vl (sn_L x.1) (sn_Nm x.1) (16 * va_up z.2.1 0 0 0 + va_up z.2.2.1 0 0 0) (sn_sz (sn_S x.1) (va_up z.2.1 0 0 0) - va_up z.2.2.1 0 0 0) ++ []).length = 16
    rw [List.append_nil, sn_vl_len, va_up_self, va_up_self, sn_sz0 h.1]
  show sn_s (fun q => if (0 : Nat) ≠ 0 then 0 else sn_sz (sn_S x.1) q + 1) 601 + (sn_stk (sn_S x.1) (sn_L x.1) (sn_Nm x.1) (va_up z.2.1 0 0) (va_up z.2.2.1 0 0) 1).length + 1 ≤ 10217
  omega
theorem sn_walk_end {x : SnG} (h : sn_gc x) (z : SnW) :
    ∃ k, (sn_drun (sn_S x.1) (sn_L x.1) (sn_Nm x.1) k (sn_d0 (sn_L x.1) (sn_Nm x.1))).2.2.2.2 = [] ∧ (sn_wrun (sn_S x.1) (sn_L x.1) (sn_Nm x.1) 10217 ((fun _ => 0, va_up z.2.1 0 0, va_up z.2.2.1 0 0, 1, 0, 0, 7) : SnW)).1 = (sn_drun (sn_S x.1) (sn_L x.1) (sn_Nm x.1) k (sn_d0 (sn_L x.1) (sn_Nm x.1))).1 ∧
    (sn_wrun (sn_S x.1) (sn_L x.1) (sn_Nm x.1) 10217 ((fun _ => 0, va_up z.2.1 0 0, va_up z.2.2.1 0 0, 1, 0, 0, 7) : SnW)).2.2.2.2 = ((sn_drun (sn_S x.1) (sn_L x.1) (sn_Nm x.1) k (sn_d0 (sn_L x.1) (sn_Nm x.1))).2.1, (sn_drun (sn_S x.1) (sn_L x.1) (sn_Nm x.1) k (sn_d0 (sn_L x.1) (sn_Nm x.1))).2.2.1, (sn_drun (sn_S x.1) (sn_L x.1) (sn_Nm x.1) k (sn_d0 (sn_L x.1) (sn_Nm x.1))).2.2.2.1) ∧
    sn_wi (sn_wrun (sn_S x.1) (sn_L x.1) (sn_Nm x.1) 10217 ((fun _ => 0, va_up z.2.1 0 0, va_up z.2.2.1 0 0, 1, 0, 0, 7) : SnW)) := by
  obtain ⟨a1, a2, k, a3⟩ := sn_wrun_ok (S := sn_S x.1) (L := sn_L x.1) (N := sn_Nm x.1) h.1.2.2.2.1 10217 (sn_wi_0 z) (sn_wmu_0 h z)
  have e0 : sn_wabs (sn_S x.1) (sn_L x.1) (sn_Nm x.1) ((fun _ => 0, va_up z.2.1 0 0, va_up z.2.2.1 0 0, 1, 0, 0, 7) : SnW) = sn_d0 (sn_L x.1) (sn_Nm x.1) := by
    show ((fun _ => 0, 0, 0, 7, sn_vl (sn_L x.1) (sn_Nm x.1) (16 * va_up z.2.1 0 0 0 + va_up z.2.2.1 0 0 0) (sn_sz (sn_S x.1) (va_up z.2.1 0 0 0) - va_up z.2.2.1 0 0 0) ++ []) : SnD) = (fun _ => 0, 0, 0, 7, sn_vl (sn_L x.1) (sn_Nm x.1) 0 16)
    rw [List.append_nil, va_up_self, va_up_self, sn_sz0 h.1]
  rw [e0] at a3
  generalize sn_wrun (sn_S x.1) (sn_L x.1) (sn_Nm x.1) 10217 ((fun _ => 0, va_up z.2.1 0 0, va_up z.2.2.1 0 0, 1, 0, 0, 7) : SnW) = y at a1 a2 a3 ⊢
  obtain ⟨A, pa, nv, d, m, c, g⟩ := y
  have a2 : d = 0 := a2
  subst a2
  have a3 : ((A, m, c, g, []) : SnD) = sn_drun (sn_S x.1) (sn_L x.1) (sn_Nm x.1) k (sn_d0 (sn_L x.1) (sn_Nm x.1)) := a3
  exact ⟨k, by rw [← a3], by rw [← a3], by rw [← a3], a1⟩
theorem sn_walk_met {x : SnG} (h : sn_gc x) (z : SnW) (q : Nat) : (sn_wrun (sn_S x.1) (sn_L x.1) (sn_Nm x.1) 10217 ((fun _ => 0, va_up z.2.1 0 0, va_up z.2.2.1 0 0, 1, 0, 0, 7) : SnW)).1 q ≠ 0 ↔ sn_R (sn_S x.1) (sn_L x.1) q := by
  obtain ⟨k, h1, h2, -⟩ := sn_walk_end h z
  rw [h2]
  exact sn_dj_end (sn_dj_run (M := 601) (fun q hq => sn_R_lt h hq) k sn_dj_0) h1 q
theorem sn_gc_wl {x : SnG} (h : sn_gc x) (h1 : x.2.2.1 = 1) : sn_wl 600 x.2.1 := by
  rcases h.2.2 with ⟨e, -⟩ | ⟨-, g, -⟩ | ⟨e, -⟩
  · omega
  · exact g
  · omega
theorem sn_trial_2 {x : SnG} (h : sn_gc x) : ∀ q, (sn_trial x).1 q ≤ 2 := by
  unfold sn_trial
  split
  · rename_i h1
    exact (sn_mloop_ok (S := sn_S x.1) h.1.2.2.2.1 600 (sn_gc_wl h h1) (sn_gc_hX h).1 (sn_nb_le _ 600)).2.2.1
  · exact (sn_gc_hX h).1
theorem sn_hold1 {x : SnG} (h : sn_gc x) (W : Nat → Nat) {p : Nat} (hp : 0 < p) (ht : p ≤ sn_tp x.1) : sn_h2 (sn_rl x.1) (sn_h1 (sn_S x.1) W (sn_tp x.1)) (sn_rc x.1) p = 1 := by
  have e := sn_holders h.1 hp ht
  unfold sn_h2 sn_h1
  rw [if_pos ⟨hp, ht⟩]
  exact e
theorem sn_wrun_wb0 {S : Nat → Option Nat} {L : Nat → Nat} {N : Nat → Int64} (hL : ∀ s, L s ≤ 600) (hSz : ∀ q n, S q = some n → n ≤ 16) (n : Nat) : ∀ {y : SnW}, sn_wi y → sn_wb y → sn_wb (sn_wrun S L N n y) := by
  induction n with
  | zero => intro y _ h; exact h
  | succ n ih =>
    intro y hy h
    by_cases hd : 0 < y.2.2.2.1
    · have e : sn_wrun S L N (n + 1) y = sn_wrun S L N n (sn_goon S L N y) := if_pos hd
      rw [e]
      exact ih (sn_goon_ok (S := S) (N := N) hL hy hd).1 (sn_goon_wb hL hSz hy h hd)
    · have e : sn_wrun S L N (n + 1) y = y := if_neg hd
      rw [e]; exact h
theorem sn_wrun_wb {x : SnG} (h : sn_gc x) (z : SnW) : sn_wb (sn_wrun (sn_S x.1) (sn_L x.1) (sn_Nm x.1) 10217 ((fun _ => 0, va_up z.2.1 0 0, va_up z.2.2.1 0 0, 1, 0, 0, 7) : SnW)) := sn_wrun_wb0 (sn_gc_hL h) (sn_gc_hSz h) 10217 (sn_wi_0 z) (sn_wb_0 z)
