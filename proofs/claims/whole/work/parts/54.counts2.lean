theorem sn_xf_R {Z L Td : Nat → Nat} (hL : ∀ t, L t ≤ 640) (q : Nat) : (sn_xf Z L Td).1 q ≠ 0 ↔ sn_R (sn_S2 Z) L q := by
  unfold sn_xf sn_xr sn_x0
  exact (sn_reachAll hL (Nat.le_refl 640)).2 q
theorem sn_least (f : Nat → Nat) : ∀ n : Nat, (∃ k, k < n ∧ f k = 0) → ∃ k, k < n ∧ f k = 0 ∧ ∀ j, j < k → f j ≠ 0
  | 0, ⟨k, hk, _⟩ => absurd hk (Nat.not_lt_zero _)
  | n + 1, ⟨k, hk, h0⟩ => by
    by_cases h : ∃ k, k < n ∧ f k = 0
    · obtain ⟨k, a, b, c⟩ := sn_least f n h
      exact ⟨k, by omega, b, c⟩
    · have e : k = n := by
        by_cases e : k = n
        · exact e
        · exact absurd ⟨k, by omega, h0⟩ h
      subst e
      exact ⟨k, Nat.lt_succ_self _, h0, fun j hj h9 => h ⟨j, hj, h9⟩⟩
theorem sn_ra (P : Nat → Prop) : ∃ A : Nat → Nat, ∀ q, A q ≠ 0 ↔ P q := ⟨fun q => @ite Nat (P q) (Classical.propDecidable _) 1 0, fun q => by
  show @ite Nat (P q) (Classical.propDecidable _) 1 0 ≠ 0 ↔ P q
  by_cases h : P q
  · rw [if_pos h]; exact ⟨fun _ => h, fun _ => by decide⟩
  · rw [if_neg h]; exact ⟨fun h9 => absurd rfl h9, fun h9 => absurd h9 h⟩⟩
section SNCN
variable {x : SnG} {vv rv : Nat → Int64} {vr rr : Nat → Bool} {Z φ L : Nat → Nat} {N : Nat → Int64}
theorem sn_iso_cnt (hg : sn_gc x) (hi : sn_iso φ (sn_S x.1) (sn_L x.1) (sn_Nm x.1) (sn_S2 Z) L N) (hL : ∀ t, L t ≤ 640) {A : Nat → Nat} (hA : ∀ q, A q ≠ 0 ↔ sn_R (sn_S x.1) (sn_L x.1) q) (Td : Nat → Nat) :
    sn_s (fun q => if A q ≠ 0 then 1 else 0) 601 = sn_cr (sn_xf Z L Td) ∧ sn_s (fun q => if A q ≠ 0 then sn_sz (sn_S x.1) q + 2 else 0) 601 = sn_cc Z (sn_xf Z L Td) := by
  have hm : ∀ q, sn_R (sn_S2 Z) L q → q < 641 := fun q hq => by
    obtain ⟨p, hp, e⟩ := (sn_iso_R hi q).mp hq
    have := (hi.2.1 p hp).2.1
    omega
  refine ⟨sn_iso_sum hi (f := fun _ => 1) (g := fun _ => 1) hA (sn_xf_R hL) (fun q hq => sn_R_lt hg hq) hm (fun q _ => ⟨by decide, rfl⟩), sn_iso_sum hi (f := fun q => sn_sz (sn_S x.1) q + 2) (g := fun q => Z (q - 1) + 2) hA (sn_xf_R hL) (fun q hq => sn_R_lt hg hq) hm (fun q hq => ⟨by omega, ?_⟩)⟩
  obtain ⟨d1, -, -, d4, -⟩ := hi.2.1 q hq
  show Z (φ q - 1) + 2 = sn_sz (sn_S x.1) q + 2
  rw [← d4, sn_S2_sz Z d1]
theorem sn_ok.count (h : sn_ok x vv rv vr rr Z) (z : SnW) : ∃ L, sn_rep rv rr vv vr L ∧ ∀ Td, (sn_wrun (sn_S x.1) (sn_L x.1) (sn_Nm x.1) 10217 ((fun _ => 0, va_up z.2.1 0 0, va_up z.2.2.1 0 0, 1, 0, 0, 7) : SnW)).2.2.2.2.1 = sn_cr (sn_xf Z L Td) ∧
    (sn_wrun (sn_S x.1) (sn_L x.1) (sn_Nm x.1) 10217 ((fun _ => 0, va_up z.2.1 0 0, va_up z.2.2.1 0 0, 1, 0, 0, 7) : SnW)).2.2.2.2.2.1 = sn_cc Z (sn_xf Z L Td) := by
  obtain ⟨hg, hZ, φ, L, N, hi, hp⟩ := h
  obtain ⟨k, h1, -, h3, -⟩ := sn_walk_end hg z
  have hj := sn_dj_run (N := sn_Nm x.1) (M := 601) (fun q hq => sn_R_lt hg hq) k (sn_dj_0 (N := sn_Nm x.1))
  have hA := fun q => sn_dj_end hj h1 q
  refine ⟨L, hp.1, fun Td => ?_⟩
  obtain ⟨c1, c2⟩ := sn_iso_cnt hg hi hp.1.2.2 hA Td
  have e1 := congrArg Prod.fst h3
  have e2 := congrArg (fun y => y.2.1) h3
  exact ⟨e1.trans (hj.2.2.2.2.1.trans c1), e2.trans (hj.2.2.2.2.2.trans c2)⟩
theorem sn_ok.collect (h : sn_ok x vv rv vr rr Z) : ∃ L, sn_rep rv rr vv vr L ∧ ∀ Td, sn_tp (sn_whole x).1 - sn_rc (sn_whole x).1 = sn_cr (sn_xf Z L Td) := by
  obtain ⟨hg, hZ, φ, L, N, hi, hp⟩ := h
  obtain ⟨A, hA⟩ := sn_ra (fun q => sn_R (sn_S x.1) (sn_L x.1) q)
  refine ⟨L, hp.1, fun Td => ?_⟩
  obtain ⟨c1, -⟩ := sn_iso_cnt hg hi hp.1.2.2 hA Td
  have e := sn_collect hg hA
  omega
theorem sn_ok.digest (h : sn_ok x vv rv vr rr Z) (z : SnW) : ∃ L N, sn_rep rv rr vv vr L ∧ ((∀ r, r < 16 → rv r = sn_v2 L N r) ∧ ∀ j, j < 10240 → vv j = sn_v2 L N (16 + j)) ∧
    ∀ k, (sn_drun (sn_S2 Z) L N k (sn_d0 L N)).2.2.2.2 = [] → (sn_drun (sn_S2 Z) L N k (sn_d0 L N)).2.2.2.1 = (sn_wrun (sn_S x.1) (sn_L x.1) (sn_Nm x.1) 10217 ((fun _ => 0, va_up z.2.1 0 0, va_up z.2.2.1 0 0, 1, 0, 0, 7) : SnW)).2.2.2.2.2.2 := by
  obtain ⟨hg, hZ, φ, L, N, hi, hp⟩ := h
  obtain ⟨k, h1, -, h3, -⟩ := sn_walk_end hg z
  refine ⟨L, N, hp.1, hp.2, fun j hj => ?_⟩
  have e := congrArg (fun y => y.2.2) h3
  exact (sn_digest hi h1 hj).symm.trans e.symm
theorem sn_ok.full (h : sn_ok x vv rv vr rr Z) {n : Nat} (hr : 1200 < sn_uc (sn_room n x).1 + n + 2) : ∃ L, sn_rep rv rr vv vr L ∧ ∀ Td, 1200 < sn_cc Z (sn_xf Z L Td) + n + 2 ∧ sn_cc Z (sn_xf Z L Td) ≤ 20000 := by
  obtain ⟨hg, hZ, φ, L, N, hi, hp⟩ := h
  obtain ⟨A, hA⟩ := sn_ra (fun q => sn_R (sn_S x.1) (sn_L x.1) q)
  refine ⟨L, hp.1, fun Td => ?_⟩
  obtain ⟨-, c2⟩ := sn_iso_cnt hg hi hp.1.2.2 hA Td
  have e := (sn_full hg hA (n := n)).2
  have e6 := (sn_whole_ok hg).1.1.2.2.2.2.2.1
  unfold sn_room at hr
  split at hr
  · omega
  · omega
theorem sn_S2_up (Z : Nat → Nat) (k n : Nat) : sn_S2 (va_up Z k n) = va_up (sn_S2 Z) (k + 1) (some n) := by
  funext q
  by_cases e : q = k + 1
  · rw [e, va_up_self]
    unfold sn_S2
    rw [if_neg (by omega), show k + 1 - 1 = k by omega, va_up_self]
  · rw [va_up_ne _ _ e]
    unfold sn_S2
    by_cases e0 : q = 0
    · rw [if_pos e0, if_pos e0]
    · rw [if_neg e0, if_neg e0, va_up_ne _ _ (by omega)]
theorem sn_ok.tuple (h : sn_ok x vv rv vr rr Z) {r n : Nat} (hr : r < 16) (hn : n ≤ 16) (hroom : sn_uc x.1 + n + 2 ≤ 1200) : ∃ L, sn_rep rv rr vv vr L ∧ ∀ Td, sn_cc Z (sn_xf Z L Td) + n + 2 ≤ 1200 ∧ ∃ k, k < 640 ∧ (sn_xf Z L Td).1 (k + 1) = 0 ∧ (∀ j, j < k → (sn_xf Z L Td).1 (j + 1) ≠ 0) ∧
    sn_ok (sn_with (sn_take x.1 n) (va_up (sn_L (sn_take x.1 n)) r (sn_pl x.1)) (va_up (sn_Nm (sn_take x.1 n)) r 0), sn_allm x, x.2.2) (sn_clr vv (16 * k) 16 0) (va_up rv r (lN k)) (sn_clr vr (16 * k) 16 false) (va_up rr r true) (va_up Z k n) := by
  obtain ⟨hg, hZ, φ, L, N, hi, hp⟩ := h
  obtain ⟨A, hA⟩ := sn_ra (fun q => sn_R (sn_S x.1) (sn_L x.1) q)
  refine ⟨L, hp.1, fun Td => ?_⟩
  obtain ⟨-, c2⟩ := sn_iso_cnt hg hi hp.1.2.2 hA Td
  have hc := (sn_full hg hA (n := n)).1 hroom
  rw [c2] at hc
  refine ⟨hc, ?_⟩
  have hex : ∃ k, k < 640 ∧ (fun k => (sn_xf Z L Td).1 (k + 1)) k = 0 := by
    refine Classical.byContradiction fun hno => ?_
    have hall : ∀ k, 0 < k → k < 641 → (sn_xf Z L Td).1 k ≠ 0 := fun k h0 h1 h9 => hno ⟨k - 1, by omega, by show (sn_xf Z L Td).1 (k - 1 + 1) = 0; rw [show k - 1 + 1 = k by omega]; exact h9⟩
    have a1 : sn_s (va_up (fun _ => 2) 0 0) 641 ≤ sn_cc Z (sn_xf Z L Td) := sn_s_le (fun k hk => by
      by_cases e0 : k = 0
      · rw [e0, va_up_self]; exact Nat.zero_le _
      · rw [va_up_ne _ _ e0, if_pos (hall k (by omega) hk)]; omega)
    have a2 := sn_s_up (f := fun _ => 2) (k := 0) (v := 0) (n := 641) (by omega)
    rw [sn_s_mul] at a2
    have a3 : (fun _ => 2 : Nat → Nat) 0 = 2 := rfl
    try rw [a3] at a2
    omega
  obtain ⟨k, hk6, hk0, hkm⟩ := sn_least _ 640 hex
  obtain ⟨p0, p6, ps⟩ := sn_pl_ok hg.1 hroom
  obtain ⟨t1, t2, t3, t4⟩ := sn_all_gc hg hn hroom
  obtain ⟨u1, u2⟩ := sn_root_gc t1 (w := 0) hr t3
  have hkR : ¬ sn_R (sn_S2 Z) L (k + 1) := fun h9 => ((sn_xf_R (Td := Td) hp.1.2.2 (k + 1)).mpr h9) hk0
  have hpR : ¬ sn_R (sn_S x.1) (sn_L x.1) (sn_pl x.1) := fun h9 => hg.2.1 _ h9 ps
  have hi2 := sn_iso_new hi (p := sn_pl x.1) (k := k + 1) (n := n) (r := r) hr hn p0 hpR (Nat.succ_pos k) (by omega) hkR (fun q hq => by
    rcases u2 q hq with h9 | ⟨h8, -⟩
    · exact Or.inl ((t2 q).mp h9)
    · exact Or.inr h8)
  rw [← sn_S2_up] at hi2
  refine ⟨k, hk6, hk0, hkm, u1, fun j => ?_, va_up φ (sn_pl x.1) (k + 1), _, _, hi2, sn_rp_root (sn_rp_clr hp k) hr (by omega) ?_ rfl⟩
  · by_cases e : j = k
    · rw [e, va_up_self]; exact hn
    · rw [va_up_ne _ _ e]; exact hZ j
  · rw [if_neg (by omega), show k + 1 - 1 = k by omega]
end SNCN
def sn_start : SnG := ((va_up (fun _ => none) 0 (some 16), fun _ => 0, fun _ => 0, fun _ => 0, 0, 0, 0), (fun _ => 0, fun _ => 0, 0), 0, 1)
theorem sn_start_ok : sn_ok sn_start (fun _ => 0) (fun _ => 0) (fun _ => false) (fun _ => false) (fun _ => 0) := by
  have noR : ∀ q, ¬ sn_R (sn_S sn_start.1) (sn_L sn_start.1) q := fun q hq => hq (fun _ => False) (fun q ⟨r, _, h2, h3⟩ => by
    have h2 : 0 = q := h2
    omega) (fun _ _ h => h.elim)
  have S0 : ∀ p, p ≠ 0 → sn_S sn_start.1 p = none := fun p hp => (va_up_ne (fun _ => none : Nat → Option Nat) (some 16) hp : va_up (fun _ => none) 0 (some 16) p = none)
  have S16 : sn_S sn_start.1 0 = some 16 := (va_up_self (fun _ => none : Nat → Option Nat) 0 (some 16))
  have st : sn_st sn_start.1 := by
    refine ⟨S16, fun p n hp => ?_, by show (0 : Nat) ≤ 600; omega, fun s => Nat.zero_le _, ?_, by show (0 : Nat) ≤ 1200; omega, ?_, fun i hi => absurd hi (Nat.not_lt_zero _), fun i j hi => absurd hi (Nat.not_lt_zero _), fun p h0 h1 => ?_⟩
    · by_cases e : p = 0
      · subst e
        rw [S16] at hp
        cases hp
        exact ⟨Nat.le_refl _, Nat.le_refl _⟩
      · rw [S0 p e] at hp; cases hp
    · show 0 = sn_s (sn_cel (sn_S sn_start.1)) 601
      rw [sn_s_congr (g := fun _ => 0) (fun k _ => ?_), sn_s_zero]
      by_cases e : k = 0
      · rw [e]; unfold sn_cel; rw [if_pos rfl]
      · exact sn_cel_none (S0 k e)
    · show 0 = sn_s (sn_fre (sn_S sn_start.1)) 1
      show 0 = 0 + sn_fre (sn_S sn_start.1) 0
      unfold sn_fre
      rw [if_pos rfl]
    · have h1 : p ≤ 0 := h1
      omega
  refine ⟨⟨st, fun q hq => absurd hq (noR q), Or.inl ⟨rfl, fun _ => rfl, rfl⟩⟩, fun _ => Nat.zero_le _, fun q => q, fun _ => 0, fun _ => 0, ⟨fun r _ => Or.inl ⟨rfl, rfl, rfl⟩, fun p hp => absurd hp (noR p), fun p q hp => absurd hp (noR p)⟩, ⟨fun r _ => ⟨rfl, fun h9 => absurd rfl h9⟩, fun j _ => ⟨rfl, fun h9 => absurd rfl h9⟩, fun _ => Nat.zero_le _⟩, fun r _ => ?_, fun j _ => ?_⟩
  · unfold sn_v2; rw [if_pos rfl]
  · unfold sn_v2; rw [if_pos rfl]
