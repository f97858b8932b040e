abbrev sn_LW (K : Nat → ClassId) (ad a b : Nat → Nat) (ou : Nat) (x : SnG) (z : SnW) (T : SnM) (Wh : Nat → Nat) (pc md re ce th tp : Nat) (vv rv : Nat → Int64) (vr rr Ir : Nat → Bool) (Z Td Mt Nx : Nat → Nat) (f : Nat → Int64) : va_W := [cs0 a pc md, ce0 a (sn_rc x.1) (sn_tp x.1) (sn_uc x.1), aS K (a 1) 601 (sn_S x.1), aI K (a 2) 9616 (sn_L x.1), aL K (a 3) 9616 (sn_Nm x.1), aI K (a 4) 600 (sn_rl x.1), cm0 a (a 5) (a 6) (a 7) x.2.1.2.2, aI K (a 6) 601 x.2.1.1, aI K (a 7) 600 x.2.1.2.1, cc0 a ad x.2.2.1 x.2.2.2, cw0 a z.2.2.2.1 z.2.2.2.2.1 z.2.2.2.2.2.1 z.2.2.2.2.2.2, aI K (a 10) 601 z.1, aI K (a 11) 601 z.2.1, aI K (a 12) 601 z.2.2.1, ca0 a, cm0 a (a 14) (a 15) (a 16) T.2.2, aI K (a 15) 601 T.1, aI K (a 16) 600 T.2.1, aI K (a 17) 601 Wh, cr0 b md pc re ce th tp, aL K (b 1) 10240 vv, aL K (b 2) 16 rv, aZ K (b 3) 10240 vr, aZ K (b 4) 16 rr, aZ K (b 5) 640 Ir, aI K (b 6) 640 Z, aI K (b 7) 640 Td, aI K (b 8) 640 Mt, aI K (b 9) 640 Nx, aL K ou 1 f]
def sn_Lc (p : Program) (l : Launch) (s : State) (m : MethodId) (c : Code) (D : va_G) (K : Nat → ClassId) (ad : Nat → Nat) (A : Nat → Prop) (sb Ls : Nat) (xs : Nat → Int32) : Prop := p.tables.exec = Jvm.exec ∧ c.code = code ∧ c.maxLocals = 8 ∧ s.vm.findClass R_La = some m.cls ∧ (∀ w ∈ lw_good, w.before #[Value.ref sb] s = true) ∧
  va_K D classes (kt K) s ∧ sn_N s ∧ sn_Ph ad A s s.heap ∧ sn_T A s s.heap ∧ va_X sb Ls xs s s.heap ∧ sb < s.heap.size ∧ ¬ A sb ∧ Ls ≤ 2048 ∧ l.stackTraces = false
def sn_Lk (p : Program) (l : Launch) (e : Env) (s : State) (m : MethodId) (below : List Frame) (meth : Method) (c : Code) (D : va_G) (K : Nat → ClassId) (ad a b : Nat → Nat) (ou sb j : Nat) (A : Nat → Prop) (md cells slots : Nat) (Q : State → Prop) : Prop :=
  ∀ (x : SnG) (z : SnW) (T : SnM) (Wh : Nat → Nat) (pc md1 re ce th tp : Nat) (vv rv : Nat → Int64) (vr rr Ir : Nat → Bool) (Z Td Mt Nx : Nat → Nat) (f : Nat → Int64) (ls : Array Slot) (H : Heap) (locs : List Loc) (cells1 slots1 : Nat), sn_ok x vv rv vr rr Z → pc ≤ 50 → md1 ≤ md + 1 → cells1 ≤ cells + 1 → slots1 ≤ slots + 6 →
    lv_has ls 8 [(0, .ref sb), (1, .ref (a 18)), (2, .ref (b 0)), (3, .ref ou), (4, .int (nI (4 * j)))] → va_P D classes (sn_LW K ad a b ou x z T Wh pc md1 re ce th tp vv rv vr rr Ir Z Td Mt Nx f) H → va_D A (sn_LW K ad a b ou x z T Wh pc md1 re ce th tp vv rv vr rr Ir Z Td Mt Nx f) → va_S A s.heap H locs →
    W p l e room_1 s m #[Value.ref sb] below meth c H locs cells1 slots1 Q (F0 m 798 ls [])
theorem sn_sld {p : Program} {l : Launch} {e : Env} {R : Room} {s : State} {m : MethodId} {args : Array Value} {below : List Frame} {meth : Method} {c : Code} {H H0 : Heap} {locs : List Loc} {cells slots : Nat} {Q : State → Prop} {cc : ByteArray} {pc : Nat} {ls : Array Slot} {rest : List Value} {A : Nat → Prop} {sb L k : Nat} {xs : Nat → Int32} (hexec : p.tables.exec = Jvm.exec) (hb : c.code = cc) (hX : va_X sb L xs s H0) (hbl : sb < H0.size) (hbA : ¬ A sb) (hS : va_S A H0 H locs) (hk : k < L) (hL : L < 2 ^ 31) (hdg : decode cc pc = .ok (.iaload, 1))
    (kk : W p l e R s m args below meth c H locs cells slots Q (F0 m (pc + 1) ls (.int (xs k) :: rest))) : W p l e R s m args below meth c H locs cells slots Q (F0 m pc ls (.int (nI k) :: .ref sb :: rest)) := by
  refine va_sld hexec hb hX hbl hbA hS (vp_in_nI hk hL) hdg ?_
  rw [nI_clamp (by omega)]
  exact kk
theorem sn_nn (v : Int32) (h : ¬ v < 0) : v = nI v.toInt.toNat ∧ v.toInt.toNat < 2 ^ 31 := by
  have h0 : ¬ v.toInt < (0 : Int32).toInt := fun h9 => h (Int32.lt_iff_toInt_lt.mpr h9)
  have e0 : (0 : Int32).toInt = 0 := by decide
  have h1 : v.toInt < 2 ^ 31 := Int32.toInt_lt v
  have h2 : v.toInt.toNat < 2 ^ 31 := by omega
  exact ⟨Int32.toInt_inj.mp (by rw [nI_toInt h2]; omega), h2⟩
theorem sn_sl (v : Int32) (n : Nat) (hn : n < 2 ^ 31) : (v < 0 ∨ ¬ v < nI n) ∨ ∃ i, i < n ∧ v = nI i := by
  by_cases h : v < 0
  · exact Or.inl (Or.inl h)
  · obtain ⟨e, hk⟩ := sn_nn v h
    by_cases h2 : v < nI n
    · refine Or.inr ⟨_, ?_, e⟩
      rw [e] at h2
      exact (nI_ltI hk hn).mp h2
    · exact Or.inl (Or.inr h2)
theorem sn_wn (v : Int32) (lo hi : Nat) (hlo : lo < 2 ^ 31) (hhi : hi < 2 ^ 31) : (v < nI lo ∨ ¬ v ≤ nI hi) ∨ ∃ n, lo ≤ n ∧ n ≤ hi ∧ v = nI n := by
  by_cases h : v < nI lo
  · exact Or.inl (Or.inl h)
  · by_cases h2 : v ≤ nI hi
    · have h3 : ¬ v < 0 := fun h9 => h (by
        have e0 : (0 : Int32).toInt = 0 := by decide
        have a := Int32.lt_iff_toInt_lt.mp h9
        exact Int32.lt_iff_toInt_lt.mpr (by rw [nI_toInt hlo]; omega))
      obtain ⟨e, hk⟩ := sn_nn v h3
      refine Or.inr ⟨_, ?_, ?_, e⟩
      · rw [e] at h
        exact Nat.not_lt.mp (fun h9 => h ((nI_ltI hk hlo).mpr h9))
      · rw [e] at h2
        exact (nI_leI hk hhi).mp h2
    · exact Or.inl (Or.inr h2)
theorem sn_b16 {v : Int32} (h : v < 0 ∨ ¬ v < nI 16) : v < 0 ∨ nI 16 ≤ v := h.elim Or.inl (fun h9 => Or.inr (Int32.not_lt.mp h9))
theorem sn_b0 {v : Int32} {P : Prop} (h : v < nI 0 ∨ P) : v < 0 ∨ P := by rw [nI_0] at h; exact h
theorem sn_cntb {x : SnG} (h : sn_gc x) (z : SnW) : (sn_wrun (sn_S x.1) (sn_L x.1) (sn_Nm x.1) 10217 ((fun _ => 0, va_up z.2.1 0 0, va_up z.2.2.1 0 0, 1, 0, 0, 7) : SnW)).2.2.2.2.1 ≤ 600 ∧ (sn_wrun (sn_S x.1) (sn_L x.1) (sn_Nm x.1) 10217 ((fun _ => 0, va_up z.2.1 0 0, va_up z.2.2.1 0 0, 1, 0, 0, 7) : SnW)).2.2.2.2.2.1 ≤ 10800 := by
  have h1 := sn_wi_m (sn_walk_end h z).choose_spec.2.2.2
  have h2 := (sn_wrun_wb h z).2.2
  exact ⟨h1, by omega⟩
