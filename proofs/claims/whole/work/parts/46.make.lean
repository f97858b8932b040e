def sn_BN (D : va_G) (K : Nat → ClassId) (ad : Nat → Nat) (sz : Nat) (ws : va_W) (U : State) : Prop := U.heap.size = sz ∧ sn_BW D K ws U ∧ sn_Ph ad (va_A ws sz) U U.heap
theorem sn_BN_blind {D : va_G} {K : Nat → ClassId} {ad : Nat → Nat} {sz : Nat} {ws : va_W} {av : List Value} : FrameBlind (va_Pc av (sn_BN D K ad sz ws)) := fun a U g mk q => ⟨q.1, q.2.1, (sn_BW_blind a U g mk ⟨q.1, q.2.2.1⟩).2, va_En.moved (u := U) (U := U.calling g mk a) (Vm.Alike.refl U.vm) q.2.2.2⟩
theorem sn_preN {s : State} {H : Heap} {D : va_G} {K : Nat → ClassId} {ad : Nat → Nat} {ws wc : va_W} {A : Nat → Prop} {locs : List Loc} {As : List Value} (hK : va_K D classes (kt K) s) (hN : sn_N s) (hP : va_P D classes ws H) (hD : va_D A ws) (hE : sn_Ph ad A s s.heap) (hS : va_S A s.heap H locs) (hA : ∀ q, s.heap.size ≤ q → A q) (is : List Nat) (hn : va_nd is = true) (hC : is.map (fun i => ws[i]?) = wc.map some) :
    PreS s H (va_Pc As (sn_BN D K ad H.size wc)) As := ⟨sn_BN_blind, fun U hU hW => ⟨rfl, by rw [hU], ⟨sn_preB hK hN hP is hC hU hW, (hD.sub is hn hC).weaken (fun _ _ _ _ => trivial)⟩, by
      rw [hU]
      exact va_En.moved hW.alike (va_En.narrow (va_En.kept hE hS.2.1) (va_free hD hS hA is hC))⟩⟩
abbrev sn_QN (D : va_G) {α : Type} (sz : Nat) (wc : va_W) (W1 : α → va_W) : Array Value → State → Outcome → State → Prop := va_Qv (fun _ : α => True) (fun u t => va_P D classes (W1 u) t.heap ∧ va_D (va_A wc sz) (W1 u)) (va_A wc sz)
section SNN
variable {p : Program} {l : Launch} {e : Env} {R : Room} {s : State} {m : MethodId} {args : Array Value} {below : List Frame} {meth : Method} {c : Code} {H : Heap} {locs : List Loc} {cells slots : Nat} {Q : State → Prop}
variable {cc : ByteArray} {pc : Nat} {ls : Array Slot} {rest st0 : List Value} {a : Array Value} {D : va_G} {K : Nat → ClassId} {ws wc wr : va_W} {A : Nat → Prop} {H0 : Heap} {mc ms : Nat} {α : Type} {W1 : α → va_W}
theorem sn_wrn (hr : va_Run p l e R s m args below meth c H locs cells slots mc ms (F0 m pc ls st0) rest (sn_QN D H.size wc W1 a) (va_A wc H.size)) (hP : va_P D classes ws H) (hD : va_D A ws) (hS : va_S A H0 H locs) (hA : ∀ q, H0.size ≤ q → A q)
    (isC isR : List Nat) (hC : isC.map (fun i => ws[i]?) = wc.map some) (hR : isR.map (fun i => ws[i]?) = wr.map some) (hn : va_nd isR = true) (hdis : ∀ i ∈ isR, i ∉ isC)
    (kk : ∀ (u : α) (H1 : Heap) (locs1 : List Loc), va_P D classes (wr ++ W1 u) H1 → va_D A (wr ++ W1 u) → va_S A H0 H1 locs1 → W p l e R s m args below meth c H1 locs1 (cells + mc) (slots + ms) Q (F0 m (pc + 3) ls rest)) : W p l e R s m args below meth c H locs cells slots Q (F0 m pc ls st0) := by
  have hF := va_free hD hS hA isC hC
  refine va_callv hr hS (fun q _ h => hF q h) hF (fun u t H1 locs1 ht hvm _ hB hz hk hS1 => ?_)
  obtain ⟨hP1, hD1⟩ := hB
  rw [ht] at hP1
  obtain ⟨j1, j2⟩ := va_join hP hD isC isR hC hR hn hdis hk hF hP1 hD1
  exact kk u H1 locs1 j1 j2 hS1
theorem sn_newI (hexec : p.tables.exec = Jvm.exec) (hb : c.code = cc) (harr : (Cond.arrayClass .int).before args s = true) (hK : va_K D classes (kt K) s) (hP : va_P D classes ws H) (hD : va_D A ws) (hS : va_S A H0 H locs) (hA : ∀ q, H0.size ≤ q → A q) {n : Nat} (hn : n < 2 ^ 31) (hbytes : n * componentBytes .int ≤ 536870912) (hcells : cells + 1 ≤ R.cells) (hslots : slots + n ≤ R.slots) (hdg : decode cc pc = .ok (.newarray .int, 2))
    (kk : ∀ (q : Nat) (H1 : Heap), va_P D classes (ws ++ [aI K q n (fun _ => 0)]) H1 → va_D A (ws ++ [aI K q n (fun _ => 0)]) → va_S A H0 H1 locs → W p l e R s m args below meth c H1 locs (cells + 1) (slots + n) Q (F0 m (pc + 2) ls (.ref q :: rest))) : W p l e R s m args below meth c H locs cells slots Q (F0 m pc ls (.int (nI n) :: rest)) := by
  refine va_newa (atype := .int) (ty := .int) (a0 := (n, .inl (fun _ => nI 0))) hexec hb harr rfl hK hP hD hS hA (fun cA => by rw [vp_cell_i, nI_0]; rfl) (nI_pos hn) (nI_clamp hn) hbytes hcells hslots hdg (fun q cA H1 hK1 hP1 hD1 hS1 => ?_)
  have e1 : va_RA s cA .int := (hK1.2 3 (cA, .int) rfl).2
  have e2 : va_RA s (K 0) .int := (hK.2 0 (K 0, .int) rfl).2
  have e : cA = K 0 := Option.some.inj ((show s.vm.findClass ("[" ++ FieldType.int.toString) = some cA from e1).symm.trans e2)
  subst e
  exact kk q H1 hP1 hD1 hS1
theorem sn_newL (hexec : p.tables.exec = Jvm.exec) (hb : c.code = cc) (harr : (Cond.arrayClass .long).before args s = true) (hK : va_K D classes (kt K) s) (hP : va_P D classes ws H) (hD : va_D A ws) (hS : va_S A H0 H locs) (hA : ∀ q, H0.size ≤ q → A q) {n : Nat} (hn : n < 2 ^ 31) (hbytes : n * componentBytes .long ≤ 536870912) (hcells : cells + 1 ≤ R.cells) (hslots : slots + n ≤ R.slots) (hdg : decode cc pc = .ok (.newarray .long, 2))
    (kk : ∀ (q : Nat) (H1 : Heap), va_P D classes (ws ++ [aL K q n (fun _ => 0)]) H1 → va_D A (ws ++ [aL K q n (fun _ => 0)]) → va_S A H0 H1 locs → W p l e R s m args below meth c H1 locs (cells + 1) (slots + n) Q (F0 m (pc + 2) ls (.ref q :: rest))) : W p l e R s m args below meth c H locs cells slots Q (F0 m pc ls (.int (nI n) :: rest)) := by
  refine va_newa (atype := .long) (ty := .long) (a0 := (n, .inr (.inl (fun _ => 0)))) hexec hb harr rfl hK hP hD hS hA (fun cA => by rw [vp_cell_l]; rfl) (nI_pos hn) (nI_clamp hn) hbytes hcells hslots hdg (fun q cA H1 hK1 hP1 hD1 hS1 => ?_)
  have e1 : va_RA s cA .long := (hK1.2 3 (cA, .long) rfl).2
  have e2 : va_RA s (K 1) .long := (hK.2 1 (K 1, .long) rfl).2
  have e : cA = K 1 := Option.some.inj ((show s.vm.findClass ("[" ++ FieldType.long.toString) = some cA from e1).symm.trans e2)
  subst e
  exact kk q H1 hP1 hD1 hS1
theorem sn_newZ (hexec : p.tables.exec = Jvm.exec) (hb : c.code = cc) (harr : (Cond.arrayClass .boolean).before args s = true) (hK : va_K D classes (kt K) s) (hP : va_P D classes ws H) (hD : va_D A ws) (hS : va_S A H0 H locs) (hA : ∀ q, H0.size ≤ q → A q) {n : Nat} (hn : n < 2 ^ 31) (hbytes : n * componentBytes .boolean ≤ 536870912) (hcells : cells + 1 ≤ R.cells) (hslots : slots + n ≤ R.slots) (hdg : decode cc pc = .ok (.newarray .boolean, 2))
    (kk : ∀ (q : Nat) (H1 : Heap), va_P D classes (ws ++ [aZ K q n (fun _ => false)]) H1 → va_D A (ws ++ [aZ K q n (fun _ => false)]) → va_S A H0 H1 locs → W p l e R s m args below meth c H1 locs (cells + 1) (slots + n) Q (F0 m (pc + 2) ls (.ref q :: rest))) : W p l e R s m args below meth c H locs cells slots Q (F0 m pc ls (.int (nI n) :: rest)) := by
  refine va_newa (atype := .boolean) (ty := .boolean) (a0 := (n, .inl (fun _ => zb false))) hexec hb harr rfl hK hP hD hS hA (fun cA => by rw [vp_cell_i]; rfl) (nI_pos hn) (nI_clamp hn) hbytes hcells hslots hdg (fun q cA H1 hK1 hP1 hD1 hS1 => ?_)
  have e1 : va_RA s cA .boolean := (hK1.2 3 (cA, .boolean) rfl).2
  have e2 : va_RA s (K 2) .boolean := (hK.2 2 (K 2, .boolean) rfl).2
  have e : cA = K 2 := Option.some.inj ((show s.vm.findClass ("[" ++ FieldType.boolean.toString) = some cA from e1).symm.trans e2)
  subst e
  exact kk q H1 hP1 hD1 hS1
theorem sx_nv (hQ : MQ below (sn_QN D s.heap.size wc W1) args s cells slots (va_A wc s.heap.size) = Q) (hexec : p.tables.exec = Jvm.exec) (hb : c.code = cc) (hr : meth.sig.returnType = none) (hlk : meth.locks = false) (u : α) (hP : va_P D classes (W1 u) H) (hD : va_D (va_A wc s.heap.size) (W1 u)) (hS : va_S (va_A wc s.heap.size) s.heap H locs) (hdg : decode cc pc = .ok (.return_, 1)) : W p l e R s m args below meth c H locs cells slots Q (F0 m pc ls []) := by
  subst hQ
  exact W.vret hexec hb hr (fun t ht _ => ⟨⟨u, rfl, trivial, by rw [ht]; exact hP, hD⟩, hS.F ht⟩) hS.2.2 hdg hlk
end SNN
theorem sn_dI : defaultValue .int = .int (nI 0) := by rw [nI_0]; rfl
