def sn_sf (n d : String) (A : Nat → Prop) (U : State) (H : Heap) : Prop := ∃ (c : ClassId) (k : Class) (i : Nat) (f : Field) (a : Nat) (cell : Cell) (v : Value), U.vm.findClass Bundle.tN = some c ∧ U.fieldFound? Bundle.tN n d = some (c, k, i, f) ∧ f.isStatic = true ∧ k.statics = some a ∧ H[a]? = some cell ∧ cell.vm.isStatics = true ∧ cell.cls = c ∧ f.slot < cell.slots.size ∧ k.staticTypes[f.slot]? = some f.type ∧ cell.slots[f.slot]? = some v ∧ v.isRef = true ∧ ¬ A a
theorem sn_sf.moved {n d : String} {A : Nat → Prop} {u U : State} {H : Heap} (hvm : u.vm.Alike U.vm) (h : sn_sf n d A u H) : sn_sf n d A U H := by
  obtain ⟨c, k, i, f, a, cell, v, h0, h1, h2, h3, h4, h5, h6, h7, h8, h9⟩ := h
  obtain ⟨k', hi', he⟩ := State.fieldFound?_setVm hvm h1
  exact ⟨c, k', i, f, a, cell, v, by rw [hvm.findClass]; exact h0, hi', h2, by rw [he]; exact h3, h4, h5, h6, h7, by rw [he]; exact h8, h9⟩
theorem sn_sf.kept {n d : String} {A : Nat → Prop} {U : State} {H H1 : Heap} (h : sn_sf n d A U H) (hq : ∀ a : Nat, a < H.size → ¬ A a → H1[a]? = H[a]?) : sn_sf n d A U H1 := by
  obtain ⟨c, k, i, f, a, cell, v, h0, h1, h2, h3, h4, h5, h6, h7, h8, h9, h10, h11⟩ := h
  exact ⟨c, k, i, f, a, cell, v, h0, h1, h2, h3, by rw [hq a (Array.getElem?_eq_some_iff.mp h4).1 h11]; exact h4, h5, h6, h7, h8, h9, h10, h11⟩
theorem sn_sf.narrow {n d : String} {A B : Nat → Prop} {U : State} {H : Heap} (h : sn_sf n d A U H) (hAB : ∀ q, B q → A q) : sn_sf n d B U H := by
  obtain ⟨c, k, i, f, a, cell, v, h0, h1, h2, h3, h4, h5, h6, h7, h8, h9, h10, h11⟩ := h
  exact ⟨c, k, i, f, a, cell, v, h0, h1, h2, h3, h4, h5, h6, h7, h8, h9, h10, fun z => h11 (hAB a z)⟩
theorem sn_sf.of {args : Array Value} {s : State} {n d : String} {A : Nat → Prop} (hl : (Cond.laysStatic Bundle.tN n d).before args s = true) (h : (Cond.isRef (.static Bundle.tN n d)).before args s = true) (hA : ∀ a : Nat, a < s.heap.size → ¬ A a) : sn_sf n d A s s.heap := by
  obtain ⟨c, k, i, f, a, cell, hc, hi, hst, ha, hcell, hs, hcls, hlt, hty⟩ := Cond.laysStatic_spec hl
  obtain ⟨u, hu⟩ := Cond.staticRefV hi hst ha hcell hs (show (Cond.isRef (.static Bundle.tN n d)).holds args s none s [] = true from h)
  exact ⟨c, k, i, f, a, cell, u.v, hc, hi, hst, ha, hcell, hs, hcls, hlt, hty, hu, u.ok, hA a (Array.getElem?_eq_some_iff.mp hcell).1⟩
theorem sn_sf.lays {n d : String} {A : Nat → Prop} {U : State} (h : sn_sf n d A U U.heap) (args : Array Value) : (Cond.laysStatic Bundle.tN n d).before args U = true := by
  obtain ⟨c, k, i, f, a, cell, v, h0, h1, h2, h3, h4, h5, h6, h7, h8, h9⟩ := h
  simp [Cond.before, Cond.holds, Cond.value, h0, h1, h2, h3, h4, h5, h6, h7, h8]
def sn_T1 (U : State) : Prop := va_Nw (.declares (Bundle.initS "java/lang/RuntimeException")) U ∧ va_Nw (.declares (Bundle.initS "java/lang/Exception")) U ∧ va_Nw (.declares (Bundle.initS Bundle.tN)) U ∧
  (∃ q, vk_R "SnapshotHeap" 132 "no such root" q U) ∧ (∃ q, vk_R "SnapshotHeap" 137 "out of range" q U) ∧ (∃ q, vk_R "SnapshotHeap" 68 "the heap is full" q U) ∧ (∃ q, vk_R "SnapshotHeap" 145 "no such value" q U) ∧
  va_Nc "java/lang/IllegalArgumentException" "java/lang/IndexOutOfBoundsException" U ∧ va_Nc "java/lang/IllegalStateException" "java/lang/IndexOutOfBoundsException" U ∧ va_Nc "java/lang/IllegalStateException" "java/lang/IllegalArgumentException" U ∧ va_Nc "java/util/NoSuchElementException" "java/lang/IndexOutOfBoundsException" U
theorem sn_T1.moved {s U : State} (hW : s.WarmedH U.vm) (h : sn_T1 s) : sn_T1 U := by
  obtain ⟨a1, a2, a3, ⟨q1, b1⟩, ⟨q2, b2⟩, ⟨q3, b3⟩, ⟨q4, b4⟩, c1, c2, c3, c4⟩ := h
  exact ⟨va_Nw.warmD hW a1, va_Nw.warmD hW a2, va_Nw.warmD hW a3, ⟨q1, vk_R.warm hW b1⟩, ⟨q2, vk_R.warm hW b2⟩, ⟨q3, vk_R.warm hW b3⟩, ⟨q4, vk_R.warm hW b4⟩, va_Nc.moved hW.alike c1, va_Nc.moved hW.alike c2, va_Nc.moved hW.alike c3, va_Nc.moved hW.alike c4⟩
theorem sn_T1.call {U : State} {g : JFrame} {mk : MethodId} {a : Array Value} (h : sn_T1 U) : sn_T1 (U.calling g mk a) := by
  obtain ⟨a1, a2, a3, ⟨q1, b1⟩, ⟨q2, b2⟩, ⟨q3, b3⟩, ⟨q4, b4⟩, c1, c2, c3, c4⟩ := h
  exact ⟨va_Nw.same rfl rfl a1, va_Nw.same rfl rfl a2, va_Nw.same rfl rfl a3, ⟨q1, vk_R.same rfl b1⟩, ⟨q2, vk_R.same rfl b2⟩, ⟨q3, vk_R.same rfl b3⟩, ⟨q4, vk_R.same rfl b4⟩, va_Nc.moved (u := U) (U := U.calling g mk a) (Vm.Alike.refl U.vm) c1, va_Nc.moved (u := U) (U := U.calling g mk a) (Vm.Alike.refl U.vm) c2, va_Nc.moved (u := U) (U := U.calling g mk a) (Vm.Alike.refl U.vm) c3, va_Nc.moved (u := U) (U := U.calling g mk a) (Vm.Alike.refl U.vm) c4⟩
def sn_T (A : Nat → Prop) (U : State) (H : Heap) : Prop := sn_T1 U ∧ sn_sf "UNASSIGNED_STACK" Bundle.steD A U H ∧ sn_sf "SUPPRESSED_SENTINEL" Bundle.listD A U H
theorem sn_T.moved {A : Nat → Prop} {s U : State} {H : Heap} (hW : s.WarmedH U.vm) (h : sn_T A s H) : sn_T A U H := ⟨h.1.moved hW, h.2.1.moved hW.alike, h.2.2.moved hW.alike⟩
theorem sn_T.call {A : Nat → Prop} {U : State} {H : Heap} {g : JFrame} {mk : MethodId} {a : Array Value} (h : sn_T A U H) : sn_T A (U.calling g mk a) H := ⟨h.1.call, sn_sf.moved (u := U) (U := U.calling g mk a) (Vm.Alike.refl U.vm) h.2.1, sn_sf.moved (u := U) (U := U.calling g mk a) (Vm.Alike.refl U.vm) h.2.2⟩
theorem sn_T.kept {A : Nat → Prop} {U : State} {H H1 : Heap} (h : sn_T A U H) (hq : ∀ a : Nat, a < H.size → ¬ A a → H1[a]? = H[a]?) : sn_T A U H1 := ⟨h.1, h.2.1.kept hq, h.2.2.kept hq⟩
theorem sn_T.narrow {A B : Nat → Prop} {U : State} {H : Heap} (h : sn_T A U H) (hAB : ∀ q, B q → A q) : sn_T B U H := ⟨h.1, h.2.1.narrow hAB, h.2.2.narrow hAB⟩
def sn_oA (own : String) (ic : Nat) (X : String) : List Cond :=
  [.methodLink own ic (Bundle.initS X), .instantiable X 6, .selects X Bundle.tFill0 Bundle.tFill0, .selects X Bundle.tFill Bundle.tFill,
   .lays X Bundle.tN "cause" "Ljava/lang/Throwable;", .lays X Bundle.tN "stackTrace" Bundle.steD, .lays X Bundle.tN "suppressedExceptions" Bundle.listD, .lays X Bundle.tN "detailMessage" "Ljava/lang/String;",
   .fieldLink Bundle.tN 198 Bundle.tN "backtrace" "Ljava/lang/Object;", .lays Bundle.tN Bundle.tN "backtrace" "Ljava/lang/Object;", .lays X Bundle.tN "backtrace" "Ljava/lang/Object;"]
section SNTH
variable {p : Program} {l : Launch} {e : Env} {R : Room} {s : State} {m₀ : MethodId} {args : Array Value} {below : List Frame} {meth : Method} {c : Code} {T' : State} {locs : List Loc} {cells slots : Nat}
set_option maxHeartbeats 4000000 in
theorem sn_ctor (X : Stand p l e R s m₀ args below meth c T' locs cells slots) (hexec : p.tables.exec = Jvm.exec) (htr : e.platform.stackTraces = false) {own cls : String} {ic ix : Nat} {bx : ByteArray}
    (hown : s.vm.findClass own = some m₀.cls) (hcls : Bundle.fit cls = true)
    (hA : ∀ w ∈ Bundle.throwableAtoms, w.before args s = true) (hB : ∀ w ∈ Bundle.throwableSAtoms, w.before args s = true) (hC : ∀ w ∈ Bundle.chainSAtoms "java/lang/RuntimeException" ["java/lang/Exception"], w.before args s = true)
    (hP : ∀ w ∈ Bundle.passSAtoms cls "java/lang/RuntimeException" ix bx, w.before args s = true) (h0 : decode bx 0 = .ok (.aload_n 0, 1)) (h1 : decode bx 1 = .ok (.aload_n 1, 1)) (h2 : decode bx 2 = .ok (.invokespecial ix, 3)) (h5 : decode bx 5 = .ok (.return_, 1))
    (hO : ∀ w ∈ sn_oA own ic cls, w.before args s = true) {A : Nat → Prop} (hU : sn_sf "UNASSIGNED_STACK" Bundle.steD A s T'.heap) (hV : sn_sf "SUPPRESSED_SENTINEL" Bundle.listD A s T'.heap)
    {a : Addr} {cX : ClassId} {kX : Class} (hfX : s.vm.findClass cls = some cX) (hkX : s.vm.classes[cX]? = some kX) (hcell : T'.heap[a]? = some (freshCell cX kX)) (hnew : s.heap.size ≤ a)
    {msg : Value} (hmsg : msg.isRef = true) {g : JFrame} (hg : g.method = m₀) (hsize : g.locals.size = c.maxLocals) (hlocked : g.locked = none) (hentered : g.entered = []) {rest : List Value} (hstack : g.stack = msg :: .ref a :: .ref a :: rest)
    (hd6 : decode c.code g.pc = .ok (.invokespecial ic, 3)) (hd9 : decode c.code (g.pc + 3) = .ok (.athrow, 1)) (hout : ∀ x ∈ c.exceptionTable.toList, covers x (g.pc + 3) = false)
    (hRf : 5 < R.frames) (hRl : 2 * g.monitorRoom + ((Value.ref a :: rest).map fun v => v.category).sum + 81 ≤ R.locals) (hlocks : meth.locks = false) :
    ∃ U : State, Steps p.tables e below (T'.setTop g) U ∧ U.status = .running ∧ Ended U below (.threw a) ∧ s.WarmedH U.vm ∧ s.sameButNew ({ U with vm := s.vm } : State) locs cells slots ∧
      U.heap.size = T'.heap.size ∧ (∀ q, q ≠ a → U.heap[q]? = T'.heap[q]?) ∧ ∃ ce, U.heap[a]? = some ce ∧ ce.cls = cX ∧ ce.vm = .none := by
  have howns : e.platform.frameOwnsMonitors = true := by rw [X.admits.platform]
  have hfin : e.platform.finalization = false := by rw [X.admits.platform]
  have hpl : e.platform.magicAccessors = ({} : Platform).magicAccessors := by rw [X.admits.platform]
  have o : ∀ w, w ∈ sn_oA own ic cls → w.holds args s none s [] = true := fun w hw => hO w hw
  obtain ⟨T, Z0, L, -, Y⟩ := ThrowableC.of_atoms (args := args) howns hfin hpl hA
  obtain ⟨Z, M, LZ, LM, hnZ⟩ := Init0T.ofS_atoms (args := args) hpl L Y hB
  obtain ⟨P1, Ps, hlen, L1, hL, hP1m, hlk1, hlk⟩ := Bundle.chainS (args := args) hpl hnZ ["java/lang/Exception"] "java/lang/RuntimeException" (by decide +kernel) (by decide +kernel) hC
  obtain ⟨P0, L0, hP0m, hP0s⟩ := PassC.ofS_atoms (args := args) (s := s) hpl (X := cls) (Y := "java/lang/RuntimeException") (Bundle.fit_spec hcls).1 (by decide) h0 h1 h2 h5 hP
  have hs01 : P0.sup = P1.m := Option.some.inj (hP0s.symm.trans hP1m)
  have hfound : s.vm.findClass cls = some P0.m.cls := findClass_of_methodNamed hP0m
  cases Option.some.inj (hfX.symm.trans hfound)
  obtain ⟨c1, kX', hc1, hk, hord, -, -, hn6⟩ := Cond.instantiable_spec (o (.instantiable cls 6) (by simp [sn_oA]))
  cases Option.some.inj (hc1.symm.trans hfound)
  cases Option.some.inj (hkX.symm.trans hk)
  have sel : ∀ {y : MethodName} {my : MethodId}, (Cond.selects cls y y).holds args s none s [] = true → s.methodNamed? y = some my → (y.cls ≠ "java/lang/invoke/MethodHandle" ∧ y.cls ≠ "java/lang/invoke/VarHandle") → selectMethod e.platform s.vm P0.m.cls my = .method my := by
    intro y my hw hn hy
    obtain ⟨c2, r2, m2, q1, q2, q3, q4, -⟩ := Cond.selects_spec hw
    cases Option.some.inj (q1.symm.trans hfound)
    cases Option.some.inj (q2.symm.trans (State.methodFound?_of_named hn hy))
    cases Option.some.inj (q3.symm.trans hn)
    rw [Launch.admits_selectMethod X.admits]; exact q4
  have hsel0 := sel (o (.selects cls Bundle.tFill0 Bundle.tFill0) (by simp [sn_oA])) Y.fill0 (by decide)
  have hselF := sel (o (.selects cls Bundle.tFill Bundle.tFill) (by simp [sn_oA])) Y.fill (by decide)
  obtain ⟨cU, kU, iU, fU, aU, cellS, vU, u0, u1, u2, u3, u4, u5, u6, u7, u8, u9, u10, -⟩ := hU
  obtain ⟨cV, kV, iV, fV, aV, cellV, vV, w0, w1, w2, w3, w4, w5, w6, w7, w8, w9, w10, -⟩ := hV
  cases Option.some.inj (u1.symm.trans Y.unassigned)
  cases Option.some.inj (w1.symm.trans Y.sentinel)
  cases Option.some.inj (u3.symm.trans L.statics)
  cases Option.some.inj (w3.symm.trans L.statics)
  cases Option.some.inj (u4.symm.trans w4)
  have hneS : T.aS ≠ a := fun h9 => by
    rw [h9, hcell] at u4
    cases Option.some.inj u4
    cases u5
  have hknownS : cellS.vm ≠ .unknown := fun h9 => by rw [h9] at u5; cases u5
  obtain ⟨iM, hffM⟩ := Y.msg
  obtain ⟨ci198, i198, fB, hk198, hg198, ha198, hsB, -, hnB, htB, hffB⟩ := Cond.ownField (t := .object "java/lang/Object") Y.found L.cls (by decide +kernel) (o (.fieldLink Bundle.tN 198 Bundle.tN "backtrace" "Ljava/lang/Object;") (by simp [sn_oA])) (o (.lays Bundle.tN Bundle.tN "backtrace" "Ljava/lang/Object;") (by simp [sn_oA])) e.platform hpl
  obtain ⟨tyC, dC, hdC, hdnC⟩ := Cond.laysAt hfound hk Y.cause (o (.lays cls Bundle.tN "cause" "Ljava/lang/Throwable;") (by simp [sn_oA]))
  obtain ⟨tyS, dS, hdS, hdnS⟩ := Cond.laysAt hfound hk Y.stack (o (.lays cls Bundle.tN "stackTrace" Bundle.steD) (by simp [sn_oA]))
  obtain ⟨tyP, dP, hdP, hdnP⟩ := Cond.laysAt hfound hk Y.supp (o (.lays cls Bundle.tN "suppressedExceptions" Bundle.listD) (by simp [sn_oA]))
  obtain ⟨tyM, dM, hdM, hdnM⟩ := Cond.laysAt hfound hk hffM (o (.lays cls Bundle.tN "detailMessage" "Ljava/lang/String;") (by simp [sn_oA]))
  obtain ⟨tyB, dB, hdB, hdnB⟩ := Cond.laysAt hfound hk hffB (o (.lays cls Bundle.tN "backtrace" "Ljava/lang/Object;") (by simp [sn_oA]))
  have bC := Cond.laysApart hdB hdC hdnB hdnC (by rw [hnB, Y.causeName]; decide)
  have bS := Cond.laysApart hdB hdS hdnB hdnS (by rw [hnB, Y.stackName]; decide)
  have bP := Cond.laysApart hdB hdP hdnB hdnP (by rw [hnB, Y.suppName]; decide)
  have hskip : SkipFacts T e.platform s (fun u => u) ⟨vU, u10⟩ ((preparedCellV T.toThrowableT (freshCell P0.m.cls kX) a ⟨vU, u10⟩ ⟨vV, w10⟩).withEntry T'.cur) :=
    ⟨{ ci198 := ci198, i198 := i198, fBack := fB }, ⟨hk198, hg198, ha198, hsB⟩, by
      have := fresh_default (c := P0.m.cls) tyB
      rw [htB] at this
      simpa [preparedCellV, Cell.setSlot, Cell.withEntry, Array.getElem?_setIfInBounds, bC, bS, bP, bC.symm, bS.symm, bP.symm, defaultValue] using this, fun _ _ => rfl⟩
  obtain ⟨tm, methC, cdC, kC, vm₁, hnC, -, -, -, -, -, -, -, hW₁, st1⟩ := Steps.initColdS (tb := p.tables) (e := e) (below := below) (s := s) (U := T') X.here hexec X.warmed hpl hown (t := Bundle.initS cls) rfl rfl (Bundle.fit_spec hcls).2
    (hO (.methodLink own ic (Bundle.initS cls)) (by simp [sn_oA])) (hP (.instanceMethod (Bundle.initS cls)) (by simp [Bundle.passSAtoms])) (bytes := bx) (maxL := 2) (hP (.code (Bundle.initS cls) bx 2 none) (by simp [Bundle.passSAtoms]))
    (f := g) hg (a := a) (msg := msg) (rest := .ref a :: rest) hstack hd6
  cases Option.some.inj (hnC.symm.trans hP0m)
  have X₁ := X.noted hW₁
  obtain ⟨vm₂, X₂, st2⟩ := X₁.ctorMessageOffV hexec (g := { g with stack := .ref a :: rest }) hg hsize T L Z LZ M LM (P0 :: P1 :: Ps)
    (fun P hP => by
      rcases List.mem_cons.mp hP with rfl | hP
      · exact L0
      · rcases List.mem_cons.mp hP with rfl | hP
        · exact L1
        · exact hL P hP) ⟨hs01, hlk1, hlk⟩ (u0 := ⟨vU, u10⟩) (sen := ⟨vV, w10⟩) (self := a) hmsg (cell := freshCell P0.m.cls kX) (cellS := cellS)
    hcell (fun _ => by simp) (by simp) rfl rfl hsel0 hselF u4 hneS hknownS u9 w9
    (Takes.of_laid hk hord tyC (by rw [Y.causeType]; rfl)) (Takes.of_laid hk hord tyS (by rw [Y.stackType]; exact fits_refV_array _ ⟨vU, u10⟩)) (Takes.of_laid hk hord tyP (by rw [Y.suppType]; exact fits_refV_object _ ⟨vV, w10⟩))
    (Takes.of_laid hk hord tyM (by rw [Y.msgType]; exact fits_refV_object _ ⟨msg, hmsg⟩)) Y.objLocals hskip htr [] hd6
    (by simp only [List.length_cons, hlen, List.length_nil]; omega) (by simp only [List.length_cons, hlen, List.length_nil]; exact hRl)
  obtain ⟨hwalk, hrun, hended, hWU, hsame⟩ := X₂.athrowLeaves hexec (g := { g with stack := .ref a :: rest, pc := g.pc + 3 }) hg hlocked hentered hout (a := a) (rest := rest) rfl hd9 hlocks
  have hlt : a < ((T'.setVm vm₁).setVm vm₂).heap.size := (Array.getElem?_eq_some_iff.mp hcell).1
  refine ⟨_, st1 _ (fun acts => ?_), hrun, hended, hWU, hsame.weaken (fun y hy hlt' => ?_) (Nat.le_refl _) (Nat.le_refl _), ?_, ?_, ?_⟩
  · rw [doInvoke_state]
    exact st2 _ hwalk
  · rcases List.mem_append.mp hy with h1 | h1
    · exact h1
    · exfalso
      have hb : y.base = a := by
        simp only [List.mem_cons, List.not_mem_nil, or_false] at h1
        rcases h1 with rfl | rfl | rfl | rfl | rfl <;> rfl
      rw [hb] at hlt'
      exact Nat.not_lt.mpr hnew hlt'
  · exact size_setCell ((T'.setVm vm₁).setVm vm₂) a _
  · intro q hq
    exact heapAt_setCell_ne (s := (T'.setVm vm₁).setVm vm₂) _ (Ne.symm hq)
  · exact ⟨_, heapAt_setCell_self (s := (T'.setVm vm₁).setVm vm₂) _ hlt, rfl, rfl⟩
end SNTH
