def TMet (l : Launch) (y : MethodName) (ws : List Cond) (rm : Room) (Pc : Array Value → State → Prop) (Qt : Array Value → State → Addr → State → Prop) (mc ms : Nat) (free : Addr → Prop) : Prop :=
  MetFree l y (headSpec ws rm) Pc (fun _ _ _ _ _ => True) (fun a st o t => ∃ x, o = .threw x ∧ Qt a st x t ∧ ∃ L, st.WarmedH t.vm ∧ st.sameButNew ({ t with vm := st.vm } : State) L mc ms ∧ ∀ q ∈ L, free q.base)
def TQ (below : List Frame) (Qt : Array Value → State → Addr → State → Prop) (a : Array Value) (s : State) (mc ms : Nat) (free : Addr → Prop) : State → Prop := fun t =>
  ∃ x, t.status = .running ∧ Ended t below (.threw x) ∧ Qt a s x t ∧ ∃ L, s.WarmedH t.vm ∧ s.sameButNew ({ t with vm := s.vm } : State) L mc ms ∧ ∀ q ∈ L, free q.base
theorem sn_tmet {l : Launch} {y : MethodName} {ws : List Cond} {rm : Room} {av : List Value} {B : State → Prop} {Qt : Array Value → State → Addr → State → Prop} {mc ms : Nat} {free : Addr → Prop} {cc : ByteArray} {maxL : Nat} {ret : Option FieldType} {own : String}
    (hy : plainName y.cls = true) (hw : ws = Cond.code y cc maxL ret :: lw_good) (hc : y.cls = own) (hlen : (lg_sl av).length ≤ maxL)
    (body : ∀ (p : Program) (e : Env) (s : State) (m : MethodId) (args : Array Value) (below : List Frame) (meth : Method) (c : Code) (ls : Array Slot) (Q : State → Prop), TQ below Qt args s mc ms free = Q → p.tables.exec = Jvm.exec → c.code = cc → c.maxLocals = maxL → c.exceptionTable.isEmpty = true → meth.locks = false → (∀ w ∈ lw_good, w.before args s = true) → s.vm.findClass own = some m.cls → meth.name = y.name → lv_has ls maxL (lv_args 0 av) → B s →
      W p l e rm s m args below meth c s.heap [] 0 0 Q (F0 m 0 ls [])) : TMet l y ws rm (va_Pc av B) Qt mc ms free := by
  refine MetFree.of_bodyS (code := cc) (maxLocals := maxL) (ret := ret) hy ?_ ?_
  · intro args s m h hn
    obtain ⟨meth, c, h1, h2, h3, h4, h5, h6, -, -⟩ := Cond.code_spec hn (atoms_spec (ws := ws) h _ (by rw [hw]; exact List.mem_cons_self))
    exact ⟨meth, c, h1, h2, h3, h4, h5, h6⟩
  · intro p e s m args below meth c s₁ Bd hml hP _
    obtain ⟨rfl, hB⟩ := hP
    have hh0 : s₁.heap = s.heap := by rw [Bd.state]; rfl
    have hts := atoms_spec (ws := ws) Bd.pre
    have hnx := Bd.noHandlers (hts _ (by rw [hw]; exact List.mem_cons_self))
    have K : W p l e (headSpec ws rm).room s m av.toArray below meth c s.heap [] 0 0 (TQ below Qt av.toArray s mc ms free) (entryFrame m av.toArray maxL) := by
      rw [lg_entry_eq]
      exact body p e s m _ below meth c _ _ rfl Bd.exec Bd.bytes hml hnx Bd.notSynchronized (fun w h => hts w (by rw [hw]; exact List.mem_cons_of_mem _ h)) (by rw [← hc]; exact findClass_of_methodNamed Bd.named) (name_of_methodNamed Bd.named Bd.method).1 (lv_entry av hlen) hB
    obtain ⟨t, a1, x, b1, b2, b3, b4⟩ := K s₁ hh0 (Stand.of_body Bd)
    exact ⟨t, .threw x, a1, b1, b2, x, rfl, b3, b4⟩
def sn_TRun (p : Program) (l : Launch) (e : Env) (R : Room) (s : State) (m : MethodId) (args : Array Value) (below : List Frame) (meth : Method) (c : Code) (H : Heap) (locs : List Loc) (cells slots mc ms : Nat) (g : JFrame) (rest : List Value) (Qa : State → Addr → State → Prop) (free : Addr → Prop) : Prop :=
  ∀ T : State, T.heap = H → Stand p l e R s m args below meth c T locs cells slots → ∃ (x : Addr) (st₀ t T' : State) (L : List Loc), st₀.heap = H ∧ s.vm.Alike st₀.vm ∧ Stand p l e R s m args below meth c T' (locs ++ L) (cells + mc) (slots + ms) ∧ (∀ q ∈ L, free q.base) ∧ T'.heap = t.heap ∧ Qa st₀ x t ∧
    ∀ tg, Steps p.tables e below ((T'.setTop { g with stack := rest }).pushFrame (.throwing x)) tg → Steps p.tables e below (T.setTop g) tg
section SNTC
variable {p : Program} {l : Launch} {e : Env} {R : Room} {s : State} {m : MethodId} {args : Array Value} {below : List Frame} {meth : Method} {c : Code} {H : Heap} {locs : List Loc} {cells slots : Nat} {Q : State → Prop}
variable {y : MethodName} {bytes cc : ByteArray} {maxL nL mc ms n index : Nat} {ret : Option FieldType} {ws : List Cond} {rm : Room} {Pc : Array Value → State → Prop} {Qt : Array Value → State → Addr → State → Prop} {free : Addr → Prop} {Ts : List Cond} {own C : String} {b : Addr} {As rest : List Value} {g : JFrame}
theorem sn_tback (hM : TMet l y ws rm Pc Qt mc ms free) (cb : CallB R s args own index y bytes maxL ret ws rm mc ms n) (hbl : FrameBlind Pc) {U : State} (X : Stand p l e R s m args below meth c U locs cells slots) (hg : g.method = m) (hsize : g.locals.size = c.maxLocals) {ig : Instr} {len : Nat} (hdg : decode c.code g.pc = .ok (ig, len))
    (hW : 2 * g.monitorRoom + (g.stack.map fun v => v.category).sum ≤ 8) {mk : MethodId} (hn : U.methodNamed? y = some mk) (hcl : cells + mc ≤ R.cells) (hsl : slots + ms ≤ R.slots) {a : Array Value} (hP : Pc a U) :
    ∃ (x : Addr) (t T' : State) (L : List Loc), Stand p l e R s m args below meth c T' (locs ++ L) (cells + mc) (slots + ms) ∧ (∀ q ∈ L, free q.base) ∧ T'.heap = t.heap ∧ Qt a (U.calling g mk a) x t ∧ Steps p.tables e below (doInvoke e (U.setTop g) [] mk a).1 ((T'.setTop g).pushFrame (.throwing x)) := by
  obtain ⟨hrc, hrs, hfr, hlo, hws, hcw, -, hini, -⟩ := cb
  have h1 : (headSpec ws rm).pre.before a U = true := atoms_intro fun w hw => hws w hw _ _ X.warmed
  have h2 : (Cond.code y bytes maxL ret).before a U = true := hws _ hcw _ _ X.warmed
  have h3 : (Cond.initialized y.cls).before a U = true := word_at X.warmed (Or.inl (by first | rfl | simp [Cond.onTables, Cond.keeps, Cond.steady])) hini
  obtain ⟨methY, cY, hmY, hcY, -, hlY, -, -, -, -⟩ := Cond.code_spec hn h2
  obtain ⟨kY, hkY, -⟩ := className_of_methodNamed hn
  have hinitY : kY.init = .initialized := Cond.initialized_spec (findClass_of_methodNamed hn) hkY h3
  have h : At U g.method c below := by rw [hg]; exact X.here
  have happ : (headSpec ws rm).appliesLoose y e.platform (U.calling g mk a) = true :=
    Spec.appliesLoose_calling (g := g) h hdg hn hkY hinitY
      (X.room_calling (g := g) (R' := (headSpec ws rm).room) hsize hmY hcY hfr (by rw [hlY]; show _ + (maxL + 11) + rm.locals ≤ R.locals; omega) (by show cells + rm.cells ≤ R.cells; rw [hrc]; exact hcl) (by show slots + rm.slots ≤ R.slots; rw [hrs]; exact hsl)) h1
  obtain ⟨mid, hmid⟩ := h.above
  have hfr' : (U.setTop g).frames = (.java g :: mid) ++ below := by rw [State.frames_setTop' g h.top, hmid]; rfl
  obtain ⟨o, s₂, hsteps, -, hend, x, rfl, hq, L, hW₂, hsame, hL⟩ := Steps.callFree hM p X.admits X.cas X.clock (acts := []) hfr' happ (hbl _ _ _ _ hP) trivial
  rw [State.frames_setTop' g h.top, X.tail] at hend
  obtain ⟨T', X', hWT, -, ht⟩ := X.outOfThrown hg hend hW₂ hsame
  refine ⟨x, s₂, T', L, X', hL, ?_, hq, ?_⟩
  · rw [ht]; exact (Stand.throwing_heap T' g x).symm
  · rw [← ht]; exact hsteps
theorem sn_trunV (S : CallFix p m c cc nL s args Ts own) (hM : TMet l y ws rm Pc Qt mc ms free) (cw : CallW R s args own C index y bytes maxL ret ws rm mc ms n) (hp : PreV s H C b Pc As)
    (hg : g.method = m) (hn : As.length = n) (hsize : g.locals.size = nL) (hstack : g.stack = As.reverse ++ .ref b :: rest) (hW : 2 * g.monitorRoom + (rest.map fun v => v.category).sum ≤ 8) (hdg : decode cc g.pc = .ok (.invokevirtual index, 3)) (hf : cells + mc ≤ R.cells ∧ slots + ms ≤ R.slots) :
    sn_TRun p l e R s m args below meth c H locs cells slots mc ms g rest (Qt (Value.ref b :: As).toArray) free := by
  obtain ⟨cb, hin, hse⟩ := cw
  obtain ⟨-, -, -, -, -, -, hcode, -, hy, hlen, hl⟩ := id cb
  obtain ⟨hx, hb, hml, ho, -⟩ := S
  obtain ⟨hbl, ⟨cellB, hcB, hoB, hclB⟩, hPc⟩ := hp
  intro T hT X
  obtain ⟨mk, methM, hnamed, hmethM, hstM, habM⟩ := Cond.instanceMethod_spec hin
  obtain ⟨methM', cM, hmethM', -, -, -, -, -, -, hsigM⟩ := Cond.code_spec hnamed hcode
  cases hmethM.symm.trans hmethM'
  obtain ⟨c2, r2, m2, q1, q2, q3, q4, kP, hkP, hkPi⟩ := Cond.selects_spec hse
  cases hclB.symm.trans q1
  cases (State.methodFound?_of_named hnamed hy).symm.trans q2
  cases hnamed.symm.trans q3
  have hselP : selectMethod e.platform s.vm cellB.cls mk = .method mk := by rw [Launch.admits_selectMethod X.admits]; exact q4
  obtain ⟨vm₁, X₁, hstep₁⟩ := X.invokevirtual hx ho hl hnamed hmethM hstM hkP hkPi hy (a := b) (cell := cellB) (by rw [hT]; exact hcB)
    (fun z h => by rw [h] at hoB; cases hoB) hselP hmethM habM hkP hkPi (g := g) hg (argsL := As) (rest := rest) (hn.trans (hlen _ hsigM)) hstack (by rw [hb]; exact hdg)
  obtain ⟨x, t, T', L, X', hL, e1, hq, st⟩ := sn_tback (g := { g with stack := rest }) hM cb hbl X₁ hg (hsize.trans hml.symm) (by rw [hb]; exact hdg) hW (X₁.named hnamed) hf.1 hf.2 (hPc (T.setVm vm₁) hT X₁.warmed)
  exact ⟨x, (T.setVm vm₁).calling { g with stack := rest } mk (Value.ref b :: As).toArray, t, T', L, hT, X₁.warmed.alike, X', hL, e1, hq, fun tg h => hstep₁ _ fun acts => by rw [doInvoke_state]; exact st.trans h⟩
theorem sn_trunS (S : CallFix p m c cc nL s args Ts own) (hM : TMet l y ws rm Pc Qt mc ms free) (cw : CallB R s args own index y bytes maxL ret ws rm mc ms n ∧ (Cond.static y).before args s = true) (hp : PreS s H Pc As)
    (hg : g.method = m) (hn : As.length = n) (hsize : g.locals.size = nL) (hstack : g.stack = As.reverse ++ rest) (hW : 2 * g.monitorRoom + (rest.map fun v => v.category).sum ≤ 8) (hdg : decode cc g.pc = .ok (.invokestatic index, 3)) (hf : cells + mc ≤ R.cells ∧ slots + ms ≤ R.slots) :
    sn_TRun p l e R s m args below meth c H locs cells slots mc ms g rest (Qt As.toArray) free := by
  obtain ⟨cb, hst⟩ := cw
  obtain ⟨-, -, -, -, -, -, hcode, hini, hy, hlen, hl⟩ := id cb
  obtain ⟨hx, hb, hml, ho, -⟩ := S
  obtain ⟨hbl, hPc⟩ := hp
  intro T hT X
  obtain ⟨mk, hnamed⟩ := Cond.code_named hcode
  obtain ⟨methM, cM, hmethM, -, -, -, -, -, -, hsigM⟩ := Cond.code_spec hnamed hcode
  have hstatic : methM.isStatic = true := Cond.static_spec hnamed hmethM hst
  obtain ⟨kP, hkP, -⟩ := className_of_methodNamed hnamed
  have hinitP : kP.init = .initialized := Cond.initialized_spec (findClass_of_methodNamed hnamed) hkP hini
  obtain ⟨vm₁, X₁, hstep₁⟩ := X.invokestatic hx ho hl hnamed hmethM hstatic hkP hinitP hy (g := g) hg (argsL := As) (rest := rest) (hn.trans (hlen _ hsigM)) hstack (by rw [hb]; exact hdg)
  obtain ⟨x, t, T', L, X', hL, e1, hq, st⟩ := sn_tback (g := { g with stack := rest }) hM cb hbl X₁ hg (hsize.trans hml.symm) (by rw [hb]; exact hdg) hW (X₁.named hnamed) hf.1 hf.2 (hPc (T.setVm vm₁) hT X₁.warmed)
  exact ⟨x, (T.setVm vm₁).calling { g with stack := rest } mk As.toArray, t, T', L, hT, X₁.warmed.alike, X', hL, e1, hq, fun tg h => hstep₁ _ fun acts => by rw [doInvoke_state]; exact st.trans h⟩
end SNTC
def sn_QT (D : va_G) (X : String) (wc w1 : va_W) : Array Value → State → Addr → State → Prop := fun _ st x t => st.heap.size ≤ x ∧ (∃ ce, t.heap[x]? = some ce ∧ ce.vm = .none ∧ st.vm.findClass X = some ce.cls) ∧ va_P D classes w1 t.heap ∧ va_F (sn_A wc) st t
def sn_BT (D : va_G) (K : Nat → ClassId) (ad : Nat → Nat) (ws : va_W) (U : State) : Prop := sn_BE D K ad ws U ∧ sn_T (sn_A ws) U U.heap
theorem sn_BT_blind {D : va_G} {K : Nat → ClassId} {ad : Nat → Nat} {ws : va_W} {av : List Value} : FrameBlind (va_Pc av (sn_BT D K ad ws)) := fun a U g mk q => ⟨q.1, (sn_BE_blind a U g mk ⟨q.1, q.2.1⟩).2, q.2.2.call⟩
section SNTP
variable {s : State} {H : Heap} {D : va_G} {K : Nat → ClassId} {ad : Nat → Nat} {ws wc : va_W} {A : Nat → Prop} {locs : List Loc}
theorem sn_T.here (hT : sn_T A s s.heap) (hS : va_S A s.heap H locs) (hD : va_D A ws) (is : List Nat) (hC : is.map (fun i => ws[i]?) = wc.map some) {U : State} (hU : U.heap = H) (hW : s.WarmedH U.vm) : sn_T (sn_A wc) U U.heap := by
  rw [hU]
  exact ((hT.kept hS.2.1).narrow (sn_free hD hC)).moved hW
theorem sn_preBT (hK : va_K D classes (kt K) s) (hN : sn_N s) (hP : va_P D classes ws H) (hD : va_D A ws) (hE : sn_Ph ad A s s.heap) (hT : sn_T A s s.heap) (hS : va_S A s.heap H locs) (is : List Nat) (hn : va_nd is = true) (hC : is.map (fun i => ws[i]?) = wc.map some) {U : State} (hU : U.heap = H) (hW : s.WarmedH U.vm) : sn_BT D K ad wc U :=
  ⟨⟨⟨sn_preB hK hN hP is hC hU hW, (hD.sub is hn hC).weaken (fun _ _ _ _ => trivial)⟩, hE.here hS hD is hC hU hW⟩, hT.here hS hD is hC hU hW⟩
theorem sn_preVT {b : Nat} {As : List Value} {ci : Nat} {fs : List Value} {C : String} {T : u_T} {N : Nat} (hK : va_K D classes (kt K) s) (hN : sn_N s) (hP : va_P D classes ws H) (hD : va_D A ws) (hE : sn_Ph ad A s s.heap) (hT : sn_T A s s.heap) (hS : va_S A s.heap H locs) (q0 : Nat) (he : ws[q0]? = some (b, .inr (ci, fs))) (hc : classes[ci]? = some (C, T, N)) (is : List Nat) (hn : va_nd is = true) (hC : is.map (fun i => ws[i]?) = wc.map some) :
    PreV s H C b (va_Pc (.ref b :: As) (sn_BT D K ad wc)) As := ⟨sn_BT_blind, va_recv hK hP hc he, fun _ hU hW => ⟨rfl, sn_preBT hK hN hP hD hE hT hS is hn hC hU hW⟩⟩
theorem sn_preST {As : List Value} (hK : va_K D classes (kt K) s) (hN : sn_N s) (hP : va_P D classes ws H) (hD : va_D A ws) (hE : sn_Ph ad A s s.heap) (hT : sn_T A s s.heap) (hS : va_S A s.heap H locs) (is : List Nat) (hn : va_nd is = true) (hC : is.map (fun i => ws[i]?) = wc.map some) :
    PreS s H (va_Pc As (sn_BT D K ad wc)) As := ⟨sn_BT_blind, fun _ hU hW => ⟨rfl, sn_preBT hK hN hP hD hE hT hS is hn hC hU hW⟩⟩
end SNTP
section SNTO
variable {p : Program} {l : Launch} {e : Env} {R : Room} {s : State} {m : MethodId} {args : Array Value} {below : List Frame} {meth : Method} {c : Code} {H : Heap} {locs : List Loc} {cells slots : Nat} {Q : State → Prop}
variable {cc : ByteArray} {pc : Nat} {ls : Array Slot} {rest st0 : List Value} {a : Array Value} {D : va_G} {K : Nat → ClassId} {ws wc w1 WS W1 : va_W} {A : Nat → Prop}
theorem sn_tout {X : String} (hr : sn_TRun p l e R s m args below meth c H locs cells slots 1 6 (F0 m pc ls st0) rest (sn_QT D X wc w1 a) (sn_A wc)) (hQ : TQ below (sn_QT D X WS W1) args s (cells + 1) (slots + 6) (sn_A WS) = Q) (hnx : c.exceptionTable.isEmpty = true) (hlk : meth.locks = false)
    (hP : va_P D classes ws H) (hD : va_D A ws) (hS : va_S A s.heap H locs) (hA : sn_A WS = A) (is : List Nat) (hC : is.map (fun i => ws[i]?) = wc.map some) (hadr : w1.map (fun q => q.1) = wc.map (fun q => q.1)) (hW1 : sn_sets ws is w1 = W1) : W p l e R s m args below meth c H locs cells slots Q (F0 m pc ls st0) := by
  subst hQ hA hW1
  intro T hT Xs
  obtain ⟨x, st₀, t, T', L, h0, hal, X', hL, e1, ⟨hx, ⟨ce, c1, c2, c3⟩, hp1, hz, hk⟩, st⟩ := hr T hT Xs
  rw [h0] at hz hk hx
  rw [← e1] at hp1 hz hk c1
  obtain ⟨j1, j2⟩ := sn_join hP hD is hC hadr hk hp1
  have hf := sn_free hD hC
  have hout : ∀ x ∈ c.exceptionTable.toList, covers x ({ F0 m pc ls st0 with stack := rest } : JFrame).pc = false := fun z hz => by
    rw [Array.isEmpty_iff.mp hnx] at hz
    cases hz
  obtain ⟨hwalk, hrun, hended, hWU, hsame⟩ := X'.leaveThrown x (g := { F0 m pc ls st0 with stack := rest }) rfl rfl rfl hout hlk
  exact ⟨T'.setFrames (.throwing x :: below), st _ hwalk, x, hrun, hended, ⟨Nat.le_trans hS.1 hx, ⟨ce, c1, c2, by rw [← hal.findClass]; exact c3⟩, j1, Nat.le_trans hS.1 hz, fun q h1 h2 => (hk q (Nat.lt_of_lt_of_le h1 hS.1) (fun z => h2 (hf q z))).trans (hS.2.1 q h1 h2)⟩, locs ++ L, hWU, hsame, fun q hq => by
    rcases List.mem_append.mp hq with h | h
    · exact hS.2.2 q h
    · exact hf _ (hL q h)⟩
theorem sn_athrow {own cls tx : String} {i1 k1 ic ix : Nat} {bx : ByteArray} (hQ : TQ below (sn_QT D cls WS W1) args s (cells + 1) (slots + 6) (sn_A WS) = Q) (hexec : p.tables.exec = Jvm.exec) (hb : c.code = cc) (hml : c.maxLocals = ls.size) (hnx : c.exceptionTable.isEmpty = true) (hlk : meth.locks = false) (hnt : l.stackTraces = false)
    (hown : s.vm.findClass own = some m.cls) (hcl : (Cond.classLink own i1 cls).before args s = true) (hin : (Cond.instantiable cls 6).before args s = true) (hini : (Cond.initialized cls).before args s = true) (hfit : Bundle.fit cls = true) (hT : sn_T A s s.heap) (hP : va_P D classes W1 H) (hS : va_S A s.heap H locs) (hA : sn_A WS = A) (hr : ∃ q, vk_R own k1 tx q s)
    (hA1 : ∀ w ∈ Bundle.throwableAtoms, w.before args s = true) (hA2 : ∀ w ∈ Bundle.throwableSAtoms, w.before args s = true) (hA3 : ∀ w ∈ Bundle.chainSAtoms "java/lang/RuntimeException" ["java/lang/Exception"], w.before args s = true)
    (hA4 : ∀ w ∈ Bundle.passSAtoms cls "java/lang/RuntimeException" ix bx, w.before args s = true) (h0 : decode bx 0 = .ok (.aload_n 0, 1)) (h1 : decode bx 1 = .ok (.aload_n 1, 1)) (h2 : decode bx 2 = .ok (.invokespecial ix, 3)) (h5 : decode bx 5 = .ok (.return_, 1)) (hO : ∀ w ∈ sn_oA own ic cls, w.before args s = true)
    (hcells : cells + 1 ≤ R.cells) (hslots : slots + 6 ≤ R.slots) (hRf : 5 < R.frames) (hRl : 82 ≤ R.locals) (d0 : decode cc pc = .ok (.new i1, 3)) (d3 : decode cc (pc + 3) = .ok (.dup, 1)) (d4 : decode cc (pc + 4) = .ok (.ldc k1, 2)) (d6 : decode cc (pc + 6) = .ok (.invokespecial ic, 3)) (d9 : decode cc (pc + 9) = .ok (.athrow, 1)) :
    W p l e R s m args below meth c H locs cells slots Q (F0 m pc ls []) := by
  subst hQ hA
  obtain ⟨q, hr⟩ := hr
  obtain ⟨cX, kX, g1, g2, -⟩ := Cond.instantiable_spec (show (Cond.instantiable cls 6).holds args s none s [] = true from hin)
  refine W.newcK hexec hb hown hcl hin hini rfl d0 hcells hslots g1 rfl fun H1 kC hkC e1 z1 o1 => ?_
  cases Option.some.inj (g2.symm.trans hkC)
  refine W.eq (g2 := F0 m (pc + 3) ls [.ref H.size]) rfl ?_
  refine lv_dup hexec hb d3 rfl ?_
  refine va_ldcS hexec hb hown hr d4 ?_
  intro T hT1 Xs
  have hk1 : ∀ z : Nat, z < s.heap.size → ¬ sn_A WS z → T.heap[z]? = s.heap[z]? := fun z hz hA => by
    rw [hT1, o1 z (Nat.lt_of_lt_of_le hz hS.1)]
    exact hS.2.1 z hz hA
  obtain ⟨U, st, hrun, hend, hW, hsame, hz, hk, ce, c1, c2, c3⟩ := sn_ctor Xs hexec ((congrArg Platform.stackTraces Xs.admits.2.2.2.2.1).trans hnt) hown hfit hA1 hA2 hA3 hA4 h0 h1 h2 h5 hO (hT.2.1.kept hk1) (hT.2.2.kept hk1) (a := H.size) g1 g2 (by rw [hT1]; exact e1) hS.1 (msg := .ref q) rfl
    (g := F0 m (pc + 6) ls [.ref q, .ref H.size, .ref H.size]) rfl hml.symm rfl rfl (rest := []) rfl (by rw [hb]; exact d6) (by rw [hb]; exact d9) (fun z hz => by
      rw [Array.isEmpty_iff.mp hnx] at hz
      cases hz) hRf hRl hlk
  have hk2 : ∀ z : Nat, z < H.size → U.heap[z]? = H[z]? := fun z hz => by rw [hk z (Nat.ne_of_lt hz), hT1]; exact o1 z hz
  refine ⟨U, st, H.size, hrun, hend, ⟨hS.1, ⟨ce, c1, c3, by rw [c2]; exact g1⟩, fun k x hx => ?_, ?_, fun z h1 h2 => ?_⟩, locs, hW, hsame, hS.2.2⟩
  · exact (hP k x hx).kept (hk2 _ (hP k x hx).lt)
  · rw [hz, hT1, z1]; exact Nat.le_trans hS.1 (Nat.le_succ _)
  · rw [hk2 z (Nat.lt_of_lt_of_le h1 hS.1)]; exact hS.2.1 z h1 h2
end SNTO
section SNTW
variable {s : State} {args : Array Value} {A : Nat → Prop}
theorem sn_tA (hts : ∀ w ∈ lw_good, w.before args s = true) (hT : sn_T A s s.heap) : ∀ w ∈ Bundle.throwableAtoms, w.before args s = true :=
  List.forall_mem_cons.mpr ⟨hts _ tw_11, List.forall_mem_cons.mpr ⟨hts _ tw_417, List.forall_mem_cons.mpr ⟨hts _ tw_426, List.forall_mem_cons.mpr ⟨hts _ tw_431, List.forall_mem_cons.mpr ⟨hts _ tw_434, List.forall_mem_cons.mpr ⟨hts _ tw_436, List.forall_mem_cons.mpr ⟨hts _ tw_418, List.forall_mem_cons.mpr ⟨hts _ tw_419, List.forall_mem_cons.mpr ⟨hts _ tw_25, List.forall_mem_cons.mpr ⟨hts _ tw_26, List.forall_mem_cons.mpr ⟨hts _ tw_420, List.forall_mem_cons.mpr ⟨hts _ tw_425, List.forall_mem_cons.mpr ⟨hts _ tw_432, List.forall_mem_cons.mpr ⟨hts _ tw_452, List.forall_mem_cons.mpr ⟨hts _ tw_407, List.forall_mem_cons.mpr ⟨hts _ tw_453, List.forall_mem_cons.mpr ⟨hts _ tw_409, List.forall_mem_cons.mpr ⟨hts _ tw_454, List.forall_mem_cons.mpr ⟨hts _ tw_411, List.forall_mem_cons.mpr ⟨hts _ tw_421, List.forall_mem_cons.mpr ⟨hT.2.1.lays args, List.forall_mem_cons.mpr ⟨hts _ tw_423, List.forall_mem_cons.mpr ⟨hT.2.2.lays args, List.forall_mem_cons.mpr ⟨hts _ tw_413, fun _ h => absurd h List.not_mem_nil⟩⟩⟩⟩⟩⟩⟩⟩⟩⟩⟩⟩⟩⟩⟩⟩⟩⟩⟩⟩⟩⟩⟩⟩
theorem sn_tB (hts : ∀ w ∈ lw_good, w.before args s = true) : ∀ w ∈ Bundle.throwableSAtoms, w.before args s = true :=
  List.forall_mem_cons.mpr ⟨hts _ tw_448, List.forall_mem_cons.mpr ⟨hts _ tw_449, List.forall_mem_cons.mpr ⟨hts _ tw_451, List.forall_mem_cons.mpr ⟨hts _ tw_413, fun _ h => absurd h List.not_mem_nil⟩⟩⟩⟩
theorem sn_tC (hts : ∀ w ∈ lw_good, w.before args s = true) (hT : sn_T A s s.heap) : ∀ w ∈ Bundle.chainSAtoms "java/lang/RuntimeException" ["java/lang/Exception"], w.before args s = true :=
  List.forall_mem_cons.mpr ⟨hts _ tw_442, List.forall_mem_cons.mpr ⟨hts _ tw_443, List.forall_mem_cons.mpr ⟨hts _ tw_444, List.forall_mem_cons.mpr ⟨hts _ tw_445, List.forall_mem_cons.mpr ⟨va_Nw.use rfl hT.1.2.1, List.forall_mem_cons.mpr ⟨hts _ tw_445, List.forall_mem_cons.mpr ⟨hts _ tw_446, List.forall_mem_cons.mpr ⟨hts _ tw_447, List.forall_mem_cons.mpr ⟨hts _ tw_448, List.forall_mem_cons.mpr ⟨va_Nw.use rfl hT.1.2.2.1, fun _ h => absurd h List.not_mem_nil⟩⟩⟩⟩⟩⟩⟩⟩⟩⟩
theorem sn_tPI (hts : ∀ w ∈ lw_good, w.before args s = true) (hT : sn_T A s s.heap) : ∀ w ∈ Bundle.passSAtoms "java/lang/IndexOutOfBoundsException" "java/lang/RuntimeException" 7 prog_14_method_2_code, w.before args s = true :=
  List.forall_mem_cons.mpr ⟨hts _ tw_439, List.forall_mem_cons.mpr ⟨hts _ tw_440, List.forall_mem_cons.mpr ⟨hts _ tw_441, List.forall_mem_cons.mpr ⟨hts _ tw_442, List.forall_mem_cons.mpr ⟨va_Nw.use rfl hT.1.1, fun _ h => absurd h List.not_mem_nil⟩⟩⟩⟩⟩
theorem sn_tOI (hts : ∀ w ∈ lw_good, w.before args s = true) : ∀ w ∈ sn_oA "SnapshotHeap" 134 "java/lang/IndexOutOfBoundsException", w.before args s = true :=
  List.forall_mem_cons.mpr ⟨hts _ tw_438, List.forall_mem_cons.mpr ⟨hts _ tw_396, List.forall_mem_cons.mpr ⟨hts _ tw_404, List.forall_mem_cons.mpr ⟨hts _ tw_405, List.forall_mem_cons.mpr ⟨hts _ tw_406, List.forall_mem_cons.mpr ⟨hts _ tw_408, List.forall_mem_cons.mpr ⟨hts _ tw_410, List.forall_mem_cons.mpr ⟨hts _ tw_412, List.forall_mem_cons.mpr ⟨hts _ tw_416, List.forall_mem_cons.mpr ⟨hts _ tw_415, List.forall_mem_cons.mpr ⟨hts _ tw_414, fun _ h => absurd h List.not_mem_nil⟩⟩⟩⟩⟩⟩⟩⟩⟩⟩⟩
theorem sn_tPA (hts : ∀ w ∈ lw_good, w.before args s = true) (hT : sn_T A s s.heap) : ∀ w ∈ Bundle.passSAtoms "java/lang/IllegalArgumentException" "java/lang/RuntimeException" 7 prog_12_method_2_code, w.before args s = true :=
  List.forall_mem_cons.mpr ⟨hts _ tw_478, List.forall_mem_cons.mpr ⟨hts _ tw_479, List.forall_mem_cons.mpr ⟨hts _ tw_480, List.forall_mem_cons.mpr ⟨hts _ tw_442, List.forall_mem_cons.mpr ⟨va_Nw.use rfl hT.1.1, fun _ h => absurd h List.not_mem_nil⟩⟩⟩⟩⟩
theorem sn_tOA (hts : ∀ w ∈ lw_good, w.before args s = true) : ∀ w ∈ sn_oA "SnapshotHeap" 139 "java/lang/IllegalArgumentException", w.before args s = true :=
  List.forall_mem_cons.mpr ⟨hts _ tw_477, List.forall_mem_cons.mpr ⟨hts _ tw_468, List.forall_mem_cons.mpr ⟨hts _ tw_470, List.forall_mem_cons.mpr ⟨hts _ tw_428, List.forall_mem_cons.mpr ⟨hts _ tw_471, List.forall_mem_cons.mpr ⟨hts _ tw_472, List.forall_mem_cons.mpr ⟨hts _ tw_473, List.forall_mem_cons.mpr ⟨hts _ tw_474, List.forall_mem_cons.mpr ⟨hts _ tw_416, List.forall_mem_cons.mpr ⟨hts _ tw_415, List.forall_mem_cons.mpr ⟨hts _ tw_475, fun _ h => absurd h List.not_mem_nil⟩⟩⟩⟩⟩⟩⟩⟩⟩⟩⟩
theorem sn_tPS (hts : ∀ w ∈ lw_good, w.before args s = true) (hT : sn_T A s s.heap) : ∀ w ∈ Bundle.passSAtoms "java/lang/IllegalStateException" "java/lang/RuntimeException" 7 prog_13_method_2_code, w.before args s = true :=
  List.forall_mem_cons.mpr ⟨hts _ tw_498, List.forall_mem_cons.mpr ⟨hts _ tw_499, List.forall_mem_cons.mpr ⟨hts _ tw_500, List.forall_mem_cons.mpr ⟨hts _ tw_442, List.forall_mem_cons.mpr ⟨va_Nw.use rfl hT.1.1, fun _ h => absurd h List.not_mem_nil⟩⟩⟩⟩⟩
theorem sn_tOS (hts : ∀ w ∈ lw_good, w.before args s = true) : ∀ w ∈ sn_oA "SnapshotHeap" 70 "java/lang/IllegalStateException", w.before args s = true :=
  List.forall_mem_cons.mpr ⟨hts _ tw_497, List.forall_mem_cons.mpr ⟨hts _ tw_488, List.forall_mem_cons.mpr ⟨hts _ tw_490, List.forall_mem_cons.mpr ⟨hts _ tw_429, List.forall_mem_cons.mpr ⟨hts _ tw_491, List.forall_mem_cons.mpr ⟨hts _ tw_492, List.forall_mem_cons.mpr ⟨hts _ tw_493, List.forall_mem_cons.mpr ⟨hts _ tw_494, List.forall_mem_cons.mpr ⟨hts _ tw_416, List.forall_mem_cons.mpr ⟨hts _ tw_415, List.forall_mem_cons.mpr ⟨hts _ tw_495, fun _ h => absurd h List.not_mem_nil⟩⟩⟩⟩⟩⟩⟩⟩⟩⟩⟩
theorem sn_tPN (hts : ∀ w ∈ lw_good, w.before args s = true) (hT : sn_T A s s.heap) : ∀ w ∈ Bundle.passSAtoms "java/util/NoSuchElementException" "java/lang/RuntimeException" 13 prog_20_method_4_code, w.before args s = true :=
  List.forall_mem_cons.mpr ⟨hts _ tw_575, List.forall_mem_cons.mpr ⟨hts _ tw_576, List.forall_mem_cons.mpr ⟨hts _ tw_577, List.forall_mem_cons.mpr ⟨hts _ tw_442, List.forall_mem_cons.mpr ⟨va_Nw.use rfl hT.1.1, fun _ h => absurd h List.not_mem_nil⟩⟩⟩⟩⟩
theorem sn_tON (hts : ∀ w ∈ lw_good, w.before args s = true) : ∀ w ∈ sn_oA "SnapshotHeap" 147 "java/util/NoSuchElementException", w.before args s = true :=
  List.forall_mem_cons.mpr ⟨hts _ tw_574, List.forall_mem_cons.mpr ⟨hts _ tw_565, List.forall_mem_cons.mpr ⟨hts _ tw_567, List.forall_mem_cons.mpr ⟨hts _ tw_430, List.forall_mem_cons.mpr ⟨hts _ tw_568, List.forall_mem_cons.mpr ⟨hts _ tw_569, List.forall_mem_cons.mpr ⟨hts _ tw_570, List.forall_mem_cons.mpr ⟨hts _ tw_571, List.forall_mem_cons.mpr ⟨hts _ tw_416, List.forall_mem_cons.mpr ⟨hts _ tw_415, List.forall_mem_cons.mpr ⟨hts _ tw_572, fun _ h => absurd h List.not_mem_nil⟩⟩⟩⟩⟩⟩⟩⟩⟩⟩⟩
end SNTW
