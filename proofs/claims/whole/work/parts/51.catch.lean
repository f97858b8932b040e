theorem sn_cres {s : State} {e : Env} {own nm : String} {args : Array Value} {i d : Nat} (hd : s.vm.findClass own = some d) (hl : (Cond.classLink own i nm).before args s = true) (hpl : e.platform.magicAccessors = ({} : Platform).magicAccessors) {vm₀ : Vm} (hW : s.WarmedH vm₀) :
    ∃ (c : ClassId) (vm' : Vm), s.vm.findClass nm = some c ∧ s.WarmedH vm' ∧ (VmOp.resolveClass d i).answer e vm₀ = .ok c ∧ (VmOp.resolveClass d i).tables e vm₀ = vm' := by
  obtain ⟨c, hc, hL⟩ := Cond.classLink_spec hd (show (Cond.classLink own i nm).holds args s none s [] = true from hl) e.platform hpl
  obtain ⟨dk, _, _, _, hd', _, _, _, _, _, _, hres⟩ := hL.here
  have h1 := (resolveClass_links e.toSetting (hW.classLinks hL)).op (e := e) (op := .resolveClass d i) rfl
  exact ⟨c, _, hc, hW.noted hd' hres (State.rightAt_cls hL), h1.1, h1.2⟩
theorem sn_go1 {E : CtlPost} {e : Env} {d : Bool} {acts : List Action} {U : State} {f : JFrame} {a : Addr} {Q : Handler → Pre} {x : ExceptionTableEntry} {t : List ExceptionTableEntry} {c : ClassId} {cell : Cell} {vm' : Vm} (hx : covers x f.pc = true) (h0 : x.catchType ≠ 0)
    (ha : (VmOp.resolveClass f.method.cls x.catchType).answer e U.vm = .ok c) (ht : (VmOp.resolveClass f.method.cls x.catchType).tables e U.vm = vm') (hsz : vm'.classes.size ≤ U.vm.classes.size) (hcell : U.heap[a]? = some cell) (hobj : ∀ k, cell.vm ≠ .statics k)
    (hk : ∃ k, vm'.classes[cell.cls]? = some k) (hc : ∃ k, vm'.classes[c]? = some k) :
    wp (findHandler.go f a (x :: t)) Q E e d acts U ↔ if vm'.assignable cell.cls c = true then Q (.found x.handlerPc) d acts (U.setVm vm') else wp (findHandler.go f a t) Q E e d acts (U.setVm vm') := by
  simp only [covers] at hx
  have hl : (VmOp.resolveClass f.method.cls x.catchType).lands e U = .done (U.setVm vm') := by
    rw [VmOp.lands_same (by rw [ht]; exact hsz), ht]
  cases hfit : vm'.assignable cell.cls c <;>
    simp [findHandler.go, hx, h0, hl, ha, hcell, hobj, hk, hc, hfit, VmOp.dirties, VmOp.acts]
def sn_Tb (own : String) (args : Array Value) (s : State) (X : String) (pc : Nat) : List (Nat × Nat × Nat × Nat) → Nat → Prop
  | [], _ => False
  | x :: t, hp => (x.1 ≤ pc ∧ pc < x.2.1 ∧ x.2.2.2 ≠ 0) ∧ ((x.2.2.1 = hp ∧ (Cond.classLink own x.2.2.2 X).before args s = true) ∨ ∃ nm, (Cond.classLink own x.2.2.2 nm).before args s = true ∧ va_Nc X nm s ∧ sn_Tb own args s X pc t hp)
theorem sn_go {e : Env} {s : State} {own X : String} {args : Array Value} {f : JFrame} {a : Addr} {cell : Cell} (hown : s.vm.findClass own = some f.method.cls) (hpl : e.platform.magicAccessors = ({} : Platform).magicAccessors) (hv : cell.vm = .none) (hX : s.vm.findClass X = some cell.cls) {hp : Nat} :
    ∀ (tb : List (Nat × Nat × Nat × Nat)) (tl : List ExceptionTableEntry), tl.map (fun h => (h.startPc, h.endPc, h.handlerPc, h.catchType)) = tb → sn_Tb own args s X f.pc tb hp → ∀ U : State, s.WarmedH U.vm → U.heap[a]? = some cell →
      ∃ vm', s.WarmedH vm' ∧ ∀ (Q : Handler → Pre) (E : CtlPost) (d : Bool) (acts : List Action), wp (findHandler.go f a tl) Q E e d acts U ↔ Q (.found hp) d acts (U.setVm vm') := by
  have hobj : ∀ k, cell.vm ≠ .statics k := fun k h => by rw [hv] at h; cases h
  intro tb
  induction tb with
  | nil => intro tl _ h; exact h.elim
  | cons y tb ih =>
    intro tl hm h U hW hcell
    cases tl with
    | nil => cases hm
    | cons x tl =>
      have hm1 : (x.startPc, x.endPc, x.handlerPc, x.catchType) = y := (List.cons.inj hm).1
      have hm2 := (List.cons.inj hm).2
      subst hm1
      obtain ⟨⟨g1, g2, g3⟩, h⟩ := h
      have hx : covers x f.pc = true := by simp only [covers, Bool.and_eq_true, decide_eq_true_eq]; exact ⟨g1, g2⟩
      have key : ∀ nm, (Cond.classLink own x.catchType nm).before args s = true → ∃ (c : ClassId) (vm' : Vm), s.vm.findClass nm = some c ∧ s.WarmedH vm' ∧ ∀ (Q : Handler → Pre) (E : CtlPost) (d : Bool) (acts : List Action), wp (findHandler.go f a (x :: tl)) Q E e d acts U ↔ if s.vm.assignable cell.cls c = true then Q (.found x.handlerPc) d acts (U.setVm vm') else wp (findHandler.go f a tl) Q E e d acts (U.setVm vm') := by
        intro nm hl
        obtain ⟨c, vm', hc, hW', ha, ht⟩ := sn_cres hown hl hpl hW
        obtain ⟨k1, hk1, -⟩ := Vm.findClass_spec hX
        obtain ⟨k2, hk2, -⟩ := Vm.findClass_spec hc
        obtain ⟨k3, hk3, -⟩ := hW'.alike.2.2 _ _ hk1
        obtain ⟨k4, hk4, -⟩ := hW'.alike.2.2 _ _ hk2
        refine ⟨c, vm', hc, hW', fun Q E d acts => ?_⟩
        rw [sn_go1 hx g3 ha ht (by rw [hW'.2.1, hW.2.1]; exact Nat.le_refl _) hcell hobj ⟨k3, hk3⟩ ⟨k4, hk4⟩, hW'.alike.assignable]
      rcases h with ⟨e1, hl⟩ | ⟨nm, hl, hno, hrest⟩
      · obtain ⟨c, vm', hc, hW', k⟩ := key X hl
        have ec : c = cell.cls := Option.some.inj (hc.symm.trans hX)
        subst ec
        refine ⟨vm', hW', fun Q E d acts => ?_⟩
        rw [k Q E d acts, if_pos (va_asg _ _)]
        have e1 : x.handlerPc = hp := e1
        rw [e1]
      · obtain ⟨c, vm', hc, hW', k⟩ := key nm hl
        obtain ⟨c1, t1, n1, n2, n3⟩ := hno
        have ec : c1 = cell.cls := Option.some.inj (n1.symm.trans hX)
        have et : t1 = c := Option.some.inj (n2.symm.trans hc)
        subst ec et
        obtain ⟨vm2, hW2, k2⟩ := ih tl hm2 hrest (U.setVm vm') hW' hcell
        refine ⟨vm2, hW2, fun Q E d acts => ?_⟩
        rw [k Q E d acts, if_neg (by rw [n3]; decide), k2 Q E d acts]
        rfl
theorem sn_stepc {e : Env} {s : State} {a : Addr} {f : JFrame} {r : List Frame} {pc : Nat} {vm' : Vm} (hfind : ∀ (Q : Handler → Pre) (E : CtlPost) (d : Bool) (acts : List Action), wp (findHandler f a) Q E e d acts s ↔ Q (.found pc) d acts (s.setVm vm')) :
    (stepThrowing e s a (.java f :: r)).1 = (s.setVm vm').setFrames (.java { f with pc := pc, stack := [.ref a] } :: r) := by
  simp only [stepThrowing, searchFrame, vmDo]
  generalize hr : Sem.go _ e false [] s = res
  obtain ⟨as, rfl, ha⟩ := Sem.eq_ok_of hr (a := Handler.found pc) (s' := s.setVm vm') (acts' := []) (by simp [hfind _ _ _ _])
  rfl
theorem sn_caught {tb : Tables} {e : Env} {s target : State} {g : JFrame} {c : Code} {below : List Frame} {a : Addr} {vm' : Vm} (h : At s g.method c below) {pc : Nat}
    (hfind : ∀ (Q : Handler → Pre) (E : CtlPost) (d : Bool) (acts : List Action), wp (findHandler g a) Q E e d acts ((s.setTop g).pushFrame (.throwing a)) ↔ Q (.found pc) d acts (((s.setTop g).pushFrame (.throwing a)).setVm vm'))
    (hrest : Steps tb e below ((s.setVm vm').setTop { g with pc := pc, stack := [.ref a] }) target) : Steps tb e below ((s.setTop g).pushFrame (.throwing a)) target := by
  obtain ⟨hgo, hw⟩ := h.throwing a
  refine Steps.head hgo hw ?_
  rw [stepThread_throwing (frames_entered h.top _), sn_stepc hfind]
  obtain ⟨g₀, hg⟩ := Option.isSome_iff_exists.mp h.top
  obtain ⟨r, hr⟩ := State.topJava?_eq_some.mp hg
  have hr' : (s.setVm vm').frames = .java g₀ :: r := hr
  rw [State.setTop_of_frames _ hr'] at hrest
  have e1 : ((s.setTop g).pushFrame (.throwing a)).setVm vm' = ((s.setVm vm').setTop g).pushFrame (.throwing a) := rfl
  rw [e1, State.pushFrame, State.setFrames_setFrames, State.setTop_of_frames _ hr', State.setFrames_setFrames, hr]
  exact hrest
section SNCA
variable {p : Program} {l : Launch} {e : Env} {R : Room} {s : State} {m : MethodId} {args : Array Value} {below : List Frame} {meth : Method} {c : Code} {H H0 : Heap} {locs : List Loc} {cells slots : Nat} {Q : State → Prop}
variable {cc : ByteArray} {pc : Nat} {ls : Array Slot} {rest st0 : List Value} {a : Array Value} {D : va_G} {K : Nat → ClassId} {ws wc w1 : va_W} {A : Nat → Prop}
theorem sn_catch {X own : String} {tb : List (Nat × Nat × Nat × Nat)} {hp : Nat} (hr : sn_TRun p l e R s m args below meth c H locs cells slots 1 6 (F0 m pc ls st0) rest (sn_QT D X wc w1 a) (sn_A wc))
    (htb : c.exceptionTable.toList.map (fun h => (h.startPc, h.endPc, h.handlerPc, h.catchType)) = tb) (hown : s.vm.findClass own = some m.cls) (hTb : sn_Tb own args s X pc tb hp)
    (hP : va_P D classes ws H) (hD : va_D A ws) (hS : va_S A H0 H locs) (is : List Nat) (hC : is.map (fun i => ws[i]?) = wc.map some) (hadr : w1.map (fun q => q.1) = wc.map (fun q => q.1))
    (kk : ∀ (x : Nat) (H1 : Heap) (locs1 : List Loc), va_P D classes (sn_sets ws is w1) H1 → va_D A (sn_sets ws is w1) → va_S A H0 H1 locs1 → W p l e R s m args below meth c H1 locs1 (cells + 1) (slots + 6) Q (F0 m hp ls [.ref x])) : W p l e R s m args below meth c H locs cells slots Q (F0 m pc ls st0) := by
  intro T hT Xs
  obtain ⟨x, st₀, t, T', L, h0, hal, X', hL, e1, ⟨hx, ⟨ce, c1, c2, c3⟩, hp1, hz, hk⟩, st⟩ := hr T hT Xs
  rw [h0] at hz hk
  rw [← e1] at hp1 hz hk c1
  obtain ⟨j1, j2⟩ := sn_join hP hD is hC hadr hk hp1
  have hf := sn_free hD hC
  have hpl : e.platform.magicAccessors = ({} : Platform).magicAccessors := by rw [Xs.admits.platform]
  have hX : s.vm.findClass X = some ce.cls := by rw [← hal.findClass]; exact c3
  obtain ⟨vm', hW', hfind⟩ := sn_go (e := e) (f := { F0 m pc ls st0 with stack := rest }) (a := x) hown hpl c2 hX tb c.exceptionTable.toList htb hTb ((T'.setTop { F0 m pc ls st0 with stack := rest }).pushFrame (.throwing x)) (by rw [Stand.throwing_vm]; exact X'.warmed) (by rw [Stand.throwing_heap]; exact c1)
  have hm : ((T'.setTop { F0 m pc ls st0 with stack := rest }).pushFrame (.throwing x)).vm.method? m = some meth := by rw [Stand.throwing_vm]; exact X'.method'
  have X2 := X'.noted hW'
  obtain ⟨t2, a1, b1⟩ := kk x T'.heap (locs ++ L) j1 j2 ⟨Nat.le_trans hS.1 hz, fun q h1 h2 => by rw [hk q (Nat.lt_of_lt_of_le h1 hS.1) (fun z => h2 (hf q z))]; exact hS.2.1 q h1 h2, fun q hq => by
      rcases List.mem_append.mp hq with h | h
      · exact hS.2.2 q h
      · exact hf _ (hL q h)⟩ (T'.setVm vm') rfl X2
  refine ⟨t2, st _ (sn_caught (g := { F0 m pc ls st0 with stack := rest }) X'.here (fun Q E d acts => ?_) a1), b1⟩
  rw [Jvm.W.findHandler_eq (f := { F0 m pc ls st0 with stack := rest }) hm X'.code]
  exact hfind Q E d acts
theorem sn_wrg {v : Option Value} {st1 : List Value} {mc ms : Nat} (hr : va_Run p l e R s m args below meth c H locs cells slots mc ms (F0 m pc ls st0) rest (sn_Q D wc w1 v a) (sn_A wc)) (h1 : v.toList ++ rest = st1) (hP : va_P D classes ws H) (hD : va_D A ws) (hS : va_S A H0 H locs)
    (is : List Nat) (hC : is.map (fun i => ws[i]?) = wc.map some) (hadr : w1.map (fun q => q.1) = wc.map (fun q => q.1))
    (kk : ∀ (H1 : Heap) (locs1 : List Loc), va_P D classes (sn_sets ws is w1) H1 → va_D A (sn_sets ws is w1) → va_S A H0 H1 locs1 → W p l e R s m args below meth c H1 locs1 (cells + mc) (slots + ms) Q (F0 m (pc + 3) ls st1)) : W p l e R s m args below meth c H locs cells slots Q (F0 m pc ls st0) := by
  subst h1
  intro T hT X
  obtain ⟨v', st₀, t, T', L, h0, X', hL, e1, -, ⟨hv, hp1, hz, hk⟩, st⟩ := hr T hT X
  cases hv
  rw [h0] at hz hk
  rw [← e1] at hp1 hz hk
  obtain ⟨j1, j2⟩ := sn_join hP hD is hC hadr hk hp1
  have hf := sn_free hD hC
  obtain ⟨t2, a1, b1⟩ := kk T'.heap (locs ++ L) j1 j2 ⟨Nat.le_trans hS.1 hz, fun q h1 h2 => by rw [hk q (Nat.lt_of_lt_of_le h1 hS.1) (fun z => h2 (hf q z))]; exact hS.2.1 q h1 h2, fun q hq => by
      rcases List.mem_append.mp hq with h | h
      · exact hS.2.2 q h
      · exact hf _ (hL q h)⟩ T' rfl X'
  exact ⟨t2, st t2 a1, b1⟩
theorem sx_hi {x v : Int32} (hQ : MQ below (sn_Q D wc w1 (some (.int v))) args s cells slots (sn_A wc) = Q) (hexec : p.tables.exec = Jvm.exec) (hb : c.code = cc) (hr : meth.sig.returnType = some .int) (hlk : meth.locks = false) (hv : x = v) (hP : va_P D classes w1 H) (hS : va_S (sn_A wc) s.heap H locs) (hdg : decode cc pc = .ok (.ireturn, 1)) : W p l e R s m args below meth c H locs cells slots Q (F0 m pc ls [.int x]) := by
  subst hQ
  subst hv
  exact W.iret hexec hb hr (fun t ht _ => ⟨rfl, by rw [ht]; exact hP, hS.F ht⟩) hS.2.2 hdg hlk
end SNCA
theorem sn_metW {l : Launch} {y : MethodName} {ws : List Cond} {rm : Room} {av : List Value} {B : State → Prop} {Qc : Array Value → State → Outcome → State → Prop} {mc ms : Nat} {free : Addr → Prop} {cc : ByteArray} {maxL : Nat} {ret : Option FieldType} {own : String} {hh : List (Nat × Nat × Nat × Nat)}
    (hy : plainName y.cls = true) (hw : ws = Cond.codeWith y cc maxL ret hh :: lw_good) (hc : y.cls = own) (hlen : (lg_sl av).length ≤ maxL)
    (body : ∀ (p : Program) (e : Env) (s : State) (m : MethodId) (args : Array Value) (below : List Frame) (meth : Method) (c : Code) (ls : Array Slot) (Q : State → Prop), MQ below Qc args s mc ms free = Q → p.tables.exec = Jvm.exec → c.code = cc → c.maxLocals = maxL → meth.sig.returnType = ret → meth.locks = false → c.exceptionTable.toList.map (fun h => (h.startPc, h.endPc, h.handlerPc, h.catchType)) = hh → (∀ w ∈ lw_good, w.before args s = true) → s.vm.findClass own = some m.cls → lv_has ls maxL (lv_args 0 av) → B s →
      W p l e rm s m args below meth c s.heap [] 0 0 Q (F0 m 0 ls [])) : Met l y ws rm (va_Pc av B) Qc mc ms free := by
  refine va_MetW (cc := cc) (maxL := maxL) (ret := ret) (hh := hh) hy hw ?_
  intro p e s m args below meth c s₁ Bd hml hv
  obtain ⟨rfl, hB⟩ := hv
  rw [lg_entry_eq]
  have hts := atoms_spec (ws := ws) Bd.pre
  obtain ⟨m9, meth9, c9, n1, n2, n3, -, -, n4, -⟩ := Cond.codeWith_spec (hts _ (by rw [hw]; exact List.mem_cons_self))
  cases Bd.named.symm.trans n1
  cases Bd.method.symm.trans n2
  cases (Stand.of_body Bd).code.symm.trans n3
  exact body p e s m _ below meth c _ _ rfl Bd.exec Bd.bytes hml Bd.returns Bd.notSynchronized n4 (fun w h => hts w (by rw [hw]; exact List.mem_cons_of_mem _ h)) (by rw [← hc]; exact findClass_of_methodNamed Bd.named) (lv_entry av hlen) hB
section SNCW
variable {p : Program} {l : Launch} {e : Env} {R : Room} {s : State} {m : MethodId} {args : Array Value} {below : List Frame} {meth : Method} {c : Code} {H : Heap} {locs : List Loc} {cells slots : Nat} {Q : State → Prop}
variable {y : MethodName} {bytes cc : ByteArray} {maxL nL mc ms n index : Nat} {ret : Option FieldType} {ws : List Cond} {rm : Room} {Pc : Array Value → State → Prop} {Qc : Array Value → State → Outcome → State → Prop} {free : Addr → Prop} {Ts : List Cond} {own C : String} {b : Addr} {As rest : List Value} {g : JFrame} {hh : List (Nat × Nat × Nat × Nat)}
theorem sn_runSW (S : CallFix p m c cc nL s args Ts own) (hM : Met l y ws rm Pc Qc mc ms free) (hG : GoodIn Ts ws) (hw : ws = Cond.codeWith y bytes maxL ret hh :: lw_good) (hrc : rm.cells = mc) (hrs : rm.slots = ms) (hini : (Cond.initialized y.cls).before args s = true) (hl : (Cond.methodLink own index y).before args s = true) (hstt : (Cond.static y).before args s = true)
    (hd : y.cls ≠ "java/lang/invoke/MethodHandle" ∧ y.cls ≠ "java/lang/invoke/VarHandle" ∧ (parseMethodDescriptor y.desc).map (fun d => d.parameters.length) = some n) (hR : rm.frames + 1 ≤ R.frames ∧ 8 + (maxL + 11) + rm.locals ≤ R.locals) (hp : PreS s H Pc As)
    (hg : g.method = m) (hn : As.length = n) (hsize : g.locals.size = nL) (hstack : g.stack = As.reverse ++ rest) (hW : 2 * g.monitorRoom + (rest.map fun v => v.category).sum ≤ 8) (hdg : decode cc g.pc = .ok (.invokestatic index, 3)) (hf : cells + mc ≤ R.cells ∧ slots + ms ≤ R.slots) :
    va_Run p l e R s m args below meth c H locs cells slots mc ms g rest (Qc As.toArray) (free) := by
  obtain ⟨hx, hb, hml, ho, ht⟩ := S
  have hcw : Cond.codeWith y bytes maxL ret hh ∈ ws := by rw [hw]; exact List.mem_cons_self
  have hK : Back l R p e below s args y 3 8 (PreOf R mc ms Pc) (PostOf Qc mc ms free) := va_backW hM hp.1 hrc hrs hR.1 hR.2 (pay_in ht hG) hcw (fun a' U hW => word_at hW (Or.inl (by first | rfl | simp [Cond.onTables, Cond.keeps, Cond.steady])) hini)
  intro T hT X
  obtain ⟨mk, methM, cM, hnamed, hmethM, -, -, -, -, -, -, hsigM⟩ := Cond.codeWith_spec (ht _ (hG _ hcw).1)
  have hstatic : methM.isStatic = true := Cond.static_spec hnamed hmethM hstt
  obtain ⟨kP, hkP, -⟩ := className_of_methodNamed hnamed
  have hinitP : kP.init = .initialized := Cond.initialized_spec (findClass_of_methodNamed hnamed) hkP hini
  have hlen : As.length = methM.sig.parameters.length := by
    have h2 := hd.2.2
    rw [hsigM] at h2
    exact hn.trans (Option.some.inj h2).symm
  obtain ⟨vm₁, X₁, hstep₁⟩ := X.invokestatic hx ho hl hnamed hmethM hstatic hkP hinitP ⟨hd.1, hd.2.1⟩ (g := g) hg (argsL := As) (rest := rest) hlen hstack (by rw [hb]; exact hdg)
  obtain ⟨v, ⟨U', l2, c2, s2⟩, X', ⟨g', mk', t, L, e1, e2, hq, h1, hL, h2, h3⟩, st⟩ := hK m meth c ⟨T.setVm vm₁, locs, cells, slots⟩ { g with stack := rest } (.invokestatic index) mk As.toArray X₁ hg (hsize.trans hml.symm) (by rw [hb]; exact hdg) hW (X₁.named hnamed) ⟨hf.1, hf.2, hp.2 (T.setVm vm₁) hT X₁.warmed⟩
  dsimp only [Pt.U, Pt.locs, Pt.cells, Pt.slots] at X' e1 e2 h1 h2 h3 st
  subst h1; subst h2; subst h3
  exact ⟨v, (T.setVm vm₁).calling g' mk' As.toArray, t, U', L, hT, X', hL, e1, e2, hq, fun tg h => hstep₁ _ fun acts => by rw [doInvoke_state]; exact st.trans h⟩
end SNCW
