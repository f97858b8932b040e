abbrev kt (K : Nat → ClassId) : List (ClassId × FieldType) := [(K 0, .int), (K 1, .long), (K 2, .boolean)]
def zb (b : Bool) : Int32 := if b = true then 1 else 0
theorem zb_f {P : Prop} [i : Decidable P] (h : zb (decide P) = 0) : ¬ P := fun hp => by
  rw [zb, if_pos (decide_eq_true hp)] at h
  exact absurd h (by decide)
theorem zb_t {P : Prop} [i : Decidable P] (h : ¬ zb (decide P) = 0) : P := Classical.byContradiction fun hp => h (by
  rw [zb, if_neg (by rw [decide_eq_false hp]; decide)])
theorem zb_yes {P : Prop} [i : Decidable P] (h : P) : (1 : Int32) = zb (decide P) := by rw [zb, if_pos (decide_eq_true h)]
theorem zb_no {P : Prop} [i : Decidable P] (h : ¬ P) : (0 : Int32) = zb (decide P) := by rw [zb, if_neg (by rw [decide_eq_false h]; decide)]
theorem zb_nar (b : Bool) : narrow .boolean (.int (zb b)) = .int (zb b) := by cases b <;> rfl
theorem zb_iff {P Q : Prop} [i : Decidable P] [j : Decidable Q] (h : P ↔ Q) : zb (decide P) = zb (decide Q) := by
  by_cases hp : P
  · rw [← zb_yes hp, ← zb_yes (h.mp hp)]
  · rw [← zb_no hp, ← zb_no (fun hq => hp (h.mpr hq))]
def sn_i (x : Option Nat) : Int32 := match x with
  | none => -1
  | some n => nI n
def sn_A (ws : va_W) : Nat → Prop := fun q => ∃ (k : Nat) (e : va_E), ws[k]? = some (q, e)
def sn_look : List Nat → va_W → Nat → Nat × va_E → Nat × va_E
  | i :: is, c :: cs, k, d => cond (Nat.beq i k) c (sn_look is cs k d)
  | _, _, _, d => d
def sn_seto (is : List Nat) (cs : va_W) : Nat → va_W → va_W
  | _, [] => []
  | k, c :: ws => sn_look is cs k c :: sn_seto is cs (k + 1) ws
def sn_sets (ws : va_W) (is : List Nat) (cs : va_W) : va_W := sn_seto is cs 0 ws
theorem sn_look_ok : ∀ (is : List Nat) (cs : va_W) (k : Nat) (d : Nat × va_E), is.length = cs.length → (∃ j : Nat, is[j]? = some k ∧ cs[j]? = some (sn_look is cs k d)) ∨ (k ∉ is ∧ sn_look is cs k d = d)
  | [], [], k, d, _ => Or.inr ⟨List.not_mem_nil, rfl⟩
  | [], _ :: _, _, _, hl => by cases hl
  | _ :: _, [], _, _, hl => by cases hl
  | i :: is, c :: cs, k, d, hl => by
    by_cases e : i = k
    · subst e
      refine Or.inl ⟨0, rfl, ?_⟩
      show some c = some (cond (Nat.beq i i) c (sn_look is cs i d))
      rw [Nat.beq_refl i]
      rfl
    · have hb : Nat.beq i k = false := by
        cases h9 : Nat.beq i k with
        | false => rfl
        | true => exact absurd (Nat.eq_of_beq_eq_true h9) e
      have hs : sn_look (i :: is) (c :: cs) k d = sn_look is cs k d := by
        show cond (Nat.beq i k) c (sn_look is cs k d) = _
        rw [hb]
        rfl
      rw [hs]
      rcases sn_look_ok is cs k d (Nat.succ.inj hl) with ⟨j, h1, h2⟩ | ⟨h1, h2⟩
      · exact Or.inl ⟨j + 1, h1, h2⟩
      · refine Or.inr ⟨fun hm => ?_, h2⟩
        rcases List.mem_cons.mp hm with h9 | h9
        · exact e h9.symm
        · exact h1 h9
theorem sn_seto_at (is : List Nat) (cs : va_W) : ∀ (ws : va_W) (k0 k : Nat) (q : Nat × va_E), (sn_seto is cs k0 ws)[k]? = some q → ∃ d, ws[k]? = some d ∧ q = sn_look is cs (k0 + k) d
  | [], _, _, _, h => by cases h
  | c :: ws, k0, 0, q, h => ⟨c, rfl, (Option.some.inj h).symm⟩
  | c :: ws, k0, k + 1, q, h => by
    have h : (sn_seto is cs (k0 + 1) ws)[k]? = some q := h
    obtain ⟨d, h1, h2⟩ := sn_seto_at is cs ws (k0 + 1) k q h
    exact ⟨d, h1, by rw [h2, show k0 + 1 + k = k0 + (k + 1) by omega]⟩
theorem sn_pick {ws wc : va_W} {is : List Nat} (hC : is.map (fun i => ws[i]?) = wc.map some) {k : Nat} {q : Nat × va_E} (hk : wc[k]? = some q) : ∃ i, is[k]? = some i ∧ ws[i]? = some q := by
  have h1 : (is.map (fun i => ws[i]?))[k]? = some (some q) := by rw [hC, List.getElem?_map, hk]; rfl
  rw [List.getElem?_map] at h1
  cases hi : is[k]? with
  | none => rw [hi] at h1; cases h1
  | some i => rw [hi] at h1; exact ⟨i, rfl, Option.some.inj h1⟩
theorem sn_pick2 {ws wc : va_W} {is : List Nat} (hC : is.map (fun i => ws[i]?) = wc.map some) {k i : Nat} (hk : is[k]? = some i) : ∃ q, wc[k]? = some q ∧ ws[i]? = some q := by
  have h1 : (wc.map some)[k]? = some (ws[i]?) := by rw [← hC, List.getElem?_map, hk]; rfl
  rw [List.getElem?_map] at h1
  cases hq : wc[k]? with
  | none => rw [hq] at h1; cases h1
  | some q => rw [hq] at h1; exact ⟨q, rfl, (Option.some.inj h1).symm⟩
theorem sn_Psub {D : va_G} {cl : List vw_C} {ws wc : va_W} {H : Heap} (h : va_P D cl ws H) {is : List Nat} (hC : is.map (fun i => ws[i]?) = wc.map some) : va_P D cl wc H := fun k q hk => by
  obtain ⟨i, -, h2⟩ := sn_pick hC hk
  exact h i q h2
theorem sn_sets_at (is : List Nat) (cs ws : va_W) (k : Nat) (q : Nat × va_E) (hl : is.length = cs.length) (h : (sn_sets ws is cs)[k]? = some q) : (∃ j : Nat, is[j]? = some k ∧ cs[j]? = some q) ∨ (k ∉ is ∧ ws[k]? = some q) := by
  obtain ⟨d, h1, h2⟩ := sn_seto_at is cs ws 0 k q h
  rw [Nat.zero_add] at h2
  rcases sn_look_ok is cs k d hl with ⟨j, h3, h4⟩ | ⟨h3, h4⟩
  · exact Or.inl ⟨j, h3, by rw [h2]; exact h4⟩
  · exact Or.inr ⟨h3, by rw [h2, h4]; exact h1⟩
theorem sn_join {A0 : Nat → Prop} {D : va_G} {cl : List vw_C} {ws wc w1 : va_W} {H H1 : Heap} (hP : va_P D cl ws H) (hD : va_D A0 ws) (is : List Nat) (hC : is.map (fun i => ws[i]?) = wc.map some) (hadr : w1.map (fun q => q.1) = wc.map (fun q => q.1))
    (hk : ∀ q : Nat, q < H.size → ¬ sn_A wc q → H1[q]? = H[q]?) (hP1 : va_P D cl w1 H1) : va_P D cl (sn_sets ws is w1) H1 ∧ va_D A0 (sn_sets ws is w1) := by
  have hl : is.length = w1.length := by
    have h1 := congrArg List.length hC
    have h2 := congrArg List.length hadr
    simp only [List.length_map] at h1 h2
    omega
  have adr : ∀ (k : Nat) (q : Nat × va_E), (sn_sets ws is w1)[k]? = some q → ∃ q', ws[k]? = some q' ∧ q'.1 = q.1 := by
    intro k q h
    rcases sn_sets_at is w1 ws k q hl h with ⟨j, h1, h2⟩ | ⟨-, h2⟩
    · obtain ⟨q', h3, h4⟩ := sn_pick2 hC h1
      have h5 : (w1.map (fun q => q.1))[j]? = (wc.map (fun q => q.1))[j]? := by rw [hadr]
      rw [List.getElem?_map, List.getElem?_map, h2, h3] at h5
      exact ⟨q', h4, (Option.some.inj h5).symm⟩
    · exact ⟨q, h2, rfl⟩
  refine ⟨fun k q h => ?_, fun i j x y hi hj hxy => ?_, fun k q h => ?_⟩
  · rcases sn_sets_at is w1 ws k q hl h with ⟨j, -, h2⟩ | ⟨h1, h2⟩
    · exact hP1 j q h2
    · refine (hP k q h2).kept (hk q.1 (hP k q h2).lt (fun ha => ?_))
      obtain ⟨j, e, h3⟩ := ha
      obtain ⟨i, h4, h5⟩ := sn_pick hC h3
      have hik := hD.1 k i q (q.1, e) h2 h5 rfl
      subst hik
      exact h1 (List.mem_of_getElem? h4)
  · obtain ⟨x', h1, h2⟩ := adr i x hi
    obtain ⟨y', h3, h4⟩ := adr j y hj
    exact hD.1 i j x' y' h1 h3 (by rw [h2, h4]; exact hxy)
  · obtain ⟨q', h1, h2⟩ := adr k q h
    rw [← h2]
    exact hD.2 k q' h1
theorem sn_free {A0 : Nat → Prop} {ws wc : va_W} (hD : va_D A0 ws) {is : List Nat} (hC : is.map (fun i => ws[i]?) = wc.map some) (q : Nat) (h : sn_A wc q) : A0 q := by
  obtain ⟨k, e, h⟩ := h
  obtain ⟨i, -, h2⟩ := sn_pick hC h
  exact hD.2 i (q, e) h2
theorem sn_DA {A : Nat → Prop} {ws : va_W} (h : va_D A ws) : va_D (sn_A ws) ws := ⟨h.1, fun k q hk => ⟨k, q.2, hk⟩⟩
def sn_B (D : va_G) (K : Nat → ClassId) (ws : va_W) (U : State) : Prop := va_P D classes ws U.heap ∧ va_K D classes (kt K) U ∧ sn_N U
def sn_BW (D : va_G) (K : Nat → ClassId) (ws : va_W) (U : State) : Prop := sn_B D K ws U ∧ va_D (fun _ => True) ws
def sn_Ph (ad : Nat → Nat) (A : Nat → Prop) (U : State) (H : Heap) : Prop := va_En "SnapshotHeap$Phase" "LSnapshotHeap$Phase;" ["REST", "MARKING", "SWEEPING"] [] ad A U H
def sn_BE (D : va_G) (K : Nat → ClassId) (ad : Nat → Nat) (ws : va_W) (U : State) : Prop := sn_BW D K ws U ∧ sn_Ph ad (sn_A ws) U U.heap
theorem sn_B_blind {D : va_G} {K : Nat → ClassId} {ws : va_W} {av : List Value} : FrameBlind (va_Pc av (sn_B D K ws)) := fun a U g mk q => ⟨q.1, q.2.1, va_K.moved (u := U) (U := U.calling g mk a) (Vm.Alike.refl U.vm) q.2.2.1, sn_N.call q.2.2.2⟩
theorem sn_BW_blind {D : va_G} {K : Nat → ClassId} {ws : va_W} {av : List Value} : FrameBlind (va_Pc av (sn_BW D K ws)) := fun a U g mk q => ⟨q.1, (sn_B_blind a U g mk ⟨q.1, q.2.1⟩).2, q.2.2⟩
theorem sn_BE_blind {D : va_G} {K : Nat → ClassId} {ad : Nat → Nat} {ws : va_W} {av : List Value} : FrameBlind (va_Pc av (sn_BE D K ad ws)) := fun a U g mk q => ⟨q.1, (sn_BW_blind a U g mk ⟨q.1, q.2.1⟩).2, va_En.moved (u := U) (U := U.calling g mk a) (Vm.Alike.refl U.vm) q.2.2⟩
section SNP
variable {s : State} {H : Heap} {D : va_G} {K : Nat → ClassId} {ws wc : va_W} {A : Nat → Prop}
theorem sn_preB (hK : va_K D classes (kt K) s) (hN : sn_N s) (hP : va_P D classes ws H) (is : List Nat) (hC : is.map (fun i => ws[i]?) = wc.map some) {U : State} (hU : U.heap = H) (hW : s.WarmedH U.vm) : sn_B D K wc U :=
  ⟨by rw [hU]; exact sn_Psub hP hC, va_K.moved hW.alike hK, hN.moved hW⟩
theorem sn_preV {b : Nat} {As : List Value} {ci : Nat} {fs : List Value} {C : String} {T : u_T} {N : Nat} (hK : va_K D classes (kt K) s) (hN : sn_N s) (hP : va_P D classes ws H) (q0 : Nat) (he : ws[q0]? = some (b, .inr (ci, fs))) (hc : classes[ci]? = some (C, T, N)) (is : List Nat) (hC : is.map (fun i => ws[i]?) = wc.map some) :
    PreV s H C b (va_Pc (.ref b :: As) (sn_B D K wc)) As := ⟨sn_B_blind, va_recv hK hP hc he, fun _ hU hW => ⟨rfl, sn_preB hK hN hP is hC hU hW⟩⟩
theorem sn_preS {As : List Value} (hK : va_K D classes (kt K) s) (hN : sn_N s) (hP : va_P D classes ws H) (is : List Nat) (hC : is.map (fun i => ws[i]?) = wc.map some) :
    PreS s H (va_Pc As (sn_B D K wc)) As := ⟨sn_B_blind, fun _ hU hW => ⟨rfl, sn_preB hK hN hP is hC hU hW⟩⟩
theorem sn_preVW {b : Nat} {As : List Value} {ci : Nat} {fs : List Value} {C : String} {T : u_T} {N : Nat} (hK : va_K D classes (kt K) s) (hN : sn_N s) (hP : va_P D classes ws H) (hD : va_D A ws) (q0 : Nat) (he : ws[q0]? = some (b, .inr (ci, fs))) (hc : classes[ci]? = some (C, T, N)) (is : List Nat) (hn : va_nd is = true) (hC : is.map (fun i => ws[i]?) = wc.map some) :
    PreV s H C b (va_Pc (.ref b :: As) (sn_BW D K wc)) As := ⟨sn_BW_blind, va_recv hK hP hc he, fun _ hU hW => ⟨rfl, sn_preB hK hN hP is hC hU hW, (hD.sub is hn hC).weaken (fun _ _ _ _ => trivial)⟩⟩
theorem sn_preSW {As : List Value} (hK : va_K D classes (kt K) s) (hN : sn_N s) (hP : va_P D classes ws H) (hD : va_D A ws) (is : List Nat) (hn : va_nd is = true) (hC : is.map (fun i => ws[i]?) = wc.map some) :
    PreS s H (va_Pc As (sn_BW D K wc)) As := ⟨sn_BW_blind, fun _ hU hW => ⟨rfl, sn_preB hK hN hP is hC hU hW, (hD.sub is hn hC).weaken (fun _ _ _ _ => trivial)⟩⟩
theorem sn_Ph.here {ad : Nat → Nat} {locs : List Loc} (hE : sn_Ph ad A s s.heap) (hS : va_S A s.heap H locs) (hD : va_D A ws) (is : List Nat) (hC : is.map (fun i => ws[i]?) = wc.map some) {U : State} (hU : U.heap = H) (hW : s.WarmedH U.vm) : sn_Ph ad (sn_A wc) U U.heap := by
  rw [hU]
  exact va_En.moved hW.alike (va_En.narrow (va_En.kept hE hS.2.1) (sn_free hD hC))
theorem sn_preVE {b : Nat} {As : List Value} {ci : Nat} {fs : List Value} {C : String} {T : u_T} {N : Nat} {ad : Nat → Nat} {locs : List Loc} (hK : va_K D classes (kt K) s) (hN : sn_N s) (hP : va_P D classes ws H) (hD : va_D A ws) (hE : sn_Ph ad A s s.heap) (hS : va_S A s.heap H locs) (q0 : Nat) (he : ws[q0]? = some (b, .inr (ci, fs))) (hc : classes[ci]? = some (C, T, N)) (is : List Nat) (hn : va_nd is = true) (hC : is.map (fun i => ws[i]?) = wc.map some) :
    PreV s H C b (va_Pc (.ref b :: As) (sn_BE D K ad wc)) As := ⟨sn_BE_blind, va_recv hK hP hc he, fun _ hU hW => ⟨rfl, ⟨sn_preB hK hN hP is hC hU hW, (hD.sub is hn hC).weaken (fun _ _ _ _ => trivial)⟩, hE.here hS hD is hC hU hW⟩⟩
end SNP
def sn_QR (v : Option Value) : Array Value → State → Outcome → State → Prop := fun _ st o t => o = .returned v ∧ t.heap = st.heap
def sn_Q (D : va_G) (wc w1 : va_W) (v : Option Value) : Array Value → State → Outcome → State → Prop := fun _ st o t => o = .returned v ∧ va_P D classes w1 t.heap ∧ va_F (sn_A wc) st t
section SNR
variable {p : Program} {l : Launch} {e : Env} {R : Room} {s : State} {m : MethodId} {args : Array Value} {below : List Frame} {meth : Method} {c : Code} {H : Heap} {locs : List Loc} {cells slots : Nat} {Q : State → Prop}
variable {cc : ByteArray} {pc : Nat} {ls : Array Slot} {rest st0 : List Value} {a : Array Value} {D : va_G} {K : Nat → ClassId} {ws wc w1 : va_W} {A : Nat → Prop} {H0 : Heap}
theorem sn_topi {x y : Int32} (h : x = y) (k : W p l e R s m args below meth c H locs cells slots Q (F0 m pc ls (.int y :: rest))) : W p l e R s m args below meth c H locs cells slots Q (F0 m pc ls (.int x :: rest)) := by subst h; exact k
theorem sn_topl {x y : Int64} (h : x = y) (k : W p l e R s m args below meth c H locs cells slots Q (F0 m pc ls (.long y :: rest))) : W p l e R s m args below meth c H locs cells slots Q (F0 m pc ls (.long x :: rest)) := by subst h; exact k
theorem sn_rd {v : Option Value} {st1 : List Value} (hr : va_Run p l e R s m args below meth c H locs cells slots 0 0 (F0 m pc ls st0) rest (sn_QR v a) (fun _ => False)) (h1 : v.toList ++ rest = st1)
    (kk : W p l e R s m args below meth c H locs cells slots Q (F0 m (pc + 3) ls st1)) : W p l e R s m args below meth c H locs cells slots Q (F0 m pc ls st0) := by
  subst h1
  intro T hT X
  obtain ⟨v', st₀, t, T', L, h0, X', hL, e1, -, ⟨hv, hh⟩, st⟩ := hr T hT X
  cases hv
  obtain ⟨t2, a1, b1⟩ := kk T' (by rw [e1, hh, h0]) (Stand.forget X' (fun q h => (hL q h).elim))
  exact ⟨t2, st t2 a1, b1⟩
theorem sn_wrt {v : Option Value} {st1 : List Value} (hr : va_Run p l e R s m args below meth c H locs cells slots 0 0 (F0 m pc ls st0) rest (sn_Q D wc w1 v a) (sn_A wc)) (h1 : v.toList ++ rest = st1) (hP : va_P D classes ws H) (hD : va_D A ws) (hS : va_S A H0 H locs)
    (is : List Nat) (hC : is.map (fun i => ws[i]?) = wc.map some) (hadr : w1.map (fun q => q.1) = wc.map (fun q => q.1))
    (kk : ∀ (H1 : Heap) (locs1 : List Loc), va_P D classes (sn_sets ws is w1) H1 → va_D A (sn_sets ws is w1) → va_S A H0 H1 locs1 → W p l e R s m args below meth c H1 locs1 cells slots Q (F0 m (pc + 3) ls st1)) : W p l e R s m args below meth c H locs cells slots Q (F0 m pc ls st0) := by
  subst h1
  intro T hT X
  obtain ⟨v', st₀, t, T', L, h0, X', hL, e1, -, ⟨hv, hp1, hz, hk⟩, st⟩ := hr T hT X
  cases hv
  rw [h0] at hz hk
  rw [← e1] at hp1 hz hk
  obtain ⟨j1, j2⟩ := sn_join hP hD is hC hadr hk hp1
  have hf := sn_free hD hC
  obtain ⟨t2, a1, b1⟩ := kk T'.heap (locs ++ L) j1 j2 ⟨Nat.le_trans hS.1 hz, fun q h1 h2 => by rw [hk q (Nat.lt_of_lt_of_le h1 hS.1) (fun z => h2 (hf q z))]; exact hS.2.1 q h1 h2, fun q hq => by
      rcases List.mem_append.mp hq with h | h
      · exact hS.2.2 q h
      · exact hf _ (hL q h)⟩ T' rfl X'
  exact ⟨t2, st t2 a1, b1⟩
theorem sn_upd {α : Type} (g : α → Int32) (f : Nat → α) (k : Nat) (v : α) : upd (fun j => g (f j)) k (g v) = fun j => g (va_up f k v j) := by
  funext j
  unfold upd va_up
  by_cases h : j = k
  · rw [if_pos h, if_pos h]
  · rw [if_neg h, if_neg h]
theorem sn_updL (f : Nat → Int64) (k : Nat) (v : Int64) : vp_updL f k v = va_up f k v := rfl
theorem sn_iald {α : Type} (g : α → Int32) (f : Nat → α) (k : Nat) {n a : Nat} (hexec : p.tables.exec = Jvm.exec) (hb : c.code = cc) (hK : va_K D classes (kt K) s) (hP : va_P D classes ws H) (q0 : Nat) (ha : ws[q0]? = some (a, .inl (K 0, n, .inl (fun j => g (f j))))) (hk : k < n) (hn : n < 2 ^ 31) (hdg : decode cc pc = .ok (.iaload, 1))
    (kk : W p l e R s m args below meth c H locs cells slots Q (F0 m (pc + 1) ls (.int (g (f k)) :: rest))) : W p l e R s m args below meth c H locs cells slots Q (F0 m pc ls (.int (nI k) :: .ref a :: rest)) := by
  refine va_iald hexec hb hK hP q0 0 ha rfl (vp_in_nI hk hn) hdg ?_
  rw [nI_clamp (by omega)]
  exact kk
theorem sn_zald (f : Nat → Bool) (k : Nat) {n a : Nat} (hexec : p.tables.exec = Jvm.exec) (hb : c.code = cc) (hK : va_K D classes (kt K) s) (hP : va_P D classes ws H) (q0 : Nat) (ha : ws[q0]? = some (a, .inl (K 2, n, .inl (fun j => zb (f j))))) (hk : k < n) (hn : n < 2 ^ 31) (hdg : decode cc pc = .ok (.baload, 1))
    (kk : W p l e R s m args below meth c H locs cells slots Q (F0 m (pc + 1) ls (.int (zb (f k)) :: rest))) : W p l e R s m args below meth c H locs cells slots Q (F0 m pc ls (.int (nI k) :: .ref a :: rest)) := by
  refine va_zald hexec hb hK hP q0 2 ha rfl (vp_in_nI hk hn) hdg ?_
  rw [nI_clamp (by omega)]
  exact kk
theorem sn_lald (f : Nat → Int64) (k : Nat) {n a : Nat} (hexec : p.tables.exec = Jvm.exec) (hb : c.code = cc) (hK : va_K D classes (kt K) s) (hP : va_P D classes ws H) (q0 : Nat) (ha : ws[q0]? = some (a, .inl (K 1, n, .inr (.inl f)))) (hk : k < n) (hn : n < 2 ^ 31) (hdg : decode cc pc = .ok (.laload, 1))
    (kk : W p l e R s m args below meth c H locs cells slots Q (F0 m (pc + 1) ls (.long (f k) :: rest))) : W p l e R s m args below meth c H locs cells slots Q (F0 m pc ls (.int (nI k) :: .ref a :: rest)) := by
  refine va_lald hexec hb hK hP q0 1 ha rfl (vp_in_nI hk hn) hdg ?_
  rw [nI_clamp (by omega)]
  exact kk
theorem sn_iast {α : Type} (g : α → Int32) (f : Nat → α) (k : Nat) (v : α) {n a : Nat} (hexec : p.tables.exec = Jvm.exec) (hb : c.code = cc) (hK : va_K D classes (kt K) s) (hP : va_P D classes ws H) (hD : va_D A ws) (hS : va_S A H0 H locs) (q0 : Nat) (ha : ws[q0]? = some (a, .inl (K 0, n, .inl (fun j => g (f j))))) (hk : k < n) (hn : n < 2 ^ 31) (hdg : decode cc pc = .ok (.iastore, 1))
    (kk : ∀ (H1 : Heap) (locs1 : List Loc), va_P D classes (ws.set q0 (a, .inl (K 0, n, .inl (fun j => g (va_up f k v j))))) H1 → va_D A (ws.set q0 (a, .inl (K 0, n, .inl (fun j => g (va_up f k v j))))) → va_S A H0 H1 locs1 → W p l e R s m args below meth c H1 locs1 cells slots Q (F0 m (pc + 1) ls rest)) : W p l e R s m args below meth c H locs cells slots Q (F0 m pc ls (.int (g v) :: .int (nI k) :: .ref a :: rest)) := by
  refine va_iast hexec hb hK hP hD hS q0 0 ha rfl (vp_in_nI hk hn) hdg fun H1 locs1 h1 h2 h3 => ?_
  rw [nI_clamp (by omega), sn_upd g f k v] at h1 h2
  exact kk H1 locs1 h1 h2 h3
theorem sn_zast (f : Nat → Bool) (k : Nat) (v : Bool) {n a : Nat} (hexec : p.tables.exec = Jvm.exec) (hb : c.code = cc) (hK : va_K D classes (kt K) s) (hP : va_P D classes ws H) (hD : va_D A ws) (hS : va_S A H0 H locs) (q0 : Nat) (ha : ws[q0]? = some (a, .inl (K 2, n, .inl (fun j => zb (f j))))) (hk : k < n) (hn : n < 2 ^ 31) (hdg : decode cc pc = .ok (.bastore, 1))
    (kk : ∀ (H1 : Heap) (locs1 : List Loc), va_P D classes (ws.set q0 (a, .inl (K 2, n, .inl (fun j => zb (va_up f k v j))))) H1 → va_D A (ws.set q0 (a, .inl (K 2, n, .inl (fun j => zb (va_up f k v j))))) → va_S A H0 H1 locs1 → W p l e R s m args below meth c H1 locs1 cells slots Q (F0 m (pc + 1) ls rest)) : W p l e R s m args below meth c H locs cells slots Q (F0 m pc ls (.int (zb v) :: .int (nI k) :: .ref a :: rest)) := by
  refine va_zast hexec hb hK hP hD hS q0 2 ha rfl (vp_in_nI hk hn) hdg fun H1 locs1 h1 h2 h3 => ?_
  have e : vp_nar .boolean (zb v) = zb v := by cases v <;> rfl
  rw [nI_clamp (by omega), e, sn_upd zb f k v] at h1 h2
  exact kk H1 locs1 h1 h2 h3
theorem sn_last (f : Nat → Int64) (k : Nat) (v : Int64) {n a : Nat} (hexec : p.tables.exec = Jvm.exec) (hb : c.code = cc) (hK : va_K D classes (kt K) s) (hP : va_P D classes ws H) (hD : va_D A ws) (hS : va_S A H0 H locs) (q0 : Nat) (ha : ws[q0]? = some (a, .inl (K 1, n, .inr (.inl f)))) (hk : k < n) (hn : n < 2 ^ 31) (hdg : decode cc pc = .ok (.lastore, 1))
    (kk : ∀ (H1 : Heap) (locs1 : List Loc), va_P D classes (ws.set q0 (a, .inl (K 1, n, .inr (.inl (va_up f k v))))) H1 → va_D A (ws.set q0 (a, .inl (K 1, n, .inr (.inl (va_up f k v))))) → va_S A H0 H1 locs1 → W p l e R s m args below meth c H1 locs1 cells slots Q (F0 m (pc + 1) ls rest)) : W p l e R s m args below meth c H locs cells slots Q (F0 m pc ls (.long v :: .int (nI k) :: .ref a :: rest)) := by
  refine va_last hexec hb hK hP hD hS q0 1 ha rfl (vp_in_nI hk hn) hdg fun H1 locs1 h1 h2 h3 => ?_
  rw [nI_clamp (by omega), sn_updL f k v] at h1 h2
  exact kk H1 locs1 h1 h2 h3
theorem sx_ri {x v : Int32} (hQ : MQ below (sn_QR (some (.int v))) args s 0 0 (fun _ => False) = Q) (hexec : p.tables.exec = Jvm.exec) (hb : c.code = cc) (hr : meth.sig.returnType = some .int) (hlk : meth.locks = false) (hv : x = v) (hdg : decode cc pc = .ok (.ireturn, 1)) : W p l e R s m args below meth c s.heap [] 0 0 Q (F0 m pc ls [.int x]) := by
  subst hQ
  subst hv
  exact W.iret hexec hb hr (fun t ht _ => ⟨rfl, ht⟩) (fun q h => absurd h List.not_mem_nil) hdg hlk
theorem sx_rz {x : Int32} {v : Bool} (hQ : MQ below (sn_QR (some (.int (zb v)))) args s 0 0 (fun _ => False) = Q) (hexec : p.tables.exec = Jvm.exec) (hb : c.code = cc) (hr : meth.sig.returnType = some .boolean) (hlk : meth.locks = false) (hv : x = zb v) (hdg : decode cc pc = .ok (.ireturn, 1)) : W p l e R s m args below meth c s.heap [] 0 0 Q (F0 m pc ls [.int x]) := by
  subst hQ
  subst hv
  exact W.zret hexec hb hr (zb_nar v) (fun t ht _ => ⟨rfl, ht⟩) (fun q h => absurd h List.not_mem_nil) hdg hlk
theorem sx_rl {x v : Int64} (hQ : MQ below (sn_QR (some (.long v))) args s 0 0 (fun _ => False) = Q) (hexec : p.tables.exec = Jvm.exec) (hb : c.code = cc) (hr : meth.sig.returnType = some .long) (hlk : meth.locks = false) (hv : x = v) (hdg : decode cc pc = .ok (.lreturn, 1)) : W p l e R s m args below meth c s.heap [] 0 0 Q (F0 m pc ls [.long x]) := by
  subst hQ
  subst hv
  exact W.lret hexec hb hr (fun t ht _ => ⟨rfl, ht⟩) (fun q h => absurd h List.not_mem_nil) hdg hlk
theorem sx_ra {x : Nat} {C : String} (hQ : MQ below (sn_QR (some (.ref x))) args s 0 0 (fun _ => False) = Q) (hexec : p.tables.exec = Jvm.exec) (hb : c.code = cc) (hr : meth.sig.returnType = some (.object C)) (hlk : meth.locks = false) (hdg : decode cc pc = .ok (.areturn, 1)) : W p l e R s m args below meth c s.heap [] 0 0 Q (F0 m pc ls [.ref x]) := by
  subst hQ
  exact W.aret hexec hb hr (Or.inl ⟨C, rfl⟩) (Or.inr ⟨x, rfl⟩) (fun t ht _ => ⟨rfl, ht⟩) (fun q h => absurd h List.not_mem_nil) hdg hlk
theorem sx_rv (hQ : MQ below (sn_QR none) args s 0 0 (fun _ => False) = Q) (hexec : p.tables.exec = Jvm.exec) (hb : c.code = cc) (hr : meth.sig.returnType = none) (hlk : meth.locks = false) (hdg : decode cc pc = .ok (.return_, 1)) : W p l e R s m args below meth c s.heap [] 0 0 Q (F0 m pc ls []) := by
  subst hQ
  exact W.vret hexec hb hr (fun t ht _ => ⟨rfl, ht⟩) (fun q h => absurd h List.not_mem_nil) hdg hlk
theorem sx_wv (hQ : MQ below (sn_Q D wc w1 none) args s 0 0 (sn_A wc) = Q) (hexec : p.tables.exec = Jvm.exec) (hb : c.code = cc) (hr : meth.sig.returnType = none) (hlk : meth.locks = false) (hP : va_P D classes w1 H) (hS : va_S (sn_A wc) s.heap H locs) (hdg : decode cc pc = .ok (.return_, 1)) : W p l e R s m args below meth c H locs 0 0 Q (F0 m pc ls []) := by
  subst hQ
  exact W.vret hexec hb hr (fun t ht _ => ⟨rfl, by rw [ht]; exact hP, hS.F ht⟩) hS.2.2 hdg hlk
theorem sx_wi {x v : Int32} (hQ : MQ below (sn_Q D wc w1 (some (.int v))) args s 0 0 (sn_A wc) = Q) (hexec : p.tables.exec = Jvm.exec) (hb : c.code = cc) (hr : meth.sig.returnType = some .int) (hlk : meth.locks = false) (hv : x = v) (hP : va_P D classes w1 H) (hS : va_S (sn_A wc) s.heap H locs) (hdg : decode cc pc = .ok (.ireturn, 1)) : W p l e R s m args below meth c H locs 0 0 Q (F0 m pc ls [.int x]) := by
  subst hQ
  subst hv
  exact W.iret hexec hb hr (fun t ht _ => ⟨rfl, by rw [ht]; exact hP, hS.F ht⟩) hS.2.2 hdg hlk
theorem sx_wz {x : Int32} {v : Bool} (hQ : MQ below (sn_Q D wc w1 (some (.int (zb v)))) args s 0 0 (sn_A wc) = Q) (hexec : p.tables.exec = Jvm.exec) (hb : c.code = cc) (hr : meth.sig.returnType = some .boolean) (hlk : meth.locks = false) (hv : x = zb v) (hP : va_P D classes w1 H) (hS : va_S (sn_A wc) s.heap H locs) (hdg : decode cc pc = .ok (.ireturn, 1)) : W p l e R s m args below meth c H locs 0 0 Q (F0 m pc ls [.int x]) := by
  subst hQ
  subst hv
  exact W.zret hexec hb hr (zb_nar v) (fun t ht _ => ⟨rfl, by rw [ht]; exact hP, hS.F ht⟩) hS.2.2 hdg hlk
theorem sx_wl2 {x v : Int64} (hQ : MQ below (sn_Q D wc w1 (some (.long v))) args s 0 0 (sn_A wc) = Q) (hexec : p.tables.exec = Jvm.exec) (hb : c.code = cc) (hr : meth.sig.returnType = some .long) (hlk : meth.locks = false) (hv : x = v) (hP : va_P D classes w1 H) (hS : va_S (sn_A wc) s.heap H locs) (hdg : decode cc pc = .ok (.lreturn, 1)) : W p l e R s m args below meth c H locs 0 0 Q (F0 m pc ls [.long x]) := by
  subst hQ
  subst hv
  exact W.lret hexec hb hr (fun t ht _ => ⟨rfl, by rw [ht]; exact hP, hS.F ht⟩) hS.2.2 hdg hlk
end SNR
theorem sn_met {l : Launch} {y : MethodName} {ws : List Cond} {rm : Room} {av : List Value} {B : State → Prop} {Qc : Array Value → State → Outcome → State → Prop} {mc ms : Nat} {free : Addr → Prop} {cc : ByteArray} {maxL : Nat} {ret : Option FieldType} {own : String}
    (hy : plainName y.cls = true) (hw : ws = Cond.code y cc maxL ret :: lw_good) (hc : y.cls = own) (hlen : (lg_sl av).length ≤ maxL)
    (body : ∀ (p : Program) (e : Env) (s : State) (m : MethodId) (args : Array Value) (below : List Frame) (meth : Method) (c : Code) (ls : Array Slot) (Q : State → Prop), MQ below Qc args s mc ms free = Q → p.tables.exec = Jvm.exec → c.code = cc → c.maxLocals = maxL → meth.sig.returnType = ret → meth.locks = false → (∀ w ∈ lw_good, w.before args s = true) → s.vm.findClass own = some m.cls → meth.name = y.name → lv_has ls maxL (lv_args 0 av) → B s →
      W p l e rm s m args below meth c s.heap [] 0 0 Q (F0 m 0 ls [])) : Met l y ws rm (va_Pc av B) Qc mc ms free := by
  refine Met.ofW (cc := cc) (maxL := maxL) (ret := ret) hy hw ?_
  intro p e s m args below meth c s₁ Bd hml hv
  obtain ⟨rfl, hB⟩ := hv
  rw [lg_entry_eq]
  have hts := atoms_spec (ws := ws) Bd.pre
  exact body p e s m _ below meth c _ _ rfl Bd.exec Bd.bytes hml Bd.returns Bd.notSynchronized (fun w h => hts w (by rw [hw]; exact List.mem_cons_of_mem _ h)) (by rw [← hc]; exact findClass_of_methodNamed Bd.named) (name_of_methodNamed Bd.named Bd.method).1 (lv_entry av hlen) hB
theorem sn_inc (i : Nat) : nI i + Int32.ofInt 1 = nI (i + 1) := by
  have h : Int32.ofInt 1 = 1 := by decide
  rw [h]
  exact nI_1 i
theorem sn_z0 : (0 : Int32) = nI 0 := nI_0.symm
theorem sn_eq0 {a : Nat} (ha : a < 2 ^ 31) : nI a = 0 ↔ a = 0 := by
  rw [sn_z0]; exact nI_eq ha (by decide)
theorem sn_le0 {a : Nat} (ha : a < 2 ^ 31) : nI a ≤ 0 ↔ a = 0 := by
  rw [sn_z0, nI_leI ha (by decide)]; omega
theorem sn_gt0 {a : Nat} (ha : a < 2 ^ 31) : 0 < nI a ↔ 0 < a := by
  rw [sn_z0, nI_ltI (by decide) ha]
theorem sn_i_none {x : Option Nat} (h : ∀ n, x = some n → n < 2 ^ 31) : sn_i x = -1 ↔ x = none := by
  cases x with
  | none => exact ⟨fun _ => rfl, fun _ => rfl⟩
  | some n =>
    refine ⟨fun e => ?_, fun e => by cases e⟩
    have e : nI n = -1 := e
    have h1 := congrArg Int32.toInt e
    rw [nI_toInt (h n rfl)] at h1
    have h2 : (-1 : Int32).toInt = -1 := by decide
    omega
section SNC
variable {p : Program} {l : Launch} {e : Env} {R : Room} {s : State} {m : MethodId} {args : Array Value} {below : List Frame} {meth : Method} {c : Code} {H : Heap} {locs : List Loc} {cells slots : Nat} {Q : State → Prop}
variable {cc : ByteArray} {pc : Nat} {ls : Array Slot} {rest : List Value}
theorem sn_icmp_eq {a b : Nat} (ha : a < 2 ^ 31) (hb' : b < 2 ^ 31) (hexec : p.tables.exec = Jvm.exec) (hb : c.code = cc) {off : Int} {tgt : Nat} (hdg : decode cc pc = .ok (.if_icmp .eq off, 3)) (ht : (pc : Int) + off = (tgt : Int))
    (kt : a = b → W p l e R s m args below meth c H locs cells slots Q (F0 m tgt ls rest)) (kf : a ≠ b → W p l e R s m args below meth c H locs cells slots Q (F0 m (pc + 3) ls rest)) : W p l e R s m args below meth c H locs cells slots Q (F0 m pc ls (.int (nI b) :: .int (nI a) :: rest)) :=
  lv_icmp_eq hexec hb hdg ht (fun h => kt ((nI_eq ha hb').mp h)) (fun h => kf (fun h9 => h ((nI_eq ha hb').mpr h9)))
theorem sn_icmp_ne {a b : Nat} (ha : a < 2 ^ 31) (hb' : b < 2 ^ 31) (hexec : p.tables.exec = Jvm.exec) (hb : c.code = cc) {off : Int} {tgt : Nat} (hdg : decode cc pc = .ok (.if_icmp .ne off, 3)) (ht : (pc : Int) + off = (tgt : Int))
    (kt : a ≠ b → W p l e R s m args below meth c H locs cells slots Q (F0 m tgt ls rest)) (kf : a = b → W p l e R s m args below meth c H locs cells slots Q (F0 m (pc + 3) ls rest)) : W p l e R s m args below meth c H locs cells slots Q (F0 m pc ls (.int (nI b) :: .int (nI a) :: rest)) :=
  lv_icmp_ne hexec hb hdg ht (fun h => kt (fun h9 => h ((nI_eq ha hb').mpr h9))) (fun h => kf ((nI_eq ha hb').mp h))
theorem sn_icmp_lt {a b : Nat} (ha : a < 2 ^ 31) (hb' : b < 2 ^ 31) (hexec : p.tables.exec = Jvm.exec) (hb : c.code = cc) {off : Int} {tgt : Nat} (hdg : decode cc pc = .ok (.if_icmp .lt off, 3)) (ht : (pc : Int) + off = (tgt : Int))
    (kt : a < b → W p l e R s m args below meth c H locs cells slots Q (F0 m tgt ls rest)) (kf : b ≤ a → W p l e R s m args below meth c H locs cells slots Q (F0 m (pc + 3) ls rest)) : W p l e R s m args below meth c H locs cells slots Q (F0 m pc ls (.int (nI b) :: .int (nI a) :: rest)) :=
  lv_icmp_lt hexec hb hdg ht (fun h => kt ((nI_ltI ha hb').mp h)) (fun h => kf (Nat.not_lt.mp (fun h9 => h ((nI_ltI ha hb').mpr h9))))
theorem sn_icmp_ge {a b : Nat} (ha : a < 2 ^ 31) (hb' : b < 2 ^ 31) (hexec : p.tables.exec = Jvm.exec) (hb : c.code = cc) {off : Int} {tgt : Nat} (hdg : decode cc pc = .ok (.if_icmp .ge off, 3)) (ht : (pc : Int) + off = (tgt : Int))
    (kt : b ≤ a → W p l e R s m args below meth c H locs cells slots Q (F0 m tgt ls rest)) (kf : a < b → W p l e R s m args below meth c H locs cells slots Q (F0 m (pc + 3) ls rest)) : W p l e R s m args below meth c H locs cells slots Q (F0 m pc ls (.int (nI b) :: .int (nI a) :: rest)) :=
  lv_icmp_ge hexec hb hdg ht (fun h => kt ((nI_leI hb' ha).mp h)) (fun h => kf (Nat.not_le.mp (fun h9 => h ((nI_leI hb' ha).mpr h9))))
theorem sn_icmp_gt {a b : Nat} (ha : a < 2 ^ 31) (hb' : b < 2 ^ 31) (hexec : p.tables.exec = Jvm.exec) (hb : c.code = cc) {off : Int} {tgt : Nat} (hdg : decode cc pc = .ok (.if_icmp .gt off, 3)) (ht : (pc : Int) + off = (tgt : Int))
    (kt : b < a → W p l e R s m args below meth c H locs cells slots Q (F0 m tgt ls rest)) (kf : a ≤ b → W p l e R s m args below meth c H locs cells slots Q (F0 m (pc + 3) ls rest)) : W p l e R s m args below meth c H locs cells slots Q (F0 m pc ls (.int (nI b) :: .int (nI a) :: rest)) :=
  lv_icmp_gt hexec hb hdg ht (fun h => kt ((nI_ltI hb' ha).mp h)) (fun h => kf (Nat.not_lt.mp (fun h9 => h ((nI_ltI hb' ha).mpr h9))))
theorem sn_icmp_le {a b : Nat} (ha : a < 2 ^ 31) (hb' : b < 2 ^ 31) (hexec : p.tables.exec = Jvm.exec) (hb : c.code = cc) {off : Int} {tgt : Nat} (hdg : decode cc pc = .ok (.if_icmp .le off, 3)) (ht : (pc : Int) + off = (tgt : Int))
    (kt : a ≤ b → W p l e R s m args below meth c H locs cells slots Q (F0 m tgt ls rest)) (kf : b < a → W p l e R s m args below meth c H locs cells slots Q (F0 m (pc + 3) ls rest)) : W p l e R s m args below meth c H locs cells slots Q (F0 m pc ls (.int (nI b) :: .int (nI a) :: rest)) :=
  lv_icmp_le hexec hb hdg ht (fun h => kt ((nI_leI ha hb').mp h)) (fun h => kf (Nat.not_le.mp (fun h9 => h ((nI_leI ha hb').mpr h9))))
theorem sn_if_eq {a : Nat} (ha : a < 2 ^ 31) (hexec : p.tables.exec = Jvm.exec) (hb : c.code = cc) {off : Int} {tgt : Nat} (hdg : decode cc pc = .ok (.ifCond .eq off, 3)) (ht : (pc : Int) + off = (tgt : Int))
    (kt : a = 0 → W p l e R s m args below meth c H locs cells slots Q (F0 m tgt ls rest)) (kf : 0 < a → W p l e R s m args below meth c H locs cells slots Q (F0 m (pc + 3) ls rest)) : W p l e R s m args below meth c H locs cells slots Q (F0 m pc ls (.int (nI a) :: rest)) :=
  lv_if_eq hexec hb hdg ht (fun h => kt ((sn_eq0 ha).mp h)) (fun h => kf (Nat.pos_of_ne_zero (fun h9 => h ((sn_eq0 ha).mpr h9))))
theorem sn_if_ne {a : Nat} (ha : a < 2 ^ 31) (hexec : p.tables.exec = Jvm.exec) (hb : c.code = cc) {off : Int} {tgt : Nat} (hdg : decode cc pc = .ok (.ifCond .ne off, 3)) (ht : (pc : Int) + off = (tgt : Int))
    (kt : 0 < a → W p l e R s m args below meth c H locs cells slots Q (F0 m tgt ls rest)) (kf : a = 0 → W p l e R s m args below meth c H locs cells slots Q (F0 m (pc + 3) ls rest)) : W p l e R s m args below meth c H locs cells slots Q (F0 m pc ls (.int (nI a) :: rest)) :=
  lv_if_ne hexec hb hdg ht (fun h => kt (Nat.pos_of_ne_zero (fun h9 => h ((sn_eq0 ha).mpr h9)))) (fun h => kf ((sn_eq0 ha).mp h))
theorem sn_if_le {a : Nat} (ha : a < 2 ^ 31) (hexec : p.tables.exec = Jvm.exec) (hb : c.code = cc) {off : Int} {tgt : Nat} (hdg : decode cc pc = .ok (.ifCond .le off, 3)) (ht : (pc : Int) + off = (tgt : Int))
    (kt : a = 0 → W p l e R s m args below meth c H locs cells slots Q (F0 m tgt ls rest)) (kf : 0 < a → W p l e R s m args below meth c H locs cells slots Q (F0 m (pc + 3) ls rest)) : W p l e R s m args below meth c H locs cells slots Q (F0 m pc ls (.int (nI a) :: rest)) :=
  lv_if_le hexec hb hdg ht (fun h => kt ((sn_le0 ha).mp h)) (fun h => kf (Nat.pos_of_ne_zero (fun h9 => h ((sn_le0 ha).mpr h9))))
theorem sn_if_gt {a : Nat} (ha : a < 2 ^ 31) (hexec : p.tables.exec = Jvm.exec) (hb : c.code = cc) {off : Int} {tgt : Nat} (hdg : decode cc pc = .ok (.ifCond .gt off, 3)) (ht : (pc : Int) + off = (tgt : Int))
    (kt : 0 < a → W p l e R s m args below meth c H locs cells slots Q (F0 m tgt ls rest)) (kf : a = 0 → W p l e R s m args below meth c H locs cells slots Q (F0 m (pc + 3) ls rest)) : W p l e R s m args below meth c H locs cells slots Q (F0 m pc ls (.int (nI a) :: rest)) :=
  lv_if_gt hexec hb hdg ht (fun h => kt ((sn_gt0 ha).mp h)) (fun h => kf (Nat.le_zero.mp (Nat.not_lt.mp (fun h9 => h ((sn_gt0 ha).mpr h9)))))
theorem sn_if_lt {a : Nat} (ha : a < 2 ^ 31) (hexec : p.tables.exec = Jvm.exec) (hb : c.code = cc) {off : Int} {tgt : Nat} (hdg : decode cc pc = .ok (.ifCond .lt off, 3)) (ht : (pc : Int) + off = (tgt : Int))
    (kf : W p l e R s m args below meth c H locs cells slots Q (F0 m (pc + 3) ls rest)) : W p l e R s m args below meth c H locs cells slots Q (F0 m pc ls (.int (nI a) :: rest)) :=
  lv_if_lt hexec hb hdg ht (fun h => absurd h (nI_pos ha)) (fun _ => kf)
theorem sn_if_ge {a : Nat} (ha : a < 2 ^ 31) (hexec : p.tables.exec = Jvm.exec) (hb : c.code = cc) {off : Int} {tgt : Nat} (hdg : decode cc pc = .ok (.ifCond .ge off, 3)) (ht : (pc : Int) + off = (tgt : Int))
    (kt : W p l e R s m args below meth c H locs cells slots Q (F0 m tgt ls rest)) : W p l e R s m args below meth c H locs cells slots Q (F0 m pc ls (.int (nI a) :: rest)) :=
  lv_if_ge hexec hb hdg ht (fun _ => kt) (fun h => absurd (nI_pos' ha) h)
theorem sn_ifz_eq {P : Prop} {i : Decidable P} (hexec : p.tables.exec = Jvm.exec) (hb : c.code = cc) {off : Int} {tgt : Nat} (hdg : decode cc pc = .ok (.ifCond .eq off, 3)) (ht : (pc : Int) + off = (tgt : Int))
    (kt : ¬ P → W p l e R s m args below meth c H locs cells slots Q (F0 m tgt ls rest)) (kf : P → W p l e R s m args below meth c H locs cells slots Q (F0 m (pc + 3) ls rest)) : W p l e R s m args below meth c H locs cells slots Q (F0 m pc ls (.int (zb (@decide P i)) :: rest)) :=
  lv_if_eq hexec hb hdg ht (fun h => kt (zb_f (i := i) h)) (fun h => kf (zb_t (i := i) h))
theorem sn_ifz_ne {P : Prop} {i : Decidable P} (hexec : p.tables.exec = Jvm.exec) (hb : c.code = cc) {off : Int} {tgt : Nat} (hdg : decode cc pc = .ok (.ifCond .ne off, 3)) (ht : (pc : Int) + off = (tgt : Int))
    (kt : P → W p l e R s m args below meth c H locs cells slots Q (F0 m tgt ls rest)) (kf : ¬ P → W p l e R s m args below meth c H locs cells slots Q (F0 m (pc + 3) ls rest)) : W p l e R s m args below meth c H locs cells slots Q (F0 m pc ls (.int (zb (@decide P i)) :: rest)) :=
  lv_if_ne hexec hb hdg ht (fun h => kt (zb_t (i := i) h)) (fun h => kf (zb_f (i := i) h))
theorem sn_isz_eq {x : Option Nat} (hx : ∀ n, x = some n → n < 2 ^ 31) (hexec : p.tables.exec = Jvm.exec) (hb : c.code = cc) {off : Int} {tgt : Nat} (hdg : decode cc pc = .ok (.if_icmp .eq off, 3)) (ht : (pc : Int) + off = (tgt : Int))
    (kt : x = none → W p l e R s m args below meth c H locs cells slots Q (F0 m tgt ls rest)) (kf : x ≠ none → W p l e R s m args below meth c H locs cells slots Q (F0 m (pc + 3) ls rest)) : W p l e R s m args below meth c H locs cells slots Q (F0 m pc ls (.int (-1) :: .int (sn_i x) :: rest)) :=
  lv_icmp_eq hexec hb hdg ht (fun h => kt ((sn_i_none hx).mp h)) (fun h => kf (fun h9 => h ((sn_i_none hx).mpr h9)))
theorem sn_isz_ne {x : Option Nat} (hx : ∀ n, x = some n → n < 2 ^ 31) (hexec : p.tables.exec = Jvm.exec) (hb : c.code = cc) {off : Int} {tgt : Nat} (hdg : decode cc pc = .ok (.if_icmp .ne off, 3)) (ht : (pc : Int) + off = (tgt : Int))
    (kt : x ≠ none → W p l e R s m args below meth c H locs cells slots Q (F0 m tgt ls rest)) (kf : x = none → W p l e R s m args below meth c H locs cells slots Q (F0 m (pc + 3) ls rest)) : W p l e R s m args below meth c H locs cells slots Q (F0 m pc ls (.int (-1) :: .int (sn_i x) :: rest)) :=
  lv_icmp_ne hexec hb hdg ht (fun h => kt (fun h9 => h ((sn_i_none hx).mpr h9))) (fun h => kf ((sn_i_none hx).mp h))
end SNC
theorem sn_cmp0 (x y : Int64) : lg_cmp x y = 0 ↔ x = y := lg_cmp_eq x y
section SNL
variable {p : Program} {l : Launch} {e : Env} {R : Room} {s : State} {m : MethodId} {args : Array Value} {below : List Frame} {meth : Method} {c : Code} {H : Heap} {locs : List Loc} {cells slots : Nat} {Q : State → Prop}
variable {cc : ByteArray} {pc : Nat} {ls : Array Slot} {rest : List Value}
theorem sn_ifc_eq {x y : Int64} (hexec : p.tables.exec = Jvm.exec) (hb : c.code = cc) {off : Int} {tgt : Nat} (hdg : decode cc pc = .ok (.ifCond .eq off, 3)) (ht : (pc : Int) + off = (tgt : Int))
    (kt : x = y → W p l e R s m args below meth c H locs cells slots Q (F0 m tgt ls rest)) (kf : x ≠ y → W p l e R s m args below meth c H locs cells slots Q (F0 m (pc + 3) ls rest)) : W p l e R s m args below meth c H locs cells slots Q (F0 m pc ls (.int (lg_cmp x y) :: rest)) :=
  lv_if_eq hexec hb hdg ht (fun h => kt ((sn_cmp0 x y).mp h)) (fun h => kf (fun h9 => h ((sn_cmp0 x y).mpr h9)))
theorem sn_ifc_ne {x y : Int64} (hexec : p.tables.exec = Jvm.exec) (hb : c.code = cc) {off : Int} {tgt : Nat} (hdg : decode cc pc = .ok (.ifCond .ne off, 3)) (ht : (pc : Int) + off = (tgt : Int))
    (kt : x ≠ y → W p l e R s m args below meth c H locs cells slots Q (F0 m tgt ls rest)) (kf : x = y → W p l e R s m args below meth c H locs cells slots Q (F0 m (pc + 3) ls rest)) : W p l e R s m args below meth c H locs cells slots Q (F0 m pc ls (.int (lg_cmp x y) :: rest)) :=
  lv_if_ne hexec hb hdg ht (fun h => kt (fun h9 => h ((sn_cmp0 x y).mpr h9))) (fun h => kf ((sn_cmp0 x y).mp h))
theorem sn_ifb_eq {b : Bool} (hexec : p.tables.exec = Jvm.exec) (hb : c.code = cc) {off : Int} {tgt : Nat} (hdg : decode cc pc = .ok (.ifCond .eq off, 3)) (ht : (pc : Int) + off = (tgt : Int))
    (kt : b = false → W p l e R s m args below meth c H locs cells slots Q (F0 m tgt ls rest)) (kf : b = true → W p l e R s m args below meth c H locs cells slots Q (F0 m (pc + 3) ls rest)) : W p l e R s m args below meth c H locs cells slots Q (F0 m pc ls (.int (zb b) :: rest)) := by
  cases b
  · exact lv_if_eq hexec hb hdg ht (fun _ => kt rfl) (fun h => absurd rfl h)
  · exact lv_if_eq hexec hb hdg ht (fun h => absurd h (by decide)) (fun _ => kf rfl)
theorem sn_ifb_ne {b : Bool} (hexec : p.tables.exec = Jvm.exec) (hb : c.code = cc) {off : Int} {tgt : Nat} (hdg : decode cc pc = .ok (.ifCond .ne off, 3)) (ht : (pc : Int) + off = (tgt : Int))
    (kt : b = true → W p l e R s m args below meth c H locs cells slots Q (F0 m tgt ls rest)) (kf : b = false → W p l e R s m args below meth c H locs cells slots Q (F0 m (pc + 3) ls rest)) : W p l e R s m args below meth c H locs cells slots Q (F0 m pc ls (.int (zb b) :: rest)) := by
  cases b
  · exact lv_if_ne hexec hb hdg ht (fun h => absurd rfl h) (fun _ => kf rfl)
  · exact lv_if_ne hexec hb hdg ht (fun _ => kt rfl) (fun h => absurd h (by decide))
end SNL
def sn_BP (D : va_G) (K : Nat → ClassId) (ad : Nat → Nat) (ws : va_W) (U : State) : Prop := sn_B D K ws U ∧ sn_Ph ad (fun _ => False) U U.heap
theorem sn_BP_blind {D : va_G} {K : Nat → ClassId} {ad : Nat → Nat} {ws : va_W} {av : List Value} : FrameBlind (va_Pc av (sn_BP D K ad ws)) := fun a U g mk q => ⟨q.1, (sn_B_blind a U g mk ⟨q.1, q.2.1⟩).2, va_En.moved (u := U) (U := U.calling g mk a) (Vm.Alike.refl U.vm) q.2.2⟩
theorem sn_preVP {s : State} {H : Heap} {D : va_G} {K : Nat → ClassId} {ws wc : va_W} {A : Nat → Prop} {b : Nat} {As : List Value} {ci : Nat} {fs : List Value} {C : String} {T : u_T} {N : Nat} {ad : Nat → Nat} {locs : List Loc} (hK : va_K D classes (kt K) s) (hN : sn_N s) (hP : va_P D classes ws H) (hE : sn_Ph ad A s s.heap) (hS : va_S A s.heap H locs) (q0 : Nat) (he : ws[q0]? = some (b, .inr (ci, fs))) (hc : classes[ci]? = some (C, T, N)) (is : List Nat) (hC : is.map (fun i => ws[i]?) = wc.map some) :
    PreV s H C b (va_Pc (.ref b :: As) (sn_BP D K ad wc)) As := ⟨sn_BP_blind, va_recv hK hP hc he, fun U hU hW => ⟨rfl, sn_preB hK hN hP is hC hU hW, by
      rw [hU]
      exact va_En.moved hW.alike (va_En.narrow (va_En.kept hE hS.2.1) (fun _ h => h.elim))⟩⟩
