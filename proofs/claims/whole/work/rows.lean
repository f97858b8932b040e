section
def lw_okq (q : MethodName × Nat) : Prop := (q.1.cls ≠ "java/lang/invoke/MethodHandle" ∧ q.1.cls ≠ "java/lang/invoke/VarHandle") ∧ Cond.instantiable q.1.cls q.2 ∈ tables_1 ∧ Cond.privateMethod q.1 ∈ tables_1 ∧ Cond.instanceMethod q.1 ∈ tables_1
theorem lw_p0 : lw_okq (⟨"SnapshotHeap$Collector", "advance", "()V"⟩, 4) := ⟨⟨by decide +kernel, by decide +kernel⟩, List.mem_of_getElem? (i := 61) (by decide +kernel), List.mem_of_getElem? (i := 183) (by decide +kernel), List.mem_of_getElem? (i := 184) (by decide +kernel)⟩
theorem lw_p1 : lw_okq (⟨"SnapshotHeap$Collector", "begin", "()V"⟩, 4) := ⟨⟨by decide +kernel, by decide +kernel⟩, List.mem_of_getElem? (i := 61) (by decide +kernel), List.mem_of_getElem? (i := 187) (by decide +kernel), List.mem_of_getElem? (i := 188) (by decide +kernel)⟩
theorem lw_p2 : lw_okq (⟨"SnapshotHeap$Collector", "sweepOne", "()V"⟩, 4) := ⟨⟨by decide +kernel, by decide +kernel⟩, List.mem_of_getElem? (i := 61) (by decide +kernel), List.mem_of_getElem? (i := 231) (by decide +kernel), List.mem_of_getElem? (i := 232) (by decide +kernel)⟩
theorem lw_p3 : lw_okq (⟨"SnapshotHeap$Walk", "goInto", "(I)V"⟩, 8) := ⟨⟨by decide +kernel, by decide +kernel⟩, List.mem_of_getElem? (i := 101) (by decide +kernel), List.mem_of_getElem? (i := 266) (by decide +kernel), List.mem_of_getElem? (i := 267) (by decide +kernel)⟩
theorem lw_p4 : lw_okq (⟨"SnapshotHeap$Walk", "goOn", "()V"⟩, 8) := ⟨⟨by decide +kernel, by decide +kernel⟩, List.mem_of_getElem? (i := 101) (by decide +kernel), List.mem_of_getElem? (i := 270) (by decide +kernel), List.mem_of_getElem? (i := 271) (by decide +kernel)⟩
theorem lw_p5 : lw_okq (⟨"SnapshotHeap$Walk", "meet", "(I)V"⟩, 8) := ⟨⟨by decide +kernel, by decide +kernel⟩, List.mem_of_getElem? (i := 101) (by decide +kernel), List.mem_of_getElem? (i := 276) (by decide +kernel), List.mem_of_getElem? (i := 277) (by decide +kernel)⟩
theorem lw_p6 : lw_okq (⟨"SnapshotHeap$Walk", "mix", "(J)V"⟩, 8) := ⟨⟨by decide +kernel, by decide +kernel⟩, List.mem_of_getElem? (i := 101) (by decide +kernel), List.mem_of_getElem? (i := 286) (by decide +kernel), List.mem_of_getElem? (i := 287) (by decide +kernel)⟩
theorem lw_p7 : lw_okq (⟨"SnapshotHeap$Walk", "meetFirst", "(I)V"⟩, 8) := ⟨⟨by decide +kernel, by decide +kernel⟩, List.mem_of_getElem? (i := 101) (by decide +kernel), List.mem_of_getElem? (i := 296) (by decide +kernel), List.mem_of_getElem? (i := 297) (by decide +kernel)⟩
theorem lw_p8 : lw_okq (⟨"SnapshotHeap$Audit", "markToTheEnd", "()V"⟩, 5) := ⟨⟨by decide +kernel, by decide +kernel⟩, List.mem_of_getElem? (i := 132) (by decide +kernel), List.mem_of_getElem? (i := 337) (by decide +kernel), List.mem_of_getElem? (i := 338) (by decide +kernel)⟩
theorem lw_p9 : lw_okq (⟨"SnapshotHeap$Audit", "isMarkWrong", "(I)Z"⟩, 5) := ⟨⟨by decide +kernel, by decide +kernel⟩, List.mem_of_getElem? (i := 132) (by decide +kernel), List.mem_of_getElem? (i := 362) (by decide +kernel), List.mem_of_getElem? (i := 363) (by decide +kernel)⟩
theorem lw_p10 : lw_okq (⟨"SnapshotHeap$Audit", "isMarkInUse", "(I)Z"⟩, 5) := ⟨⟨by decide +kernel, by decide +kernel⟩, List.mem_of_getElem? (i := 132) (by decide +kernel), List.mem_of_getElem? (i := 366) (by decide +kernel), List.mem_of_getElem? (i := 367) (by decide +kernel)⟩
theorem lw_p11 : lw_okq (⟨"java/lang/Throwable", "fillInStackTrace", "(I)Ljava/lang/Throwable;"⟩, 6) := ⟨⟨by decide +kernel, by decide +kernel⟩, List.mem_of_getElem? (i := 435) (by decide +kernel), List.mem_of_getElem? (i := 433) (by decide +kernel), List.mem_of_getElem? (i := 434) (by decide +kernel)⟩
theorem lw_p12 : lw_okq (⟨"SnapshotHeap$Store", "takeFreePlace", "()I"⟩, 7) := ⟨⟨by decide +kernel, by decide +kernel⟩, List.mem_of_getElem? (i := 28) (by decide +kernel), List.mem_of_getElem? (i := 517) (by decide +kernel), List.mem_of_getElem? (i := 518) (by decide +kernel)⟩
theorem lw_p13 : lw_okq (⟨"SnapshotHeap", "existingSlot", "(II)I"⟩, 6) := ⟨⟨by decide +kernel, by decide +kernel⟩, List.mem_of_getElem? (i := 20) (by decide +kernel), List.mem_of_getElem? (i := 559) (by decide +kernel), List.mem_of_getElem? (i := 560) (by decide +kernel)⟩
theorem lw_p14 : lw_okq (⟨"SnapshotHeapModel", "reachAll", "()V"⟩, 15) := ⟨⟨by decide +kernel, by decide +kernel⟩, List.mem_of_getElem? (i := 649) (by decide +kernel), List.mem_of_getElem? (i := 713) (by decide +kernel), List.mem_of_getElem? (i := 714) (by decide +kernel)⟩
theorem lw_p15 : lw_okq (⟨"SnapshotHeapModel", "reach", "(J)V"⟩, 15) := ⟨⟨by decide +kernel, by decide +kernel⟩, List.mem_of_getElem? (i := 649) (by decide +kernel), List.mem_of_getElem? (i := 717) (by decide +kernel), List.mem_of_getElem? (i := 718) (by decide +kernel)⟩
def lw_privs_1 : List (MethodName × Nat) := [(⟨"SnapshotHeap$Collector", "advance", "()V"⟩, 4), (⟨"SnapshotHeap$Collector", "begin", "()V"⟩, 4), (⟨"SnapshotHeap$Collector", "sweepOne", "()V"⟩, 4), (⟨"SnapshotHeap$Walk", "goInto", "(I)V"⟩, 8), (⟨"SnapshotHeap$Walk", "goOn", "()V"⟩, 8), (⟨"SnapshotHeap$Walk", "meet", "(I)V"⟩, 8), (⟨"SnapshotHeap$Walk", "mix", "(J)V"⟩, 8), (⟨"SnapshotHeap$Walk", "meetFirst", "(I)V"⟩, 8), (⟨"SnapshotHeap$Audit", "markToTheEnd", "()V"⟩, 5), (⟨"SnapshotHeap$Audit", "isMarkWrong", "(I)Z"⟩, 5), (⟨"SnapshotHeap$Audit", "isMarkInUse", "(I)Z"⟩, 5), (⟨"java/lang/Throwable", "fillInStackTrace", "(I)Ljava/lang/Throwable;"⟩, 6), (⟨"SnapshotHeap$Store", "takeFreePlace", "()I"⟩, 7), (⟨"SnapshotHeap", "existingSlot", "(II)I"⟩, 6), (⟨"SnapshotHeapModel", "reachAll", "()V"⟩, 15), (⟨"SnapshotHeapModel", "reach", "(J)V"⟩, 15)]
theorem lw_r1 : ∀ q ∈ lw_privs_1, lw_okq q := List.forall_mem_cons.mpr ⟨lw_p0, List.forall_mem_cons.mpr ⟨lw_p1, List.forall_mem_cons.mpr ⟨lw_p2, List.forall_mem_cons.mpr ⟨lw_p3, List.forall_mem_cons.mpr ⟨lw_p4, List.forall_mem_cons.mpr ⟨lw_p5, List.forall_mem_cons.mpr ⟨lw_p6, List.forall_mem_cons.mpr ⟨lw_p7, List.forall_mem_cons.mpr ⟨lw_p8, List.forall_mem_cons.mpr ⟨lw_p9, List.forall_mem_cons.mpr ⟨lw_p10, List.forall_mem_cons.mpr ⟨lw_p11, List.forall_mem_cons.mpr ⟨lw_p12, List.forall_mem_cons.mpr ⟨lw_p13, List.forall_mem_cons.mpr ⟨lw_p14, List.forall_mem_cons.mpr ⟨lw_p15, fun _ h => absurd h List.not_mem_nil⟩⟩⟩⟩⟩⟩⟩⟩⟩⟩⟩⟩⟩⟩⟩⟩
theorem lw_p16 : lw_okq (⟨"SnapshotHeapModel", "place", "(III)I"⟩, 15) := ⟨⟨by decide +kernel, by decide +kernel⟩, List.mem_of_getElem? (i := 649) (by decide +kernel), List.mem_of_getElem? (i := 733) (by decide +kernel), List.mem_of_getElem? (i := 734) (by decide +kernel)⟩
def lw_privs_2 : List (MethodName × Nat) := [(⟨"SnapshotHeapModel", "place", "(III)I"⟩, 15)]
theorem lw_r2 : ∀ q ∈ lw_privs_2, lw_okq q := List.forall_mem_cons.mpr ⟨lw_p16, fun _ h => absurd h List.not_mem_nil⟩
def lw_privs : List (MethodName × Nat) := lw_privs_1 ++ (lw_privs_2)
def lw_tbl : List Cond := k2_sels lw_privs ++ tables_1
theorem lw_privs_ok : ∀ q ∈ lw_privs, lw_okq q := by
  show ∀ q ∈ lw_privs_1 ++ (lw_privs_2), lw_okq q
  exact List.forall_mem_append.mpr ⟨lw_r1, lw_r2⟩
def lw_good : List Cond := lw_tbl.filter goodWord
theorem tw_mem {w : Cond} (h : w ∈ lw_tbl) (hg : goodWord w = true) : w ∈ lw_good := List.mem_filter.mpr ⟨h, hg⟩
theorem tw_at {w : Cond} (i : Nat) (h : tables_1[i]? = some w) (hg : goodWord w = true) : w ∈ lw_good := tw_mem (List.mem_append_right _ (List.mem_of_getElem? h)) hg
theorem tw_in {c1 : Cond} (h : c1 ∈ lw_good) : GoodIn lw_good (c1 :: lw_good) := fun w hw => (List.mem_cons.mp hw).elim (fun e => by rw [e]; exact ⟨h, good_of_word (List.mem_filter.mp h).2⟩) (fun h2 => ⟨h2, good_of_word (List.mem_filter.mp h2).2⟩)
theorem tw_0 : (Jvm.Cond.initialized "SnapshotHeapLaw") ∈ lw_good := tw_at 0 (by decide +kernel) rfl
theorem tw_1 : (Jvm.Cond.initialized "SnapshotHeap") ∈ lw_good := tw_at 1 (by decide +kernel) rfl
theorem tw_2 : (Jvm.Cond.initialized "SnapshotHeap$Store") ∈ lw_good := tw_at 2 (by decide +kernel) rfl
theorem tw_3 : (Jvm.Cond.initialized "java/util/Arrays") ∈ lw_good := tw_at 3 (by decide +kernel) rfl
theorem tw_4 : (Jvm.Cond.initialized "SnapshotHeap$Collector") ∈ lw_good := tw_at 4 (by decide +kernel) rfl
theorem tw_5 : (Jvm.Cond.initialized "SnapshotHeap$Marking") ∈ lw_good := tw_at 5 (by decide +kernel) rfl
theorem tw_6 : (Jvm.Cond.initialized "java/lang/Enum") ∈ lw_good := tw_at 6 (by decide +kernel) rfl
theorem tw_7 : (Jvm.Cond.initialized "SnapshotHeap$Phase") ∈ lw_good := tw_at 7 (by decide +kernel) rfl
theorem tw_8 : (Jvm.Cond.initialized "SnapshotHeap$Walk") ∈ lw_good := tw_at 8 (by decide +kernel) rfl
theorem tw_9 : (Jvm.Cond.initialized "SnapshotHeap$Audit") ∈ lw_good := tw_at 9 (by decide +kernel) rfl
theorem tw_10 : (Jvm.Cond.initialized "SnapshotHeapModel") ∈ lw_good := tw_at 10 (by decide +kernel) rfl
theorem tw_11 : (Jvm.Cond.initialized "java/lang/Throwable") ∈ lw_good := tw_at 11 (by decide +kernel) rfl
theorem tw_12 : (Jvm.Cond.initialized "java/lang/Exception") ∈ lw_good := tw_at 12 (by decide +kernel) rfl
theorem tw_13 : (Jvm.Cond.initialized "java/lang/RuntimeException") ∈ lw_good := tw_at 13 (by decide +kernel) rfl
theorem tw_14 : (Jvm.Cond.initialized "java/lang/IndexOutOfBoundsException") ∈ lw_good := tw_at 14 (by decide +kernel) rfl
theorem tw_15 : (Jvm.Cond.initialized "java/lang/IllegalArgumentException") ∈ lw_good := tw_at 15 (by decide +kernel) rfl
theorem tw_16 : (Jvm.Cond.initialized "java/lang/IllegalStateException") ∈ lw_good := tw_at 16 (by decide +kernel) rfl
theorem tw_17 : (Jvm.Cond.initialized "java/util/NoSuchElementException") ∈ lw_good := tw_at 17 (by decide +kernel) rfl
theorem tw_18 : (Jvm.Cond.initialized "java/lang/System") ∈ lw_good := tw_at 18 (by decide +kernel) rfl
theorem tw_19 : (Jvm.Cond.classLink "SnapshotHeapLaw" (8 : Nat) "SnapshotHeap") ∈ lw_good := tw_at 19 (by decide +kernel) rfl
theorem tw_20 : (Jvm.Cond.instantiable "SnapshotHeap" (6 : Nat)) ∈ lw_good := tw_at 20 (by decide +kernel) rfl
theorem tw_21 : (Jvm.Cond.methodLink "SnapshotHeapLaw" (58 : Nat) ({ cls := "SnapshotHeap", name := "<init>", desc := "()V" } : Jvm.MethodName)) ∈ lw_good := tw_at 21 (by decide +kernel) rfl
theorem tw_22 : (Jvm.Cond.instanceMethod ({ cls := "SnapshotHeap", name := "<init>", desc := "()V" } : Jvm.MethodName)) ∈ lw_good := tw_at 22 (by decide +kernel) rfl
set_option maxRecDepth 100000 in
theorem tw_23 : (Jvm.Cond.code ({ cls := "SnapshotHeap", name := "<init>", desc := "()V" } : Jvm.MethodName) prog_1_method_1_code (1 : Nat) (Option.none : Option Jvm.ClassFile.FieldType)) ∈ lw_good := tw_at 23 rfl rfl
theorem tw_24 : (Jvm.Cond.methodLink "SnapshotHeap" (3 : Nat) ({ cls := "java/lang/Object", name := "<init>", desc := "()V" } : Jvm.MethodName)) ∈ lw_good := tw_at 24 (by decide +kernel) rfl
theorem tw_25 : (Jvm.Cond.instanceMethod ({ cls := "java/lang/Object", name := "<init>", desc := "()V" } : Jvm.MethodName)) ∈ lw_good := tw_at 25 (by decide +kernel) rfl
set_option maxRecDepth 100000 in
theorem tw_26 : (Jvm.Cond.code ({ cls := "java/lang/Object", name := "<init>", desc := "()V" } : Jvm.MethodName) object_method_1_code (1 : Nat) (Option.none : Option Jvm.ClassFile.FieldType)) ∈ lw_good := tw_at 26 rfl rfl
theorem tw_27 : (Jvm.Cond.classLink "SnapshotHeap" (9 : Nat) "SnapshotHeap$Store") ∈ lw_good := tw_at 27 (by decide +kernel) rfl
theorem tw_28 : (Jvm.Cond.instantiable "SnapshotHeap$Store" (7 : Nat)) ∈ lw_good := tw_at 28 (by decide +kernel) rfl
theorem tw_29 : (Jvm.Cond.methodLink "SnapshotHeap" (11 : Nat) ({ cls := "SnapshotHeap$Store", name := "<init>", desc := "()V" } : Jvm.MethodName)) ∈ lw_good := tw_at 29 (by decide +kernel) rfl
theorem tw_30 : (Jvm.Cond.instanceMethod ({ cls := "SnapshotHeap$Store", name := "<init>", desc := "()V" } : Jvm.MethodName)) ∈ lw_good := tw_at 30 (by decide +kernel) rfl
set_option maxRecDepth 100000 in
theorem tw_31 : (Jvm.Cond.code ({ cls := "SnapshotHeap$Store", name := "<init>", desc := "()V" } : Jvm.MethodName) prog_6_method_1_code (1 : Nat) (Option.none : Option Jvm.ClassFile.FieldType)) ∈ lw_good := tw_at 31 rfl rfl
theorem tw_32 : (Jvm.Cond.methodLink "SnapshotHeap$Store" (3 : Nat) ({ cls := "java/lang/Object", name := "<init>", desc := "()V" } : Jvm.MethodName)) ∈ lw_good := tw_at 32 (by decide +kernel) rfl
theorem tw_33 : (Jvm.Cond.methodLink "SnapshotHeap$Store" (35 : Nat) ({ cls := "java/util/Arrays", name := "fill", desc := "([II)V" } : Jvm.MethodName)) ∈ lw_good := tw_at 33 (by decide +kernel) rfl
theorem tw_34 : (Jvm.Cond.static ({ cls := "java/util/Arrays", name := "fill", desc := "([II)V" } : Jvm.MethodName)) ∈ lw_good := tw_at 34 (by decide +kernel) rfl
set_option maxRecDepth 100000 in
theorem tw_35 : (Jvm.Cond.code ({ cls := "java/util/Arrays", name := "fill", desc := "([II)V" } : Jvm.MethodName) prog_19_method_103_code (4 : Nat) (Option.none : Option Jvm.ClassFile.FieldType)) ∈ lw_good := tw_at 35 rfl rfl
theorem tw_36 : (Jvm.Cond.fieldLink "SnapshotHeap$Store" (9 : Nat) "SnapshotHeap$Store" "sizes" "[I") ∈ lw_good := tw_at 36 (by decide +kernel) rfl
theorem tw_37 : (Jvm.Cond.fieldLink "SnapshotHeap$Store" (15 : Nat) "SnapshotHeap$Store" "links" "[I") ∈ lw_good := tw_at 37 (by decide +kernel) rfl
theorem tw_38 : (Jvm.Cond.fieldLink "SnapshotHeap$Store" (18 : Nat) "SnapshotHeap$Store" "numbers" "[J") ∈ lw_good := tw_at 38 (by decide +kernel) rfl
theorem tw_39 : (Jvm.Cond.fieldLink "SnapshotHeap$Store" (22 : Nat) "SnapshotHeap$Store" "released" "[I") ∈ lw_good := tw_at 39 (by decide +kernel) rfl
theorem tw_40 : (Jvm.Cond.fieldLink "SnapshotHeap$Store" (25 : Nat) "SnapshotHeap$Store" "releasedCount" "I") ∈ lw_good := tw_at 40 (by decide +kernel) rfl
theorem tw_41 : (Jvm.Cond.fieldLink "SnapshotHeap$Store" (29 : Nat) "SnapshotHeap$Store" "top" "I") ∈ lw_good := tw_at 41 (by decide +kernel) rfl
theorem tw_42 : (Jvm.Cond.fieldLink "SnapshotHeap$Store" (32 : Nat) "SnapshotHeap$Store" "usedCells" "I") ∈ lw_good := tw_at 42 (by decide +kernel) rfl
theorem tw_43 : (Jvm.Cond.laysFinal "SnapshotHeap$Store" "SnapshotHeap$Store" "sizes" "[I") ∈ lw_good := tw_at 43 (by decide +kernel) rfl
theorem tw_44 : (Jvm.Cond.soleField "SnapshotHeap$Store" "sizes") ∈ lw_good := tw_at 44 (by decide +kernel) rfl
theorem tw_45 : (Jvm.Cond.laysFinal "SnapshotHeap$Store" "SnapshotHeap$Store" "links" "[I") ∈ lw_good := tw_at 45 (by decide +kernel) rfl
theorem tw_46 : (Jvm.Cond.soleField "SnapshotHeap$Store" "links") ∈ lw_good := tw_at 46 (by decide +kernel) rfl
theorem tw_47 : (Jvm.Cond.laysFinal "SnapshotHeap$Store" "SnapshotHeap$Store" "numbers" "[J") ∈ lw_good := tw_at 47 (by decide +kernel) rfl
theorem tw_48 : (Jvm.Cond.soleField "SnapshotHeap$Store" "numbers") ∈ lw_good := tw_at 48 (by decide +kernel) rfl
theorem tw_49 : (Jvm.Cond.laysFinal "SnapshotHeap$Store" "SnapshotHeap$Store" "released" "[I") ∈ lw_good := tw_at 49 (by decide +kernel) rfl
theorem tw_50 : (Jvm.Cond.soleField "SnapshotHeap$Store" "released") ∈ lw_good := tw_at 50 (by decide +kernel) rfl
theorem tw_51 : (Jvm.Cond.lays "SnapshotHeap$Store" "SnapshotHeap$Store" "releasedCount" "I") ∈ lw_good := tw_at 51 (by decide +kernel) rfl
theorem tw_52 : (Jvm.Cond.soleField "SnapshotHeap$Store" "releasedCount") ∈ lw_good := tw_at 52 (by decide +kernel) rfl
theorem tw_53 : (Jvm.Cond.lays "SnapshotHeap$Store" "SnapshotHeap$Store" "top" "I") ∈ lw_good := tw_at 53 (by decide +kernel) rfl
theorem tw_54 : (Jvm.Cond.soleField "SnapshotHeap$Store" "top") ∈ lw_good := tw_at 54 (by decide +kernel) rfl
theorem tw_55 : (Jvm.Cond.lays "SnapshotHeap$Store" "SnapshotHeap$Store" "usedCells" "I") ∈ lw_good := tw_at 55 (by decide +kernel) rfl
theorem tw_56 : (Jvm.Cond.soleField "SnapshotHeap$Store" "usedCells") ∈ lw_good := tw_at 56 (by decide +kernel) rfl
theorem tw_57 : (Jvm.Cond.superclass "SnapshotHeap$Store" "java/lang/Object") ∈ lw_good := tw_at 57 (by decide +kernel) rfl
theorem tw_58 : (Jvm.Cond.arrayClass Jvm.ClassFile.FieldType.int) ∈ lw_good := tw_at 58 (by decide +kernel) rfl
theorem tw_59 : (Jvm.Cond.arrayClass Jvm.ClassFile.FieldType.long) ∈ lw_good := tw_at 59 (by decide +kernel) rfl
theorem tw_60 : (Jvm.Cond.classLink "SnapshotHeap" (16 : Nat) "SnapshotHeap$Collector") ∈ lw_good := tw_at 60 (by decide +kernel) rfl
theorem tw_61 : (Jvm.Cond.instantiable "SnapshotHeap$Collector" (4 : Nat)) ∈ lw_good := tw_at 61 (by decide +kernel) rfl
theorem tw_62 : (Jvm.Cond.methodLink "SnapshotHeap" (18 : Nat) ({ cls := "SnapshotHeap$Collector", name := "<init>", desc := "(LSnapshotHeap$Store;)V" } : Jvm.MethodName)) ∈ lw_good := tw_at 62 (by decide +kernel) rfl
theorem tw_63 : (Jvm.Cond.instanceMethod ({ cls := "SnapshotHeap$Collector", name := "<init>", desc := "(LSnapshotHeap$Store;)V" } : Jvm.MethodName)) ∈ lw_good := tw_at 63 (by decide +kernel) rfl
set_option maxRecDepth 100000 in
theorem tw_64 : (Jvm.Cond.code ({ cls := "SnapshotHeap$Collector", name := "<init>", desc := "(LSnapshotHeap$Store;)V" } : Jvm.MethodName) prog_3_method_1_code (2 : Nat) (Option.none : Option Jvm.ClassFile.FieldType)) ∈ lw_good := tw_at 64 rfl rfl
theorem tw_65 : (Jvm.Cond.methodLink "SnapshotHeap$Collector" (3 : Nat) ({ cls := "java/lang/Object", name := "<init>", desc := "()V" } : Jvm.MethodName)) ∈ lw_good := tw_at 65 (by decide +kernel) rfl
theorem tw_66 : (Jvm.Cond.classLink "SnapshotHeap$Collector" (15 : Nat) "SnapshotHeap$Marking") ∈ lw_good := tw_at 66 (by decide +kernel) rfl
theorem tw_67 : (Jvm.Cond.instantiable "SnapshotHeap$Marking" (4 : Nat)) ∈ lw_good := tw_at 67 (by decide +kernel) rfl
theorem tw_68 : (Jvm.Cond.methodLink "SnapshotHeap$Collector" (17 : Nat) ({ cls := "SnapshotHeap$Marking", name := "<init>", desc := "(LSnapshotHeap$Store;)V" } : Jvm.MethodName)) ∈ lw_good := tw_at 68 (by decide +kernel) rfl
theorem tw_69 : (Jvm.Cond.instanceMethod ({ cls := "SnapshotHeap$Marking", name := "<init>", desc := "(LSnapshotHeap$Store;)V" } : Jvm.MethodName)) ∈ lw_good := tw_at 69 (by decide +kernel) rfl
set_option maxRecDepth 100000 in
theorem tw_70 : (Jvm.Cond.code ({ cls := "SnapshotHeap$Marking", name := "<init>", desc := "(LSnapshotHeap$Store;)V" } : Jvm.MethodName) prog_4_method_1_code (2 : Nat) (Option.none : Option Jvm.ClassFile.FieldType)) ∈ lw_good := tw_at 70 rfl rfl
theorem tw_71 : (Jvm.Cond.methodLink "SnapshotHeap$Marking" (3 : Nat) ({ cls := "java/lang/Object", name := "<init>", desc := "()V" } : Jvm.MethodName)) ∈ lw_good := tw_at 71 (by decide +kernel) rfl
theorem tw_72 : (Jvm.Cond.fieldLink "SnapshotHeap$Marking" (9 : Nat) "SnapshotHeap$Marking" "store" "LSnapshotHeap$Store;") ∈ lw_good := tw_at 72 (by decide +kernel) rfl
theorem tw_73 : (Jvm.Cond.fieldLink "SnapshotHeap$Marking" (15 : Nat) "SnapshotHeap$Marking" "colours" "[I") ∈ lw_good := tw_at 73 (by decide +kernel) rfl
theorem tw_74 : (Jvm.Cond.fieldLink "SnapshotHeap$Marking" (19 : Nat) "SnapshotHeap$Marking" "waiting" "[I") ∈ lw_good := tw_at 74 (by decide +kernel) rfl
theorem tw_75 : (Jvm.Cond.fieldLink "SnapshotHeap$Marking" (22 : Nat) "SnapshotHeap$Marking" "waitingCount" "I") ∈ lw_good := tw_at 75 (by decide +kernel) rfl
theorem tw_76 : (Jvm.Cond.laysFinal "SnapshotHeap$Marking" "SnapshotHeap$Marking" "store" "LSnapshotHeap$Store;") ∈ lw_good := tw_at 76 (by decide +kernel) rfl
theorem tw_77 : (Jvm.Cond.soleField "SnapshotHeap$Marking" "store") ∈ lw_good := tw_at 77 (by decide +kernel) rfl
theorem tw_78 : (Jvm.Cond.laysFinal "SnapshotHeap$Marking" "SnapshotHeap$Marking" "colours" "[I") ∈ lw_good := tw_at 78 (by decide +kernel) rfl
theorem tw_79 : (Jvm.Cond.soleField "SnapshotHeap$Marking" "colours") ∈ lw_good := tw_at 79 (by decide +kernel) rfl
theorem tw_80 : (Jvm.Cond.laysFinal "SnapshotHeap$Marking" "SnapshotHeap$Marking" "waiting" "[I") ∈ lw_good := tw_at 80 (by decide +kernel) rfl
theorem tw_81 : (Jvm.Cond.soleField "SnapshotHeap$Marking" "waiting") ∈ lw_good := tw_at 81 (by decide +kernel) rfl
theorem tw_82 : (Jvm.Cond.lays "SnapshotHeap$Marking" "SnapshotHeap$Marking" "waitingCount" "I") ∈ lw_good := tw_at 82 (by decide +kernel) rfl
theorem tw_83 : (Jvm.Cond.soleField "SnapshotHeap$Marking" "waitingCount") ∈ lw_good := tw_at 83 (by decide +kernel) rfl
theorem tw_84 : (Jvm.Cond.superclass "SnapshotHeap$Marking" "java/lang/Object") ∈ lw_good := tw_at 84 (by decide +kernel) rfl
theorem tw_85 : (Jvm.Cond.fieldLink "SnapshotHeap$Collector" (24 : Nat) "SnapshotHeap$Phase" "REST" "LSnapshotHeap$Phase;") ∈ lw_good := tw_at 85 (by decide +kernel) rfl
theorem tn_86 : (Jvm.Cond.laysStatic "SnapshotHeap$Phase" "REST" "LSnapshotHeap$Phase;") ∈ lw_tbl := List.mem_append_right _ (List.mem_of_getElem? (i := 86) (by decide +kernel))
theorem tw_87 : (Jvm.Cond.fieldLink "SnapshotHeap$Collector" (9 : Nat) "SnapshotHeap$Collector" "store" "LSnapshotHeap$Store;") ∈ lw_good := tw_at 87 (by decide +kernel) rfl
theorem tw_88 : (Jvm.Cond.fieldLink "SnapshotHeap$Collector" (20 : Nat) "SnapshotHeap$Collector" "marking" "LSnapshotHeap$Marking;") ∈ lw_good := tw_at 88 (by decide +kernel) rfl
theorem tw_89 : (Jvm.Cond.fieldLink "SnapshotHeap$Collector" (30 : Nat) "SnapshotHeap$Collector" "phase" "LSnapshotHeap$Phase;") ∈ lw_good := tw_at 89 (by decide +kernel) rfl
theorem tw_90 : (Jvm.Cond.fieldLink "SnapshotHeap$Collector" (33 : Nat) "SnapshotHeap$Collector" "cursor" "I") ∈ lw_good := tw_at 90 (by decide +kernel) rfl
theorem tw_91 : (Jvm.Cond.laysFinal "SnapshotHeap$Collector" "SnapshotHeap$Collector" "store" "LSnapshotHeap$Store;") ∈ lw_good := tw_at 91 (by decide +kernel) rfl
theorem tw_92 : (Jvm.Cond.soleField "SnapshotHeap$Collector" "store") ∈ lw_good := tw_at 92 (by decide +kernel) rfl
theorem tw_93 : (Jvm.Cond.laysFinal "SnapshotHeap$Collector" "SnapshotHeap$Collector" "marking" "LSnapshotHeap$Marking;") ∈ lw_good := tw_at 93 (by decide +kernel) rfl
theorem tw_94 : (Jvm.Cond.soleField "SnapshotHeap$Collector" "marking") ∈ lw_good := tw_at 94 (by decide +kernel) rfl
theorem tw_95 : (Jvm.Cond.lays "SnapshotHeap$Collector" "SnapshotHeap$Collector" "phase" "LSnapshotHeap$Phase;") ∈ lw_good := tw_at 95 (by decide +kernel) rfl
theorem tw_96 : (Jvm.Cond.soleField "SnapshotHeap$Collector" "phase") ∈ lw_good := tw_at 96 (by decide +kernel) rfl
theorem tw_97 : (Jvm.Cond.lays "SnapshotHeap$Collector" "SnapshotHeap$Collector" "cursor" "I") ∈ lw_good := tw_at 97 (by decide +kernel) rfl
theorem tw_98 : (Jvm.Cond.soleField "SnapshotHeap$Collector" "cursor") ∈ lw_good := tw_at 98 (by decide +kernel) rfl
theorem tw_99 : (Jvm.Cond.superclass "SnapshotHeap$Collector" "java/lang/Object") ∈ lw_good := tw_at 99 (by decide +kernel) rfl
theorem tw_100 : (Jvm.Cond.classLink "SnapshotHeap" (25 : Nat) "SnapshotHeap$Walk") ∈ lw_good := tw_at 100 (by decide +kernel) rfl
theorem tw_101 : (Jvm.Cond.instantiable "SnapshotHeap$Walk" (8 : Nat)) ∈ lw_good := tw_at 101 (by decide +kernel) rfl
theorem tw_102 : (Jvm.Cond.methodLink "SnapshotHeap" (27 : Nat) ({ cls := "SnapshotHeap$Walk", name := "<init>", desc := "(LSnapshotHeap$Store;)V" } : Jvm.MethodName)) ∈ lw_good := tw_at 102 (by decide +kernel) rfl
theorem tw_103 : (Jvm.Cond.instanceMethod ({ cls := "SnapshotHeap$Walk", name := "<init>", desc := "(LSnapshotHeap$Store;)V" } : Jvm.MethodName)) ∈ lw_good := tw_at 103 (by decide +kernel) rfl
set_option maxRecDepth 100000 in
theorem tw_104 : (Jvm.Cond.code ({ cls := "SnapshotHeap$Walk", name := "<init>", desc := "(LSnapshotHeap$Store;)V" } : Jvm.MethodName) prog_7_method_1_code (2 : Nat) (Option.none : Option Jvm.ClassFile.FieldType)) ∈ lw_good := tw_at 104 rfl rfl
theorem tw_105 : (Jvm.Cond.methodLink "SnapshotHeap$Walk" (3 : Nat) ({ cls := "java/lang/Object", name := "<init>", desc := "()V" } : Jvm.MethodName)) ∈ lw_good := tw_at 105 (by decide +kernel) rfl
theorem tw_106 : (Jvm.Cond.fieldLink "SnapshotHeap$Walk" (9 : Nat) "SnapshotHeap$Walk" "store" "LSnapshotHeap$Store;") ∈ lw_good := tw_at 106 (by decide +kernel) rfl
theorem tw_107 : (Jvm.Cond.fieldLink "SnapshotHeap$Walk" (15 : Nat) "SnapshotHeap$Walk" "metAs" "[I") ∈ lw_good := tw_at 107 (by decide +kernel) rfl
theorem tw_108 : (Jvm.Cond.fieldLink "SnapshotHeap$Walk" (19 : Nat) "SnapshotHeap$Walk" "path" "[I") ∈ lw_good := tw_at 108 (by decide +kernel) rfl
theorem tw_109 : (Jvm.Cond.fieldLink "SnapshotHeap$Walk" (22 : Nat) "SnapshotHeap$Walk" "nextValue" "[I") ∈ lw_good := tw_at 109 (by decide +kernel) rfl
theorem tw_110 : (Jvm.Cond.fieldLink "SnapshotHeap$Walk" (50 : Nat) "SnapshotHeap$Walk" "depth" "I") ∈ lw_good := tw_at 110 (by decide +kernel) rfl
theorem tw_111 : (Jvm.Cond.fieldLink "SnapshotHeap$Walk" (25 : Nat) "SnapshotHeap$Walk" "met" "I") ∈ lw_good := tw_at 111 (by decide +kernel) rfl
theorem tw_112 : (Jvm.Cond.fieldLink "SnapshotHeap$Walk" (29 : Nat) "SnapshotHeap$Walk" "metCells" "I") ∈ lw_good := tw_at 112 (by decide +kernel) rfl
theorem tw_113 : (Jvm.Cond.fieldLink "SnapshotHeap$Walk" (32 : Nat) "SnapshotHeap$Walk" "hash" "J") ∈ lw_good := tw_at 113 (by decide +kernel) rfl
theorem tw_114 : (Jvm.Cond.laysFinal "SnapshotHeap$Walk" "SnapshotHeap$Walk" "store" "LSnapshotHeap$Store;") ∈ lw_good := tw_at 114 (by decide +kernel) rfl
theorem tw_115 : (Jvm.Cond.soleField "SnapshotHeap$Walk" "store") ∈ lw_good := tw_at 115 (by decide +kernel) rfl
theorem tw_116 : (Jvm.Cond.laysFinal "SnapshotHeap$Walk" "SnapshotHeap$Walk" "metAs" "[I") ∈ lw_good := tw_at 116 (by decide +kernel) rfl
theorem tw_117 : (Jvm.Cond.soleField "SnapshotHeap$Walk" "metAs") ∈ lw_good := tw_at 117 (by decide +kernel) rfl
theorem tw_118 : (Jvm.Cond.laysFinal "SnapshotHeap$Walk" "SnapshotHeap$Walk" "path" "[I") ∈ lw_good := tw_at 118 (by decide +kernel) rfl
theorem tw_119 : (Jvm.Cond.soleField "SnapshotHeap$Walk" "path") ∈ lw_good := tw_at 119 (by decide +kernel) rfl
theorem tw_120 : (Jvm.Cond.laysFinal "SnapshotHeap$Walk" "SnapshotHeap$Walk" "nextValue" "[I") ∈ lw_good := tw_at 120 (by decide +kernel) rfl
theorem tw_121 : (Jvm.Cond.soleField "SnapshotHeap$Walk" "nextValue") ∈ lw_good := tw_at 121 (by decide +kernel) rfl
theorem tw_122 : (Jvm.Cond.lays "SnapshotHeap$Walk" "SnapshotHeap$Walk" "depth" "I") ∈ lw_good := tw_at 122 (by decide +kernel) rfl
theorem tw_123 : (Jvm.Cond.soleField "SnapshotHeap$Walk" "depth") ∈ lw_good := tw_at 123 (by decide +kernel) rfl
theorem tw_124 : (Jvm.Cond.lays "SnapshotHeap$Walk" "SnapshotHeap$Walk" "met" "I") ∈ lw_good := tw_at 124 (by decide +kernel) rfl
theorem tw_125 : (Jvm.Cond.soleField "SnapshotHeap$Walk" "met") ∈ lw_good := tw_at 125 (by decide +kernel) rfl
theorem tw_126 : (Jvm.Cond.lays "SnapshotHeap$Walk" "SnapshotHeap$Walk" "metCells" "I") ∈ lw_good := tw_at 126 (by decide +kernel) rfl
theorem tw_127 : (Jvm.Cond.soleField "SnapshotHeap$Walk" "metCells") ∈ lw_good := tw_at 127 (by decide +kernel) rfl
theorem tw_128 : (Jvm.Cond.lays "SnapshotHeap$Walk" "SnapshotHeap$Walk" "hash" "J") ∈ lw_good := tw_at 128 (by decide +kernel) rfl
theorem tw_129 : (Jvm.Cond.soleField "SnapshotHeap$Walk" "hash") ∈ lw_good := tw_at 129 (by decide +kernel) rfl
theorem tw_130 : (Jvm.Cond.superclass "SnapshotHeap$Walk" "java/lang/Object") ∈ lw_good := tw_at 130 (by decide +kernel) rfl
theorem tw_131 : (Jvm.Cond.classLink "SnapshotHeap" (32 : Nat) "SnapshotHeap$Audit") ∈ lw_good := tw_at 131 (by decide +kernel) rfl
theorem tw_132 : (Jvm.Cond.instantiable "SnapshotHeap$Audit" (5 : Nat)) ∈ lw_good := tw_at 132 (by decide +kernel) rfl
theorem tw_133 : (Jvm.Cond.methodLink "SnapshotHeap" (34 : Nat) ({ cls := "SnapshotHeap$Audit", name := "<init>", desc := "(LSnapshotHeap$Store;LSnapshotHeap$Collector;LSnapshotHeap$Walk;)V" } : Jvm.MethodName)) ∈ lw_good := tw_at 133 (by decide +kernel) rfl
theorem tw_134 : (Jvm.Cond.instanceMethod ({ cls := "SnapshotHeap$Audit", name := "<init>", desc := "(LSnapshotHeap$Store;LSnapshotHeap$Collector;LSnapshotHeap$Walk;)V" } : Jvm.MethodName)) ∈ lw_good := tw_at 134 (by decide +kernel) rfl
set_option maxRecDepth 100000 in
theorem tw_135 : (Jvm.Cond.code ({ cls := "SnapshotHeap$Audit", name := "<init>", desc := "(LSnapshotHeap$Store;LSnapshotHeap$Collector;LSnapshotHeap$Walk;)V" } : Jvm.MethodName) prog_2_method_1_code (4 : Nat) (Option.none : Option Jvm.ClassFile.FieldType)) ∈ lw_good := tw_at 135 rfl rfl
theorem tw_136 : (Jvm.Cond.methodLink "SnapshotHeap$Audit" (3 : Nat) ({ cls := "java/lang/Object", name := "<init>", desc := "()V" } : Jvm.MethodName)) ∈ lw_good := tw_at 136 (by decide +kernel) rfl
theorem tw_137 : (Jvm.Cond.classLink "SnapshotHeap$Audit" (23 : Nat) "SnapshotHeap$Marking") ∈ lw_good := tw_at 137 (by decide +kernel) rfl
theorem tw_138 : (Jvm.Cond.methodLink "SnapshotHeap$Audit" (25 : Nat) ({ cls := "SnapshotHeap$Marking", name := "<init>", desc := "(LSnapshotHeap$Store;)V" } : Jvm.MethodName)) ∈ lw_good := tw_at 138 (by decide +kernel) rfl
theorem tw_139 : (Jvm.Cond.fieldLink "SnapshotHeap$Audit" (9 : Nat) "SnapshotHeap$Audit" "store" "LSnapshotHeap$Store;") ∈ lw_good := tw_at 139 (by decide +kernel) rfl
theorem tw_140 : (Jvm.Cond.fieldLink "SnapshotHeap$Audit" (15 : Nat) "SnapshotHeap$Audit" "collector" "LSnapshotHeap$Collector;") ∈ lw_good := tw_at 140 (by decide +kernel) rfl
theorem tw_141 : (Jvm.Cond.fieldLink "SnapshotHeap$Audit" (19 : Nat) "SnapshotHeap$Audit" "walk" "LSnapshotHeap$Walk;") ∈ lw_good := tw_at 141 (by decide +kernel) rfl
theorem tw_142 : (Jvm.Cond.fieldLink "SnapshotHeap$Audit" (28 : Nat) "SnapshotHeap$Audit" "trial" "LSnapshotHeap$Marking;") ∈ lw_good := tw_at 142 (by decide +kernel) rfl
theorem tw_143 : (Jvm.Cond.fieldLink "SnapshotHeap$Audit" (32 : Nat) "SnapshotHeap$Audit" "holders" "[I") ∈ lw_good := tw_at 143 (by decide +kernel) rfl
theorem tw_144 : (Jvm.Cond.laysFinal "SnapshotHeap$Audit" "SnapshotHeap$Audit" "store" "LSnapshotHeap$Store;") ∈ lw_good := tw_at 144 (by decide +kernel) rfl
theorem tw_145 : (Jvm.Cond.soleField "SnapshotHeap$Audit" "store") ∈ lw_good := tw_at 145 (by decide +kernel) rfl
theorem tw_146 : (Jvm.Cond.laysFinal "SnapshotHeap$Audit" "SnapshotHeap$Audit" "collector" "LSnapshotHeap$Collector;") ∈ lw_good := tw_at 146 (by decide +kernel) rfl
theorem tw_147 : (Jvm.Cond.soleField "SnapshotHeap$Audit" "collector") ∈ lw_good := tw_at 147 (by decide +kernel) rfl
theorem tw_148 : (Jvm.Cond.laysFinal "SnapshotHeap$Audit" "SnapshotHeap$Audit" "walk" "LSnapshotHeap$Walk;") ∈ lw_good := tw_at 148 (by decide +kernel) rfl
theorem tw_149 : (Jvm.Cond.soleField "SnapshotHeap$Audit" "walk") ∈ lw_good := tw_at 149 (by decide +kernel) rfl
theorem tw_150 : (Jvm.Cond.laysFinal "SnapshotHeap$Audit" "SnapshotHeap$Audit" "trial" "LSnapshotHeap$Marking;") ∈ lw_good := tw_at 150 (by decide +kernel) rfl
theorem tw_151 : (Jvm.Cond.soleField "SnapshotHeap$Audit" "trial") ∈ lw_good := tw_at 151 (by decide +kernel) rfl
theorem tw_152 : (Jvm.Cond.laysFinal "SnapshotHeap$Audit" "SnapshotHeap$Audit" "holders" "[I") ∈ lw_good := tw_at 152 (by decide +kernel) rfl
theorem tw_153 : (Jvm.Cond.soleField "SnapshotHeap$Audit" "holders") ∈ lw_good := tw_at 153 (by decide +kernel) rfl
theorem tw_154 : (Jvm.Cond.superclass "SnapshotHeap$Audit" "java/lang/Object") ∈ lw_good := tw_at 154 (by decide +kernel) rfl
theorem tw_155 : (Jvm.Cond.fieldLink "SnapshotHeap" (12 : Nat) "SnapshotHeap" "store" "LSnapshotHeap$Store;") ∈ lw_good := tw_at 155 (by decide +kernel) rfl
theorem tw_156 : (Jvm.Cond.fieldLink "SnapshotHeap" (21 : Nat) "SnapshotHeap" "collector" "LSnapshotHeap$Collector;") ∈ lw_good := tw_at 156 (by decide +kernel) rfl
theorem tw_157 : (Jvm.Cond.fieldLink "SnapshotHeap" (28 : Nat) "SnapshotHeap" "walk" "LSnapshotHeap$Walk;") ∈ lw_good := tw_at 157 (by decide +kernel) rfl
theorem tw_158 : (Jvm.Cond.fieldLink "SnapshotHeap" (37 : Nat) "SnapshotHeap" "audit" "LSnapshotHeap$Audit;") ∈ lw_good := tw_at 158 (by decide +kernel) rfl
theorem tw_159 : (Jvm.Cond.fieldLink "SnapshotHeap" (41 : Nat) "SnapshotHeap" "pace" "I") ∈ lw_good := tw_at 159 (by decide +kernel) rfl
theorem tw_160 : (Jvm.Cond.fieldLink "SnapshotHeap" (45 : Nat) "SnapshotHeap" "made" "I") ∈ lw_good := tw_at 160 (by decide +kernel) rfl
theorem tw_161 : (Jvm.Cond.laysFinal "SnapshotHeap" "SnapshotHeap" "store" "LSnapshotHeap$Store;") ∈ lw_good := tw_at 161 (by decide +kernel) rfl
theorem tw_162 : (Jvm.Cond.soleField "SnapshotHeap" "store") ∈ lw_good := tw_at 162 (by decide +kernel) rfl
theorem tw_163 : (Jvm.Cond.laysFinal "SnapshotHeap" "SnapshotHeap" "collector" "LSnapshotHeap$Collector;") ∈ lw_good := tw_at 163 (by decide +kernel) rfl
theorem tw_164 : (Jvm.Cond.soleField "SnapshotHeap" "collector") ∈ lw_good := tw_at 164 (by decide +kernel) rfl
theorem tw_165 : (Jvm.Cond.laysFinal "SnapshotHeap" "SnapshotHeap" "walk" "LSnapshotHeap$Walk;") ∈ lw_good := tw_at 165 (by decide +kernel) rfl
theorem tw_166 : (Jvm.Cond.soleField "SnapshotHeap" "walk") ∈ lw_good := tw_at 166 (by decide +kernel) rfl
theorem tw_167 : (Jvm.Cond.laysFinal "SnapshotHeap" "SnapshotHeap" "audit" "LSnapshotHeap$Audit;") ∈ lw_good := tw_at 167 (by decide +kernel) rfl
theorem tw_168 : (Jvm.Cond.soleField "SnapshotHeap" "audit") ∈ lw_good := tw_at 168 (by decide +kernel) rfl
theorem tw_169 : (Jvm.Cond.lays "SnapshotHeap" "SnapshotHeap" "pace" "I") ∈ lw_good := tw_at 169 (by decide +kernel) rfl
theorem tw_170 : (Jvm.Cond.soleField "SnapshotHeap" "pace") ∈ lw_good := tw_at 170 (by decide +kernel) rfl
theorem tw_171 : (Jvm.Cond.lays "SnapshotHeap" "SnapshotHeap" "made" "I") ∈ lw_good := tw_at 171 (by decide +kernel) rfl
theorem tw_172 : (Jvm.Cond.soleField "SnapshotHeap" "made") ∈ lw_good := tw_at 172 (by decide +kernel) rfl
theorem tw_173 : (Jvm.Cond.superclass "SnapshotHeap" "java/lang/Object") ∈ lw_good := tw_at 173 (by decide +kernel) rfl
theorem tw_174 : (Jvm.Cond.methodLink "SnapshotHeapLaw" (109 : Nat) ({ cls := "SnapshotHeap", name := "digest", desc := "()J" } : Jvm.MethodName)) ∈ lw_good := tw_at 174 (by decide +kernel) rfl
theorem tw_175 : (Jvm.Cond.instanceMethod ({ cls := "SnapshotHeap", name := "digest", desc := "()J" } : Jvm.MethodName)) ∈ lw_good := tw_at 175 (by decide +kernel) rfl
theorem tw_176 : (Jvm.Cond.selects "SnapshotHeap" ({ cls := "SnapshotHeap", name := "digest", desc := "()J" } : Jvm.MethodName) ({ cls := "SnapshotHeap", name := "digest", desc := "()J" } : Jvm.MethodName)) ∈ lw_good := tw_at 176 (by decide +kernel) rfl
set_option maxRecDepth 100000 in
theorem tw_177 : (Jvm.Cond.code ({ cls := "SnapshotHeap", name := "digest", desc := "()J" } : Jvm.MethodName) prog_1_method_13_code (1 : Nat) (Option.some Jvm.ClassFile.FieldType.long)) ∈ lw_good := tw_at 177 rfl rfl
theorem tw_178 : (Jvm.Cond.methodLink "SnapshotHeap" (48 : Nat) ({ cls := "SnapshotHeap$Collector", name := "work", desc := "(I)V" } : Jvm.MethodName)) ∈ lw_good := tw_at 178 (by decide +kernel) rfl
theorem tw_179 : (Jvm.Cond.instanceMethod ({ cls := "SnapshotHeap$Collector", name := "work", desc := "(I)V" } : Jvm.MethodName)) ∈ lw_good := tw_at 179 (by decide +kernel) rfl
theorem tw_180 : (Jvm.Cond.selects "SnapshotHeap$Collector" ({ cls := "SnapshotHeap$Collector", name := "work", desc := "(I)V" } : Jvm.MethodName) ({ cls := "SnapshotHeap$Collector", name := "work", desc := "(I)V" } : Jvm.MethodName)) ∈ lw_good := tw_at 180 (by decide +kernel) rfl
set_option maxRecDepth 100000 in
theorem tw_181 : (Jvm.Cond.code ({ cls := "SnapshotHeap$Collector", name := "work", desc := "(I)V" } : Jvm.MethodName) prog_3_method_4_code (3 : Nat) (Option.none : Option Jvm.ClassFile.FieldType)) ∈ lw_good := tw_at 181 rfl rfl
theorem tw_182 : (Jvm.Cond.methodLink "SnapshotHeap$Collector" (37 : Nat) ({ cls := "SnapshotHeap$Collector", name := "advance", desc := "()V" } : Jvm.MethodName)) ∈ lw_good := tw_at 182 (by decide +kernel) rfl
theorem tn_183 : (Jvm.Cond.privateMethod ({ cls := "SnapshotHeap$Collector", name := "advance", desc := "()V" } : Jvm.MethodName)) ∈ lw_tbl := List.mem_append_right _ (List.mem_of_getElem? (i := 183) (by decide +kernel))
theorem tw_184 : (Jvm.Cond.instanceMethod ({ cls := "SnapshotHeap$Collector", name := "advance", desc := "()V" } : Jvm.MethodName)) ∈ lw_good := tw_at 184 (by decide +kernel) rfl
set_option maxRecDepth 100000 in
theorem tw_185 : (Jvm.Cond.code ({ cls := "SnapshotHeap$Collector", name := "advance", desc := "()V" } : Jvm.MethodName) prog_3_method_9_code (1 : Nat) (Option.none : Option Jvm.ClassFile.FieldType)) ∈ lw_good := tw_at 185 rfl rfl
theorem tw_186 : (Jvm.Cond.methodLink "SnapshotHeap$Collector" (43 : Nat) ({ cls := "SnapshotHeap$Collector", name := "begin", desc := "()V" } : Jvm.MethodName)) ∈ lw_good := tw_at 186 (by decide +kernel) rfl
theorem tn_187 : (Jvm.Cond.privateMethod ({ cls := "SnapshotHeap$Collector", name := "begin", desc := "()V" } : Jvm.MethodName)) ∈ lw_tbl := List.mem_append_right _ (List.mem_of_getElem? (i := 187) (by decide +kernel))
theorem tw_188 : (Jvm.Cond.instanceMethod ({ cls := "SnapshotHeap$Collector", name := "begin", desc := "()V" } : Jvm.MethodName)) ∈ lw_good := tw_at 188 (by decide +kernel) rfl
set_option maxRecDepth 100000 in
theorem tw_189 : (Jvm.Cond.code ({ cls := "SnapshotHeap$Collector", name := "begin", desc := "()V" } : Jvm.MethodName) prog_3_method_10_code (1 : Nat) (Option.none : Option Jvm.ClassFile.FieldType)) ∈ lw_good := tw_at 189 rfl rfl
theorem tw_190 : (Jvm.Cond.fieldLink "SnapshotHeap$Collector" (52 : Nat) "SnapshotHeap$Phase" "MARKING" "LSnapshotHeap$Phase;") ∈ lw_good := tw_at 190 (by decide +kernel) rfl
theorem tn_191 : (Jvm.Cond.laysStatic "SnapshotHeap$Phase" "MARKING" "LSnapshotHeap$Phase;") ∈ lw_tbl := List.mem_append_right _ (List.mem_of_getElem? (i := 191) (by decide +kernel))
theorem tw_192 : (Jvm.Cond.methodLink "SnapshotHeap$Collector" (82 : Nat) ({ cls := "SnapshotHeap$Marking", name := "shadeValuesOf", desc := "(I)V" } : Jvm.MethodName)) ∈ lw_good := tw_at 192 (by decide +kernel) rfl
theorem tw_193 : (Jvm.Cond.instanceMethod ({ cls := "SnapshotHeap$Marking", name := "shadeValuesOf", desc := "(I)V" } : Jvm.MethodName)) ∈ lw_good := tw_at 193 (by decide +kernel) rfl
theorem tw_194 : (Jvm.Cond.selects "SnapshotHeap$Marking" ({ cls := "SnapshotHeap$Marking", name := "shadeValuesOf", desc := "(I)V" } : Jvm.MethodName) ({ cls := "SnapshotHeap$Marking", name := "shadeValuesOf", desc := "(I)V" } : Jvm.MethodName)) ∈ lw_good := tw_at 194 (by decide +kernel) rfl
set_option maxRecDepth 100000 in
theorem tw_195 : (Jvm.Cond.code ({ cls := "SnapshotHeap$Marking", name := "shadeValuesOf", desc := "(I)V" } : Jvm.MethodName) prog_4_method_11_code (4 : Nat) (Option.none : Option Jvm.ClassFile.FieldType)) ∈ lw_good := tw_at 195 rfl rfl
theorem tw_196 : (Jvm.Cond.methodLink "SnapshotHeap$Marking" (44 : Nat) ({ cls := "SnapshotHeap$Store", name := "valuesOf", desc := "(I)I" } : Jvm.MethodName)) ∈ lw_good := tw_at 196 (by decide +kernel) rfl
theorem tw_197 : (Jvm.Cond.instanceMethod ({ cls := "SnapshotHeap$Store", name := "valuesOf", desc := "(I)I" } : Jvm.MethodName)) ∈ lw_good := tw_at 197 (by decide +kernel) rfl
theorem tw_198 : (Jvm.Cond.selects "SnapshotHeap$Store" ({ cls := "SnapshotHeap$Store", name := "valuesOf", desc := "(I)I" } : Jvm.MethodName) ({ cls := "SnapshotHeap$Store", name := "valuesOf", desc := "(I)I" } : Jvm.MethodName)) ∈ lw_good := tw_at 198 (by decide +kernel) rfl
set_option maxRecDepth 100000 in
theorem tw_199 : (Jvm.Cond.code ({ cls := "SnapshotHeap$Store", name := "valuesOf", desc := "(I)I" } : Jvm.MethodName) prog_6_method_4_code (2 : Nat) (Option.some Jvm.ClassFile.FieldType.int)) ∈ lw_good := tw_at 199 rfl rfl
theorem tn_200 : (Jvm.Cond.methodLinkNest "SnapshotHeap$Marking" (48 : Nat) ({ cls := "SnapshotHeap", name := "slotOf", desc := "(II)I" } : Jvm.MethodName) "SnapshotHeap") ∈ lw_tbl := List.mem_append_right _ (List.mem_of_getElem? (i := 200) (by decide +kernel))
theorem tw_201 : (Jvm.Cond.static ({ cls := "SnapshotHeap", name := "slotOf", desc := "(II)I" } : Jvm.MethodName)) ∈ lw_good := tw_at 201 (by decide +kernel) rfl
set_option maxRecDepth 100000 in
theorem tw_202 : (Jvm.Cond.code ({ cls := "SnapshotHeap", name := "slotOf", desc := "(II)I" } : Jvm.MethodName) prog_1_method_19_code (2 : Nat) (Option.some Jvm.ClassFile.FieldType.int)) ∈ lw_good := tw_at 202 rfl rfl
theorem tw_203 : (Jvm.Cond.methodLink "SnapshotHeap$Marking" (52 : Nat) ({ cls := "SnapshotHeap$Store", name := "placeAt", desc := "(I)I" } : Jvm.MethodName)) ∈ lw_good := tw_at 203 (by decide +kernel) rfl
theorem tw_204 : (Jvm.Cond.instanceMethod ({ cls := "SnapshotHeap$Store", name := "placeAt", desc := "(I)I" } : Jvm.MethodName)) ∈ lw_good := tw_at 204 (by decide +kernel) rfl
theorem tw_205 : (Jvm.Cond.selects "SnapshotHeap$Store" ({ cls := "SnapshotHeap$Store", name := "placeAt", desc := "(I)I" } : Jvm.MethodName) ({ cls := "SnapshotHeap$Store", name := "placeAt", desc := "(I)I" } : Jvm.MethodName)) ∈ lw_good := tw_at 205 (by decide +kernel) rfl
set_option maxRecDepth 100000 in
theorem tw_206 : (Jvm.Cond.code ({ cls := "SnapshotHeap$Store", name := "placeAt", desc := "(I)I" } : Jvm.MethodName) prog_6_method_12_code (2 : Nat) (Option.some Jvm.ClassFile.FieldType.int)) ∈ lw_good := tw_at 206 rfl rfl
theorem tw_207 : (Jvm.Cond.methodLink "SnapshotHeap$Marking" (55 : Nat) ({ cls := "SnapshotHeap$Marking", name := "shade", desc := "(I)V" } : Jvm.MethodName)) ∈ lw_good := tw_at 207 (by decide +kernel) rfl
theorem tw_208 : (Jvm.Cond.instanceMethod ({ cls := "SnapshotHeap$Marking", name := "shade", desc := "(I)V" } : Jvm.MethodName)) ∈ lw_good := tw_at 208 (by decide +kernel) rfl
theorem tw_209 : (Jvm.Cond.selects "SnapshotHeap$Marking" ({ cls := "SnapshotHeap$Marking", name := "shade", desc := "(I)V" } : Jvm.MethodName) ({ cls := "SnapshotHeap$Marking", name := "shade", desc := "(I)V" } : Jvm.MethodName)) ∈ lw_good := tw_at 209 (by decide +kernel) rfl
set_option maxRecDepth 100000 in
theorem tw_210 : (Jvm.Cond.code ({ cls := "SnapshotHeap$Marking", name := "shade", desc := "(I)V" } : Jvm.MethodName) prog_4_method_10_code (2 : Nat) (Option.none : Option Jvm.ClassFile.FieldType)) ∈ lw_good := tw_at 210 rfl rfl
theorem tw_211 : (Jvm.Cond.methodLink "SnapshotHeap$Marking" (38 : Nat) ({ cls := "SnapshotHeap$Store", name := "isTuplePlace", desc := "(I)Z" } : Jvm.MethodName)) ∈ lw_good := tw_at 211 (by decide +kernel) rfl
theorem tw_212 : (Jvm.Cond.instanceMethod ({ cls := "SnapshotHeap$Store", name := "isTuplePlace", desc := "(I)Z" } : Jvm.MethodName)) ∈ lw_good := tw_at 212 (by decide +kernel) rfl
theorem tw_213 : (Jvm.Cond.selects "SnapshotHeap$Store" ({ cls := "SnapshotHeap$Store", name := "isTuplePlace", desc := "(I)Z" } : Jvm.MethodName) ({ cls := "SnapshotHeap$Store", name := "isTuplePlace", desc := "(I)Z" } : Jvm.MethodName)) ∈ lw_good := tw_at 213 (by decide +kernel) rfl
set_option maxRecDepth 100000 in
theorem tw_214 : (Jvm.Cond.code ({ cls := "SnapshotHeap$Store", name := "isTuplePlace", desc := "(I)Z" } : Jvm.MethodName) prog_6_method_2_code (2 : Nat) (Option.some Jvm.ClassFile.FieldType.boolean)) ∈ lw_good := tw_at 214 rfl rfl
theorem tw_215 : (Jvm.Cond.methodLink "SnapshotHeap$Collector" (72 : Nat) ({ cls := "SnapshotHeap$Marking", name := "isDone", desc := "()Z" } : Jvm.MethodName)) ∈ lw_good := tw_at 215 (by decide +kernel) rfl
theorem tw_216 : (Jvm.Cond.instanceMethod ({ cls := "SnapshotHeap$Marking", name := "isDone", desc := "()Z" } : Jvm.MethodName)) ∈ lw_good := tw_at 216 (by decide +kernel) rfl
theorem tw_217 : (Jvm.Cond.selects "SnapshotHeap$Marking" ({ cls := "SnapshotHeap$Marking", name := "isDone", desc := "()Z" } : Jvm.MethodName) ({ cls := "SnapshotHeap$Marking", name := "isDone", desc := "()Z" } : Jvm.MethodName)) ∈ lw_good := tw_at 217 (by decide +kernel) rfl
set_option maxRecDepth 100000 in
theorem tw_218 : (Jvm.Cond.code ({ cls := "SnapshotHeap$Marking", name := "isDone", desc := "()Z" } : Jvm.MethodName) prog_4_method_4_code (1 : Nat) (Option.some Jvm.ClassFile.FieldType.boolean)) ∈ lw_good := tw_at 218 rfl rfl
theorem tw_219 : (Jvm.Cond.fieldLink "SnapshotHeap$Collector" (69 : Nat) "SnapshotHeap$Phase" "SWEEPING" "LSnapshotHeap$Phase;") ∈ lw_good := tw_at 219 (by decide +kernel) rfl
theorem tn_220 : (Jvm.Cond.laysStatic "SnapshotHeap$Phase" "SWEEPING" "LSnapshotHeap$Phase;") ∈ lw_tbl := List.mem_append_right _ (List.mem_of_getElem? (i := 220) (by decide +kernel))
theorem tw_221 : (Jvm.Cond.methodLink "SnapshotHeap$Collector" (76 : Nat) ({ cls := "SnapshotHeap$Marking", name := "markOne", desc := "()V" } : Jvm.MethodName)) ∈ lw_good := tw_at 221 (by decide +kernel) rfl
theorem tw_222 : (Jvm.Cond.instanceMethod ({ cls := "SnapshotHeap$Marking", name := "markOne", desc := "()V" } : Jvm.MethodName)) ∈ lw_good := tw_at 222 (by decide +kernel) rfl
theorem tw_223 : (Jvm.Cond.selects "SnapshotHeap$Marking" ({ cls := "SnapshotHeap$Marking", name := "markOne", desc := "()V" } : Jvm.MethodName) ({ cls := "SnapshotHeap$Marking", name := "markOne", desc := "()V" } : Jvm.MethodName)) ∈ lw_good := tw_at 223 (by decide +kernel) rfl
set_option maxRecDepth 100000 in
theorem tw_224 : (Jvm.Cond.code ({ cls := "SnapshotHeap$Marking", name := "markOne", desc := "()V" } : Jvm.MethodName) prog_4_method_12_code (2 : Nat) (Option.none : Option Jvm.ClassFile.FieldType)) ∈ lw_good := tw_at 224 rfl rfl
theorem tw_225 : (Jvm.Cond.methodLink "SnapshotHeap$Marking" (59 : Nat) ({ cls := "SnapshotHeap$Marking", name := "blacken", desc := "(I)V" } : Jvm.MethodName)) ∈ lw_good := tw_at 225 (by decide +kernel) rfl
theorem tw_226 : (Jvm.Cond.instanceMethod ({ cls := "SnapshotHeap$Marking", name := "blacken", desc := "(I)V" } : Jvm.MethodName)) ∈ lw_good := tw_at 226 (by decide +kernel) rfl
theorem tw_227 : (Jvm.Cond.selects "SnapshotHeap$Marking" ({ cls := "SnapshotHeap$Marking", name := "blacken", desc := "(I)V" } : Jvm.MethodName) ({ cls := "SnapshotHeap$Marking", name := "blacken", desc := "(I)V" } : Jvm.MethodName)) ∈ lw_good := tw_at 227 (by decide +kernel) rfl
set_option maxRecDepth 100000 in
theorem tw_228 : (Jvm.Cond.code ({ cls := "SnapshotHeap$Marking", name := "blacken", desc := "(I)V" } : Jvm.MethodName) prog_4_method_9_code (2 : Nat) (Option.none : Option Jvm.ClassFile.FieldType)) ∈ lw_good := tw_at 228 rfl rfl
theorem tw_229 : (Jvm.Cond.methodLink "SnapshotHeap$Marking" (62 : Nat) ({ cls := "SnapshotHeap$Marking", name := "shadeValuesOf", desc := "(I)V" } : Jvm.MethodName)) ∈ lw_good := tw_at 229 (by decide +kernel) rfl
theorem tw_230 : (Jvm.Cond.methodLink "SnapshotHeap$Collector" (79 : Nat) ({ cls := "SnapshotHeap$Collector", name := "sweepOne", desc := "()V" } : Jvm.MethodName)) ∈ lw_good := tw_at 230 (by decide +kernel) rfl
theorem tn_231 : (Jvm.Cond.privateMethod ({ cls := "SnapshotHeap$Collector", name := "sweepOne", desc := "()V" } : Jvm.MethodName)) ∈ lw_tbl := List.mem_append_right _ (List.mem_of_getElem? (i := 231) (by decide +kernel))
theorem tw_232 : (Jvm.Cond.instanceMethod ({ cls := "SnapshotHeap$Collector", name := "sweepOne", desc := "()V" } : Jvm.MethodName)) ∈ lw_good := tw_at 232 (by decide +kernel) rfl
set_option maxRecDepth 100000 in
theorem tw_233 : (Jvm.Cond.code ({ cls := "SnapshotHeap$Collector", name := "sweepOne", desc := "()V" } : Jvm.MethodName) prog_3_method_11_code (1 : Nat) (Option.none : Option Jvm.ClassFile.FieldType)) ∈ lw_good := tw_at 233 rfl rfl
theorem tw_234 : (Jvm.Cond.methodLink "SnapshotHeap$Collector" (85 : Nat) ({ cls := "SnapshotHeap$Marking", name := "isBlack", desc := "(I)Z" } : Jvm.MethodName)) ∈ lw_good := tw_at 234 (by decide +kernel) rfl
theorem tw_235 : (Jvm.Cond.instanceMethod ({ cls := "SnapshotHeap$Marking", name := "isBlack", desc := "(I)Z" } : Jvm.MethodName)) ∈ lw_good := tw_at 235 (by decide +kernel) rfl
theorem tw_236 : (Jvm.Cond.selects "SnapshotHeap$Marking" ({ cls := "SnapshotHeap$Marking", name := "isBlack", desc := "(I)Z" } : Jvm.MethodName) ({ cls := "SnapshotHeap$Marking", name := "isBlack", desc := "(I)Z" } : Jvm.MethodName)) ∈ lw_good := tw_at 236 (by decide +kernel) rfl
set_option maxRecDepth 100000 in
theorem tw_237 : (Jvm.Cond.code ({ cls := "SnapshotHeap$Marking", name := "isBlack", desc := "(I)Z" } : Jvm.MethodName) prog_4_method_7_code (2 : Nat) (Option.some Jvm.ClassFile.FieldType.boolean)) ∈ lw_good := tw_at 237 rfl rfl
theorem tw_238 : (Jvm.Cond.methodLink "SnapshotHeap$Collector" (88 : Nat) ({ cls := "SnapshotHeap$Marking", name := "whiten", desc := "(I)V" } : Jvm.MethodName)) ∈ lw_good := tw_at 238 (by decide +kernel) rfl
theorem tw_239 : (Jvm.Cond.instanceMethod ({ cls := "SnapshotHeap$Marking", name := "whiten", desc := "(I)V" } : Jvm.MethodName)) ∈ lw_good := tw_at 239 (by decide +kernel) rfl
theorem tw_240 : (Jvm.Cond.selects "SnapshotHeap$Marking" ({ cls := "SnapshotHeap$Marking", name := "whiten", desc := "(I)V" } : Jvm.MethodName) ({ cls := "SnapshotHeap$Marking", name := "whiten", desc := "(I)V" } : Jvm.MethodName)) ∈ lw_good := tw_at 240 (by decide +kernel) rfl
set_option maxRecDepth 100000 in
theorem tw_241 : (Jvm.Cond.code ({ cls := "SnapshotHeap$Marking", name := "whiten", desc := "(I)V" } : Jvm.MethodName) prog_4_method_8_code (2 : Nat) (Option.none : Option Jvm.ClassFile.FieldType)) ∈ lw_good := tw_at 241 rfl rfl
theorem tw_242 : (Jvm.Cond.methodLink "SnapshotHeap$Collector" (91 : Nat) ({ cls := "SnapshotHeap$Store", name := "isFree", desc := "(I)Z" } : Jvm.MethodName)) ∈ lw_good := tw_at 242 (by decide +kernel) rfl
theorem tw_243 : (Jvm.Cond.instanceMethod ({ cls := "SnapshotHeap$Store", name := "isFree", desc := "(I)Z" } : Jvm.MethodName)) ∈ lw_good := tw_at 243 (by decide +kernel) rfl
theorem tw_244 : (Jvm.Cond.selects "SnapshotHeap$Store" ({ cls := "SnapshotHeap$Store", name := "isFree", desc := "(I)Z" } : Jvm.MethodName) ({ cls := "SnapshotHeap$Store", name := "isFree", desc := "(I)Z" } : Jvm.MethodName)) ∈ lw_good := tw_at 244 (by decide +kernel) rfl
set_option maxRecDepth 100000 in
theorem tw_245 : (Jvm.Cond.code ({ cls := "SnapshotHeap$Store", name := "isFree", desc := "(I)Z" } : Jvm.MethodName) prog_6_method_3_code (2 : Nat) (Option.some Jvm.ClassFile.FieldType.boolean)) ∈ lw_good := tw_at 245 rfl rfl
theorem tw_246 : (Jvm.Cond.methodLink "SnapshotHeap$Store" (41 : Nat) ({ cls := "SnapshotHeap$Store", name := "isTuplePlace", desc := "(I)Z" } : Jvm.MethodName)) ∈ lw_good := tw_at 246 (by decide +kernel) rfl
theorem tw_247 : (Jvm.Cond.methodLink "SnapshotHeap$Collector" (94 : Nat) ({ cls := "SnapshotHeap$Store", name := "release", desc := "(I)V" } : Jvm.MethodName)) ∈ lw_good := tw_at 247 (by decide +kernel) rfl
theorem tw_248 : (Jvm.Cond.instanceMethod ({ cls := "SnapshotHeap$Store", name := "release", desc := "(I)V" } : Jvm.MethodName)) ∈ lw_good := tw_at 248 (by decide +kernel) rfl
theorem tw_249 : (Jvm.Cond.selects "SnapshotHeap$Store" ({ cls := "SnapshotHeap$Store", name := "release", desc := "(I)V" } : Jvm.MethodName) ({ cls := "SnapshotHeap$Store", name := "release", desc := "(I)V" } : Jvm.MethodName)) ∈ lw_good := tw_at 249 (by decide +kernel) rfl
set_option maxRecDepth 100000 in
theorem tw_250 : (Jvm.Cond.code ({ cls := "SnapshotHeap$Store", name := "release", desc := "(I)V" } : Jvm.MethodName) prog_6_method_11_code (2 : Nat) (Option.none : Option Jvm.ClassFile.FieldType)) ∈ lw_good := tw_at 250 rfl rfl
theorem tw_251 : (Jvm.Cond.methodLink "SnapshotHeap$Store" (67 : Nat) ({ cls := "SnapshotHeap$Store", name := "valuesOf", desc := "(I)I" } : Jvm.MethodName)) ∈ lw_good := tw_at 251 (by decide +kernel) rfl
theorem tw_252 : (Jvm.Cond.methodLink "SnapshotHeap$Store" (45 : Nat) ({ cls := "SnapshotHeap$Store", name := "cellsFor", desc := "(I)I" } : Jvm.MethodName)) ∈ lw_good := tw_at 252 (by decide +kernel) rfl
theorem tw_253 : (Jvm.Cond.static ({ cls := "SnapshotHeap$Store", name := "cellsFor", desc := "(I)I" } : Jvm.MethodName)) ∈ lw_good := tw_at 253 (by decide +kernel) rfl
set_option maxRecDepth 100000 in
theorem tw_254 : (Jvm.Cond.code ({ cls := "SnapshotHeap$Store", name := "cellsFor", desc := "(I)I" } : Jvm.MethodName) prog_6_method_5_code (1 : Nat) (Option.some Jvm.ClassFile.FieldType.int)) ∈ lw_good := tw_at 254 rfl rfl
theorem tw_255 : (Jvm.Cond.methodLink "SnapshotHeap$Collector" (97 : Nat) ({ cls := "SnapshotHeap$Store", name := "top", desc := "()I" } : Jvm.MethodName)) ∈ lw_good := tw_at 255 (by decide +kernel) rfl
theorem tw_256 : (Jvm.Cond.instanceMethod ({ cls := "SnapshotHeap$Store", name := "top", desc := "()I" } : Jvm.MethodName)) ∈ lw_good := tw_at 256 (by decide +kernel) rfl
theorem tw_257 : (Jvm.Cond.selects "SnapshotHeap$Store" ({ cls := "SnapshotHeap$Store", name := "top", desc := "()I" } : Jvm.MethodName) ({ cls := "SnapshotHeap$Store", name := "top", desc := "()I" } : Jvm.MethodName)) ∈ lw_good := tw_at 257 (by decide +kernel) rfl
set_option maxRecDepth 100000 in
theorem tw_258 : (Jvm.Cond.code ({ cls := "SnapshotHeap$Store", name := "top", desc := "()I" } : Jvm.MethodName) prog_6_method_6_code (1 : Nat) (Option.some Jvm.ClassFile.FieldType.int)) ∈ lw_good := tw_at 258 rfl rfl
theorem tw_259 : (Jvm.Cond.methodLink "SnapshotHeap" (112 : Nat) ({ cls := "SnapshotHeap$Walk", name := "run", desc := "()V" } : Jvm.MethodName)) ∈ lw_good := tw_at 259 (by decide +kernel) rfl
theorem tw_260 : (Jvm.Cond.instanceMethod ({ cls := "SnapshotHeap$Walk", name := "run", desc := "()V" } : Jvm.MethodName)) ∈ lw_good := tw_at 260 (by decide +kernel) rfl
theorem tw_261 : (Jvm.Cond.selects "SnapshotHeap$Walk" ({ cls := "SnapshotHeap$Walk", name := "run", desc := "()V" } : Jvm.MethodName) ({ cls := "SnapshotHeap$Walk", name := "run", desc := "()V" } : Jvm.MethodName)) ∈ lw_good := tw_at 261 (by decide +kernel) rfl
set_option maxRecDepth 100000 in
theorem tw_262 : (Jvm.Cond.code ({ cls := "SnapshotHeap$Walk", name := "run", desc := "()V" } : Jvm.MethodName) prog_7_method_6_code (2 : Nat) (Option.none : Option Jvm.ClassFile.FieldType)) ∈ lw_good := tw_at 262 rfl rfl
theorem tw_263 : (Jvm.Cond.methodLink "SnapshotHeap$Walk" (42 : Nat) ({ cls := "java/util/Arrays", name := "fill", desc := "([II)V" } : Jvm.MethodName)) ∈ lw_good := tw_at 263 (by decide +kernel) rfl
theorem tw_264 : (Jvm.Cond.constantLong "SnapshotHeap$Walk" (48 : Nat) (7 : Int64)) ∈ lw_good := tw_at 264 (by decide +kernel) rfl
theorem tw_265 : (Jvm.Cond.methodLink "SnapshotHeap$Walk" (53 : Nat) ({ cls := "SnapshotHeap$Walk", name := "goInto", desc := "(I)V" } : Jvm.MethodName)) ∈ lw_good := tw_at 265 (by decide +kernel) rfl
theorem tn_266 : (Jvm.Cond.privateMethod ({ cls := "SnapshotHeap$Walk", name := "goInto", desc := "(I)V" } : Jvm.MethodName)) ∈ lw_tbl := List.mem_append_right _ (List.mem_of_getElem? (i := 266) (by decide +kernel))
theorem tw_267 : (Jvm.Cond.instanceMethod ({ cls := "SnapshotHeap$Walk", name := "goInto", desc := "(I)V" } : Jvm.MethodName)) ∈ lw_good := tw_at 267 (by decide +kernel) rfl
set_option maxRecDepth 100000 in
theorem tw_268 : (Jvm.Cond.code ({ cls := "SnapshotHeap$Walk", name := "goInto", desc := "(I)V" } : Jvm.MethodName) prog_7_method_10_code (2 : Nat) (Option.none : Option Jvm.ClassFile.FieldType)) ∈ lw_good := tw_at 268 rfl rfl
theorem tw_269 : (Jvm.Cond.methodLink "SnapshotHeap$Walk" (57 : Nat) ({ cls := "SnapshotHeap$Walk", name := "goOn", desc := "()V" } : Jvm.MethodName)) ∈ lw_good := tw_at 269 (by decide +kernel) rfl
theorem tn_270 : (Jvm.Cond.privateMethod ({ cls := "SnapshotHeap$Walk", name := "goOn", desc := "()V" } : Jvm.MethodName)) ∈ lw_tbl := List.mem_append_right _ (List.mem_of_getElem? (i := 270) (by decide +kernel))
theorem tw_271 : (Jvm.Cond.instanceMethod ({ cls := "SnapshotHeap$Walk", name := "goOn", desc := "()V" } : Jvm.MethodName)) ∈ lw_good := tw_at 271 (by decide +kernel) rfl
set_option maxRecDepth 100000 in
theorem tw_272 : (Jvm.Cond.code ({ cls := "SnapshotHeap$Walk", name := "goOn", desc := "()V" } : Jvm.MethodName) prog_7_method_7_code (3 : Nat) (Option.none : Option Jvm.ClassFile.FieldType)) ∈ lw_good := tw_at 272 rfl rfl
theorem tw_273 : (Jvm.Cond.methodLink "SnapshotHeap$Walk" (60 : Nat) ({ cls := "SnapshotHeap$Store", name := "valuesOf", desc := "(I)I" } : Jvm.MethodName)) ∈ lw_good := tw_at 273 (by decide +kernel) rfl
theorem tn_274 : (Jvm.Cond.methodLinkNest "SnapshotHeap$Walk" (64 : Nat) ({ cls := "SnapshotHeap", name := "slotOf", desc := "(II)I" } : Jvm.MethodName) "SnapshotHeap") ∈ lw_tbl := List.mem_append_right _ (List.mem_of_getElem? (i := 274) (by decide +kernel))
theorem tw_275 : (Jvm.Cond.methodLink "SnapshotHeap$Walk" (68 : Nat) ({ cls := "SnapshotHeap$Walk", name := "meet", desc := "(I)V" } : Jvm.MethodName)) ∈ lw_good := tw_at 275 (by decide +kernel) rfl
theorem tn_276 : (Jvm.Cond.privateMethod ({ cls := "SnapshotHeap$Walk", name := "meet", desc := "(I)V" } : Jvm.MethodName)) ∈ lw_tbl := List.mem_append_right _ (List.mem_of_getElem? (i := 276) (by decide +kernel))
theorem tw_277 : (Jvm.Cond.instanceMethod ({ cls := "SnapshotHeap$Walk", name := "meet", desc := "(I)V" } : Jvm.MethodName)) ∈ lw_good := tw_at 277 (by decide +kernel) rfl
set_option maxRecDepth 100000 in
theorem tw_278 : (Jvm.Cond.code ({ cls := "SnapshotHeap$Walk", name := "meet", desc := "(I)V" } : Jvm.MethodName) prog_7_method_8_code (3 : Nat) (Option.none : Option Jvm.ClassFile.FieldType)) ∈ lw_good := tw_at 278 rfl rfl
theorem tw_279 : (Jvm.Cond.methodLink "SnapshotHeap$Walk" (71 : Nat) ({ cls := "SnapshotHeap$Store", name := "placeAt", desc := "(I)I" } : Jvm.MethodName)) ∈ lw_good := tw_at 279 (by decide +kernel) rfl
theorem tw_280 : (Jvm.Cond.methodLink "SnapshotHeap$Walk" (36 : Nat) ({ cls := "SnapshotHeap$Store", name := "isTuplePlace", desc := "(I)Z" } : Jvm.MethodName)) ∈ lw_good := tw_at 280 (by decide +kernel) rfl
theorem tw_281 : (Jvm.Cond.methodLink "SnapshotHeap$Walk" (74 : Nat) ({ cls := "SnapshotHeap$Store", name := "numberAt", desc := "(I)J" } : Jvm.MethodName)) ∈ lw_good := tw_at 281 (by decide +kernel) rfl
theorem tw_282 : (Jvm.Cond.instanceMethod ({ cls := "SnapshotHeap$Store", name := "numberAt", desc := "(I)J" } : Jvm.MethodName)) ∈ lw_good := tw_at 282 (by decide +kernel) rfl
theorem tw_283 : (Jvm.Cond.selects "SnapshotHeap$Store" ({ cls := "SnapshotHeap$Store", name := "numberAt", desc := "(I)J" } : Jvm.MethodName) ({ cls := "SnapshotHeap$Store", name := "numberAt", desc := "(I)J" } : Jvm.MethodName)) ∈ lw_good := tw_at 283 (by decide +kernel) rfl
set_option maxRecDepth 100000 in
theorem tw_284 : (Jvm.Cond.code ({ cls := "SnapshotHeap$Store", name := "numberAt", desc := "(I)J" } : Jvm.MethodName) prog_6_method_13_code (2 : Nat) (Option.some Jvm.ClassFile.FieldType.long)) ∈ lw_good := tw_at 284 rfl rfl
theorem tw_285 : (Jvm.Cond.methodLink "SnapshotHeap$Walk" (78 : Nat) ({ cls := "SnapshotHeap$Walk", name := "mix", desc := "(J)V" } : Jvm.MethodName)) ∈ lw_good := tw_at 285 (by decide +kernel) rfl
theorem tn_286 : (Jvm.Cond.privateMethod ({ cls := "SnapshotHeap$Walk", name := "mix", desc := "(J)V" } : Jvm.MethodName)) ∈ lw_tbl := List.mem_append_right _ (List.mem_of_getElem? (i := 286) (by decide +kernel))
theorem tw_287 : (Jvm.Cond.instanceMethod ({ cls := "SnapshotHeap$Walk", name := "mix", desc := "(J)V" } : Jvm.MethodName)) ∈ lw_good := tw_at 287 (by decide +kernel) rfl
set_option maxRecDepth 100000 in
theorem tw_288 : (Jvm.Cond.code ({ cls := "SnapshotHeap$Walk", name := "mix", desc := "(J)V" } : Jvm.MethodName) prog_7_method_11_code (3 : Nat) (Option.none : Option Jvm.ClassFile.FieldType)) ∈ lw_good := tw_at 288 rfl rfl
theorem tw_289 : (Jvm.Cond.constantLong "SnapshotHeap$Walk" (95 : Nat) (31 : Int64)) ∈ lw_good := tw_at 289 (by decide +kernel) rfl
theorem tw_290 : (Jvm.Cond.methodLink "SnapshotHeap$Walk" (82 : Nat) ({ cls := "SnapshotHeap$Walk", name := "hasMet", desc := "(I)Z" } : Jvm.MethodName)) ∈ lw_good := tw_at 290 (by decide +kernel) rfl
theorem tw_291 : (Jvm.Cond.instanceMethod ({ cls := "SnapshotHeap$Walk", name := "hasMet", desc := "(I)Z" } : Jvm.MethodName)) ∈ lw_good := tw_at 291 (by decide +kernel) rfl
theorem tw_292 : (Jvm.Cond.selects "SnapshotHeap$Walk" ({ cls := "SnapshotHeap$Walk", name := "hasMet", desc := "(I)Z" } : Jvm.MethodName) ({ cls := "SnapshotHeap$Walk", name := "hasMet", desc := "(I)Z" } : Jvm.MethodName)) ∈ lw_good := tw_at 292 (by decide +kernel) rfl
set_option maxRecDepth 100000 in
theorem tw_293 : (Jvm.Cond.code ({ cls := "SnapshotHeap$Walk", name := "hasMet", desc := "(I)Z" } : Jvm.MethodName) prog_7_method_5_code (2 : Nat) (Option.some Jvm.ClassFile.FieldType.boolean)) ∈ lw_good := tw_at 293 rfl rfl
theorem tw_294 : (Jvm.Cond.constantLong "SnapshotHeap$Walk" (85 : Nat) (2 : Int64)) ∈ lw_good := tw_at 294 (by decide +kernel) rfl
theorem tw_295 : (Jvm.Cond.methodLink "SnapshotHeap$Walk" (87 : Nat) ({ cls := "SnapshotHeap$Walk", name := "meetFirst", desc := "(I)V" } : Jvm.MethodName)) ∈ lw_good := tw_at 295 (by decide +kernel) rfl
theorem tn_296 : (Jvm.Cond.privateMethod ({ cls := "SnapshotHeap$Walk", name := "meetFirst", desc := "(I)V" } : Jvm.MethodName)) ∈ lw_tbl := List.mem_append_right _ (List.mem_of_getElem? (i := 296) (by decide +kernel))
theorem tw_297 : (Jvm.Cond.instanceMethod ({ cls := "SnapshotHeap$Walk", name := "meetFirst", desc := "(I)V" } : Jvm.MethodName)) ∈ lw_good := tw_at 297 (by decide +kernel) rfl
set_option maxRecDepth 100000 in
theorem tw_298 : (Jvm.Cond.code ({ cls := "SnapshotHeap$Walk", name := "meetFirst", desc := "(I)V" } : Jvm.MethodName) prog_7_method_9_code (3 : Nat) (Option.none : Option Jvm.ClassFile.FieldType)) ∈ lw_good := tw_at 298 rfl rfl
theorem tw_299 : (Jvm.Cond.methodLink "SnapshotHeap$Walk" (90 : Nat) ({ cls := "SnapshotHeap$Store", name := "cellsFor", desc := "(I)I" } : Jvm.MethodName)) ∈ lw_good := tw_at 299 (by decide +kernel) rfl
theorem tw_300 : (Jvm.Cond.constantLong "SnapshotHeap$Walk" (93 : Nat) (3 : Int64)) ∈ lw_good := tw_at 300 (by decide +kernel) rfl
theorem tw_301 : (Jvm.Cond.methodLink "SnapshotHeap" (122 : Nat) ({ cls := "SnapshotHeap$Walk", name := "hash", desc := "()J" } : Jvm.MethodName)) ∈ lw_good := tw_at 301 (by decide +kernel) rfl
theorem tw_302 : (Jvm.Cond.instanceMethod ({ cls := "SnapshotHeap$Walk", name := "hash", desc := "()J" } : Jvm.MethodName)) ∈ lw_good := tw_at 302 (by decide +kernel) rfl
theorem tw_303 : (Jvm.Cond.selects "SnapshotHeap$Walk" ({ cls := "SnapshotHeap$Walk", name := "hash", desc := "()J" } : Jvm.MethodName) ({ cls := "SnapshotHeap$Walk", name := "hash", desc := "()J" } : Jvm.MethodName)) ∈ lw_good := tw_at 303 (by decide +kernel) rfl
set_option maxRecDepth 100000 in
theorem tw_304 : (Jvm.Cond.code ({ cls := "SnapshotHeap$Walk", name := "hash", desc := "()J" } : Jvm.MethodName) prog_7_method_4_code (1 : Nat) (Option.some Jvm.ClassFile.FieldType.long)) ∈ lw_good := tw_at 304 rfl rfl
theorem tw_305 : (Jvm.Cond.methodLink "SnapshotHeapLaw" (114 : Nat) ({ cls := "SnapshotHeap", name := "collect", desc := "()I" } : Jvm.MethodName)) ∈ lw_good := tw_at 305 (by decide +kernel) rfl
theorem tw_306 : (Jvm.Cond.instanceMethod ({ cls := "SnapshotHeap", name := "collect", desc := "()I" } : Jvm.MethodName)) ∈ lw_good := tw_at 306 (by decide +kernel) rfl
theorem tw_307 : (Jvm.Cond.selects "SnapshotHeap" ({ cls := "SnapshotHeap", name := "collect", desc := "()I" } : Jvm.MethodName) ({ cls := "SnapshotHeap", name := "collect", desc := "()I" } : Jvm.MethodName)) ∈ lw_good := tw_at 307 (by decide +kernel) rfl
set_option maxRecDepth 100000 in
theorem tw_308 : (Jvm.Cond.code ({ cls := "SnapshotHeap", name := "collect", desc := "()I" } : Jvm.MethodName) prog_1_method_14_code (1 : Nat) (Option.some Jvm.ClassFile.FieldType.int)) ∈ lw_good := tw_at 308 rfl rfl
theorem tw_309 : (Jvm.Cond.methodLink "SnapshotHeap" (63 : Nat) ({ cls := "SnapshotHeap$Collector", name := "collectWhole", desc := "()V" } : Jvm.MethodName)) ∈ lw_good := tw_at 309 (by decide +kernel) rfl
theorem tw_310 : (Jvm.Cond.instanceMethod ({ cls := "SnapshotHeap$Collector", name := "collectWhole", desc := "()V" } : Jvm.MethodName)) ∈ lw_good := tw_at 310 (by decide +kernel) rfl
theorem tw_311 : (Jvm.Cond.selects "SnapshotHeap$Collector" ({ cls := "SnapshotHeap$Collector", name := "collectWhole", desc := "()V" } : Jvm.MethodName) ({ cls := "SnapshotHeap$Collector", name := "collectWhole", desc := "()V" } : Jvm.MethodName)) ∈ lw_good := tw_at 311 (by decide +kernel) rfl
set_option maxRecDepth 100000 in
theorem tw_312 : (Jvm.Cond.code ({ cls := "SnapshotHeap$Collector", name := "collectWhole", desc := "()V" } : Jvm.MethodName) prog_3_method_5_code (2 : Nat) (Option.none : Option Jvm.ClassFile.FieldType)) ∈ lw_good := tw_at 312 rfl rfl
theorem tw_313 : (Jvm.Cond.methodLink "SnapshotHeap$Collector" (40 : Nat) ({ cls := "SnapshotHeap$Marking", name := "reset", desc := "()V" } : Jvm.MethodName)) ∈ lw_good := tw_at 313 (by decide +kernel) rfl
theorem tw_314 : (Jvm.Cond.instanceMethod ({ cls := "SnapshotHeap$Marking", name := "reset", desc := "()V" } : Jvm.MethodName)) ∈ lw_good := tw_at 314 (by decide +kernel) rfl
theorem tw_315 : (Jvm.Cond.selects "SnapshotHeap$Marking" ({ cls := "SnapshotHeap$Marking", name := "reset", desc := "()V" } : Jvm.MethodName) ({ cls := "SnapshotHeap$Marking", name := "reset", desc := "()V" } : Jvm.MethodName)) ∈ lw_good := tw_at 315 (by decide +kernel) rfl
set_option maxRecDepth 100000 in
theorem tw_316 : (Jvm.Cond.code ({ cls := "SnapshotHeap$Marking", name := "reset", desc := "()V" } : Jvm.MethodName) prog_4_method_2_code (1 : Nat) (Option.none : Option Jvm.ClassFile.FieldType)) ∈ lw_good := tw_at 316 rfl rfl
theorem tw_317 : (Jvm.Cond.methodLink "SnapshotHeap$Marking" (26 : Nat) ({ cls := "java/util/Arrays", name := "fill", desc := "([II)V" } : Jvm.MethodName)) ∈ lw_good := tw_at 317 (by decide +kernel) rfl
theorem tw_318 : (Jvm.Cond.methodLink "SnapshotHeap" (126 : Nat) ({ cls := "SnapshotHeap$Store", name := "tuples", desc := "()I" } : Jvm.MethodName)) ∈ lw_good := tw_at 318 (by decide +kernel) rfl
theorem tw_319 : (Jvm.Cond.instanceMethod ({ cls := "SnapshotHeap$Store", name := "tuples", desc := "()I" } : Jvm.MethodName)) ∈ lw_good := tw_at 319 (by decide +kernel) rfl
theorem tw_320 : (Jvm.Cond.selects "SnapshotHeap$Store" ({ cls := "SnapshotHeap$Store", name := "tuples", desc := "()I" } : Jvm.MethodName) ({ cls := "SnapshotHeap$Store", name := "tuples", desc := "()I" } : Jvm.MethodName)) ∈ lw_good := tw_at 320 (by decide +kernel) rfl
set_option maxRecDepth 100000 in
theorem tw_321 : (Jvm.Cond.code ({ cls := "SnapshotHeap$Store", name := "tuples", desc := "()I" } : Jvm.MethodName) prog_6_method_7_code (1 : Nat) (Option.some Jvm.ClassFile.FieldType.int)) ∈ lw_good := tw_at 321 rfl rfl
theorem tw_322 : (Jvm.Cond.methodLink "SnapshotHeapLaw" (118 : Nat) ({ cls := "SnapshotHeap", name := "check", desc := "()I" } : Jvm.MethodName)) ∈ lw_good := tw_at 322 (by decide +kernel) rfl
theorem tw_323 : (Jvm.Cond.instanceMethod ({ cls := "SnapshotHeap", name := "check", desc := "()I" } : Jvm.MethodName)) ∈ lw_good := tw_at 323 (by decide +kernel) rfl
theorem tw_324 : (Jvm.Cond.selects "SnapshotHeap" ({ cls := "SnapshotHeap", name := "check", desc := "()I" } : Jvm.MethodName) ({ cls := "SnapshotHeap", name := "check", desc := "()I" } : Jvm.MethodName)) ∈ lw_good := tw_at 324 (by decide +kernel) rfl
set_option maxRecDepth 100000 in
theorem tw_325 : (Jvm.Cond.code ({ cls := "SnapshotHeap", name := "check", desc := "()I" } : Jvm.MethodName) prog_1_method_15_code (1 : Nat) (Option.some Jvm.ClassFile.FieldType.int)) ∈ lw_good := tw_at 325 rfl rfl
theorem tw_326 : (Jvm.Cond.methodLink "SnapshotHeap" (127 : Nat) ({ cls := "SnapshotHeap$Audit", name := "faults", desc := "()I" } : Jvm.MethodName)) ∈ lw_good := tw_at 326 (by decide +kernel) rfl
theorem tw_327 : (Jvm.Cond.instanceMethod ({ cls := "SnapshotHeap$Audit", name := "faults", desc := "()I" } : Jvm.MethodName)) ∈ lw_good := tw_at 327 (by decide +kernel) rfl
theorem tw_328 : (Jvm.Cond.selects "SnapshotHeap$Audit" ({ cls := "SnapshotHeap$Audit", name := "faults", desc := "()I" } : Jvm.MethodName) ({ cls := "SnapshotHeap$Audit", name := "faults", desc := "()I" } : Jvm.MethodName)) ∈ lw_good := tw_at 328 (by decide +kernel) rfl
set_option maxRecDepth 100000 in
theorem tw_329 : (Jvm.Cond.code ({ cls := "SnapshotHeap$Audit", name := "faults", desc := "()I" } : Jvm.MethodName) prog_2_method_2_code (4 : Nat) (Option.some Jvm.ClassFile.FieldType.int)) ∈ lw_good := tw_at 329 rfl rfl
theorem tw_330 : (Jvm.Cond.methodLink "SnapshotHeap$Audit" (36 : Nat) ({ cls := "SnapshotHeap$Walk", name := "run", desc := "()V" } : Jvm.MethodName)) ∈ lw_good := tw_at 330 (by decide +kernel) rfl
theorem tw_331 : (Jvm.Cond.methodLink "SnapshotHeap$Audit" (41 : Nat) ({ cls := "SnapshotHeap$Store", name := "countHolders", desc := "([I)V" } : Jvm.MethodName)) ∈ lw_good := tw_at 331 (by decide +kernel) rfl
theorem tw_332 : (Jvm.Cond.instanceMethod ({ cls := "SnapshotHeap$Store", name := "countHolders", desc := "([I)V" } : Jvm.MethodName)) ∈ lw_good := tw_at 332 (by decide +kernel) rfl
theorem tw_333 : (Jvm.Cond.selects "SnapshotHeap$Store" ({ cls := "SnapshotHeap$Store", name := "countHolders", desc := "([I)V" } : Jvm.MethodName) ({ cls := "SnapshotHeap$Store", name := "countHolders", desc := "([I)V" } : Jvm.MethodName)) ∈ lw_good := tw_at 333 (by decide +kernel) rfl
set_option maxRecDepth 100000 in
theorem tw_334 : (Jvm.Cond.code ({ cls := "SnapshotHeap$Store", name := "countHolders", desc := "([I)V" } : Jvm.MethodName) prog_6_method_18_code (3 : Nat) (Option.none : Option Jvm.ClassFile.FieldType)) ∈ lw_good := tw_at 334 rfl rfl
theorem tw_335 : (Jvm.Cond.methodLink "SnapshotHeap$Store" (56 : Nat) ({ cls := "SnapshotHeap$Store", name := "isFree", desc := "(I)Z" } : Jvm.MethodName)) ∈ lw_good := tw_at 335 (by decide +kernel) rfl
theorem tw_336 : (Jvm.Cond.methodLink "SnapshotHeap$Audit" (47 : Nat) ({ cls := "SnapshotHeap$Audit", name := "markToTheEnd", desc := "()V" } : Jvm.MethodName)) ∈ lw_good := tw_at 336 (by decide +kernel) rfl
theorem tn_337 : (Jvm.Cond.privateMethod ({ cls := "SnapshotHeap$Audit", name := "markToTheEnd", desc := "()V" } : Jvm.MethodName)) ∈ lw_tbl := List.mem_append_right _ (List.mem_of_getElem? (i := 337) (by decide +kernel))
theorem tw_338 : (Jvm.Cond.instanceMethod ({ cls := "SnapshotHeap$Audit", name := "markToTheEnd", desc := "()V" } : Jvm.MethodName)) ∈ lw_good := tw_at 338 (by decide +kernel) rfl
set_option maxRecDepth 100000 in
theorem tw_339 : (Jvm.Cond.code ({ cls := "SnapshotHeap$Audit", name := "markToTheEnd", desc := "()V" } : Jvm.MethodName) prog_2_method_3_code (3 : Nat) (Option.none : Option Jvm.ClassFile.FieldType)) ∈ lw_good := tw_at 339 rfl rfl
theorem tw_340 : (Jvm.Cond.methodLink "SnapshotHeap$Audit" (64 : Nat) ({ cls := "SnapshotHeap$Collector", name := "marking", desc := "()LSnapshotHeap$Marking;" } : Jvm.MethodName)) ∈ lw_good := tw_at 340 (by decide +kernel) rfl
theorem tw_341 : (Jvm.Cond.instanceMethod ({ cls := "SnapshotHeap$Collector", name := "marking", desc := "()LSnapshotHeap$Marking;" } : Jvm.MethodName)) ∈ lw_good := tw_at 341 (by decide +kernel) rfl
theorem tw_342 : (Jvm.Cond.selects "SnapshotHeap$Collector" ({ cls := "SnapshotHeap$Collector", name := "marking", desc := "()LSnapshotHeap$Marking;" } : Jvm.MethodName) ({ cls := "SnapshotHeap$Collector", name := "marking", desc := "()LSnapshotHeap$Marking;" } : Jvm.MethodName)) ∈ lw_good := tw_at 342 (by decide +kernel) rfl
set_option maxRecDepth 100000 in
theorem tw_343 : (Jvm.Cond.code ({ cls := "SnapshotHeap$Collector", name := "marking", desc := "()LSnapshotHeap$Marking;" } : Jvm.MethodName) prog_3_method_3_code (1 : Nat) (Option.some (Jvm.ClassFile.FieldType.object "SnapshotHeap$Marking"))) ∈ lw_good := tw_at 343 rfl rfl
theorem tw_344 : (Jvm.Cond.methodLink "SnapshotHeap$Audit" (70 : Nat) ({ cls := "SnapshotHeap$Marking", name := "imitate", desc := "(LSnapshotHeap$Marking;)V" } : Jvm.MethodName)) ∈ lw_good := tw_at 344 (by decide +kernel) rfl
theorem tw_345 : (Jvm.Cond.instanceMethod ({ cls := "SnapshotHeap$Marking", name := "imitate", desc := "(LSnapshotHeap$Marking;)V" } : Jvm.MethodName)) ∈ lw_good := tw_at 345 (by decide +kernel) rfl
theorem tw_346 : (Jvm.Cond.selects "SnapshotHeap$Marking" ({ cls := "SnapshotHeap$Marking", name := "imitate", desc := "(LSnapshotHeap$Marking;)V" } : Jvm.MethodName) ({ cls := "SnapshotHeap$Marking", name := "imitate", desc := "(LSnapshotHeap$Marking;)V" } : Jvm.MethodName)) ∈ lw_good := tw_at 346 (by decide +kernel) rfl
set_option maxRecDepth 100000 in
theorem tw_347 : (Jvm.Cond.code ({ cls := "SnapshotHeap$Marking", name := "imitate", desc := "(LSnapshotHeap$Marking;)V" } : Jvm.MethodName) prog_4_method_3_code (2 : Nat) (Option.none : Option Jvm.ClassFile.FieldType)) ∈ lw_good := tw_at 347 rfl rfl
theorem tw_348 : (Jvm.Cond.methodLink "SnapshotHeap$Marking" (32 : Nat) ({ cls := "java/lang/System", name := "arraycopy", desc := "(Ljava/lang/Object;ILjava/lang/Object;II)V" } : Jvm.MethodName)) ∈ lw_good := tw_at 348 (by decide +kernel) rfl
theorem tw_349 : (Jvm.Cond.static ({ cls := "java/lang/System", name := "arraycopy", desc := "(Ljava/lang/Object;ILjava/lang/Object;II)V" } : Jvm.MethodName)) ∈ lw_good := tw_at 349 (by decide +kernel) rfl
theorem tw_350 : (Jvm.Cond.native ({ cls := "java/lang/System", name := "arraycopy", desc := "(Ljava/lang/Object;ILjava/lang/Object;II)V" } : Jvm.MethodName)) ∈ lw_good := tw_at 350 (by decide +kernel) rfl
theorem tw_351 : (Jvm.Cond.methodLink "SnapshotHeap$Audit" (74 : Nat) ({ cls := "SnapshotHeap$Collector", name := "phase", desc := "()LSnapshotHeap$Phase;" } : Jvm.MethodName)) ∈ lw_good := tw_at 351 (by decide +kernel) rfl
theorem tw_352 : (Jvm.Cond.instanceMethod ({ cls := "SnapshotHeap$Collector", name := "phase", desc := "()LSnapshotHeap$Phase;" } : Jvm.MethodName)) ∈ lw_good := tw_at 352 (by decide +kernel) rfl
theorem tw_353 : (Jvm.Cond.selects "SnapshotHeap$Collector" ({ cls := "SnapshotHeap$Collector", name := "phase", desc := "()LSnapshotHeap$Phase;" } : Jvm.MethodName) ({ cls := "SnapshotHeap$Collector", name := "phase", desc := "()LSnapshotHeap$Phase;" } : Jvm.MethodName)) ∈ lw_good := tw_at 353 (by decide +kernel) rfl
set_option maxRecDepth 100000 in
theorem tw_354 : (Jvm.Cond.code ({ cls := "SnapshotHeap$Collector", name := "phase", desc := "()LSnapshotHeap$Phase;" } : Jvm.MethodName) prog_3_method_2_code (1 : Nat) (Option.some (Jvm.ClassFile.FieldType.object "SnapshotHeap$Phase"))) ∈ lw_good := tw_at 354 rfl rfl
theorem tw_355 : (Jvm.Cond.fieldLink "SnapshotHeap$Audit" (78 : Nat) "SnapshotHeap$Phase" "MARKING" "LSnapshotHeap$Phase;") ∈ lw_good := tw_at 355 (by decide +kernel) rfl
theorem tw_356 : (Jvm.Cond.methodLink "SnapshotHeap$Audit" (84 : Nat) ({ cls := "SnapshotHeap$Marking", name := "isDone", desc := "()Z" } : Jvm.MethodName)) ∈ lw_good := tw_at 356 (by decide +kernel) rfl
theorem tw_357 : (Jvm.Cond.methodLink "SnapshotHeap$Audit" (88 : Nat) ({ cls := "SnapshotHeap$Marking", name := "markOne", desc := "()V" } : Jvm.MethodName)) ∈ lw_good := tw_at 357 (by decide +kernel) rfl
theorem tw_358 : (Jvm.Cond.methodLink "SnapshotHeap$Audit" (50 : Nat) ({ cls := "SnapshotHeap$Store", name := "top", desc := "()I" } : Jvm.MethodName)) ∈ lw_good := tw_at 358 (by decide +kernel) rfl
theorem tw_359 : (Jvm.Cond.methodLink "SnapshotHeap$Audit" (54 : Nat) ({ cls := "SnapshotHeap$Walk", name := "hasMet", desc := "(I)Z" } : Jvm.MethodName)) ∈ lw_good := tw_at 359 (by decide +kernel) rfl
theorem tw_360 : (Jvm.Cond.methodLink "SnapshotHeap$Audit" (58 : Nat) ({ cls := "SnapshotHeap$Store", name := "isFree", desc := "(I)Z" } : Jvm.MethodName)) ∈ lw_good := tw_at 360 (by decide +kernel) rfl
theorem tw_361 : (Jvm.Cond.methodLink "SnapshotHeap$Audit" (61 : Nat) ({ cls := "SnapshotHeap$Audit", name := "isMarkWrong", desc := "(I)Z" } : Jvm.MethodName)) ∈ lw_good := tw_at 361 (by decide +kernel) rfl
theorem tn_362 : (Jvm.Cond.privateMethod ({ cls := "SnapshotHeap$Audit", name := "isMarkWrong", desc := "(I)Z" } : Jvm.MethodName)) ∈ lw_tbl := List.mem_append_right _ (List.mem_of_getElem? (i := 362) (by decide +kernel))
theorem tw_363 : (Jvm.Cond.instanceMethod ({ cls := "SnapshotHeap$Audit", name := "isMarkWrong", desc := "(I)Z" } : Jvm.MethodName)) ∈ lw_good := tw_at 363 (by decide +kernel) rfl
set_option maxRecDepth 100000 in
theorem tw_364 : (Jvm.Cond.code ({ cls := "SnapshotHeap$Audit", name := "isMarkWrong", desc := "(I)Z" } : Jvm.MethodName) prog_2_method_4_code (2 : Nat) (Option.some Jvm.ClassFile.FieldType.boolean)) ∈ lw_good := tw_at 364 rfl rfl
theorem tw_365 : (Jvm.Cond.methodLink "SnapshotHeap$Audit" (91 : Nat) ({ cls := "SnapshotHeap$Audit", name := "isMarkInUse", desc := "(I)Z" } : Jvm.MethodName)) ∈ lw_good := tw_at 365 (by decide +kernel) rfl
theorem tn_366 : (Jvm.Cond.privateMethod ({ cls := "SnapshotHeap$Audit", name := "isMarkInUse", desc := "(I)Z" } : Jvm.MethodName)) ∈ lw_tbl := List.mem_append_right _ (List.mem_of_getElem? (i := 366) (by decide +kernel))
theorem tw_367 : (Jvm.Cond.instanceMethod ({ cls := "SnapshotHeap$Audit", name := "isMarkInUse", desc := "(I)Z" } : Jvm.MethodName)) ∈ lw_good := tw_at 367 (by decide +kernel) rfl
set_option maxRecDepth 100000 in
theorem tw_368 : (Jvm.Cond.code ({ cls := "SnapshotHeap$Audit", name := "isMarkInUse", desc := "(I)Z" } : Jvm.MethodName) prog_2_method_5_code (2 : Nat) (Option.some Jvm.ClassFile.FieldType.boolean)) ∈ lw_good := tw_at 368 rfl rfl
theorem tw_369 : (Jvm.Cond.methodLink "SnapshotHeap$Audit" (103 : Nat) ({ cls := "SnapshotHeap$Collector", name := "isYetToBeSwept", desc := "(I)Z" } : Jvm.MethodName)) ∈ lw_good := tw_at 369 (by decide +kernel) rfl
theorem tw_370 : (Jvm.Cond.instanceMethod ({ cls := "SnapshotHeap$Collector", name := "isYetToBeSwept", desc := "(I)Z" } : Jvm.MethodName)) ∈ lw_good := tw_at 370 (by decide +kernel) rfl
theorem tw_371 : (Jvm.Cond.selects "SnapshotHeap$Collector" ({ cls := "SnapshotHeap$Collector", name := "isYetToBeSwept", desc := "(I)Z" } : Jvm.MethodName) ({ cls := "SnapshotHeap$Collector", name := "isYetToBeSwept", desc := "(I)Z" } : Jvm.MethodName)) ∈ lw_good := tw_at 371 (by decide +kernel) rfl
set_option maxRecDepth 100000 in
theorem tw_372 : (Jvm.Cond.code ({ cls := "SnapshotHeap$Collector", name := "isYetToBeSwept", desc := "(I)Z" } : Jvm.MethodName) prog_3_method_8_code (2 : Nat) (Option.some Jvm.ClassFile.FieldType.boolean)) ∈ lw_good := tw_at 372 rfl rfl
theorem tw_373 : (Jvm.Cond.methodLink "SnapshotHeap$Audit" (94 : Nat) ({ cls := "SnapshotHeap$Marking", name := "isWhite", desc := "(I)Z" } : Jvm.MethodName)) ∈ lw_good := tw_at 373 (by decide +kernel) rfl
theorem tw_374 : (Jvm.Cond.instanceMethod ({ cls := "SnapshotHeap$Marking", name := "isWhite", desc := "(I)Z" } : Jvm.MethodName)) ∈ lw_good := tw_at 374 (by decide +kernel) rfl
theorem tw_375 : (Jvm.Cond.selects "SnapshotHeap$Marking" ({ cls := "SnapshotHeap$Marking", name := "isWhite", desc := "(I)Z" } : Jvm.MethodName) ({ cls := "SnapshotHeap$Marking", name := "isWhite", desc := "(I)Z" } : Jvm.MethodName)) ∈ lw_good := tw_at 375 (by decide +kernel) rfl
set_option maxRecDepth 100000 in
theorem tw_376 : (Jvm.Cond.code ({ cls := "SnapshotHeap$Marking", name := "isWhite", desc := "(I)Z" } : Jvm.MethodName) prog_4_method_5_code (2 : Nat) (Option.some Jvm.ClassFile.FieldType.boolean)) ∈ lw_good := tw_at 376 rfl rfl
theorem tw_377 : (Jvm.Cond.methodLink "SnapshotHeap$Audit" (97 : Nat) ({ cls := "SnapshotHeap$Marking", name := "isGrey", desc := "(I)Z" } : Jvm.MethodName)) ∈ lw_good := tw_at 377 (by decide +kernel) rfl
theorem tw_378 : (Jvm.Cond.instanceMethod ({ cls := "SnapshotHeap$Marking", name := "isGrey", desc := "(I)Z" } : Jvm.MethodName)) ∈ lw_good := tw_at 378 (by decide +kernel) rfl
theorem tw_379 : (Jvm.Cond.selects "SnapshotHeap$Marking" ({ cls := "SnapshotHeap$Marking", name := "isGrey", desc := "(I)Z" } : Jvm.MethodName) ({ cls := "SnapshotHeap$Marking", name := "isGrey", desc := "(I)Z" } : Jvm.MethodName)) ∈ lw_good := tw_at 379 (by decide +kernel) rfl
set_option maxRecDepth 100000 in
theorem tw_380 : (Jvm.Cond.code ({ cls := "SnapshotHeap$Marking", name := "isGrey", desc := "(I)Z" } : Jvm.MethodName) prog_4_method_6_code (2 : Nat) (Option.some Jvm.ClassFile.FieldType.boolean)) ∈ lw_good := tw_at 380 rfl rfl
theorem tw_381 : (Jvm.Cond.methodLink "SnapshotHeap$Audit" (100 : Nat) ({ cls := "SnapshotHeap$Marking", name := "isBlack", desc := "(I)Z" } : Jvm.MethodName)) ∈ lw_good := tw_at 381 (by decide +kernel) rfl
theorem tw_382 : (Jvm.Cond.methodLink "SnapshotHeapLaw" (62 : Nat) ({ cls := "SnapshotHeapLaw", name := "tuple", desc := "(LSnapshotHeap;II[J)I" } : Jvm.MethodName)) ∈ lw_good := tw_at 382 (by decide +kernel) rfl
theorem tw_383 : (Jvm.Cond.static ({ cls := "SnapshotHeapLaw", name := "tuple", desc := "(LSnapshotHeap;II[J)I" } : Jvm.MethodName)) ∈ lw_good := tw_at 383 (by decide +kernel) rfl
set_option maxRecDepth 100000 in
theorem tw_384 : (Jvm.Cond.codeWith ({ cls := "SnapshotHeapLaw", name := "tuple", desc := "(LSnapshotHeap;II[J)I" } : Jvm.MethodName) method_3_code (5 : Nat) (Option.some Jvm.ClassFile.FieldType.int) [((0 : Nat), (10 : Nat), (13 : Nat), (13 : Nat)), ((0 : Nat), (10 : Nat), (17 : Nat), (15 : Nat)), ((0 : Nat), (10 : Nat), (21 : Nat), (17 : Nat))]) ∈ lw_good := tw_at 384 rfl rfl
theorem tw_385 : (Jvm.Cond.classLink "SnapshotHeapLaw" (13 : Nat) "java/lang/IndexOutOfBoundsException") ∈ lw_good := tw_at 385 (by decide +kernel) rfl
theorem tw_386 : (Jvm.Cond.classLink "SnapshotHeapLaw" (15 : Nat) "java/lang/IllegalArgumentException") ∈ lw_good := tw_at 386 (by decide +kernel) rfl
theorem tw_387 : (Jvm.Cond.classLink "SnapshotHeapLaw" (17 : Nat) "java/lang/IllegalStateException") ∈ lw_good := tw_at 387 (by decide +kernel) rfl
theorem tw_388 : (Jvm.Cond.methodLink "SnapshotHeapLaw" (7 : Nat) ({ cls := "SnapshotHeap", name := "tuple", desc := "(II)I" } : Jvm.MethodName)) ∈ lw_good := tw_at 388 (by decide +kernel) rfl
theorem tw_389 : (Jvm.Cond.instanceMethod ({ cls := "SnapshotHeap", name := "tuple", desc := "(II)I" } : Jvm.MethodName)) ∈ lw_good := tw_at 389 (by decide +kernel) rfl
theorem tw_390 : (Jvm.Cond.selects "SnapshotHeap" ({ cls := "SnapshotHeap", name := "tuple", desc := "(II)I" } : Jvm.MethodName) ({ cls := "SnapshotHeap", name := "tuple", desc := "(II)I" } : Jvm.MethodName)) ∈ lw_good := tw_at 390 (by decide +kernel) rfl
set_option maxRecDepth 100000 in
theorem tw_391 : (Jvm.Cond.code ({ cls := "SnapshotHeap", name := "tuple", desc := "(II)I" } : Jvm.MethodName) prog_1_method_2_code (3 : Nat) (Option.some Jvm.ClassFile.FieldType.int)) ∈ lw_good := tw_at 391 rfl rfl
theorem tw_392 : (Jvm.Cond.methodLink "SnapshotHeap" (52 : Nat) ({ cls := "SnapshotHeap", name := "requireRoot", desc := "(I)V" } : Jvm.MethodName)) ∈ lw_good := tw_at 392 (by decide +kernel) rfl
theorem tw_393 : (Jvm.Cond.static ({ cls := "SnapshotHeap", name := "requireRoot", desc := "(I)V" } : Jvm.MethodName)) ∈ lw_good := tw_at 393 (by decide +kernel) rfl
set_option maxRecDepth 100000 in
theorem tw_394 : (Jvm.Cond.code ({ cls := "SnapshotHeap", name := "requireRoot", desc := "(I)V" } : Jvm.MethodName) prog_1_method_16_code (1 : Nat) (Option.none : Option Jvm.ClassFile.FieldType)) ∈ lw_good := tw_at 394 rfl rfl
theorem tw_395 : (Jvm.Cond.classLink "SnapshotHeap" (130 : Nat) "java/lang/IndexOutOfBoundsException") ∈ lw_good := tw_at 395 (by decide +kernel) rfl
theorem tw_396 : (Jvm.Cond.instantiable "java/lang/IndexOutOfBoundsException" (6 : Nat)) ∈ lw_good := tw_at 396 (by decide +kernel) rfl
theorem tn_397 : (Jvm.Cond.castable "java/lang/IndexOutOfBoundsException" "java/lang/IndexOutOfBoundsException") ∈ lw_tbl := List.mem_append_right _ (List.mem_of_getElem? (i := 397) (by decide +kernel))
theorem tn_398 : (Jvm.Cond.declares ({ cls := "java/lang/RuntimeException", name := "<init>", desc := "()V" } : Jvm.MethodName)) ∈ lw_tbl := List.mem_append_right _ (List.mem_of_getElem? (i := 398) (by decide +kernel))
theorem tn_399 : (Jvm.Cond.declares ({ cls := "java/lang/RuntimeException", name := "<init>", desc := "(Ljava/lang/String;)V" } : Jvm.MethodName)) ∈ lw_tbl := List.mem_append_right _ (List.mem_of_getElem? (i := 399) (by decide +kernel))
theorem tn_400 : (Jvm.Cond.declares ({ cls := "java/lang/Exception", name := "<init>", desc := "()V" } : Jvm.MethodName)) ∈ lw_tbl := List.mem_append_right _ (List.mem_of_getElem? (i := 400) (by decide +kernel))
theorem tn_401 : (Jvm.Cond.declares ({ cls := "java/lang/Exception", name := "<init>", desc := "(Ljava/lang/String;)V" } : Jvm.MethodName)) ∈ lw_tbl := List.mem_append_right _ (List.mem_of_getElem? (i := 401) (by decide +kernel))
theorem tn_402 : (Jvm.Cond.declares ({ cls := "java/lang/Throwable", name := "<init>", desc := "()V" } : Jvm.MethodName)) ∈ lw_tbl := List.mem_append_right _ (List.mem_of_getElem? (i := 402) (by decide +kernel))
theorem tn_403 : (Jvm.Cond.declares ({ cls := "java/lang/Throwable", name := "<init>", desc := "(Ljava/lang/String;)V" } : Jvm.MethodName)) ∈ lw_tbl := List.mem_append_right _ (List.mem_of_getElem? (i := 403) (by decide +kernel))
theorem tw_404 : (Jvm.Cond.selects "java/lang/IndexOutOfBoundsException" ({ cls := "java/lang/Throwable", name := "fillInStackTrace", desc := "(I)Ljava/lang/Throwable;" } : Jvm.MethodName) ({ cls := "java/lang/Throwable", name := "fillInStackTrace", desc := "(I)Ljava/lang/Throwable;" } : Jvm.MethodName)) ∈ lw_good := tw_at 404 (by decide +kernel) rfl
theorem tw_405 : (Jvm.Cond.selects "java/lang/IndexOutOfBoundsException" ({ cls := "java/lang/Throwable", name := "fillInStackTrace", desc := "()Ljava/lang/Throwable;" } : Jvm.MethodName) ({ cls := "java/lang/Throwable", name := "fillInStackTrace", desc := "()Ljava/lang/Throwable;" } : Jvm.MethodName)) ∈ lw_good := tw_at 405 (by decide +kernel) rfl
theorem tw_406 : (Jvm.Cond.lays "java/lang/IndexOutOfBoundsException" "java/lang/Throwable" "cause" "Ljava/lang/Throwable;") ∈ lw_good := tw_at 406 (by decide +kernel) rfl
theorem tw_407 : (Jvm.Cond.lays "java/lang/Throwable" "java/lang/Throwable" "cause" "Ljava/lang/Throwable;") ∈ lw_good := tw_at 407 (by decide +kernel) rfl
theorem tw_408 : (Jvm.Cond.lays "java/lang/IndexOutOfBoundsException" "java/lang/Throwable" "stackTrace" "[Ljava/lang/StackTraceElement;") ∈ lw_good := tw_at 408 (by decide +kernel) rfl
theorem tw_409 : (Jvm.Cond.lays "java/lang/Throwable" "java/lang/Throwable" "stackTrace" "[Ljava/lang/StackTraceElement;") ∈ lw_good := tw_at 409 (by decide +kernel) rfl
theorem tw_410 : (Jvm.Cond.lays "java/lang/IndexOutOfBoundsException" "java/lang/Throwable" "suppressedExceptions" "Ljava/util/List;") ∈ lw_good := tw_at 410 (by decide +kernel) rfl
theorem tw_411 : (Jvm.Cond.lays "java/lang/Throwable" "java/lang/Throwable" "suppressedExceptions" "Ljava/util/List;") ∈ lw_good := tw_at 411 (by decide +kernel) rfl
theorem tw_412 : (Jvm.Cond.lays "java/lang/IndexOutOfBoundsException" "java/lang/Throwable" "detailMessage" "Ljava/lang/String;") ∈ lw_good := tw_at 412 (by decide +kernel) rfl
theorem tw_413 : (Jvm.Cond.lays "java/lang/Throwable" "java/lang/Throwable" "detailMessage" "Ljava/lang/String;") ∈ lw_good := tw_at 413 (by decide +kernel) rfl
theorem tw_414 : (Jvm.Cond.lays "java/lang/IndexOutOfBoundsException" "java/lang/Throwable" "backtrace" "Ljava/lang/Object;") ∈ lw_good := tw_at 414 (by decide +kernel) rfl
theorem tw_415 : (Jvm.Cond.lays "java/lang/Throwable" "java/lang/Throwable" "backtrace" "Ljava/lang/Object;") ∈ lw_good := tw_at 415 (by decide +kernel) rfl
theorem tw_416 : (Jvm.Cond.fieldLink "java/lang/Throwable" (198 : Nat) "java/lang/Throwable" "backtrace" "Ljava/lang/Object;") ∈ lw_good := tw_at 416 (by decide +kernel) rfl
theorem tw_417 : (Jvm.Cond.superclass "java/lang/Throwable" "java/lang/Object") ∈ lw_good := tw_at 417 (by decide +kernel) rfl
theorem tw_418 : (Jvm.Cond.instanceMethod ({ cls := "java/lang/Throwable", name := "<init>", desc := "()V" } : Jvm.MethodName)) ∈ lw_good := tw_at 418 (by decide +kernel) rfl
set_option maxRecDepth 100000 in
theorem tw_419 : (Jvm.Cond.code ({ cls := "java/lang/Throwable", name := "<init>", desc := "()V" } : Jvm.MethodName) prog_18_method_1_code (1 : Nat) (Option.none : Option Jvm.ClassFile.FieldType)) ∈ lw_good := tw_at 419 rfl rfl
theorem tw_420 : (Jvm.Cond.methodLink "java/lang/Throwable" (1 : Nat) ({ cls := "java/lang/Object", name := "<init>", desc := "()V" } : Jvm.MethodName)) ∈ lw_good := tw_at 420 (by decide +kernel) rfl
theorem tw_421 : (Jvm.Cond.fieldLink "java/lang/Throwable" (13 : Nat) "java/lang/Throwable" "UNASSIGNED_STACK" "[Ljava/lang/StackTraceElement;") ∈ lw_good := tw_at 421 (by decide +kernel) rfl
theorem tn_422 : (Jvm.Cond.laysStatic "java/lang/Throwable" "UNASSIGNED_STACK" "[Ljava/lang/StackTraceElement;") ∈ lw_tbl := List.mem_append_right _ (List.mem_of_getElem? (i := 422) (by decide +kernel))
theorem tw_423 : (Jvm.Cond.fieldLink "java/lang/Throwable" (20 : Nat) "java/lang/Throwable" "SUPPRESSED_SENTINEL" "Ljava/util/List;") ∈ lw_good := tw_at 423 (by decide +kernel) rfl
theorem tn_424 : (Jvm.Cond.laysStatic "java/lang/Throwable" "SUPPRESSED_SENTINEL" "Ljava/util/List;") ∈ lw_tbl := List.mem_append_right _ (List.mem_of_getElem? (i := 424) (by decide +kernel))
theorem tw_425 : (Jvm.Cond.methodLink "java/lang/Throwable" (27 : Nat) ({ cls := "java/lang/Throwable", name := "fillInStackTrace", desc := "()Ljava/lang/Throwable;" } : Jvm.MethodName)) ∈ lw_good := tw_at 425 (by decide +kernel) rfl
theorem tw_426 : (Jvm.Cond.instanceMethod ({ cls := "java/lang/Throwable", name := "fillInStackTrace", desc := "()Ljava/lang/Throwable;" } : Jvm.MethodName)) ∈ lw_good := tw_at 426 (by decide +kernel) rfl
theorem tw_427 : (Jvm.Cond.sameMethod "java/lang/Throwable" "java/lang/Throwable" "fillInStackTrace" "()Ljava/lang/Throwable;") ∈ lw_good := tw_at 427 (by decide +kernel) rfl
theorem tw_428 : (Jvm.Cond.selects "java/lang/IllegalArgumentException" ({ cls := "java/lang/Throwable", name := "fillInStackTrace", desc := "()Ljava/lang/Throwable;" } : Jvm.MethodName) ({ cls := "java/lang/Throwable", name := "fillInStackTrace", desc := "()Ljava/lang/Throwable;" } : Jvm.MethodName)) ∈ lw_good := tw_at 428 (by decide +kernel) rfl
theorem tw_429 : (Jvm.Cond.selects "java/lang/IllegalStateException" ({ cls := "java/lang/Throwable", name := "fillInStackTrace", desc := "()Ljava/lang/Throwable;" } : Jvm.MethodName) ({ cls := "java/lang/Throwable", name := "fillInStackTrace", desc := "()Ljava/lang/Throwable;" } : Jvm.MethodName)) ∈ lw_good := tw_at 429 (by decide +kernel) rfl
theorem tw_430 : (Jvm.Cond.selects "java/util/NoSuchElementException" ({ cls := "java/lang/Throwable", name := "fillInStackTrace", desc := "()Ljava/lang/Throwable;" } : Jvm.MethodName) ({ cls := "java/lang/Throwable", name := "fillInStackTrace", desc := "()Ljava/lang/Throwable;" } : Jvm.MethodName)) ∈ lw_good := tw_at 430 (by decide +kernel) rfl
set_option maxRecDepth 100000 in
theorem tw_431 : (Jvm.Cond.codeSync ({ cls := "java/lang/Throwable", name := "fillInStackTrace", desc := "()Ljava/lang/Throwable;" } : Jvm.MethodName) prog_18_method_18_code (1 : Nat) (Option.some (Jvm.ClassFile.FieldType.object "java/lang/Throwable"))) ∈ lw_good := tw_at 431 rfl rfl
theorem tw_432 : (Jvm.Cond.methodLink "java/lang/Throwable" (202 : Nat) ({ cls := "java/lang/Throwable", name := "fillInStackTrace", desc := "(I)Ljava/lang/Throwable;" } : Jvm.MethodName)) ∈ lw_good := tw_at 432 (by decide +kernel) rfl
theorem tn_433 : (Jvm.Cond.privateMethod ({ cls := "java/lang/Throwable", name := "fillInStackTrace", desc := "(I)Ljava/lang/Throwable;" } : Jvm.MethodName)) ∈ lw_tbl := List.mem_append_right _ (List.mem_of_getElem? (i := 433) (by decide +kernel))
theorem tw_434 : (Jvm.Cond.instanceMethod ({ cls := "java/lang/Throwable", name := "fillInStackTrace", desc := "(I)Ljava/lang/Throwable;" } : Jvm.MethodName)) ∈ lw_good := tw_at 434 (by decide +kernel) rfl
theorem tw_435 : (Jvm.Cond.instantiable "java/lang/Throwable" (6 : Nat)) ∈ lw_good := tw_at 435 (by decide +kernel) rfl
theorem tw_436 : (Jvm.Cond.native ({ cls := "java/lang/Throwable", name := "fillInStackTrace", desc := "(I)Ljava/lang/Throwable;" } : Jvm.MethodName)) ∈ lw_good := tw_at 436 (by decide +kernel) rfl
theorem tn_437 : (Jvm.Cond.stringRef "SnapshotHeap" (132 : Nat) "no such root") ∈ lw_tbl := List.mem_append_right _ (List.mem_of_getElem? (i := 437) (by decide +kernel))
theorem tw_438 : (Jvm.Cond.methodLink "SnapshotHeap" (134 : Nat) ({ cls := "java/lang/IndexOutOfBoundsException", name := "<init>", desc := "(Ljava/lang/String;)V" } : Jvm.MethodName)) ∈ lw_good := tw_at 438 (by decide +kernel) rfl
theorem tw_439 : (Jvm.Cond.instanceMethod ({ cls := "java/lang/IndexOutOfBoundsException", name := "<init>", desc := "(Ljava/lang/String;)V" } : Jvm.MethodName)) ∈ lw_good := tw_at 439 (by decide +kernel) rfl
set_option maxRecDepth 100000 in
theorem tw_440 : (Jvm.Cond.code ({ cls := "java/lang/IndexOutOfBoundsException", name := "<init>", desc := "(Ljava/lang/String;)V" } : Jvm.MethodName) prog_14_method_2_code (2 : Nat) (Option.none : Option Jvm.ClassFile.FieldType)) ∈ lw_good := tw_at 440 rfl rfl
theorem tw_441 : (Jvm.Cond.methodLink "java/lang/IndexOutOfBoundsException" (7 : Nat) ({ cls := "java/lang/RuntimeException", name := "<init>", desc := "(Ljava/lang/String;)V" } : Jvm.MethodName)) ∈ lw_good := tw_at 441 (by decide +kernel) rfl
theorem tw_442 : (Jvm.Cond.instanceMethod ({ cls := "java/lang/RuntimeException", name := "<init>", desc := "(Ljava/lang/String;)V" } : Jvm.MethodName)) ∈ lw_good := tw_at 442 (by decide +kernel) rfl
set_option maxRecDepth 100000 in
theorem tw_443 : (Jvm.Cond.code ({ cls := "java/lang/RuntimeException", name := "<init>", desc := "(Ljava/lang/String;)V" } : Jvm.MethodName) prog_15_method_2_code (2 : Nat) (Option.none : Option Jvm.ClassFile.FieldType)) ∈ lw_good := tw_at 443 rfl rfl
theorem tw_444 : (Jvm.Cond.methodLink "java/lang/RuntimeException" (7 : Nat) ({ cls := "java/lang/Exception", name := "<init>", desc := "(Ljava/lang/String;)V" } : Jvm.MethodName)) ∈ lw_good := tw_at 444 (by decide +kernel) rfl
theorem tw_445 : (Jvm.Cond.instanceMethod ({ cls := "java/lang/Exception", name := "<init>", desc := "(Ljava/lang/String;)V" } : Jvm.MethodName)) ∈ lw_good := tw_at 445 (by decide +kernel) rfl
set_option maxRecDepth 100000 in
theorem tw_446 : (Jvm.Cond.code ({ cls := "java/lang/Exception", name := "<init>", desc := "(Ljava/lang/String;)V" } : Jvm.MethodName) prog_11_method_2_code (2 : Nat) (Option.none : Option Jvm.ClassFile.FieldType)) ∈ lw_good := tw_at 446 rfl rfl
theorem tw_447 : (Jvm.Cond.methodLink "java/lang/Exception" (7 : Nat) ({ cls := "java/lang/Throwable", name := "<init>", desc := "(Ljava/lang/String;)V" } : Jvm.MethodName)) ∈ lw_good := tw_at 447 (by decide +kernel) rfl
theorem tw_448 : (Jvm.Cond.instanceMethod ({ cls := "java/lang/Throwable", name := "<init>", desc := "(Ljava/lang/String;)V" } : Jvm.MethodName)) ∈ lw_good := tw_at 448 (by decide +kernel) rfl
set_option maxRecDepth 100000 in
theorem tw_449 : (Jvm.Cond.code ({ cls := "java/lang/Throwable", name := "<init>", desc := "(Ljava/lang/String;)V" } : Jvm.MethodName) prog_18_method_2_code (2 : Nat) (Option.none : Option Jvm.ClassFile.FieldType)) ∈ lw_good := tw_at 449 rfl rfl
theorem tw_450 : (Jvm.Cond.fieldLink "java/lang/Throwable" (198 : Nat) "java/lang/Throwable" "backtrace" "Ljava/lang/Object;") ∈ lw_good := tw_at 450 (by decide +kernel) rfl
theorem tw_451 : (Jvm.Cond.fieldLink "java/lang/Throwable" (31 : Nat) "java/lang/Throwable" "detailMessage" "Ljava/lang/String;") ∈ lw_good := tw_at 451 (by decide +kernel) rfl
theorem tw_452 : (Jvm.Cond.fieldLink "java/lang/Throwable" (7 : Nat) "java/lang/Throwable" "cause" "Ljava/lang/Throwable;") ∈ lw_good := tw_at 452 (by decide +kernel) rfl
theorem tw_453 : (Jvm.Cond.fieldLink "java/lang/Throwable" (17 : Nat) "java/lang/Throwable" "stackTrace" "[Ljava/lang/StackTraceElement;") ∈ lw_good := tw_at 453 (by decide +kernel) rfl
theorem tw_454 : (Jvm.Cond.fieldLink "java/lang/Throwable" (24 : Nat) "java/lang/Throwable" "suppressedExceptions" "Ljava/util/List;") ∈ lw_good := tw_at 454 (by decide +kernel) rfl
theorem tw_455 : (Jvm.Cond.soleField "java/lang/Throwable" "backtrace") ∈ lw_good := tw_at 455 (by decide +kernel) rfl
theorem tw_456 : (Jvm.Cond.soleField "java/lang/Throwable" "detailMessage") ∈ lw_good := tw_at 456 (by decide +kernel) rfl
theorem tw_457 : (Jvm.Cond.soleField "java/lang/Throwable" "cause") ∈ lw_good := tw_at 457 (by decide +kernel) rfl
theorem tw_458 : (Jvm.Cond.soleField "java/lang/Throwable" "stackTrace") ∈ lw_good := tw_at 458 (by decide +kernel) rfl
theorem tw_459 : (Jvm.Cond.lays "java/lang/IndexOutOfBoundsException" "java/lang/Throwable" "depth" "I") ∈ lw_good := tw_at 459 (by decide +kernel) rfl
theorem tw_460 : (Jvm.Cond.soleField "java/lang/Throwable" "depth") ∈ lw_good := tw_at 460 (by decide +kernel) rfl
theorem tw_461 : (Jvm.Cond.soleField "java/lang/Throwable" "suppressedExceptions") ∈ lw_good := tw_at 461 (by decide +kernel) rfl
theorem tw_462 : (Jvm.Cond.superclass "java/lang/IndexOutOfBoundsException" "java/lang/RuntimeException") ∈ lw_good := tw_at 462 (by decide +kernel) rfl
theorem tw_463 : (Jvm.Cond.arrayClass Jvm.ClassFile.FieldType.byte) ∈ lw_good := tw_at 463 (by decide +kernel) rfl
theorem tw_464 : (Jvm.Cond.methodLink "SnapshotHeap" (55 : Nat) ({ cls := "SnapshotHeap", name := "requireWithin", desc := "(III)V" } : Jvm.MethodName)) ∈ lw_good := tw_at 464 (by decide +kernel) rfl
theorem tw_465 : (Jvm.Cond.static ({ cls := "SnapshotHeap", name := "requireWithin", desc := "(III)V" } : Jvm.MethodName)) ∈ lw_good := tw_at 465 (by decide +kernel) rfl
set_option maxRecDepth 100000 in
theorem tw_466 : (Jvm.Cond.code ({ cls := "SnapshotHeap", name := "requireWithin", desc := "(III)V" } : Jvm.MethodName) prog_1_method_17_code (3 : Nat) (Option.none : Option Jvm.ClassFile.FieldType)) ∈ lw_good := tw_at 466 rfl rfl
theorem tw_467 : (Jvm.Cond.classLink "SnapshotHeap" (135 : Nat) "java/lang/IllegalArgumentException") ∈ lw_good := tw_at 467 (by decide +kernel) rfl
theorem tw_468 : (Jvm.Cond.instantiable "java/lang/IllegalArgumentException" (6 : Nat)) ∈ lw_good := tw_at 468 (by decide +kernel) rfl
theorem tn_469 : (Jvm.Cond.castable "java/lang/IllegalArgumentException" "java/lang/IllegalArgumentException") ∈ lw_tbl := List.mem_append_right _ (List.mem_of_getElem? (i := 469) (by decide +kernel))
theorem tw_470 : (Jvm.Cond.selects "java/lang/IllegalArgumentException" ({ cls := "java/lang/Throwable", name := "fillInStackTrace", desc := "(I)Ljava/lang/Throwable;" } : Jvm.MethodName) ({ cls := "java/lang/Throwable", name := "fillInStackTrace", desc := "(I)Ljava/lang/Throwable;" } : Jvm.MethodName)) ∈ lw_good := tw_at 470 (by decide +kernel) rfl
theorem tw_471 : (Jvm.Cond.lays "java/lang/IllegalArgumentException" "java/lang/Throwable" "cause" "Ljava/lang/Throwable;") ∈ lw_good := tw_at 471 (by decide +kernel) rfl
theorem tw_472 : (Jvm.Cond.lays "java/lang/IllegalArgumentException" "java/lang/Throwable" "stackTrace" "[Ljava/lang/StackTraceElement;") ∈ lw_good := tw_at 472 (by decide +kernel) rfl
theorem tw_473 : (Jvm.Cond.lays "java/lang/IllegalArgumentException" "java/lang/Throwable" "suppressedExceptions" "Ljava/util/List;") ∈ lw_good := tw_at 473 (by decide +kernel) rfl
theorem tw_474 : (Jvm.Cond.lays "java/lang/IllegalArgumentException" "java/lang/Throwable" "detailMessage" "Ljava/lang/String;") ∈ lw_good := tw_at 474 (by decide +kernel) rfl
theorem tw_475 : (Jvm.Cond.lays "java/lang/IllegalArgumentException" "java/lang/Throwable" "backtrace" "Ljava/lang/Object;") ∈ lw_good := tw_at 475 (by decide +kernel) rfl
theorem tn_476 : (Jvm.Cond.stringRef "SnapshotHeap" (137 : Nat) "out of range") ∈ lw_tbl := List.mem_append_right _ (List.mem_of_getElem? (i := 476) (by decide +kernel))
theorem tw_477 : (Jvm.Cond.methodLink "SnapshotHeap" (139 : Nat) ({ cls := "java/lang/IllegalArgumentException", name := "<init>", desc := "(Ljava/lang/String;)V" } : Jvm.MethodName)) ∈ lw_good := tw_at 477 (by decide +kernel) rfl
theorem tw_478 : (Jvm.Cond.instanceMethod ({ cls := "java/lang/IllegalArgumentException", name := "<init>", desc := "(Ljava/lang/String;)V" } : Jvm.MethodName)) ∈ lw_good := tw_at 478 (by decide +kernel) rfl
set_option maxRecDepth 100000 in
theorem tw_479 : (Jvm.Cond.code ({ cls := "java/lang/IllegalArgumentException", name := "<init>", desc := "(Ljava/lang/String;)V" } : Jvm.MethodName) prog_12_method_2_code (2 : Nat) (Option.none : Option Jvm.ClassFile.FieldType)) ∈ lw_good := tw_at 479 rfl rfl
theorem tw_480 : (Jvm.Cond.methodLink "java/lang/IllegalArgumentException" (7 : Nat) ({ cls := "java/lang/RuntimeException", name := "<init>", desc := "(Ljava/lang/String;)V" } : Jvm.MethodName)) ∈ lw_good := tw_at 480 (by decide +kernel) rfl
theorem tw_481 : (Jvm.Cond.lays "java/lang/IllegalArgumentException" "java/lang/Throwable" "depth" "I") ∈ lw_good := tw_at 481 (by decide +kernel) rfl
theorem tw_482 : (Jvm.Cond.superclass "java/lang/IllegalArgumentException" "java/lang/RuntimeException") ∈ lw_good := tw_at 482 (by decide +kernel) rfl
theorem tw_483 : (Jvm.Cond.methodLink "SnapshotHeap" (59 : Nat) ({ cls := "SnapshotHeap$Store", name := "hasRoomFor", desc := "(I)Z" } : Jvm.MethodName)) ∈ lw_good := tw_at 483 (by decide +kernel) rfl
theorem tw_484 : (Jvm.Cond.instanceMethod ({ cls := "SnapshotHeap$Store", name := "hasRoomFor", desc := "(I)Z" } : Jvm.MethodName)) ∈ lw_good := tw_at 484 (by decide +kernel) rfl
theorem tw_485 : (Jvm.Cond.selects "SnapshotHeap$Store" ({ cls := "SnapshotHeap$Store", name := "hasRoomFor", desc := "(I)Z" } : Jvm.MethodName) ({ cls := "SnapshotHeap$Store", name := "hasRoomFor", desc := "(I)Z" } : Jvm.MethodName)) ∈ lw_good := tw_at 485 (by decide +kernel) rfl
set_option maxRecDepth 100000 in
theorem tw_486 : (Jvm.Cond.code ({ cls := "SnapshotHeap$Store", name := "hasRoomFor", desc := "(I)Z" } : Jvm.MethodName) prog_6_method_8_code (2 : Nat) (Option.some Jvm.ClassFile.FieldType.boolean)) ∈ lw_good := tw_at 486 rfl rfl
theorem tw_487 : (Jvm.Cond.classLink "SnapshotHeap" (66 : Nat) "java/lang/IllegalStateException") ∈ lw_good := tw_at 487 (by decide +kernel) rfl
theorem tw_488 : (Jvm.Cond.instantiable "java/lang/IllegalStateException" (6 : Nat)) ∈ lw_good := tw_at 488 (by decide +kernel) rfl
theorem tn_489 : (Jvm.Cond.castable "java/lang/IllegalStateException" "java/lang/IllegalStateException") ∈ lw_tbl := List.mem_append_right _ (List.mem_of_getElem? (i := 489) (by decide +kernel))
theorem tw_490 : (Jvm.Cond.selects "java/lang/IllegalStateException" ({ cls := "java/lang/Throwable", name := "fillInStackTrace", desc := "(I)Ljava/lang/Throwable;" } : Jvm.MethodName) ({ cls := "java/lang/Throwable", name := "fillInStackTrace", desc := "(I)Ljava/lang/Throwable;" } : Jvm.MethodName)) ∈ lw_good := tw_at 490 (by decide +kernel) rfl
theorem tw_491 : (Jvm.Cond.lays "java/lang/IllegalStateException" "java/lang/Throwable" "cause" "Ljava/lang/Throwable;") ∈ lw_good := tw_at 491 (by decide +kernel) rfl
theorem tw_492 : (Jvm.Cond.lays "java/lang/IllegalStateException" "java/lang/Throwable" "stackTrace" "[Ljava/lang/StackTraceElement;") ∈ lw_good := tw_at 492 (by decide +kernel) rfl
theorem tw_493 : (Jvm.Cond.lays "java/lang/IllegalStateException" "java/lang/Throwable" "suppressedExceptions" "Ljava/util/List;") ∈ lw_good := tw_at 493 (by decide +kernel) rfl
theorem tw_494 : (Jvm.Cond.lays "java/lang/IllegalStateException" "java/lang/Throwable" "detailMessage" "Ljava/lang/String;") ∈ lw_good := tw_at 494 (by decide +kernel) rfl
theorem tw_495 : (Jvm.Cond.lays "java/lang/IllegalStateException" "java/lang/Throwable" "backtrace" "Ljava/lang/Object;") ∈ lw_good := tw_at 495 (by decide +kernel) rfl
theorem tn_496 : (Jvm.Cond.stringRef "SnapshotHeap" (68 : Nat) "the heap is full") ∈ lw_tbl := List.mem_append_right _ (List.mem_of_getElem? (i := 496) (by decide +kernel))
theorem tw_497 : (Jvm.Cond.methodLink "SnapshotHeap" (70 : Nat) ({ cls := "java/lang/IllegalStateException", name := "<init>", desc := "(Ljava/lang/String;)V" } : Jvm.MethodName)) ∈ lw_good := tw_at 497 (by decide +kernel) rfl
theorem tw_498 : (Jvm.Cond.instanceMethod ({ cls := "java/lang/IllegalStateException", name := "<init>", desc := "(Ljava/lang/String;)V" } : Jvm.MethodName)) ∈ lw_good := tw_at 498 (by decide +kernel) rfl
set_option maxRecDepth 100000 in
theorem tw_499 : (Jvm.Cond.code ({ cls := "java/lang/IllegalStateException", name := "<init>", desc := "(Ljava/lang/String;)V" } : Jvm.MethodName) prog_13_method_2_code (2 : Nat) (Option.none : Option Jvm.ClassFile.FieldType)) ∈ lw_good := tw_at 499 rfl rfl
theorem tw_500 : (Jvm.Cond.methodLink "java/lang/IllegalStateException" (7 : Nat) ({ cls := "java/lang/RuntimeException", name := "<init>", desc := "(Ljava/lang/String;)V" } : Jvm.MethodName)) ∈ lw_good := tw_at 500 (by decide +kernel) rfl
theorem tw_501 : (Jvm.Cond.lays "java/lang/IllegalStateException" "java/lang/Throwable" "depth" "I") ∈ lw_good := tw_at 501 (by decide +kernel) rfl
theorem tw_502 : (Jvm.Cond.superclass "java/lang/IllegalStateException" "java/lang/RuntimeException") ∈ lw_good := tw_at 502 (by decide +kernel) rfl
theorem tw_503 : (Jvm.Cond.methodLink "SnapshotHeap" (73 : Nat) ({ cls := "SnapshotHeap", name := "rootSlot", desc := "(I)I" } : Jvm.MethodName)) ∈ lw_good := tw_at 503 (by decide +kernel) rfl
theorem tw_504 : (Jvm.Cond.static ({ cls := "SnapshotHeap", name := "rootSlot", desc := "(I)I" } : Jvm.MethodName)) ∈ lw_good := tw_at 504 (by decide +kernel) rfl
set_option maxRecDepth 100000 in
theorem tw_505 : (Jvm.Cond.code ({ cls := "SnapshotHeap", name := "rootSlot", desc := "(I)I" } : Jvm.MethodName) prog_1_method_18_code (1 : Nat) (Option.some Jvm.ClassFile.FieldType.int)) ∈ lw_good := tw_at 505 rfl rfl
theorem tw_506 : (Jvm.Cond.methodLink "SnapshotHeap" (140 : Nat) ({ cls := "SnapshotHeap", name := "slotOf", desc := "(II)I" } : Jvm.MethodName)) ∈ lw_good := tw_at 506 (by decide +kernel) rfl
theorem tw_507 : (Jvm.Cond.methodLink "SnapshotHeap" (77 : Nat) ({ cls := "SnapshotHeap$Collector", name := "allocate", desc := "(I)I" } : Jvm.MethodName)) ∈ lw_good := tw_at 507 (by decide +kernel) rfl
theorem tw_508 : (Jvm.Cond.instanceMethod ({ cls := "SnapshotHeap$Collector", name := "allocate", desc := "(I)I" } : Jvm.MethodName)) ∈ lw_good := tw_at 508 (by decide +kernel) rfl
theorem tw_509 : (Jvm.Cond.selects "SnapshotHeap$Collector" ({ cls := "SnapshotHeap$Collector", name := "allocate", desc := "(I)I" } : Jvm.MethodName) ({ cls := "SnapshotHeap$Collector", name := "allocate", desc := "(I)I" } : Jvm.MethodName)) ∈ lw_good := tw_at 509 (by decide +kernel) rfl
set_option maxRecDepth 100000 in
theorem tw_510 : (Jvm.Cond.code ({ cls := "SnapshotHeap$Collector", name := "allocate", desc := "(I)I" } : Jvm.MethodName) prog_3_method_6_code (3 : Nat) (Option.some Jvm.ClassFile.FieldType.int)) ∈ lw_good := tw_at 510 rfl rfl
theorem tw_511 : (Jvm.Cond.methodLink "SnapshotHeap$Collector" (46 : Nat) ({ cls := "SnapshotHeap$Store", name := "take", desc := "(I)I" } : Jvm.MethodName)) ∈ lw_good := tw_at 511 (by decide +kernel) rfl
theorem tw_512 : (Jvm.Cond.instanceMethod ({ cls := "SnapshotHeap$Store", name := "take", desc := "(I)I" } : Jvm.MethodName)) ∈ lw_good := tw_at 512 (by decide +kernel) rfl
theorem tw_513 : (Jvm.Cond.selects "SnapshotHeap$Store" ({ cls := "SnapshotHeap$Store", name := "take", desc := "(I)I" } : Jvm.MethodName) ({ cls := "SnapshotHeap$Store", name := "take", desc := "(I)I" } : Jvm.MethodName)) ∈ lw_good := tw_at 513 (by decide +kernel) rfl
set_option maxRecDepth 100000 in
theorem tw_514 : (Jvm.Cond.code ({ cls := "SnapshotHeap$Store", name := "take", desc := "(I)I" } : Jvm.MethodName) prog_6_method_9_code (4 : Nat) (Option.some Jvm.ClassFile.FieldType.int)) ∈ lw_good := tw_at 514 rfl rfl
theorem tw_515 : (Jvm.Cond.methodLink "SnapshotHeap$Store" (49 : Nat) ({ cls := "SnapshotHeap$Store", name := "hasRoomFor", desc := "(I)Z" } : Jvm.MethodName)) ∈ lw_good := tw_at 515 (by decide +kernel) rfl
theorem tw_516 : (Jvm.Cond.methodLink "SnapshotHeap$Store" (52 : Nat) ({ cls := "SnapshotHeap$Store", name := "takeFreePlace", desc := "()I" } : Jvm.MethodName)) ∈ lw_good := tw_at 516 (by decide +kernel) rfl
theorem tn_517 : (Jvm.Cond.privateMethod ({ cls := "SnapshotHeap$Store", name := "takeFreePlace", desc := "()I" } : Jvm.MethodName)) ∈ lw_tbl := List.mem_append_right _ (List.mem_of_getElem? (i := 517) (by decide +kernel))
theorem tw_518 : (Jvm.Cond.instanceMethod ({ cls := "SnapshotHeap$Store", name := "takeFreePlace", desc := "()I" } : Jvm.MethodName)) ∈ lw_good := tw_at 518 (by decide +kernel) rfl
set_option maxRecDepth 100000 in
theorem tw_519 : (Jvm.Cond.code ({ cls := "SnapshotHeap$Store", name := "takeFreePlace", desc := "()I" } : Jvm.MethodName) prog_6_method_10_code (1 : Nat) (Option.some Jvm.ClassFile.FieldType.int)) ∈ lw_good := tw_at 519 rfl rfl
theorem tn_520 : (Jvm.Cond.methodLinkNest "SnapshotHeap$Store" (59 : Nat) ({ cls := "SnapshotHeap", name := "slotOf", desc := "(II)I" } : Jvm.MethodName) "SnapshotHeap") ∈ lw_tbl := List.mem_append_right _ (List.mem_of_getElem? (i := 520) (by decide +kernel))
theorem tw_521 : (Jvm.Cond.methodLink "SnapshotHeap$Store" (63 : Nat) ({ cls := "SnapshotHeap$Store", name := "putNumber", desc := "(IJ)V" } : Jvm.MethodName)) ∈ lw_good := tw_at 521 (by decide +kernel) rfl
theorem tw_522 : (Jvm.Cond.instanceMethod ({ cls := "SnapshotHeap$Store", name := "putNumber", desc := "(IJ)V" } : Jvm.MethodName)) ∈ lw_good := tw_at 522 (by decide +kernel) rfl
theorem tw_523 : (Jvm.Cond.selects "SnapshotHeap$Store" ({ cls := "SnapshotHeap$Store", name := "putNumber", desc := "(IJ)V" } : Jvm.MethodName) ({ cls := "SnapshotHeap$Store", name := "putNumber", desc := "(IJ)V" } : Jvm.MethodName)) ∈ lw_good := tw_at 523 (by decide +kernel) rfl
set_option maxRecDepth 100000 in
theorem tw_524 : (Jvm.Cond.code ({ cls := "SnapshotHeap$Store", name := "putNumber", desc := "(IJ)V" } : Jvm.MethodName) prog_6_method_14_code (4 : Nat) (Option.none : Option Jvm.ClassFile.FieldType)) ∈ lw_good := tw_at 524 rfl rfl
theorem tw_525 : (Jvm.Cond.methodLink "SnapshotHeap$Collector" (55 : Nat) ({ cls := "SnapshotHeap$Collector", name := "isYetToBeSwept", desc := "(I)Z" } : Jvm.MethodName)) ∈ lw_good := tw_at 525 (by decide +kernel) rfl
theorem tw_526 : (Jvm.Cond.methodLink "SnapshotHeap$Collector" (59 : Nat) ({ cls := "SnapshotHeap$Marking", name := "blacken", desc := "(I)V" } : Jvm.MethodName)) ∈ lw_good := tw_at 526 (by decide +kernel) rfl
theorem tw_527 : (Jvm.Cond.methodLink "SnapshotHeap" (80 : Nat) ({ cls := "SnapshotHeap$Store", name := "putReference", desc := "(II)V" } : Jvm.MethodName)) ∈ lw_good := tw_at 527 (by decide +kernel) rfl
theorem tw_528 : (Jvm.Cond.instanceMethod ({ cls := "SnapshotHeap$Store", name := "putReference", desc := "(II)V" } : Jvm.MethodName)) ∈ lw_good := tw_at 528 (by decide +kernel) rfl
theorem tw_529 : (Jvm.Cond.selects "SnapshotHeap$Store" ({ cls := "SnapshotHeap$Store", name := "putReference", desc := "(II)V" } : Jvm.MethodName) ({ cls := "SnapshotHeap$Store", name := "putReference", desc := "(II)V" } : Jvm.MethodName)) ∈ lw_good := tw_at 529 (by decide +kernel) rfl
set_option maxRecDepth 100000 in
theorem tw_530 : (Jvm.Cond.code ({ cls := "SnapshotHeap$Store", name := "putReference", desc := "(II)V" } : Jvm.MethodName) prog_6_method_15_code (3 : Nat) (Option.none : Option Jvm.ClassFile.FieldType)) ∈ lw_good := tw_at 530 rfl rfl
theorem tw_531 : (Jvm.Cond.methodLink "SnapshotHeapLaw" (74 : Nat) ({ cls := "SnapshotHeapLaw", name := "number", desc := "(LSnapshotHeap;IJ)I" } : Jvm.MethodName)) ∈ lw_good := tw_at 531 (by decide +kernel) rfl
theorem tw_532 : (Jvm.Cond.static ({ cls := "SnapshotHeapLaw", name := "number", desc := "(LSnapshotHeap;IJ)I" } : Jvm.MethodName)) ∈ lw_good := tw_at 532 (by decide +kernel) rfl
set_option maxRecDepth 100000 in
theorem tw_533 : (Jvm.Cond.codeWith ({ cls := "SnapshotHeapLaw", name := "number", desc := "(LSnapshotHeap;IJ)I" } : Jvm.MethodName) method_4_code (5 : Nat) (Option.some Jvm.ClassFile.FieldType.int) [((0 : Nat), (6 : Nat), (9 : Nat), (13 : Nat))]) ∈ lw_good := tw_at 533 rfl rfl
theorem tw_534 : (Jvm.Cond.methodLink "SnapshotHeapLaw" (19 : Nat) ({ cls := "SnapshotHeap", name := "number", desc := "(IJ)V" } : Jvm.MethodName)) ∈ lw_good := tw_at 534 (by decide +kernel) rfl
theorem tw_535 : (Jvm.Cond.instanceMethod ({ cls := "SnapshotHeap", name := "number", desc := "(IJ)V" } : Jvm.MethodName)) ∈ lw_good := tw_at 535 (by decide +kernel) rfl
theorem tw_536 : (Jvm.Cond.selects "SnapshotHeap" ({ cls := "SnapshotHeap", name := "number", desc := "(IJ)V" } : Jvm.MethodName) ({ cls := "SnapshotHeap", name := "number", desc := "(IJ)V" } : Jvm.MethodName)) ∈ lw_good := tw_at 536 (by decide +kernel) rfl
set_option maxRecDepth 100000 in
theorem tw_537 : (Jvm.Cond.code ({ cls := "SnapshotHeap", name := "number", desc := "(IJ)V" } : Jvm.MethodName) prog_1_method_3_code (4 : Nat) (Option.none : Option Jvm.ClassFile.FieldType)) ∈ lw_good := tw_at 537 rfl rfl
theorem tw_538 : (Jvm.Cond.methodLink "SnapshotHeap" (84 : Nat) ({ cls := "SnapshotHeap$Store", name := "putNumber", desc := "(IJ)V" } : Jvm.MethodName)) ∈ lw_good := tw_at 538 (by decide +kernel) rfl
theorem tw_539 : (Jvm.Cond.methodLink "SnapshotHeapLaw" (78 : Nat) ({ cls := "SnapshotHeapLaw", name := "copy", desc := "(LSnapshotHeap;II)I" } : Jvm.MethodName)) ∈ lw_good := tw_at 539 (by decide +kernel) rfl
theorem tw_540 : (Jvm.Cond.static ({ cls := "SnapshotHeapLaw", name := "copy", desc := "(LSnapshotHeap;II)I" } : Jvm.MethodName)) ∈ lw_good := tw_at 540 (by decide +kernel) rfl
set_option maxRecDepth 100000 in
theorem tw_541 : (Jvm.Cond.codeWith ({ cls := "SnapshotHeapLaw", name := "copy", desc := "(LSnapshotHeap;II)I" } : Jvm.MethodName) method_5_code (4 : Nat) (Option.some Jvm.ClassFile.FieldType.int) [((0 : Nat), (6 : Nat), (9 : Nat), (13 : Nat))]) ∈ lw_good := tw_at 541 rfl rfl
theorem tw_542 : (Jvm.Cond.methodLink "SnapshotHeapLaw" (23 : Nat) ({ cls := "SnapshotHeap", name := "copy", desc := "(II)V" } : Jvm.MethodName)) ∈ lw_good := tw_at 542 (by decide +kernel) rfl
theorem tw_543 : (Jvm.Cond.instanceMethod ({ cls := "SnapshotHeap", name := "copy", desc := "(II)V" } : Jvm.MethodName)) ∈ lw_good := tw_at 543 (by decide +kernel) rfl
theorem tw_544 : (Jvm.Cond.selects "SnapshotHeap" ({ cls := "SnapshotHeap", name := "copy", desc := "(II)V" } : Jvm.MethodName) ({ cls := "SnapshotHeap", name := "copy", desc := "(II)V" } : Jvm.MethodName)) ∈ lw_good := tw_at 544 (by decide +kernel) rfl
set_option maxRecDepth 100000 in
theorem tw_545 : (Jvm.Cond.code ({ cls := "SnapshotHeap", name := "copy", desc := "(II)V" } : Jvm.MethodName) prog_1_method_4_code (3 : Nat) (Option.none : Option Jvm.ClassFile.FieldType)) ∈ lw_good := tw_at 545 rfl rfl
theorem tw_546 : (Jvm.Cond.methodLink "SnapshotHeap" (88 : Nat) ({ cls := "SnapshotHeap$Store", name := "move", desc := "(II)V" } : Jvm.MethodName)) ∈ lw_good := tw_at 546 (by decide +kernel) rfl
theorem tw_547 : (Jvm.Cond.instanceMethod ({ cls := "SnapshotHeap$Store", name := "move", desc := "(II)V" } : Jvm.MethodName)) ∈ lw_good := tw_at 547 (by decide +kernel) rfl
theorem tw_548 : (Jvm.Cond.selects "SnapshotHeap$Store" ({ cls := "SnapshotHeap$Store", name := "move", desc := "(II)V" } : Jvm.MethodName) ({ cls := "SnapshotHeap$Store", name := "move", desc := "(II)V" } : Jvm.MethodName)) ∈ lw_good := tw_at 548 (by decide +kernel) rfl
set_option maxRecDepth 100000 in
theorem tw_549 : (Jvm.Cond.code ({ cls := "SnapshotHeap$Store", name := "move", desc := "(II)V" } : Jvm.MethodName) prog_6_method_16_code (3 : Nat) (Option.none : Option Jvm.ClassFile.FieldType)) ∈ lw_good := tw_at 549 rfl rfl
theorem tw_550 : (Jvm.Cond.methodLink "SnapshotHeapLaw" (82 : Nat) ({ cls := "SnapshotHeapLaw", name := "get", desc := "(LSnapshotHeap;III)I" } : Jvm.MethodName)) ∈ lw_good := tw_at 550 (by decide +kernel) rfl
theorem tw_551 : (Jvm.Cond.static ({ cls := "SnapshotHeapLaw", name := "get", desc := "(LSnapshotHeap;III)I" } : Jvm.MethodName)) ∈ lw_good := tw_at 551 (by decide +kernel) rfl
set_option maxRecDepth 100000 in
theorem tw_552 : (Jvm.Cond.codeWith ({ cls := "SnapshotHeapLaw", name := "get", desc := "(LSnapshotHeap;III)I" } : Jvm.MethodName) method_6_code (5 : Nat) (Option.some Jvm.ClassFile.FieldType.int) [((0 : Nat), (7 : Nat), (10 : Nat), (13 : Nat)), ((0 : Nat), (7 : Nat), (14 : Nat), (31 : Nat))]) ∈ lw_good := tw_at 552 rfl rfl
theorem tw_553 : (Jvm.Cond.classLink "SnapshotHeapLaw" (31 : Nat) "java/util/NoSuchElementException") ∈ lw_good := tw_at 553 (by decide +kernel) rfl
theorem tw_554 : (Jvm.Cond.methodLink "SnapshotHeapLaw" (27 : Nat) ({ cls := "SnapshotHeap", name := "get", desc := "(III)V" } : Jvm.MethodName)) ∈ lw_good := tw_at 554 (by decide +kernel) rfl
theorem tw_555 : (Jvm.Cond.instanceMethod ({ cls := "SnapshotHeap", name := "get", desc := "(III)V" } : Jvm.MethodName)) ∈ lw_good := tw_at 555 (by decide +kernel) rfl
theorem tw_556 : (Jvm.Cond.selects "SnapshotHeap" ({ cls := "SnapshotHeap", name := "get", desc := "(III)V" } : Jvm.MethodName) ({ cls := "SnapshotHeap", name := "get", desc := "(III)V" } : Jvm.MethodName)) ∈ lw_good := tw_at 556 (by decide +kernel) rfl
set_option maxRecDepth 100000 in
theorem tw_557 : (Jvm.Cond.code ({ cls := "SnapshotHeap", name := "get", desc := "(III)V" } : Jvm.MethodName) prog_1_method_5_code (4 : Nat) (Option.none : Option Jvm.ClassFile.FieldType)) ∈ lw_good := tw_at 557 rfl rfl
theorem tw_558 : (Jvm.Cond.methodLink "SnapshotHeap" (91 : Nat) ({ cls := "SnapshotHeap", name := "existingSlot", desc := "(II)I" } : Jvm.MethodName)) ∈ lw_good := tw_at 558 (by decide +kernel) rfl
theorem tn_559 : (Jvm.Cond.privateMethod ({ cls := "SnapshotHeap", name := "existingSlot", desc := "(II)I" } : Jvm.MethodName)) ∈ lw_tbl := List.mem_append_right _ (List.mem_of_getElem? (i := 559) (by decide +kernel))
theorem tw_560 : (Jvm.Cond.instanceMethod ({ cls := "SnapshotHeap", name := "existingSlot", desc := "(II)I" } : Jvm.MethodName)) ∈ lw_good := tw_at 560 (by decide +kernel) rfl
set_option maxRecDepth 100000 in
theorem tw_561 : (Jvm.Cond.code ({ cls := "SnapshotHeap", name := "existingSlot", desc := "(II)I" } : Jvm.MethodName) prog_1_method_20_code (4 : Nat) (Option.some Jvm.ClassFile.FieldType.int)) ∈ lw_good := tw_at 561 rfl rfl
theorem tw_562 : (Jvm.Cond.methodLink "SnapshotHeap" (98 : Nat) ({ cls := "SnapshotHeap$Store", name := "placeAt", desc := "(I)I" } : Jvm.MethodName)) ∈ lw_good := tw_at 562 (by decide +kernel) rfl
theorem tw_563 : (Jvm.Cond.methodLink "SnapshotHeap" (101 : Nat) ({ cls := "SnapshotHeap$Store", name := "valuesOf", desc := "(I)I" } : Jvm.MethodName)) ∈ lw_good := tw_at 563 (by decide +kernel) rfl
theorem tw_564 : (Jvm.Cond.classLink "SnapshotHeap" (143 : Nat) "java/util/NoSuchElementException") ∈ lw_good := tw_at 564 (by decide +kernel) rfl
theorem tw_565 : (Jvm.Cond.instantiable "java/util/NoSuchElementException" (6 : Nat)) ∈ lw_good := tw_at 565 (by decide +kernel) rfl
theorem tn_566 : (Jvm.Cond.castable "java/util/NoSuchElementException" "java/util/NoSuchElementException") ∈ lw_tbl := List.mem_append_right _ (List.mem_of_getElem? (i := 566) (by decide +kernel))
theorem tw_567 : (Jvm.Cond.selects "java/util/NoSuchElementException" ({ cls := "java/lang/Throwable", name := "fillInStackTrace", desc := "(I)Ljava/lang/Throwable;" } : Jvm.MethodName) ({ cls := "java/lang/Throwable", name := "fillInStackTrace", desc := "(I)Ljava/lang/Throwable;" } : Jvm.MethodName)) ∈ lw_good := tw_at 567 (by decide +kernel) rfl
theorem tw_568 : (Jvm.Cond.lays "java/util/NoSuchElementException" "java/lang/Throwable" "cause" "Ljava/lang/Throwable;") ∈ lw_good := tw_at 568 (by decide +kernel) rfl
theorem tw_569 : (Jvm.Cond.lays "java/util/NoSuchElementException" "java/lang/Throwable" "stackTrace" "[Ljava/lang/StackTraceElement;") ∈ lw_good := tw_at 569 (by decide +kernel) rfl
theorem tw_570 : (Jvm.Cond.lays "java/util/NoSuchElementException" "java/lang/Throwable" "suppressedExceptions" "Ljava/util/List;") ∈ lw_good := tw_at 570 (by decide +kernel) rfl
theorem tw_571 : (Jvm.Cond.lays "java/util/NoSuchElementException" "java/lang/Throwable" "detailMessage" "Ljava/lang/String;") ∈ lw_good := tw_at 571 (by decide +kernel) rfl
theorem tw_572 : (Jvm.Cond.lays "java/util/NoSuchElementException" "java/lang/Throwable" "backtrace" "Ljava/lang/Object;") ∈ lw_good := tw_at 572 (by decide +kernel) rfl
theorem tn_573 : (Jvm.Cond.stringRef "SnapshotHeap" (145 : Nat) "no such value") ∈ lw_tbl := List.mem_append_right _ (List.mem_of_getElem? (i := 573) (by decide +kernel))
theorem tw_574 : (Jvm.Cond.methodLink "SnapshotHeap" (147 : Nat) ({ cls := "java/util/NoSuchElementException", name := "<init>", desc := "(Ljava/lang/String;)V" } : Jvm.MethodName)) ∈ lw_good := tw_at 574 (by decide +kernel) rfl
theorem tw_575 : (Jvm.Cond.instanceMethod ({ cls := "java/util/NoSuchElementException", name := "<init>", desc := "(Ljava/lang/String;)V" } : Jvm.MethodName)) ∈ lw_good := tw_at 575 (by decide +kernel) rfl
set_option maxRecDepth 100000 in
theorem tw_576 : (Jvm.Cond.code ({ cls := "java/util/NoSuchElementException", name := "<init>", desc := "(Ljava/lang/String;)V" } : Jvm.MethodName) prog_20_method_4_code (2 : Nat) (Option.none : Option Jvm.ClassFile.FieldType)) ∈ lw_good := tw_at 576 rfl rfl
theorem tw_577 : (Jvm.Cond.methodLink "java/util/NoSuchElementException" (13 : Nat) ({ cls := "java/lang/RuntimeException", name := "<init>", desc := "(Ljava/lang/String;)V" } : Jvm.MethodName)) ∈ lw_good := tw_at 577 (by decide +kernel) rfl
theorem tw_578 : (Jvm.Cond.lays "java/util/NoSuchElementException" "java/lang/Throwable" "depth" "I") ∈ lw_good := tw_at 578 (by decide +kernel) rfl
theorem tw_579 : (Jvm.Cond.superclass "java/util/NoSuchElementException" "java/lang/RuntimeException") ∈ lw_good := tw_at 579 (by decide +kernel) rfl
theorem tw_580 : (Jvm.Cond.methodLink "SnapshotHeapLaw" (86 : Nat) ({ cls := "SnapshotHeapLaw", name := "set", desc := "(LSnapshotHeap;III)I" } : Jvm.MethodName)) ∈ lw_good := tw_at 580 (by decide +kernel) rfl
theorem tw_581 : (Jvm.Cond.static ({ cls := "SnapshotHeapLaw", name := "set", desc := "(LSnapshotHeap;III)I" } : Jvm.MethodName)) ∈ lw_good := tw_at 581 (by decide +kernel) rfl
set_option maxRecDepth 100000 in
theorem tw_582 : (Jvm.Cond.codeWith ({ cls := "SnapshotHeapLaw", name := "set", desc := "(LSnapshotHeap;III)I" } : Jvm.MethodName) method_7_code (5 : Nat) (Option.some Jvm.ClassFile.FieldType.int) [((0 : Nat), (7 : Nat), (10 : Nat), (13 : Nat)), ((0 : Nat), (7 : Nat), (14 : Nat), (31 : Nat))]) ∈ lw_good := tw_at 582 rfl rfl
theorem tw_583 : (Jvm.Cond.methodLink "SnapshotHeapLaw" (33 : Nat) ({ cls := "SnapshotHeap", name := "set", desc := "(III)V" } : Jvm.MethodName)) ∈ lw_good := tw_at 583 (by decide +kernel) rfl
theorem tw_584 : (Jvm.Cond.instanceMethod ({ cls := "SnapshotHeap", name := "set", desc := "(III)V" } : Jvm.MethodName)) ∈ lw_good := tw_at 584 (by decide +kernel) rfl
theorem tw_585 : (Jvm.Cond.selects "SnapshotHeap" ({ cls := "SnapshotHeap", name := "set", desc := "(III)V" } : Jvm.MethodName) ({ cls := "SnapshotHeap", name := "set", desc := "(III)V" } : Jvm.MethodName)) ∈ lw_good := tw_at 585 (by decide +kernel) rfl
set_option maxRecDepth 100000 in
theorem tw_586 : (Jvm.Cond.code ({ cls := "SnapshotHeap", name := "set", desc := "(III)V" } : Jvm.MethodName) prog_1_method_6_code (5 : Nat) (Option.none : Option Jvm.ClassFile.FieldType)) ∈ lw_good := tw_at 586 rfl rfl
theorem tw_587 : (Jvm.Cond.methodLink "SnapshotHeap" (95 : Nat) ({ cls := "SnapshotHeap$Collector", name := "beforeOverwrite", desc := "(I)V" } : Jvm.MethodName)) ∈ lw_good := tw_at 587 (by decide +kernel) rfl
theorem tw_588 : (Jvm.Cond.instanceMethod ({ cls := "SnapshotHeap$Collector", name := "beforeOverwrite", desc := "(I)V" } : Jvm.MethodName)) ∈ lw_good := tw_at 588 (by decide +kernel) rfl
theorem tw_589 : (Jvm.Cond.selects "SnapshotHeap$Collector" ({ cls := "SnapshotHeap$Collector", name := "beforeOverwrite", desc := "(I)V" } : Jvm.MethodName) ({ cls := "SnapshotHeap$Collector", name := "beforeOverwrite", desc := "(I)V" } : Jvm.MethodName)) ∈ lw_good := tw_at 589 (by decide +kernel) rfl
set_option maxRecDepth 100000 in
theorem tw_590 : (Jvm.Cond.code ({ cls := "SnapshotHeap$Collector", name := "beforeOverwrite", desc := "(I)V" } : Jvm.MethodName) prog_3_method_7_code (2 : Nat) (Option.none : Option Jvm.ClassFile.FieldType)) ∈ lw_good := tw_at 590 rfl rfl
theorem tw_591 : (Jvm.Cond.methodLink "SnapshotHeap$Collector" (63 : Nat) ({ cls := "SnapshotHeap$Store", name := "placeAt", desc := "(I)I" } : Jvm.MethodName)) ∈ lw_good := tw_at 591 (by decide +kernel) rfl
theorem tw_592 : (Jvm.Cond.methodLink "SnapshotHeap$Collector" (66 : Nat) ({ cls := "SnapshotHeap$Marking", name := "shade", desc := "(I)V" } : Jvm.MethodName)) ∈ lw_good := tw_at 592 (by decide +kernel) rfl
theorem tw_593 : (Jvm.Cond.methodLink "SnapshotHeapLaw" (89 : Nat) ({ cls := "SnapshotHeapLaw", name := "step", desc := "(LSnapshotHeap;I)I" } : Jvm.MethodName)) ∈ lw_good := tw_at 593 (by decide +kernel) rfl
theorem tw_594 : (Jvm.Cond.static ({ cls := "SnapshotHeapLaw", name := "step", desc := "(LSnapshotHeap;I)I" } : Jvm.MethodName)) ∈ lw_good := tw_at 594 (by decide +kernel) rfl
set_option maxRecDepth 100000 in
theorem tw_595 : (Jvm.Cond.codeWith ({ cls := "SnapshotHeapLaw", name := "step", desc := "(LSnapshotHeap;I)I" } : Jvm.MethodName) method_8_code (3 : Nat) (Option.some Jvm.ClassFile.FieldType.int) [((0 : Nat), (5 : Nat), (8 : Nat), (15 : Nat))]) ∈ lw_good := tw_at 595 rfl rfl
theorem tw_596 : (Jvm.Cond.methodLink "SnapshotHeapLaw" (36 : Nat) ({ cls := "SnapshotHeap", name := "step", desc := "(I)V" } : Jvm.MethodName)) ∈ lw_good := tw_at 596 (by decide +kernel) rfl
theorem tw_597 : (Jvm.Cond.instanceMethod ({ cls := "SnapshotHeap", name := "step", desc := "(I)V" } : Jvm.MethodName)) ∈ lw_good := tw_at 597 (by decide +kernel) rfl
theorem tw_598 : (Jvm.Cond.selects "SnapshotHeap" ({ cls := "SnapshotHeap", name := "step", desc := "(I)V" } : Jvm.MethodName) ({ cls := "SnapshotHeap", name := "step", desc := "(I)V" } : Jvm.MethodName)) ∈ lw_good := tw_at 598 (by decide +kernel) rfl
set_option maxRecDepth 100000 in
theorem tw_599 : (Jvm.Cond.code ({ cls := "SnapshotHeap", name := "step", desc := "(I)V" } : Jvm.MethodName) prog_1_method_7_code (2 : Nat) (Option.none : Option Jvm.ClassFile.FieldType)) ∈ lw_good := tw_at 599 rfl rfl
theorem tw_600 : (Jvm.Cond.methodLink "SnapshotHeapLaw" (93 : Nat) ({ cls := "SnapshotHeapLaw", name := "pace", desc := "(LSnapshotHeap;I[J)I" } : Jvm.MethodName)) ∈ lw_good := tw_at 600 (by decide +kernel) rfl
theorem tw_601 : (Jvm.Cond.static ({ cls := "SnapshotHeapLaw", name := "pace", desc := "(LSnapshotHeap;I[J)I" } : Jvm.MethodName)) ∈ lw_good := tw_at 601 (by decide +kernel) rfl
set_option maxRecDepth 100000 in
theorem tw_602 : (Jvm.Cond.codeWith ({ cls := "SnapshotHeapLaw", name := "pace", desc := "(LSnapshotHeap;I[J)I" } : Jvm.MethodName) method_9_code (4 : Nat) (Option.some Jvm.ClassFile.FieldType.int) [((0 : Nat), (9 : Nat), (12 : Nat), (15 : Nat))]) ∈ lw_good := tw_at 602 rfl rfl
theorem tw_603 : (Jvm.Cond.methodLink "SnapshotHeapLaw" (40 : Nat) ({ cls := "SnapshotHeap", name := "pace", desc := "(I)I" } : Jvm.MethodName)) ∈ lw_good := tw_at 603 (by decide +kernel) rfl
theorem tw_604 : (Jvm.Cond.instanceMethod ({ cls := "SnapshotHeap", name := "pace", desc := "(I)I" } : Jvm.MethodName)) ∈ lw_good := tw_at 604 (by decide +kernel) rfl
theorem tw_605 : (Jvm.Cond.selects "SnapshotHeap" ({ cls := "SnapshotHeap", name := "pace", desc := "(I)I" } : Jvm.MethodName) ({ cls := "SnapshotHeap", name := "pace", desc := "(I)I" } : Jvm.MethodName)) ∈ lw_good := tw_at 605 (by decide +kernel) rfl
set_option maxRecDepth 100000 in
theorem tw_606 : (Jvm.Cond.code ({ cls := "SnapshotHeap", name := "pace", desc := "(I)I" } : Jvm.MethodName) prog_1_method_8_code (3 : Nat) (Option.some Jvm.ClassFile.FieldType.int)) ∈ lw_good := tw_at 606 rfl rfl
theorem tw_607 : (Jvm.Cond.methodLink "SnapshotHeapLaw" (97 : Nat) ({ cls := "SnapshotHeapLaw", name := "size", desc := "(LSnapshotHeap;I[J)I" } : Jvm.MethodName)) ∈ lw_good := tw_at 607 (by decide +kernel) rfl
theorem tw_608 : (Jvm.Cond.static ({ cls := "SnapshotHeapLaw", name := "size", desc := "(LSnapshotHeap;I[J)I" } : Jvm.MethodName)) ∈ lw_good := tw_at 608 (by decide +kernel) rfl
set_option maxRecDepth 100000 in
theorem tw_609 : (Jvm.Cond.codeWith ({ cls := "SnapshotHeapLaw", name := "size", desc := "(LSnapshotHeap;I[J)I" } : Jvm.MethodName) method_10_code (4 : Nat) (Option.some Jvm.ClassFile.FieldType.int) [((0 : Nat), (9 : Nat), (12 : Nat), (13 : Nat))]) ∈ lw_good := tw_at 609 rfl rfl
theorem tw_610 : (Jvm.Cond.methodLink "SnapshotHeapLaw" (44 : Nat) ({ cls := "SnapshotHeap", name := "size", desc := "(I)I" } : Jvm.MethodName)) ∈ lw_good := tw_at 610 (by decide +kernel) rfl
theorem tw_611 : (Jvm.Cond.instanceMethod ({ cls := "SnapshotHeap", name := "size", desc := "(I)I" } : Jvm.MethodName)) ∈ lw_good := tw_at 611 (by decide +kernel) rfl
theorem tw_612 : (Jvm.Cond.selects "SnapshotHeap" ({ cls := "SnapshotHeap", name := "size", desc := "(I)I" } : Jvm.MethodName) ({ cls := "SnapshotHeap", name := "size", desc := "(I)I" } : Jvm.MethodName)) ∈ lw_good := tw_at 612 (by decide +kernel) rfl
set_option maxRecDepth 100000 in
theorem tw_613 : (Jvm.Cond.code ({ cls := "SnapshotHeap", name := "size", desc := "(I)I" } : Jvm.MethodName) prog_1_method_9_code (3 : Nat) (Option.some Jvm.ClassFile.FieldType.int)) ∈ lw_good := tw_at 613 rfl rfl
theorem tw_614 : (Jvm.Cond.methodLink "SnapshotHeapLaw" (100 : Nat) ({ cls := "SnapshotHeapLaw", name := "value", desc := "(LSnapshotHeap;I[J)I" } : Jvm.MethodName)) ∈ lw_good := tw_at 614 (by decide +kernel) rfl
theorem tw_615 : (Jvm.Cond.static ({ cls := "SnapshotHeapLaw", name := "value", desc := "(LSnapshotHeap;I[J)I" } : Jvm.MethodName)) ∈ lw_good := tw_at 615 (by decide +kernel) rfl
set_option maxRecDepth 100000 in
theorem tw_616 : (Jvm.Cond.codeWith ({ cls := "SnapshotHeapLaw", name := "value", desc := "(LSnapshotHeap;I[J)I" } : Jvm.MethodName) method_11_code (4 : Nat) (Option.some Jvm.ClassFile.FieldType.int) [((0 : Nat), (8 : Nat), (11 : Nat), (13 : Nat))]) ∈ lw_good := tw_at 616 rfl rfl
theorem tw_617 : (Jvm.Cond.methodLink "SnapshotHeapLaw" (47 : Nat) ({ cls := "SnapshotHeap", name := "value", desc := "(I)J" } : Jvm.MethodName)) ∈ lw_good := tw_at 617 (by decide +kernel) rfl
theorem tw_618 : (Jvm.Cond.instanceMethod ({ cls := "SnapshotHeap", name := "value", desc := "(I)J" } : Jvm.MethodName)) ∈ lw_good := tw_at 618 (by decide +kernel) rfl
theorem tw_619 : (Jvm.Cond.selects "SnapshotHeap" ({ cls := "SnapshotHeap", name := "value", desc := "(I)J" } : Jvm.MethodName) ({ cls := "SnapshotHeap", name := "value", desc := "(I)J" } : Jvm.MethodName)) ∈ lw_good := tw_at 619 (by decide +kernel) rfl
set_option maxRecDepth 100000 in
theorem tw_620 : (Jvm.Cond.code ({ cls := "SnapshotHeap", name := "value", desc := "(I)J" } : Jvm.MethodName) prog_1_method_10_code (2 : Nat) (Option.some Jvm.ClassFile.FieldType.long)) ∈ lw_good := tw_at 620 rfl rfl
theorem tw_621 : (Jvm.Cond.methodLink "SnapshotHeap" (104 : Nat) ({ cls := "SnapshotHeap$Store", name := "numberAt", desc := "(I)J" } : Jvm.MethodName)) ∈ lw_good := tw_at 621 (by decide +kernel) rfl
theorem tw_622 : (Jvm.Cond.methodLink "SnapshotHeapLaw" (103 : Nat) ({ cls := "SnapshotHeapLaw", name := "same", desc := "(LSnapshotHeap;II[J)I" } : Jvm.MethodName)) ∈ lw_good := tw_at 622 (by decide +kernel) rfl
theorem tw_623 : (Jvm.Cond.static ({ cls := "SnapshotHeapLaw", name := "same", desc := "(LSnapshotHeap;II[J)I" } : Jvm.MethodName)) ∈ lw_good := tw_at 623 (by decide +kernel) rfl
set_option maxRecDepth 100000 in
theorem tw_624 : (Jvm.Cond.codeWith ({ cls := "SnapshotHeapLaw", name := "same", desc := "(LSnapshotHeap;II[J)I" } : Jvm.MethodName) method_12_code (5 : Nat) (Option.some Jvm.ClassFile.FieldType.int) [((0 : Nat), (17 : Nat), (20 : Nat), (13 : Nat))]) ∈ lw_good := tw_at 624 rfl rfl
theorem tw_625 : (Jvm.Cond.methodLink "SnapshotHeapLaw" (51 : Nat) ({ cls := "SnapshotHeap", name := "same", desc := "(II)Z" } : Jvm.MethodName)) ∈ lw_good := tw_at 625 (by decide +kernel) rfl
theorem tw_626 : (Jvm.Cond.instanceMethod ({ cls := "SnapshotHeap", name := "same", desc := "(II)Z" } : Jvm.MethodName)) ∈ lw_good := tw_at 626 (by decide +kernel) rfl
theorem tw_627 : (Jvm.Cond.selects "SnapshotHeap" ({ cls := "SnapshotHeap", name := "same", desc := "(II)Z" } : Jvm.MethodName) ({ cls := "SnapshotHeap", name := "same", desc := "(II)Z" } : Jvm.MethodName)) ∈ lw_good := tw_at 627 (by decide +kernel) rfl
set_option maxRecDepth 100000 in
theorem tw_628 : (Jvm.Cond.code ({ cls := "SnapshotHeap", name := "same", desc := "(II)Z" } : Jvm.MethodName) prog_1_method_11_code (3 : Nat) (Option.some Jvm.ClassFile.FieldType.boolean)) ∈ lw_good := tw_at 628 rfl rfl
theorem tw_629 : (Jvm.Cond.methodLink "SnapshotHeap" (108 : Nat) ({ cls := "SnapshotHeap$Store", name := "alike", desc := "(II)Z" } : Jvm.MethodName)) ∈ lw_good := tw_at 629 (by decide +kernel) rfl
theorem tw_630 : (Jvm.Cond.instanceMethod ({ cls := "SnapshotHeap$Store", name := "alike", desc := "(II)Z" } : Jvm.MethodName)) ∈ lw_good := tw_at 630 (by decide +kernel) rfl
theorem tw_631 : (Jvm.Cond.selects "SnapshotHeap$Store" ({ cls := "SnapshotHeap$Store", name := "alike", desc := "(II)Z" } : Jvm.MethodName) ({ cls := "SnapshotHeap$Store", name := "alike", desc := "(II)Z" } : Jvm.MethodName)) ∈ lw_good := tw_at 631 (by decide +kernel) rfl
set_option maxRecDepth 100000 in
theorem tw_632 : (Jvm.Cond.code ({ cls := "SnapshotHeap$Store", name := "alike", desc := "(II)Z" } : Jvm.MethodName) prog_6_method_17_code (3 : Nat) (Option.some Jvm.ClassFile.FieldType.boolean)) ∈ lw_good := tw_at 632 rfl rfl
theorem tw_633 : (Jvm.Cond.methodLink "SnapshotHeapLaw" (106 : Nat) ({ cls := "SnapshotHeapLaw", name := "count", desc := "(LSnapshotHeap;I[J)I" } : Jvm.MethodName)) ∈ lw_good := tw_at 633 (by decide +kernel) rfl
theorem tw_634 : (Jvm.Cond.static ({ cls := "SnapshotHeapLaw", name := "count", desc := "(LSnapshotHeap;I[J)I" } : Jvm.MethodName)) ∈ lw_good := tw_at 634 (by decide +kernel) rfl
set_option maxRecDepth 100000 in
theorem tw_635 : (Jvm.Cond.codeWith ({ cls := "SnapshotHeapLaw", name := "count", desc := "(LSnapshotHeap;I[J)I" } : Jvm.MethodName) method_13_code (4 : Nat) (Option.some Jvm.ClassFile.FieldType.int) [((0 : Nat), (9 : Nat), (12 : Nat), (15 : Nat))]) ∈ lw_good := tw_at 635 rfl rfl
theorem tw_636 : (Jvm.Cond.methodLink "SnapshotHeapLaw" (55 : Nat) ({ cls := "SnapshotHeap", name := "count", desc := "(I)I" } : Jvm.MethodName)) ∈ lw_good := tw_at 636 (by decide +kernel) rfl
theorem tw_637 : (Jvm.Cond.instanceMethod ({ cls := "SnapshotHeap", name := "count", desc := "(I)I" } : Jvm.MethodName)) ∈ lw_good := tw_at 637 (by decide +kernel) rfl
theorem tw_638 : (Jvm.Cond.selects "SnapshotHeap" ({ cls := "SnapshotHeap", name := "count", desc := "(I)I" } : Jvm.MethodName) ({ cls := "SnapshotHeap", name := "count", desc := "(I)I" } : Jvm.MethodName)) ∈ lw_good := tw_at 638 (by decide +kernel) rfl
set_option maxRecDepth 100000 in
theorem tw_639 : (Jvm.Cond.code ({ cls := "SnapshotHeap", name := "count", desc := "(I)I" } : Jvm.MethodName) prog_1_method_12_code (2 : Nat) (Option.some Jvm.ClassFile.FieldType.int)) ∈ lw_good := tw_at 639 rfl rfl
theorem tw_640 : (Jvm.Cond.methodLink "SnapshotHeap" (115 : Nat) ({ cls := "SnapshotHeap$Walk", name := "tuples", desc := "()I" } : Jvm.MethodName)) ∈ lw_good := tw_at 640 (by decide +kernel) rfl
theorem tw_641 : (Jvm.Cond.instanceMethod ({ cls := "SnapshotHeap$Walk", name := "tuples", desc := "()I" } : Jvm.MethodName)) ∈ lw_good := tw_at 641 (by decide +kernel) rfl
theorem tw_642 : (Jvm.Cond.selects "SnapshotHeap$Walk" ({ cls := "SnapshotHeap$Walk", name := "tuples", desc := "()I" } : Jvm.MethodName) ({ cls := "SnapshotHeap$Walk", name := "tuples", desc := "()I" } : Jvm.MethodName)) ∈ lw_good := tw_at 642 (by decide +kernel) rfl
set_option maxRecDepth 100000 in
theorem tw_643 : (Jvm.Cond.code ({ cls := "SnapshotHeap$Walk", name := "tuples", desc := "()I" } : Jvm.MethodName) prog_7_method_2_code (1 : Nat) (Option.some Jvm.ClassFile.FieldType.int)) ∈ lw_good := tw_at 643 rfl rfl
theorem tw_644 : (Jvm.Cond.methodLink "SnapshotHeap" (119 : Nat) ({ cls := "SnapshotHeap$Walk", name := "cells", desc := "()I" } : Jvm.MethodName)) ∈ lw_good := tw_at 644 (by decide +kernel) rfl
theorem tw_645 : (Jvm.Cond.instanceMethod ({ cls := "SnapshotHeap$Walk", name := "cells", desc := "()I" } : Jvm.MethodName)) ∈ lw_good := tw_at 645 (by decide +kernel) rfl
theorem tw_646 : (Jvm.Cond.selects "SnapshotHeap$Walk" ({ cls := "SnapshotHeap$Walk", name := "cells", desc := "()I" } : Jvm.MethodName) ({ cls := "SnapshotHeap$Walk", name := "cells", desc := "()I" } : Jvm.MethodName)) ∈ lw_good := tw_at 646 (by decide +kernel) rfl
set_option maxRecDepth 100000 in
theorem tw_647 : (Jvm.Cond.code ({ cls := "SnapshotHeap$Walk", name := "cells", desc := "()I" } : Jvm.MethodName) prog_7_method_3_code (1 : Nat) (Option.some Jvm.ClassFile.FieldType.int)) ∈ lw_good := tw_at 647 rfl rfl
theorem tw_648 : (Jvm.Cond.classLink "SnapshotHeapLaw" (59 : Nat) "SnapshotHeapModel") ∈ lw_good := tw_at 648 (by decide +kernel) rfl
theorem tw_649 : (Jvm.Cond.instantiable "SnapshotHeapModel" (15 : Nat)) ∈ lw_good := tw_at 649 (by decide +kernel) rfl
theorem tw_650 : (Jvm.Cond.methodLink "SnapshotHeapLaw" (61 : Nat) ({ cls := "SnapshotHeapModel", name := "<init>", desc := "()V" } : Jvm.MethodName)) ∈ lw_good := tw_at 650 (by decide +kernel) rfl
theorem tw_651 : (Jvm.Cond.instanceMethod ({ cls := "SnapshotHeapModel", name := "<init>", desc := "()V" } : Jvm.MethodName)) ∈ lw_good := tw_at 651 (by decide +kernel) rfl
set_option maxRecDepth 100000 in
theorem tw_652 : (Jvm.Cond.code ({ cls := "SnapshotHeapModel", name := "<init>", desc := "()V" } : Jvm.MethodName) prog_9_method_1_code (1 : Nat) (Option.none : Option Jvm.ClassFile.FieldType)) ∈ lw_good := tw_at 652 rfl rfl
theorem tw_653 : (Jvm.Cond.methodLink "SnapshotHeapModel" (1 : Nat) ({ cls := "java/lang/Object", name := "<init>", desc := "()V" } : Jvm.MethodName)) ∈ lw_good := tw_at 653 (by decide +kernel) rfl
theorem tw_654 : (Jvm.Cond.fieldLink "SnapshotHeapModel" (9 : Nat) "SnapshotHeapModel" "value" "[J") ∈ lw_good := tw_at 654 (by decide +kernel) rfl
theorem tw_655 : (Jvm.Cond.fieldLink "SnapshotHeapModel" (13 : Nat) "SnapshotHeapModel" "root" "[J") ∈ lw_good := tw_at 655 (by decide +kernel) rfl
theorem tw_656 : (Jvm.Cond.fieldLink "SnapshotHeapModel" (16 : Nat) "SnapshotHeapModel" "refers" "[Z") ∈ lw_good := tw_at 656 (by decide +kernel) rfl
theorem tw_657 : (Jvm.Cond.fieldLink "SnapshotHeapModel" (20 : Nat) "SnapshotHeapModel" "rootRefers" "[Z") ∈ lw_good := tw_at 657 (by decide +kernel) rfl
theorem tw_658 : (Jvm.Cond.fieldLink "SnapshotHeapModel" (23 : Nat) "SnapshotHeapModel" "isReached" "[Z") ∈ lw_good := tw_at 658 (by decide +kernel) rfl
theorem tw_659 : (Jvm.Cond.fieldLink "SnapshotHeapModel" (26 : Nat) "SnapshotHeapModel" "size" "[I") ∈ lw_good := tw_at 659 (by decide +kernel) rfl
theorem tw_660 : (Jvm.Cond.fieldLink "SnapshotHeapModel" (30 : Nat) "SnapshotHeapModel" "todo" "[I") ∈ lw_good := tw_at 660 (by decide +kernel) rfl
theorem tw_661 : (Jvm.Cond.fieldLink "SnapshotHeapModel" (33 : Nat) "SnapshotHeapModel" "met" "[I") ∈ lw_good := tw_at 661 (by decide +kernel) rfl
theorem tw_662 : (Jvm.Cond.fieldLink "SnapshotHeapModel" (36 : Nat) "SnapshotHeapModel" "next" "[I") ∈ lw_good := tw_at 662 (by decide +kernel) rfl
theorem tw_663 : (Jvm.Cond.fieldLink "SnapshotHeapModel" (66 : Nat) "SnapshotHeapModel" "made" "I") ∈ lw_good := tw_at 663 (by decide +kernel) rfl
theorem tw_664 : (Jvm.Cond.fieldLink "SnapshotHeapModel" (39 : Nat) "SnapshotHeapModel" "pace" "I") ∈ lw_good := tw_at 664 (by decide +kernel) rfl
theorem tw_665 : (Jvm.Cond.fieldLink "SnapshotHeapModel" (46 : Nat) "SnapshotHeapModel" "reached" "I") ∈ lw_good := tw_at 665 (by decide +kernel) rfl
theorem tw_666 : (Jvm.Cond.fieldLink "SnapshotHeapModel" (49 : Nat) "SnapshotHeapModel" "cells" "I") ∈ lw_good := tw_at 666 (by decide +kernel) rfl
theorem tw_667 : (Jvm.Cond.fieldLink "SnapshotHeapModel" (43 : Nat) "SnapshotHeapModel" "thrown" "I") ∈ lw_good := tw_at 667 (by decide +kernel) rfl
theorem tw_668 : (Jvm.Cond.fieldLink "SnapshotHeapModel" (52 : Nat) "SnapshotHeapModel" "tops" "I") ∈ lw_good := tw_at 668 (by decide +kernel) rfl
theorem tw_669 : (Jvm.Cond.laysFinal "SnapshotHeapModel" "SnapshotHeapModel" "value" "[J") ∈ lw_good := tw_at 669 (by decide +kernel) rfl
theorem tw_670 : (Jvm.Cond.soleField "SnapshotHeapModel" "value") ∈ lw_good := tw_at 670 (by decide +kernel) rfl
theorem tw_671 : (Jvm.Cond.laysFinal "SnapshotHeapModel" "SnapshotHeapModel" "root" "[J") ∈ lw_good := tw_at 671 (by decide +kernel) rfl
theorem tw_672 : (Jvm.Cond.soleField "SnapshotHeapModel" "root") ∈ lw_good := tw_at 672 (by decide +kernel) rfl
theorem tw_673 : (Jvm.Cond.laysFinal "SnapshotHeapModel" "SnapshotHeapModel" "refers" "[Z") ∈ lw_good := tw_at 673 (by decide +kernel) rfl
theorem tw_674 : (Jvm.Cond.soleField "SnapshotHeapModel" "refers") ∈ lw_good := tw_at 674 (by decide +kernel) rfl
theorem tw_675 : (Jvm.Cond.laysFinal "SnapshotHeapModel" "SnapshotHeapModel" "rootRefers" "[Z") ∈ lw_good := tw_at 675 (by decide +kernel) rfl
theorem tw_676 : (Jvm.Cond.soleField "SnapshotHeapModel" "rootRefers") ∈ lw_good := tw_at 676 (by decide +kernel) rfl
theorem tw_677 : (Jvm.Cond.laysFinal "SnapshotHeapModel" "SnapshotHeapModel" "isReached" "[Z") ∈ lw_good := tw_at 677 (by decide +kernel) rfl
theorem tw_678 : (Jvm.Cond.soleField "SnapshotHeapModel" "isReached") ∈ lw_good := tw_at 678 (by decide +kernel) rfl
theorem tw_679 : (Jvm.Cond.laysFinal "SnapshotHeapModel" "SnapshotHeapModel" "size" "[I") ∈ lw_good := tw_at 679 (by decide +kernel) rfl
theorem tw_680 : (Jvm.Cond.soleField "SnapshotHeapModel" "size") ∈ lw_good := tw_at 680 (by decide +kernel) rfl
theorem tw_681 : (Jvm.Cond.laysFinal "SnapshotHeapModel" "SnapshotHeapModel" "todo" "[I") ∈ lw_good := tw_at 681 (by decide +kernel) rfl
theorem tw_682 : (Jvm.Cond.soleField "SnapshotHeapModel" "todo") ∈ lw_good := tw_at 682 (by decide +kernel) rfl
theorem tw_683 : (Jvm.Cond.laysFinal "SnapshotHeapModel" "SnapshotHeapModel" "met" "[I") ∈ lw_good := tw_at 683 (by decide +kernel) rfl
theorem tw_684 : (Jvm.Cond.soleField "SnapshotHeapModel" "met") ∈ lw_good := tw_at 684 (by decide +kernel) rfl
theorem tw_685 : (Jvm.Cond.laysFinal "SnapshotHeapModel" "SnapshotHeapModel" "next" "[I") ∈ lw_good := tw_at 685 (by decide +kernel) rfl
theorem tw_686 : (Jvm.Cond.soleField "SnapshotHeapModel" "next") ∈ lw_good := tw_at 686 (by decide +kernel) rfl
theorem tw_687 : (Jvm.Cond.lays "SnapshotHeapModel" "SnapshotHeapModel" "made" "I") ∈ lw_good := tw_at 687 (by decide +kernel) rfl
theorem tw_688 : (Jvm.Cond.soleField "SnapshotHeapModel" "made") ∈ lw_good := tw_at 688 (by decide +kernel) rfl
theorem tw_689 : (Jvm.Cond.lays "SnapshotHeapModel" "SnapshotHeapModel" "pace" "I") ∈ lw_good := tw_at 689 (by decide +kernel) rfl
theorem tw_690 : (Jvm.Cond.soleField "SnapshotHeapModel" "pace") ∈ lw_good := tw_at 690 (by decide +kernel) rfl
theorem tw_691 : (Jvm.Cond.lays "SnapshotHeapModel" "SnapshotHeapModel" "reached" "I") ∈ lw_good := tw_at 691 (by decide +kernel) rfl
theorem tw_692 : (Jvm.Cond.soleField "SnapshotHeapModel" "reached") ∈ lw_good := tw_at 692 (by decide +kernel) rfl
theorem tw_693 : (Jvm.Cond.lays "SnapshotHeapModel" "SnapshotHeapModel" "cells" "I") ∈ lw_good := tw_at 693 (by decide +kernel) rfl
theorem tw_694 : (Jvm.Cond.soleField "SnapshotHeapModel" "cells") ∈ lw_good := tw_at 694 (by decide +kernel) rfl
theorem tw_695 : (Jvm.Cond.lays "SnapshotHeapModel" "SnapshotHeapModel" "thrown" "I") ∈ lw_good := tw_at 695 (by decide +kernel) rfl
theorem tw_696 : (Jvm.Cond.soleField "SnapshotHeapModel" "thrown") ∈ lw_good := tw_at 696 (by decide +kernel) rfl
theorem tw_697 : (Jvm.Cond.lays "SnapshotHeapModel" "SnapshotHeapModel" "tops" "I") ∈ lw_good := tw_at 697 (by decide +kernel) rfl
theorem tw_698 : (Jvm.Cond.soleField "SnapshotHeapModel" "tops") ∈ lw_good := tw_at 698 (by decide +kernel) rfl
theorem tw_699 : (Jvm.Cond.superclass "SnapshotHeapModel" "java/lang/Object") ∈ lw_good := tw_at 699 (by decide +kernel) rfl
theorem tw_700 : (Jvm.Cond.arrayClass Jvm.ClassFile.FieldType.boolean) ∈ lw_good := tw_at 700 (by decide +kernel) rfl
theorem tw_701 : (Jvm.Cond.methodLink "SnapshotHeapLaw" (68 : Nat) ({ cls := "SnapshotHeapModel", name := "thrown", desc := "()I" } : Jvm.MethodName)) ∈ lw_good := tw_at 701 (by decide +kernel) rfl
theorem tw_702 : (Jvm.Cond.instanceMethod ({ cls := "SnapshotHeapModel", name := "thrown", desc := "()I" } : Jvm.MethodName)) ∈ lw_good := tw_at 702 (by decide +kernel) rfl
theorem tw_703 : (Jvm.Cond.selects "SnapshotHeapModel" ({ cls := "SnapshotHeapModel", name := "thrown", desc := "()I" } : Jvm.MethodName) ({ cls := "SnapshotHeapModel", name := "thrown", desc := "()I" } : Jvm.MethodName)) ∈ lw_good := tw_at 703 (by decide +kernel) rfl
set_option maxRecDepth 100000 in
theorem tw_704 : (Jvm.Cond.code ({ cls := "SnapshotHeapModel", name := "thrown", desc := "()I" } : Jvm.MethodName) prog_9_method_2_code (1 : Nat) (Option.some Jvm.ClassFile.FieldType.int)) ∈ lw_good := tw_at 704 rfl rfl
theorem tw_705 : (Jvm.Cond.methodLink "SnapshotHeapLaw" (67 : Nat) ({ cls := "SnapshotHeapModel", name := "tuple", desc := "(II)I" } : Jvm.MethodName)) ∈ lw_good := tw_at 705 (by decide +kernel) rfl
theorem tw_706 : (Jvm.Cond.instanceMethod ({ cls := "SnapshotHeapModel", name := "tuple", desc := "(II)I" } : Jvm.MethodName)) ∈ lw_good := tw_at 706 (by decide +kernel) rfl
theorem tw_707 : (Jvm.Cond.selects "SnapshotHeapModel" ({ cls := "SnapshotHeapModel", name := "tuple", desc := "(II)I" } : Jvm.MethodName) ({ cls := "SnapshotHeapModel", name := "tuple", desc := "(II)I" } : Jvm.MethodName)) ∈ lw_good := tw_at 707 (by decide +kernel) rfl
set_option maxRecDepth 100000 in
theorem tw_708 : (Jvm.Cond.code ({ cls := "SnapshotHeapModel", name := "tuple", desc := "(II)I" } : Jvm.MethodName) prog_9_method_6_code (5 : Nat) (Option.some Jvm.ClassFile.FieldType.int)) ∈ lw_good := tw_at 708 rfl rfl
theorem tw_709 : (Jvm.Cond.methodLink "SnapshotHeapModel" (59 : Nat) ({ cls := "SnapshotHeapModel", name := "isRoot", desc := "(I)Z" } : Jvm.MethodName)) ∈ lw_good := tw_at 709 (by decide +kernel) rfl
theorem tw_710 : (Jvm.Cond.static ({ cls := "SnapshotHeapModel", name := "isRoot", desc := "(I)Z" } : Jvm.MethodName)) ∈ lw_good := tw_at 710 (by decide +kernel) rfl
set_option maxRecDepth 100000 in
theorem tw_711 : (Jvm.Cond.code ({ cls := "SnapshotHeapModel", name := "isRoot", desc := "(I)Z" } : Jvm.MethodName) prog_9_method_3_code (1 : Nat) (Option.some Jvm.ClassFile.FieldType.boolean)) ∈ lw_good := tw_at 711 rfl rfl
theorem tw_712 : (Jvm.Cond.methodLink "SnapshotHeapModel" (63 : Nat) ({ cls := "SnapshotHeapModel", name := "reachAll", desc := "()V" } : Jvm.MethodName)) ∈ lw_good := tw_at 712 (by decide +kernel) rfl
theorem tn_713 : (Jvm.Cond.privateMethod ({ cls := "SnapshotHeapModel", name := "reachAll", desc := "()V" } : Jvm.MethodName)) ∈ lw_tbl := List.mem_append_right _ (List.mem_of_getElem? (i := 713) (by decide +kernel))
theorem tw_714 : (Jvm.Cond.instanceMethod ({ cls := "SnapshotHeapModel", name := "reachAll", desc := "()V" } : Jvm.MethodName)) ∈ lw_good := tw_at 714 (by decide +kernel) rfl
set_option maxRecDepth 100000 in
theorem tw_715 : (Jvm.Cond.code ({ cls := "SnapshotHeapModel", name := "reachAll", desc := "()V" } : Jvm.MethodName) prog_9_method_5_code (3 : Nat) (Option.none : Option Jvm.ClassFile.FieldType)) ∈ lw_good := tw_at 715 rfl rfl
theorem tw_716 : (Jvm.Cond.methodLink "SnapshotHeapModel" (55 : Nat) ({ cls := "SnapshotHeapModel", name := "reach", desc := "(J)V" } : Jvm.MethodName)) ∈ lw_good := tw_at 716 (by decide +kernel) rfl
theorem tn_717 : (Jvm.Cond.privateMethod ({ cls := "SnapshotHeapModel", name := "reach", desc := "(J)V" } : Jvm.MethodName)) ∈ lw_tbl := List.mem_append_right _ (List.mem_of_getElem? (i := 717) (by decide +kernel))
theorem tw_718 : (Jvm.Cond.instanceMethod ({ cls := "SnapshotHeapModel", name := "reach", desc := "(J)V" } : Jvm.MethodName)) ∈ lw_good := tw_at 718 (by decide +kernel) rfl
set_option maxRecDepth 100000 in
theorem tw_719 : (Jvm.Cond.code ({ cls := "SnapshotHeapModel", name := "reach", desc := "(J)V" } : Jvm.MethodName) prog_9_method_4_code (4 : Nat) (Option.none : Option Jvm.ClassFile.FieldType)) ∈ lw_good := tw_at 719 rfl rfl
theorem tw_720 : (Jvm.Cond.methodLink "SnapshotHeapLaw" (77 : Nat) ({ cls := "SnapshotHeapModel", name := "number", desc := "(IJ)V" } : Jvm.MethodName)) ∈ lw_good := tw_at 720 (by decide +kernel) rfl
theorem tw_721 : (Jvm.Cond.instanceMethod ({ cls := "SnapshotHeapModel", name := "number", desc := "(IJ)V" } : Jvm.MethodName)) ∈ lw_good := tw_at 721 (by decide +kernel) rfl
theorem tw_722 : (Jvm.Cond.selects "SnapshotHeapModel" ({ cls := "SnapshotHeapModel", name := "number", desc := "(IJ)V" } : Jvm.MethodName) ({ cls := "SnapshotHeapModel", name := "number", desc := "(IJ)V" } : Jvm.MethodName)) ∈ lw_good := tw_at 722 (by decide +kernel) rfl
set_option maxRecDepth 100000 in
theorem tw_723 : (Jvm.Cond.code ({ cls := "SnapshotHeapModel", name := "number", desc := "(IJ)V" } : Jvm.MethodName) prog_9_method_7_code (4 : Nat) (Option.none : Option Jvm.ClassFile.FieldType)) ∈ lw_good := tw_at 723 rfl rfl
theorem tw_724 : (Jvm.Cond.methodLink "SnapshotHeapLaw" (81 : Nat) ({ cls := "SnapshotHeapModel", name := "copy", desc := "(II)V" } : Jvm.MethodName)) ∈ lw_good := tw_at 724 (by decide +kernel) rfl
theorem tw_725 : (Jvm.Cond.instanceMethod ({ cls := "SnapshotHeapModel", name := "copy", desc := "(II)V" } : Jvm.MethodName)) ∈ lw_good := tw_at 725 (by decide +kernel) rfl
theorem tw_726 : (Jvm.Cond.selects "SnapshotHeapModel" ({ cls := "SnapshotHeapModel", name := "copy", desc := "(II)V" } : Jvm.MethodName) ({ cls := "SnapshotHeapModel", name := "copy", desc := "(II)V" } : Jvm.MethodName)) ∈ lw_good := tw_at 726 (by decide +kernel) rfl
set_option maxRecDepth 100000 in
theorem tw_727 : (Jvm.Cond.code ({ cls := "SnapshotHeapModel", name := "copy", desc := "(II)V" } : Jvm.MethodName) prog_9_method_8_code (3 : Nat) (Option.none : Option Jvm.ClassFile.FieldType)) ∈ lw_good := tw_at 727 rfl rfl
theorem tw_728 : (Jvm.Cond.methodLink "SnapshotHeapLaw" (85 : Nat) ({ cls := "SnapshotHeapModel", name := "get", desc := "(III)V" } : Jvm.MethodName)) ∈ lw_good := tw_at 728 (by decide +kernel) rfl
theorem tw_729 : (Jvm.Cond.instanceMethod ({ cls := "SnapshotHeapModel", name := "get", desc := "(III)V" } : Jvm.MethodName)) ∈ lw_good := tw_at 729 (by decide +kernel) rfl
theorem tw_730 : (Jvm.Cond.selects "SnapshotHeapModel" ({ cls := "SnapshotHeapModel", name := "get", desc := "(III)V" } : Jvm.MethodName) ({ cls := "SnapshotHeapModel", name := "get", desc := "(III)V" } : Jvm.MethodName)) ∈ lw_good := tw_at 730 (by decide +kernel) rfl
set_option maxRecDepth 100000 in
theorem tw_731 : (Jvm.Cond.code ({ cls := "SnapshotHeapModel", name := "get", desc := "(III)V" } : Jvm.MethodName) prog_9_method_10_code (5 : Nat) (Option.none : Option Jvm.ClassFile.FieldType)) ∈ lw_good := tw_at 731 rfl rfl
theorem tw_732 : (Jvm.Cond.methodLink "SnapshotHeapModel" (69 : Nat) ({ cls := "SnapshotHeapModel", name := "place", desc := "(III)I" } : Jvm.MethodName)) ∈ lw_good := tw_at 732 (by decide +kernel) rfl
theorem tn_733 : (Jvm.Cond.privateMethod ({ cls := "SnapshotHeapModel", name := "place", desc := "(III)I" } : Jvm.MethodName)) ∈ lw_tbl := List.mem_append_right _ (List.mem_of_getElem? (i := 733) (by decide +kernel))
theorem tw_734 : (Jvm.Cond.instanceMethod ({ cls := "SnapshotHeapModel", name := "place", desc := "(III)I" } : Jvm.MethodName)) ∈ lw_good := tw_at 734 (by decide +kernel) rfl
set_option maxRecDepth 100000 in
theorem tw_735 : (Jvm.Cond.code ({ cls := "SnapshotHeapModel", name := "place", desc := "(III)I" } : Jvm.MethodName) prog_9_method_9_code (4 : Nat) (Option.some Jvm.ClassFile.FieldType.int)) ∈ lw_good := tw_at 735 rfl rfl
theorem tw_736 : (Jvm.Cond.methodLink "SnapshotHeapLaw" (88 : Nat) ({ cls := "SnapshotHeapModel", name := "set", desc := "(III)V" } : Jvm.MethodName)) ∈ lw_good := tw_at 736 (by decide +kernel) rfl
theorem tw_737 : (Jvm.Cond.instanceMethod ({ cls := "SnapshotHeapModel", name := "set", desc := "(III)V" } : Jvm.MethodName)) ∈ lw_good := tw_at 737 (by decide +kernel) rfl
theorem tw_738 : (Jvm.Cond.selects "SnapshotHeapModel" ({ cls := "SnapshotHeapModel", name := "set", desc := "(III)V" } : Jvm.MethodName) ({ cls := "SnapshotHeapModel", name := "set", desc := "(III)V" } : Jvm.MethodName)) ∈ lw_good := tw_at 738 (by decide +kernel) rfl
set_option maxRecDepth 100000 in
theorem tw_739 : (Jvm.Cond.code ({ cls := "SnapshotHeapModel", name := "set", desc := "(III)V" } : Jvm.MethodName) prog_9_method_11_code (5 : Nat) (Option.none : Option Jvm.ClassFile.FieldType)) ∈ lw_good := tw_at 739 rfl rfl
theorem tw_740 : (Jvm.Cond.methodLink "SnapshotHeapLaw" (92 : Nat) ({ cls := "SnapshotHeapModel", name := "step", desc := "(I)V" } : Jvm.MethodName)) ∈ lw_good := tw_at 740 (by decide +kernel) rfl
theorem tw_741 : (Jvm.Cond.instanceMethod ({ cls := "SnapshotHeapModel", name := "step", desc := "(I)V" } : Jvm.MethodName)) ∈ lw_good := tw_at 741 (by decide +kernel) rfl
theorem tw_742 : (Jvm.Cond.selects "SnapshotHeapModel" ({ cls := "SnapshotHeapModel", name := "step", desc := "(I)V" } : Jvm.MethodName) ({ cls := "SnapshotHeapModel", name := "step", desc := "(I)V" } : Jvm.MethodName)) ∈ lw_good := tw_at 742 (by decide +kernel) rfl
set_option maxRecDepth 100000 in
theorem tw_743 : (Jvm.Cond.code ({ cls := "SnapshotHeapModel", name := "step", desc := "(I)V" } : Jvm.MethodName) prog_9_method_12_code (2 : Nat) (Option.none : Option Jvm.ClassFile.FieldType)) ∈ lw_good := tw_at 743 rfl rfl
theorem tw_744 : (Jvm.Cond.methodLink "SnapshotHeapLaw" (96 : Nat) ({ cls := "SnapshotHeapModel", name := "pace", desc := "(I)I" } : Jvm.MethodName)) ∈ lw_good := tw_at 744 (by decide +kernel) rfl
theorem tw_745 : (Jvm.Cond.instanceMethod ({ cls := "SnapshotHeapModel", name := "pace", desc := "(I)I" } : Jvm.MethodName)) ∈ lw_good := tw_at 745 (by decide +kernel) rfl
theorem tw_746 : (Jvm.Cond.selects "SnapshotHeapModel" ({ cls := "SnapshotHeapModel", name := "pace", desc := "(I)I" } : Jvm.MethodName) ({ cls := "SnapshotHeapModel", name := "pace", desc := "(I)I" } : Jvm.MethodName)) ∈ lw_good := tw_at 746 (by decide +kernel) rfl
set_option maxRecDepth 100000 in
theorem tw_747 : (Jvm.Cond.code ({ cls := "SnapshotHeapModel", name := "pace", desc := "(I)I" } : Jvm.MethodName) prog_9_method_13_code (3 : Nat) (Option.some Jvm.ClassFile.FieldType.int)) ∈ lw_good := tw_at 747 rfl rfl
theorem tw_748 : (Jvm.Cond.methodLink "SnapshotHeapLaw" (99 : Nat) ({ cls := "SnapshotHeapModel", name := "size", desc := "(I)I" } : Jvm.MethodName)) ∈ lw_good := tw_at 748 (by decide +kernel) rfl
theorem tw_749 : (Jvm.Cond.instanceMethod ({ cls := "SnapshotHeapModel", name := "size", desc := "(I)I" } : Jvm.MethodName)) ∈ lw_good := tw_at 749 (by decide +kernel) rfl
theorem tw_750 : (Jvm.Cond.selects "SnapshotHeapModel" ({ cls := "SnapshotHeapModel", name := "size", desc := "(I)I" } : Jvm.MethodName) ({ cls := "SnapshotHeapModel", name := "size", desc := "(I)I" } : Jvm.MethodName)) ∈ lw_good := tw_at 750 (by decide +kernel) rfl
set_option maxRecDepth 100000 in
theorem tw_751 : (Jvm.Cond.code ({ cls := "SnapshotHeapModel", name := "size", desc := "(I)I" } : Jvm.MethodName) prog_9_method_14_code (2 : Nat) (Option.some Jvm.ClassFile.FieldType.int)) ∈ lw_good := tw_at 751 rfl rfl
theorem tw_752 : (Jvm.Cond.methodLink "SnapshotHeapLaw" (102 : Nat) ({ cls := "SnapshotHeapModel", name := "value", desc := "(I)J" } : Jvm.MethodName)) ∈ lw_good := tw_at 752 (by decide +kernel) rfl
theorem tw_753 : (Jvm.Cond.instanceMethod ({ cls := "SnapshotHeapModel", name := "value", desc := "(I)J" } : Jvm.MethodName)) ∈ lw_good := tw_at 753 (by decide +kernel) rfl
theorem tw_754 : (Jvm.Cond.selects "SnapshotHeapModel" ({ cls := "SnapshotHeapModel", name := "value", desc := "(I)J" } : Jvm.MethodName) ({ cls := "SnapshotHeapModel", name := "value", desc := "(I)J" } : Jvm.MethodName)) ∈ lw_good := tw_at 754 (by decide +kernel) rfl
set_option maxRecDepth 100000 in
theorem tw_755 : (Jvm.Cond.code ({ cls := "SnapshotHeapModel", name := "value", desc := "(I)J" } : Jvm.MethodName) prog_9_method_15_code (2 : Nat) (Option.some Jvm.ClassFile.FieldType.long)) ∈ lw_good := tw_at 755 rfl rfl
theorem tw_756 : (Jvm.Cond.methodLink "SnapshotHeapLaw" (105 : Nat) ({ cls := "SnapshotHeapModel", name := "same", desc := "(II)Z" } : Jvm.MethodName)) ∈ lw_good := tw_at 756 (by decide +kernel) rfl
theorem tw_757 : (Jvm.Cond.instanceMethod ({ cls := "SnapshotHeapModel", name := "same", desc := "(II)Z" } : Jvm.MethodName)) ∈ lw_good := tw_at 757 (by decide +kernel) rfl
theorem tw_758 : (Jvm.Cond.selects "SnapshotHeapModel" ({ cls := "SnapshotHeapModel", name := "same", desc := "(II)Z" } : Jvm.MethodName) ({ cls := "SnapshotHeapModel", name := "same", desc := "(II)Z" } : Jvm.MethodName)) ∈ lw_good := tw_at 758 (by decide +kernel) rfl
set_option maxRecDepth 100000 in
theorem tw_759 : (Jvm.Cond.code ({ cls := "SnapshotHeapModel", name := "same", desc := "(II)Z" } : Jvm.MethodName) prog_9_method_16_code (3 : Nat) (Option.some Jvm.ClassFile.FieldType.boolean)) ∈ lw_good := tw_at 759 rfl rfl
theorem tw_760 : (Jvm.Cond.methodLink "SnapshotHeapLaw" (108 : Nat) ({ cls := "SnapshotHeapModel", name := "count", desc := "(I)I" } : Jvm.MethodName)) ∈ lw_good := tw_at 760 (by decide +kernel) rfl
theorem tw_761 : (Jvm.Cond.instanceMethod ({ cls := "SnapshotHeapModel", name := "count", desc := "(I)I" } : Jvm.MethodName)) ∈ lw_good := tw_at 761 (by decide +kernel) rfl
theorem tw_762 : (Jvm.Cond.selects "SnapshotHeapModel" ({ cls := "SnapshotHeapModel", name := "count", desc := "(I)I" } : Jvm.MethodName) ({ cls := "SnapshotHeapModel", name := "count", desc := "(I)I" } : Jvm.MethodName)) ∈ lw_good := tw_at 762 (by decide +kernel) rfl
set_option maxRecDepth 100000 in
theorem tw_763 : (Jvm.Cond.code ({ cls := "SnapshotHeapModel", name := "count", desc := "(I)I" } : Jvm.MethodName) prog_9_method_17_code (2 : Nat) (Option.some Jvm.ClassFile.FieldType.int)) ∈ lw_good := tw_at 763 rfl rfl
theorem tw_764 : (Jvm.Cond.methodLink "SnapshotHeapLaw" (113 : Nat) ({ cls := "SnapshotHeapModel", name := "digest", desc := "()J" } : Jvm.MethodName)) ∈ lw_good := tw_at 764 (by decide +kernel) rfl
theorem tw_765 : (Jvm.Cond.instanceMethod ({ cls := "SnapshotHeapModel", name := "digest", desc := "()J" } : Jvm.MethodName)) ∈ lw_good := tw_at 765 (by decide +kernel) rfl
theorem tw_766 : (Jvm.Cond.selects "SnapshotHeapModel" ({ cls := "SnapshotHeapModel", name := "digest", desc := "()J" } : Jvm.MethodName) ({ cls := "SnapshotHeapModel", name := "digest", desc := "()J" } : Jvm.MethodName)) ∈ lw_good := tw_at 766 (by decide +kernel) rfl
set_option maxRecDepth 100000 in
theorem tw_767 : (Jvm.Cond.code ({ cls := "SnapshotHeapModel", name := "digest", desc := "()J" } : Jvm.MethodName) prog_9_method_18_code (10 : Nat) (Option.some Jvm.ClassFile.FieldType.long)) ∈ lw_good := tw_at 767 rfl rfl
theorem tw_768 : (Jvm.Cond.constantLong "SnapshotHeapModel" (73 : Nat) (7 : Int64)) ∈ lw_good := tw_at 768 (by decide +kernel) rfl
theorem tw_769 : (Jvm.Cond.constantLong "SnapshotHeapModel" (75 : Nat) (31 : Int64)) ∈ lw_good := tw_at 769 (by decide +kernel) rfl
theorem tw_770 : (Jvm.Cond.constantLong "SnapshotHeapModel" (77 : Nat) (2 : Int64)) ∈ lw_good := tw_at 770 (by decide +kernel) rfl
theorem tw_771 : (Jvm.Cond.constantLong "SnapshotHeapModel" (79 : Nat) (3 : Int64)) ∈ lw_good := tw_at 771 (by decide +kernel) rfl
theorem tw_772 : (Jvm.Cond.methodLink "SnapshotHeapLaw" (117 : Nat) ({ cls := "SnapshotHeapModel", name := "collect", desc := "()I" } : Jvm.MethodName)) ∈ lw_good := tw_at 772 (by decide +kernel) rfl
theorem tw_773 : (Jvm.Cond.instanceMethod ({ cls := "SnapshotHeapModel", name := "collect", desc := "()I" } : Jvm.MethodName)) ∈ lw_good := tw_at 773 (by decide +kernel) rfl
theorem tw_774 : (Jvm.Cond.selects "SnapshotHeapModel" ({ cls := "SnapshotHeapModel", name := "collect", desc := "()I" } : Jvm.MethodName) ({ cls := "SnapshotHeapModel", name := "collect", desc := "()I" } : Jvm.MethodName)) ∈ lw_good := tw_at 774 (by decide +kernel) rfl
set_option maxRecDepth 100000 in
theorem tw_775 : (Jvm.Cond.code ({ cls := "SnapshotHeapModel", name := "collect", desc := "()I" } : Jvm.MethodName) prog_9_method_19_code (1 : Nat) (Option.some Jvm.ClassFile.FieldType.int)) ∈ lw_good := tw_at 775 rfl rfl
theorem tw_776 : (Jvm.Cond.methodLink "SnapshotHeapLaw" (121 : Nat) ({ cls := "SnapshotHeapModel", name := "check", desc := "()I" } : Jvm.MethodName)) ∈ lw_good := tw_at 776 (by decide +kernel) rfl
theorem tw_777 : (Jvm.Cond.instanceMethod ({ cls := "SnapshotHeapModel", name := "check", desc := "()I" } : Jvm.MethodName)) ∈ lw_good := tw_at 777 (by decide +kernel) rfl
theorem tw_778 : (Jvm.Cond.selects "SnapshotHeapModel" ({ cls := "SnapshotHeapModel", name := "check", desc := "()I" } : Jvm.MethodName) ({ cls := "SnapshotHeapModel", name := "check", desc := "()I" } : Jvm.MethodName)) ∈ lw_good := tw_at 778 (by decide +kernel) rfl
set_option maxRecDepth 100000 in
theorem tw_779 : (Jvm.Cond.code ({ cls := "SnapshotHeapModel", name := "check", desc := "()I" } : Jvm.MethodName) prog_9_method_20_code (1 : Nat) (Option.some Jvm.ClassFile.FieldType.int)) ∈ lw_good := tw_at 779 rfl rfl
theorem tw_780 : (Jvm.Cond.constantLong "SnapshotHeapLaw" (72 : Nat) (4294967295 : Int64)) ∈ lw_good := tw_at 780 (by decide +kernel) rfl
theorem tw_781 : (Jvm.Cond.sameMethod "java/lang/Throwable" "java/lang/Throwable" "fillInStackTrace" "(I)Ljava/lang/Throwable;") ∈ lw_good := tw_at 781 (by decide +kernel) rfl
theorem ts_Co_advance : Cond.selects "SnapshotHeap$Collector" ⟨"SnapshotHeap$Collector", "advance", "()V"⟩ ⟨"SnapshotHeap$Collector", "advance", "()V"⟩ ∈ lw_good := tw_mem (List.mem_append_left _ (List.mem_of_getElem? (i := 0) (by decide +kernel))) rfl
theorem ts_Co_begin : Cond.selects "SnapshotHeap$Collector" ⟨"SnapshotHeap$Collector", "begin", "()V"⟩ ⟨"SnapshotHeap$Collector", "begin", "()V"⟩ ∈ lw_good := tw_mem (List.mem_append_left _ (List.mem_of_getElem? (i := 1) (by decide +kernel))) rfl
theorem ts_Co_sweepOne : Cond.selects "SnapshotHeap$Collector" ⟨"SnapshotHeap$Collector", "sweepOne", "()V"⟩ ⟨"SnapshotHeap$Collector", "sweepOne", "()V"⟩ ∈ lw_good := tw_mem (List.mem_append_left _ (List.mem_of_getElem? (i := 2) (by decide +kernel))) rfl
theorem ts_Wa_goInto : Cond.selects "SnapshotHeap$Walk" ⟨"SnapshotHeap$Walk", "goInto", "(I)V"⟩ ⟨"SnapshotHeap$Walk", "goInto", "(I)V"⟩ ∈ lw_good := tw_mem (List.mem_append_left _ (List.mem_of_getElem? (i := 3) (by decide +kernel))) rfl
theorem ts_Wa_goOn : Cond.selects "SnapshotHeap$Walk" ⟨"SnapshotHeap$Walk", "goOn", "()V"⟩ ⟨"SnapshotHeap$Walk", "goOn", "()V"⟩ ∈ lw_good := tw_mem (List.mem_append_left _ (List.mem_of_getElem? (i := 4) (by decide +kernel))) rfl
theorem ts_Wa_meet : Cond.selects "SnapshotHeap$Walk" ⟨"SnapshotHeap$Walk", "meet", "(I)V"⟩ ⟨"SnapshotHeap$Walk", "meet", "(I)V"⟩ ∈ lw_good := tw_mem (List.mem_append_left _ (List.mem_of_getElem? (i := 5) (by decide +kernel))) rfl
theorem ts_Wa_mix : Cond.selects "SnapshotHeap$Walk" ⟨"SnapshotHeap$Walk", "mix", "(J)V"⟩ ⟨"SnapshotHeap$Walk", "mix", "(J)V"⟩ ∈ lw_good := tw_mem (List.mem_append_left _ (List.mem_of_getElem? (i := 6) (by decide +kernel))) rfl
theorem ts_Wa_meetFirst : Cond.selects "SnapshotHeap$Walk" ⟨"SnapshotHeap$Walk", "meetFirst", "(I)V"⟩ ⟨"SnapshotHeap$Walk", "meetFirst", "(I)V"⟩ ∈ lw_good := tw_mem (List.mem_append_left _ (List.mem_of_getElem? (i := 7) (by decide +kernel))) rfl
theorem ts_Au_markToTheEnd : Cond.selects "SnapshotHeap$Audit" ⟨"SnapshotHeap$Audit", "markToTheEnd", "()V"⟩ ⟨"SnapshotHeap$Audit", "markToTheEnd", "()V"⟩ ∈ lw_good := tw_mem (List.mem_append_left _ (List.mem_of_getElem? (i := 8) (by decide +kernel))) rfl
theorem ts_Au_isMarkWrong : Cond.selects "SnapshotHeap$Audit" ⟨"SnapshotHeap$Audit", "isMarkWrong", "(I)Z"⟩ ⟨"SnapshotHeap$Audit", "isMarkWrong", "(I)Z"⟩ ∈ lw_good := tw_mem (List.mem_append_left _ (List.mem_of_getElem? (i := 9) (by decide +kernel))) rfl
theorem ts_Au_isMarkInUse : Cond.selects "SnapshotHeap$Audit" ⟨"SnapshotHeap$Audit", "isMarkInUse", "(I)Z"⟩ ⟨"SnapshotHeap$Audit", "isMarkInUse", "(I)Z"⟩ ∈ lw_good := tw_mem (List.mem_append_left _ (List.mem_of_getElem? (i := 10) (by decide +kernel))) rfl
theorem ts_St_takeFreePlace : Cond.selects "SnapshotHeap$Store" ⟨"SnapshotHeap$Store", "takeFreePlace", "()I"⟩ ⟨"SnapshotHeap$Store", "takeFreePlace", "()I"⟩ ∈ lw_good := tw_mem (List.mem_append_left _ (List.mem_of_getElem? (i := 12) (by decide +kernel))) rfl
theorem ts_Sh_existingSlot : Cond.selects "SnapshotHeap" ⟨"SnapshotHeap", "existingSlot", "(II)I"⟩ ⟨"SnapshotHeap", "existingSlot", "(II)I"⟩ ∈ lw_good := tw_mem (List.mem_append_left _ (List.mem_of_getElem? (i := 13) (by decide +kernel))) rfl
theorem ts_Mo_reachAll : Cond.selects "SnapshotHeapModel" ⟨"SnapshotHeapModel", "reachAll", "()V"⟩ ⟨"SnapshotHeapModel", "reachAll", "()V"⟩ ∈ lw_good := tw_mem (List.mem_append_left _ (List.mem_of_getElem? (i := 14) (by decide +kernel))) rfl
theorem ts_Mo_reach : Cond.selects "SnapshotHeapModel" ⟨"SnapshotHeapModel", "reach", "(J)V"⟩ ⟨"SnapshotHeapModel", "reach", "(J)V"⟩ ∈ lw_good := tw_mem (List.mem_append_left _ (List.mem_of_getElem? (i := 15) (by decide +kernel))) rfl
theorem ts_Mo_place : Cond.selects "SnapshotHeapModel" ⟨"SnapshotHeapModel", "place", "(III)I"⟩ ⟨"SnapshotHeapModel", "place", "(III)I"⟩ ∈ lw_good := tw_mem (List.mem_append_left _ (List.mem_of_getElem? (i := 16) (by decide +kernel))) rfl
end
section
def R_Sh : String := "SnapshotHeap"
def R_Au : String := "SnapshotHeap$Audit"
def R_Co : String := "SnapshotHeap$Collector"
def R_Ma : String := "SnapshotHeap$Marking"
def R_Ph : String := "SnapshotHeap$Phase"
def R_St : String := "SnapshotHeap$Store"
def R_Wa : String := "SnapshotHeap$Walk"
def R_Mo : String := "SnapshotHeapModel"
def R_La : String := "SnapshotHeapLaw"
def R_Ar : String := "java/util/Arrays"
def R_Ob : String := "java/lang/Object"
def R_Sy : String := "java/lang/System"
def F_St : u_T := fun k => match k with
  | 0 => ("SnapshotHeap$Store", "sizes", "[I", true)
  | 1 => ("SnapshotHeap$Store", "links", "[I", true)
  | 2 => ("SnapshotHeap$Store", "numbers", "[J", true)
  | 3 => ("SnapshotHeap$Store", "released", "[I", true)
  | 4 => ("SnapshotHeap$Store", "releasedCount", "I", false)
  | 5 => ("SnapshotHeap$Store", "top", "I", false)
  | _ => ("SnapshotHeap$Store", "usedCells", "I", false)
def t_St : Nat → FieldType := fun k => match k with
  | 0 => (.array .int)
  | 1 => (.array .int)
  | 2 => (.array .long)
  | 3 => (.array .int)
  | 4 => .int
  | 5 => .int
  | _ => .int
theorem n_St : ∀ a, a < 7 → ∀ b, b < 7 → a ≠ b → (F_St a).2.1 ≠ (F_St b).2.1 := by decide +kernel
theorem t_St_ok : ∀ k, k < 7 → parseFieldDescriptor (F_St k).2.2.1 = some (t_St k) := by decide +kernel
theorem in_St : ∀ w ∈ u_ws R_St F_St 7, w ∈ lw_good := List.forall_mem_cons.mpr ⟨tw_43, List.forall_mem_cons.mpr ⟨tw_45, List.forall_mem_cons.mpr ⟨tw_47, List.forall_mem_cons.mpr ⟨tw_49, List.forall_mem_cons.mpr ⟨tw_51, List.forall_mem_cons.mpr ⟨tw_53, List.forall_mem_cons.mpr ⟨tw_55, fun _ h => absurd h List.not_mem_nil⟩⟩⟩⟩⟩⟩⟩
theorem gn_St : Cond.initialized R_St ∈ lw_good := tw_2
def F_Ma : u_T := fun k => match k with
  | 0 => ("SnapshotHeap$Marking", "store", "LSnapshotHeap$Store;", true)
  | 1 => ("SnapshotHeap$Marking", "colours", "[I", true)
  | 2 => ("SnapshotHeap$Marking", "waiting", "[I", true)
  | _ => ("SnapshotHeap$Marking", "waitingCount", "I", false)
def t_Ma : Nat → FieldType := fun k => match k with
  | 0 => (.object "SnapshotHeap$Store")
  | 1 => (.array .int)
  | 2 => (.array .int)
  | _ => .int
theorem n_Ma : ∀ a, a < 4 → ∀ b, b < 4 → a ≠ b → (F_Ma a).2.1 ≠ (F_Ma b).2.1 := by decide +kernel
theorem t_Ma_ok : ∀ k, k < 4 → parseFieldDescriptor (F_Ma k).2.2.1 = some (t_Ma k) := by decide +kernel
theorem in_Ma : ∀ w ∈ u_ws R_Ma F_Ma 4, w ∈ lw_good := List.forall_mem_cons.mpr ⟨tw_76, List.forall_mem_cons.mpr ⟨tw_78, List.forall_mem_cons.mpr ⟨tw_80, List.forall_mem_cons.mpr ⟨tw_82, fun _ h => absurd h List.not_mem_nil⟩⟩⟩⟩
theorem gn_Ma : Cond.initialized R_Ma ∈ lw_good := tw_5
def F_Co : u_T := fun k => match k with
  | 0 => ("SnapshotHeap$Collector", "store", "LSnapshotHeap$Store;", true)
  | 1 => ("SnapshotHeap$Collector", "marking", "LSnapshotHeap$Marking;", true)
  | 2 => ("SnapshotHeap$Collector", "phase", "LSnapshotHeap$Phase;", false)
  | _ => ("SnapshotHeap$Collector", "cursor", "I", false)
def t_Co : Nat → FieldType := fun k => match k with
  | 0 => (.object "SnapshotHeap$Store")
  | 1 => (.object "SnapshotHeap$Marking")
  | 2 => (.object "SnapshotHeap$Phase")
  | _ => .int
theorem n_Co : ∀ a, a < 4 → ∀ b, b < 4 → a ≠ b → (F_Co a).2.1 ≠ (F_Co b).2.1 := by decide +kernel
theorem t_Co_ok : ∀ k, k < 4 → parseFieldDescriptor (F_Co k).2.2.1 = some (t_Co k) := by decide +kernel
theorem in_Co : ∀ w ∈ u_ws R_Co F_Co 4, w ∈ lw_good := List.forall_mem_cons.mpr ⟨tw_91, List.forall_mem_cons.mpr ⟨tw_93, List.forall_mem_cons.mpr ⟨tw_95, List.forall_mem_cons.mpr ⟨tw_97, fun _ h => absurd h List.not_mem_nil⟩⟩⟩⟩
theorem gn_Co : Cond.initialized R_Co ∈ lw_good := tw_4
def F_Wa : u_T := fun k => match k with
  | 0 => ("SnapshotHeap$Walk", "store", "LSnapshotHeap$Store;", true)
  | 1 => ("SnapshotHeap$Walk", "metAs", "[I", true)
  | 2 => ("SnapshotHeap$Walk", "path", "[I", true)
  | 3 => ("SnapshotHeap$Walk", "nextValue", "[I", true)
  | 4 => ("SnapshotHeap$Walk", "depth", "I", false)
  | 5 => ("SnapshotHeap$Walk", "met", "I", false)
  | 6 => ("SnapshotHeap$Walk", "metCells", "I", false)
  | _ => ("SnapshotHeap$Walk", "hash", "J", false)
def t_Wa : Nat → FieldType := fun k => match k with
  | 0 => (.object "SnapshotHeap$Store")
  | 1 => (.array .int)
  | 2 => (.array .int)
  | 3 => (.array .int)
  | 4 => .int
  | 5 => .int
  | 6 => .int
  | _ => .long
theorem n_Wa : ∀ a, a < 8 → ∀ b, b < 8 → a ≠ b → (F_Wa a).2.1 ≠ (F_Wa b).2.1 := by decide +kernel
theorem t_Wa_ok : ∀ k, k < 8 → parseFieldDescriptor (F_Wa k).2.2.1 = some (t_Wa k) := by decide +kernel
theorem in_Wa : ∀ w ∈ u_ws R_Wa F_Wa 8, w ∈ lw_good := List.forall_mem_cons.mpr ⟨tw_114, List.forall_mem_cons.mpr ⟨tw_116, List.forall_mem_cons.mpr ⟨tw_118, List.forall_mem_cons.mpr ⟨tw_120, List.forall_mem_cons.mpr ⟨tw_122, List.forall_mem_cons.mpr ⟨tw_124, List.forall_mem_cons.mpr ⟨tw_126, List.forall_mem_cons.mpr ⟨tw_128, fun _ h => absurd h List.not_mem_nil⟩⟩⟩⟩⟩⟩⟩⟩
theorem gn_Wa : Cond.initialized R_Wa ∈ lw_good := tw_8
def F_Au : u_T := fun k => match k with
  | 0 => ("SnapshotHeap$Audit", "store", "LSnapshotHeap$Store;", true)
  | 1 => ("SnapshotHeap$Audit", "collector", "LSnapshotHeap$Collector;", true)
  | 2 => ("SnapshotHeap$Audit", "walk", "LSnapshotHeap$Walk;", true)
  | 3 => ("SnapshotHeap$Audit", "trial", "LSnapshotHeap$Marking;", true)
  | _ => ("SnapshotHeap$Audit", "holders", "[I", true)
def t_Au : Nat → FieldType := fun k => match k with
  | 0 => (.object "SnapshotHeap$Store")
  | 1 => (.object "SnapshotHeap$Collector")
  | 2 => (.object "SnapshotHeap$Walk")
  | 3 => (.object "SnapshotHeap$Marking")
  | _ => (.array .int)
theorem n_Au : ∀ a, a < 5 → ∀ b, b < 5 → a ≠ b → (F_Au a).2.1 ≠ (F_Au b).2.1 := by decide +kernel
theorem t_Au_ok : ∀ k, k < 5 → parseFieldDescriptor (F_Au k).2.2.1 = some (t_Au k) := by decide +kernel
theorem in_Au : ∀ w ∈ u_ws R_Au F_Au 5, w ∈ lw_good := List.forall_mem_cons.mpr ⟨tw_144, List.forall_mem_cons.mpr ⟨tw_146, List.forall_mem_cons.mpr ⟨tw_148, List.forall_mem_cons.mpr ⟨tw_150, List.forall_mem_cons.mpr ⟨tw_152, fun _ h => absurd h List.not_mem_nil⟩⟩⟩⟩⟩
theorem gn_Au : Cond.initialized R_Au ∈ lw_good := tw_9
def F_Sh : u_T := fun k => match k with
  | 0 => ("SnapshotHeap", "store", "LSnapshotHeap$Store;", true)
  | 1 => ("SnapshotHeap", "collector", "LSnapshotHeap$Collector;", true)
  | 2 => ("SnapshotHeap", "walk", "LSnapshotHeap$Walk;", true)
  | 3 => ("SnapshotHeap", "audit", "LSnapshotHeap$Audit;", true)
  | 4 => ("SnapshotHeap", "pace", "I", false)
  | _ => ("SnapshotHeap", "made", "I", false)
def t_Sh : Nat → FieldType := fun k => match k with
  | 0 => (.object "SnapshotHeap$Store")
  | 1 => (.object "SnapshotHeap$Collector")
  | 2 => (.object "SnapshotHeap$Walk")
  | 3 => (.object "SnapshotHeap$Audit")
  | 4 => .int
  | _ => .int
theorem n_Sh : ∀ a, a < 6 → ∀ b, b < 6 → a ≠ b → (F_Sh a).2.1 ≠ (F_Sh b).2.1 := by decide +kernel
theorem t_Sh_ok : ∀ k, k < 6 → parseFieldDescriptor (F_Sh k).2.2.1 = some (t_Sh k) := by decide +kernel
theorem in_Sh : ∀ w ∈ u_ws R_Sh F_Sh 6, w ∈ lw_good := List.forall_mem_cons.mpr ⟨tw_161, List.forall_mem_cons.mpr ⟨tw_163, List.forall_mem_cons.mpr ⟨tw_165, List.forall_mem_cons.mpr ⟨tw_167, List.forall_mem_cons.mpr ⟨tw_169, List.forall_mem_cons.mpr ⟨tw_171, fun _ h => absurd h List.not_mem_nil⟩⟩⟩⟩⟩⟩
theorem gn_Sh : Cond.initialized R_Sh ∈ lw_good := tw_1
def F_Mo : u_T := fun k => match k with
  | 0 => ("SnapshotHeapModel", "value", "[J", true)
  | 1 => ("SnapshotHeapModel", "root", "[J", true)
  | 2 => ("SnapshotHeapModel", "refers", "[Z", true)
  | 3 => ("SnapshotHeapModel", "rootRefers", "[Z", true)
  | 4 => ("SnapshotHeapModel", "isReached", "[Z", true)
  | 5 => ("SnapshotHeapModel", "size", "[I", true)
  | 6 => ("SnapshotHeapModel", "todo", "[I", true)
  | 7 => ("SnapshotHeapModel", "met", "[I", true)
  | 8 => ("SnapshotHeapModel", "next", "[I", true)
  | 9 => ("SnapshotHeapModel", "made", "I", false)
  | 10 => ("SnapshotHeapModel", "pace", "I", false)
  | 11 => ("SnapshotHeapModel", "reached", "I", false)
  | 12 => ("SnapshotHeapModel", "cells", "I", false)
  | 13 => ("SnapshotHeapModel", "thrown", "I", false)
  | _ => ("SnapshotHeapModel", "tops", "I", false)
def t_Mo : Nat → FieldType := fun k => match k with
  | 0 => (.array .long)
  | 1 => (.array .long)
  | 2 => (.array .boolean)
  | 3 => (.array .boolean)
  | 4 => (.array .boolean)
  | 5 => (.array .int)
  | 6 => (.array .int)
  | 7 => (.array .int)
  | 8 => (.array .int)
  | 9 => .int
  | 10 => .int
  | 11 => .int
  | 12 => .int
  | 13 => .int
  | _ => .int
theorem n_Mo : ∀ a, a < 15 → ∀ b, b < 15 → a ≠ b → (F_Mo a).2.1 ≠ (F_Mo b).2.1 := by decide +kernel
theorem t_Mo_ok : ∀ k, k < 15 → parseFieldDescriptor (F_Mo k).2.2.1 = some (t_Mo k) := by decide +kernel
theorem in_Mo : ∀ w ∈ u_ws R_Mo F_Mo 15, w ∈ lw_good := List.forall_mem_cons.mpr ⟨tw_669, List.forall_mem_cons.mpr ⟨tw_671, List.forall_mem_cons.mpr ⟨tw_673, List.forall_mem_cons.mpr ⟨tw_675, List.forall_mem_cons.mpr ⟨tw_677, List.forall_mem_cons.mpr ⟨tw_679, List.forall_mem_cons.mpr ⟨tw_681, List.forall_mem_cons.mpr ⟨tw_683, List.forall_mem_cons.mpr ⟨tw_685, List.forall_mem_cons.mpr ⟨tw_687, List.forall_mem_cons.mpr ⟨tw_689, List.forall_mem_cons.mpr ⟨tw_691, List.forall_mem_cons.mpr ⟨tw_693, List.forall_mem_cons.mpr ⟨tw_695, List.forall_mem_cons.mpr ⟨tw_697, fun _ h => absurd h List.not_mem_nil⟩⟩⟩⟩⟩⟩⟩⟩⟩⟩⟩⟩⟩⟩⟩
theorem gn_Mo : Cond.initialized R_Mo ∈ lw_good := tw_10
theorem gn_Ar : Cond.initialized R_Ar ∈ lw_good := tw_3
theorem gn_Sy : Cond.initialized R_Sy ∈ lw_good := tw_18
theorem gn_La : Cond.initialized R_La ∈ lw_good := tw_0
abbrev classes : List vw_C := [(R_St, F_St, 7), (R_Ma, F_Ma, 4), (R_Co, F_Co, 4), (R_Wa, F_Wa, 8), (R_Au, F_Au, 5), (R_Sh, F_Sh, 6), (R_Mo, F_Mo, 15)]
abbrev b_Sh_init : ByteArray := prog_1_method_1_code
def y_Sh_init : MethodName := ⟨R_Sh, "<init>", "()V"⟩
theorem hd_Sh_init : y_Sh_init.cls ≠ "java/lang/invoke/MethodHandle" ∧ y_Sh_init.cls ≠ "java/lang/invoke/VarHandle" ∧ (parseMethodDescriptor y_Sh_init.desc).map (fun d => d.parameters.length) = some 0 := by decide +kernel
abbrev w_Sh_init : List Cond := .code y_Sh_init b_Sh_init 1 none :: lw_good
theorem cm_Sh_init : Cond.code y_Sh_init b_Sh_init 1 none ∈ lw_good := tw_23
theorem gi_Sh_init : Cond.instanceMethod y_Sh_init ∈ lw_good := tw_22
abbrev b_Sh_tuple : ByteArray := prog_1_method_2_code
def y_Sh_tuple : MethodName := ⟨R_Sh, "tuple", "(II)I"⟩
theorem hd_Sh_tuple : y_Sh_tuple.cls ≠ "java/lang/invoke/MethodHandle" ∧ y_Sh_tuple.cls ≠ "java/lang/invoke/VarHandle" ∧ (parseMethodDescriptor y_Sh_tuple.desc).map (fun d => d.parameters.length) = some 2 := by decide +kernel
abbrev w_Sh_tuple : List Cond := .code y_Sh_tuple b_Sh_tuple 3 (some .int) :: lw_good
theorem cm_Sh_tuple : Cond.code y_Sh_tuple b_Sh_tuple 3 (some .int) ∈ lw_good := tw_391
theorem gi_Sh_tuple : Cond.instanceMethod y_Sh_tuple ∈ lw_good := tw_389
theorem gs_Sh_tuple : Cond.selects R_Sh y_Sh_tuple y_Sh_tuple ∈ lw_good := tw_390
abbrev b_Sh_number : ByteArray := prog_1_method_3_code
def y_Sh_number : MethodName := ⟨R_Sh, "number", "(IJ)V"⟩
theorem hd_Sh_number : y_Sh_number.cls ≠ "java/lang/invoke/MethodHandle" ∧ y_Sh_number.cls ≠ "java/lang/invoke/VarHandle" ∧ (parseMethodDescriptor y_Sh_number.desc).map (fun d => d.parameters.length) = some 2 := by decide +kernel
abbrev w_Sh_number : List Cond := .code y_Sh_number b_Sh_number 4 none :: lw_good
theorem cm_Sh_number : Cond.code y_Sh_number b_Sh_number 4 none ∈ lw_good := tw_537
theorem gi_Sh_number : Cond.instanceMethod y_Sh_number ∈ lw_good := tw_535
theorem gs_Sh_number : Cond.selects R_Sh y_Sh_number y_Sh_number ∈ lw_good := tw_536
abbrev b_Sh_copy : ByteArray := prog_1_method_4_code
def y_Sh_copy : MethodName := ⟨R_Sh, "copy", "(II)V"⟩
theorem hd_Sh_copy : y_Sh_copy.cls ≠ "java/lang/invoke/MethodHandle" ∧ y_Sh_copy.cls ≠ "java/lang/invoke/VarHandle" ∧ (parseMethodDescriptor y_Sh_copy.desc).map (fun d => d.parameters.length) = some 2 := by decide +kernel
abbrev w_Sh_copy : List Cond := .code y_Sh_copy b_Sh_copy 3 none :: lw_good
theorem cm_Sh_copy : Cond.code y_Sh_copy b_Sh_copy 3 none ∈ lw_good := tw_545
theorem gi_Sh_copy : Cond.instanceMethod y_Sh_copy ∈ lw_good := tw_543
theorem gs_Sh_copy : Cond.selects R_Sh y_Sh_copy y_Sh_copy ∈ lw_good := tw_544
abbrev b_Sh_get : ByteArray := prog_1_method_5_code
def y_Sh_get : MethodName := ⟨R_Sh, "get", "(III)V"⟩
theorem hd_Sh_get : y_Sh_get.cls ≠ "java/lang/invoke/MethodHandle" ∧ y_Sh_get.cls ≠ "java/lang/invoke/VarHandle" ∧ (parseMethodDescriptor y_Sh_get.desc).map (fun d => d.parameters.length) = some 3 := by decide +kernel
abbrev w_Sh_get : List Cond := .code y_Sh_get b_Sh_get 4 none :: lw_good
theorem cm_Sh_get : Cond.code y_Sh_get b_Sh_get 4 none ∈ lw_good := tw_557
theorem gi_Sh_get : Cond.instanceMethod y_Sh_get ∈ lw_good := tw_555
theorem gs_Sh_get : Cond.selects R_Sh y_Sh_get y_Sh_get ∈ lw_good := tw_556
abbrev b_Sh_set : ByteArray := prog_1_method_6_code
def y_Sh_set : MethodName := ⟨R_Sh, "set", "(III)V"⟩
theorem hd_Sh_set : y_Sh_set.cls ≠ "java/lang/invoke/MethodHandle" ∧ y_Sh_set.cls ≠ "java/lang/invoke/VarHandle" ∧ (parseMethodDescriptor y_Sh_set.desc).map (fun d => d.parameters.length) = some 3 := by decide +kernel
abbrev w_Sh_set : List Cond := .code y_Sh_set b_Sh_set 5 none :: lw_good
theorem cm_Sh_set : Cond.code y_Sh_set b_Sh_set 5 none ∈ lw_good := tw_586
theorem gi_Sh_set : Cond.instanceMethod y_Sh_set ∈ lw_good := tw_584
theorem gs_Sh_set : Cond.selects R_Sh y_Sh_set y_Sh_set ∈ lw_good := tw_585
abbrev b_Sh_step : ByteArray := prog_1_method_7_code
def y_Sh_step : MethodName := ⟨R_Sh, "step", "(I)V"⟩
theorem hd_Sh_step : y_Sh_step.cls ≠ "java/lang/invoke/MethodHandle" ∧ y_Sh_step.cls ≠ "java/lang/invoke/VarHandle" ∧ (parseMethodDescriptor y_Sh_step.desc).map (fun d => d.parameters.length) = some 1 := by decide +kernel
abbrev w_Sh_step : List Cond := .code y_Sh_step b_Sh_step 2 none :: lw_good
theorem cm_Sh_step : Cond.code y_Sh_step b_Sh_step 2 none ∈ lw_good := tw_599
theorem gi_Sh_step : Cond.instanceMethod y_Sh_step ∈ lw_good := tw_597
theorem gs_Sh_step : Cond.selects R_Sh y_Sh_step y_Sh_step ∈ lw_good := tw_598
abbrev b_Sh_pace : ByteArray := prog_1_method_8_code
def y_Sh_pace : MethodName := ⟨R_Sh, "pace", "(I)I"⟩
theorem hd_Sh_pace : y_Sh_pace.cls ≠ "java/lang/invoke/MethodHandle" ∧ y_Sh_pace.cls ≠ "java/lang/invoke/VarHandle" ∧ (parseMethodDescriptor y_Sh_pace.desc).map (fun d => d.parameters.length) = some 1 := by decide +kernel
abbrev w_Sh_pace : List Cond := .code y_Sh_pace b_Sh_pace 3 (some .int) :: lw_good
theorem cm_Sh_pace : Cond.code y_Sh_pace b_Sh_pace 3 (some .int) ∈ lw_good := tw_606
theorem gi_Sh_pace : Cond.instanceMethod y_Sh_pace ∈ lw_good := tw_604
theorem gs_Sh_pace : Cond.selects R_Sh y_Sh_pace y_Sh_pace ∈ lw_good := tw_605
abbrev b_Sh_size : ByteArray := prog_1_method_9_code
def y_Sh_size : MethodName := ⟨R_Sh, "size", "(I)I"⟩
theorem hd_Sh_size : y_Sh_size.cls ≠ "java/lang/invoke/MethodHandle" ∧ y_Sh_size.cls ≠ "java/lang/invoke/VarHandle" ∧ (parseMethodDescriptor y_Sh_size.desc).map (fun d => d.parameters.length) = some 1 := by decide +kernel
abbrev w_Sh_size : List Cond := .code y_Sh_size b_Sh_size 3 (some .int) :: lw_good
theorem cm_Sh_size : Cond.code y_Sh_size b_Sh_size 3 (some .int) ∈ lw_good := tw_613
theorem gi_Sh_size : Cond.instanceMethod y_Sh_size ∈ lw_good := tw_611
theorem gs_Sh_size : Cond.selects R_Sh y_Sh_size y_Sh_size ∈ lw_good := tw_612
abbrev b_Sh_value : ByteArray := prog_1_method_10_code
def y_Sh_value : MethodName := ⟨R_Sh, "value", "(I)J"⟩
theorem hd_Sh_value : y_Sh_value.cls ≠ "java/lang/invoke/MethodHandle" ∧ y_Sh_value.cls ≠ "java/lang/invoke/VarHandle" ∧ (parseMethodDescriptor y_Sh_value.desc).map (fun d => d.parameters.length) = some 1 := by decide +kernel
abbrev w_Sh_value : List Cond := .code y_Sh_value b_Sh_value 2 (some .long) :: lw_good
theorem cm_Sh_value : Cond.code y_Sh_value b_Sh_value 2 (some .long) ∈ lw_good := tw_620
theorem gi_Sh_value : Cond.instanceMethod y_Sh_value ∈ lw_good := tw_618
theorem gs_Sh_value : Cond.selects R_Sh y_Sh_value y_Sh_value ∈ lw_good := tw_619
abbrev b_Sh_same : ByteArray := prog_1_method_11_code
def y_Sh_same : MethodName := ⟨R_Sh, "same", "(II)Z"⟩
theorem hd_Sh_same : y_Sh_same.cls ≠ "java/lang/invoke/MethodHandle" ∧ y_Sh_same.cls ≠ "java/lang/invoke/VarHandle" ∧ (parseMethodDescriptor y_Sh_same.desc).map (fun d => d.parameters.length) = some 2 := by decide +kernel
abbrev w_Sh_same : List Cond := .code y_Sh_same b_Sh_same 3 (some .boolean) :: lw_good
theorem cm_Sh_same : Cond.code y_Sh_same b_Sh_same 3 (some .boolean) ∈ lw_good := tw_628
theorem gi_Sh_same : Cond.instanceMethod y_Sh_same ∈ lw_good := tw_626
theorem gs_Sh_same : Cond.selects R_Sh y_Sh_same y_Sh_same ∈ lw_good := tw_627
abbrev b_Sh_count : ByteArray := prog_1_method_12_code
def y_Sh_count : MethodName := ⟨R_Sh, "count", "(I)I"⟩
theorem hd_Sh_count : y_Sh_count.cls ≠ "java/lang/invoke/MethodHandle" ∧ y_Sh_count.cls ≠ "java/lang/invoke/VarHandle" ∧ (parseMethodDescriptor y_Sh_count.desc).map (fun d => d.parameters.length) = some 1 := by decide +kernel
abbrev w_Sh_count : List Cond := .code y_Sh_count b_Sh_count 2 (some .int) :: lw_good
theorem cm_Sh_count : Cond.code y_Sh_count b_Sh_count 2 (some .int) ∈ lw_good := tw_639
theorem gi_Sh_count : Cond.instanceMethod y_Sh_count ∈ lw_good := tw_637
theorem gs_Sh_count : Cond.selects R_Sh y_Sh_count y_Sh_count ∈ lw_good := tw_638
abbrev b_Sh_digest : ByteArray := prog_1_method_13_code
def y_Sh_digest : MethodName := ⟨R_Sh, "digest", "()J"⟩
theorem hd_Sh_digest : y_Sh_digest.cls ≠ "java/lang/invoke/MethodHandle" ∧ y_Sh_digest.cls ≠ "java/lang/invoke/VarHandle" ∧ (parseMethodDescriptor y_Sh_digest.desc).map (fun d => d.parameters.length) = some 0 := by decide +kernel
abbrev w_Sh_digest : List Cond := .code y_Sh_digest b_Sh_digest 1 (some .long) :: lw_good
theorem cm_Sh_digest : Cond.code y_Sh_digest b_Sh_digest 1 (some .long) ∈ lw_good := tw_177
theorem gi_Sh_digest : Cond.instanceMethod y_Sh_digest ∈ lw_good := tw_175
theorem gs_Sh_digest : Cond.selects R_Sh y_Sh_digest y_Sh_digest ∈ lw_good := tw_176
abbrev b_Sh_collect : ByteArray := prog_1_method_14_code
def y_Sh_collect : MethodName := ⟨R_Sh, "collect", "()I"⟩
theorem hd_Sh_collect : y_Sh_collect.cls ≠ "java/lang/invoke/MethodHandle" ∧ y_Sh_collect.cls ≠ "java/lang/invoke/VarHandle" ∧ (parseMethodDescriptor y_Sh_collect.desc).map (fun d => d.parameters.length) = some 0 := by decide +kernel
abbrev w_Sh_collect : List Cond := .code y_Sh_collect b_Sh_collect 1 (some .int) :: lw_good
theorem cm_Sh_collect : Cond.code y_Sh_collect b_Sh_collect 1 (some .int) ∈ lw_good := tw_308
theorem gi_Sh_collect : Cond.instanceMethod y_Sh_collect ∈ lw_good := tw_306
theorem gs_Sh_collect : Cond.selects R_Sh y_Sh_collect y_Sh_collect ∈ lw_good := tw_307
abbrev b_Sh_check : ByteArray := prog_1_method_15_code
def y_Sh_check : MethodName := ⟨R_Sh, "check", "()I"⟩
theorem hd_Sh_check : y_Sh_check.cls ≠ "java/lang/invoke/MethodHandle" ∧ y_Sh_check.cls ≠ "java/lang/invoke/VarHandle" ∧ (parseMethodDescriptor y_Sh_check.desc).map (fun d => d.parameters.length) = some 0 := by decide +kernel
abbrev w_Sh_check : List Cond := .code y_Sh_check b_Sh_check 1 (some .int) :: lw_good
theorem cm_Sh_check : Cond.code y_Sh_check b_Sh_check 1 (some .int) ∈ lw_good := tw_325
theorem gi_Sh_check : Cond.instanceMethod y_Sh_check ∈ lw_good := tw_323
theorem gs_Sh_check : Cond.selects R_Sh y_Sh_check y_Sh_check ∈ lw_good := tw_324
abbrev b_Sh_requireRoot : ByteArray := prog_1_method_16_code
def y_Sh_requireRoot : MethodName := ⟨R_Sh, "requireRoot", "(I)V"⟩
theorem hd_Sh_requireRoot : y_Sh_requireRoot.cls ≠ "java/lang/invoke/MethodHandle" ∧ y_Sh_requireRoot.cls ≠ "java/lang/invoke/VarHandle" ∧ (parseMethodDescriptor y_Sh_requireRoot.desc).map (fun d => d.parameters.length) = some 1 := by decide +kernel
abbrev w_Sh_requireRoot : List Cond := .code y_Sh_requireRoot b_Sh_requireRoot 1 none :: lw_good
theorem cm_Sh_requireRoot : Cond.code y_Sh_requireRoot b_Sh_requireRoot 1 none ∈ lw_good := tw_394
theorem gt_Sh_requireRoot : Cond.static y_Sh_requireRoot ∈ lw_good := tw_393
abbrev b_Sh_requireWithin : ByteArray := prog_1_method_17_code
def y_Sh_requireWithin : MethodName := ⟨R_Sh, "requireWithin", "(III)V"⟩
theorem hd_Sh_requireWithin : y_Sh_requireWithin.cls ≠ "java/lang/invoke/MethodHandle" ∧ y_Sh_requireWithin.cls ≠ "java/lang/invoke/VarHandle" ∧ (parseMethodDescriptor y_Sh_requireWithin.desc).map (fun d => d.parameters.length) = some 3 := by decide +kernel
abbrev w_Sh_requireWithin : List Cond := .code y_Sh_requireWithin b_Sh_requireWithin 3 none :: lw_good
theorem cm_Sh_requireWithin : Cond.code y_Sh_requireWithin b_Sh_requireWithin 3 none ∈ lw_good := tw_466
theorem gt_Sh_requireWithin : Cond.static y_Sh_requireWithin ∈ lw_good := tw_465
abbrev b_Sh_rootSlot : ByteArray := prog_1_method_18_code
def y_Sh_rootSlot : MethodName := ⟨R_Sh, "rootSlot", "(I)I"⟩
theorem hd_Sh_rootSlot : y_Sh_rootSlot.cls ≠ "java/lang/invoke/MethodHandle" ∧ y_Sh_rootSlot.cls ≠ "java/lang/invoke/VarHandle" ∧ (parseMethodDescriptor y_Sh_rootSlot.desc).map (fun d => d.parameters.length) = some 1 := by decide +kernel
abbrev w_Sh_rootSlot : List Cond := .code y_Sh_rootSlot b_Sh_rootSlot 1 (some .int) :: lw_good
theorem cm_Sh_rootSlot : Cond.code y_Sh_rootSlot b_Sh_rootSlot 1 (some .int) ∈ lw_good := tw_505
theorem gt_Sh_rootSlot : Cond.static y_Sh_rootSlot ∈ lw_good := tw_504
abbrev b_Sh_slotOf : ByteArray := prog_1_method_19_code
def y_Sh_slotOf : MethodName := ⟨R_Sh, "slotOf", "(II)I"⟩
theorem hd_Sh_slotOf : y_Sh_slotOf.cls ≠ "java/lang/invoke/MethodHandle" ∧ y_Sh_slotOf.cls ≠ "java/lang/invoke/VarHandle" ∧ (parseMethodDescriptor y_Sh_slotOf.desc).map (fun d => d.parameters.length) = some 2 := by decide +kernel
abbrev w_Sh_slotOf : List Cond := .code y_Sh_slotOf b_Sh_slotOf 2 (some .int) :: lw_good
theorem cm_Sh_slotOf : Cond.code y_Sh_slotOf b_Sh_slotOf 2 (some .int) ∈ lw_good := tw_202
theorem gt_Sh_slotOf : Cond.static y_Sh_slotOf ∈ lw_good := tw_201
abbrev b_Sh_existingSlot : ByteArray := prog_1_method_20_code
def y_Sh_existingSlot : MethodName := ⟨R_Sh, "existingSlot", "(II)I"⟩
theorem hd_Sh_existingSlot : y_Sh_existingSlot.cls ≠ "java/lang/invoke/MethodHandle" ∧ y_Sh_existingSlot.cls ≠ "java/lang/invoke/VarHandle" ∧ (parseMethodDescriptor y_Sh_existingSlot.desc).map (fun d => d.parameters.length) = some 2 := by decide +kernel
abbrev w_Sh_existingSlot : List Cond := .code y_Sh_existingSlot b_Sh_existingSlot 4 (some .int) :: lw_good
theorem cm_Sh_existingSlot : Cond.code y_Sh_existingSlot b_Sh_existingSlot 4 (some .int) ∈ lw_good := tw_561
theorem gi_Sh_existingSlot : Cond.instanceMethod y_Sh_existingSlot ∈ lw_good := tw_560
theorem gs_Sh_existingSlot : Cond.selects R_Sh y_Sh_existingSlot y_Sh_existingSlot ∈ lw_good := ts_Sh_existingSlot
abbrev b_Mo_init : ByteArray := prog_9_method_1_code
def y_Mo_init : MethodName := ⟨R_Mo, "<init>", "()V"⟩
theorem hd_Mo_init : y_Mo_init.cls ≠ "java/lang/invoke/MethodHandle" ∧ y_Mo_init.cls ≠ "java/lang/invoke/VarHandle" ∧ (parseMethodDescriptor y_Mo_init.desc).map (fun d => d.parameters.length) = some 0 := by decide +kernel
abbrev w_Mo_init : List Cond := .code y_Mo_init b_Mo_init 1 none :: lw_good
theorem cm_Mo_init : Cond.code y_Mo_init b_Mo_init 1 none ∈ lw_good := tw_652
theorem gi_Mo_init : Cond.instanceMethod y_Mo_init ∈ lw_good := tw_651
abbrev b_Mo_thrown : ByteArray := prog_9_method_2_code
def y_Mo_thrown : MethodName := ⟨R_Mo, "thrown", "()I"⟩
theorem hd_Mo_thrown : y_Mo_thrown.cls ≠ "java/lang/invoke/MethodHandle" ∧ y_Mo_thrown.cls ≠ "java/lang/invoke/VarHandle" ∧ (parseMethodDescriptor y_Mo_thrown.desc).map (fun d => d.parameters.length) = some 0 := by decide +kernel
abbrev w_Mo_thrown : List Cond := .code y_Mo_thrown b_Mo_thrown 1 (some .int) :: lw_good
theorem cm_Mo_thrown : Cond.code y_Mo_thrown b_Mo_thrown 1 (some .int) ∈ lw_good := tw_704
theorem gi_Mo_thrown : Cond.instanceMethod y_Mo_thrown ∈ lw_good := tw_702
theorem gs_Mo_thrown : Cond.selects R_Mo y_Mo_thrown y_Mo_thrown ∈ lw_good := tw_703
abbrev b_Mo_isRoot : ByteArray := prog_9_method_3_code
def y_Mo_isRoot : MethodName := ⟨R_Mo, "isRoot", "(I)Z"⟩
theorem hd_Mo_isRoot : y_Mo_isRoot.cls ≠ "java/lang/invoke/MethodHandle" ∧ y_Mo_isRoot.cls ≠ "java/lang/invoke/VarHandle" ∧ (parseMethodDescriptor y_Mo_isRoot.desc).map (fun d => d.parameters.length) = some 1 := by decide +kernel
abbrev w_Mo_isRoot : List Cond := .code y_Mo_isRoot b_Mo_isRoot 1 (some .boolean) :: lw_good
theorem cm_Mo_isRoot : Cond.code y_Mo_isRoot b_Mo_isRoot 1 (some .boolean) ∈ lw_good := tw_711
theorem gt_Mo_isRoot : Cond.static y_Mo_isRoot ∈ lw_good := tw_710
abbrev b_Mo_reach : ByteArray := prog_9_method_4_code
def y_Mo_reach : MethodName := ⟨R_Mo, "reach", "(J)V"⟩
theorem hd_Mo_reach : y_Mo_reach.cls ≠ "java/lang/invoke/MethodHandle" ∧ y_Mo_reach.cls ≠ "java/lang/invoke/VarHandle" ∧ (parseMethodDescriptor y_Mo_reach.desc).map (fun d => d.parameters.length) = some 1 := by decide +kernel
abbrev w_Mo_reach : List Cond := .code y_Mo_reach b_Mo_reach 4 none :: lw_good
theorem cm_Mo_reach : Cond.code y_Mo_reach b_Mo_reach 4 none ∈ lw_good := tw_719
theorem gi_Mo_reach : Cond.instanceMethod y_Mo_reach ∈ lw_good := tw_718
theorem gs_Mo_reach : Cond.selects R_Mo y_Mo_reach y_Mo_reach ∈ lw_good := ts_Mo_reach
abbrev b_Mo_reachAll : ByteArray := prog_9_method_5_code
def y_Mo_reachAll : MethodName := ⟨R_Mo, "reachAll", "()V"⟩
theorem hd_Mo_reachAll : y_Mo_reachAll.cls ≠ "java/lang/invoke/MethodHandle" ∧ y_Mo_reachAll.cls ≠ "java/lang/invoke/VarHandle" ∧ (parseMethodDescriptor y_Mo_reachAll.desc).map (fun d => d.parameters.length) = some 0 := by decide +kernel
abbrev w_Mo_reachAll : List Cond := .code y_Mo_reachAll b_Mo_reachAll 3 none :: lw_good
theorem cm_Mo_reachAll : Cond.code y_Mo_reachAll b_Mo_reachAll 3 none ∈ lw_good := tw_715
theorem gi_Mo_reachAll : Cond.instanceMethod y_Mo_reachAll ∈ lw_good := tw_714
theorem gs_Mo_reachAll : Cond.selects R_Mo y_Mo_reachAll y_Mo_reachAll ∈ lw_good := ts_Mo_reachAll
abbrev b_Mo_tuple : ByteArray := prog_9_method_6_code
def y_Mo_tuple : MethodName := ⟨R_Mo, "tuple", "(II)I"⟩
theorem hd_Mo_tuple : y_Mo_tuple.cls ≠ "java/lang/invoke/MethodHandle" ∧ y_Mo_tuple.cls ≠ "java/lang/invoke/VarHandle" ∧ (parseMethodDescriptor y_Mo_tuple.desc).map (fun d => d.parameters.length) = some 2 := by decide +kernel
abbrev w_Mo_tuple : List Cond := .code y_Mo_tuple b_Mo_tuple 5 (some .int) :: lw_good
theorem cm_Mo_tuple : Cond.code y_Mo_tuple b_Mo_tuple 5 (some .int) ∈ lw_good := tw_708
theorem gi_Mo_tuple : Cond.instanceMethod y_Mo_tuple ∈ lw_good := tw_706
theorem gs_Mo_tuple : Cond.selects R_Mo y_Mo_tuple y_Mo_tuple ∈ lw_good := tw_707
abbrev b_Mo_number : ByteArray := prog_9_method_7_code
def y_Mo_number : MethodName := ⟨R_Mo, "number", "(IJ)V"⟩
theorem hd_Mo_number : y_Mo_number.cls ≠ "java/lang/invoke/MethodHandle" ∧ y_Mo_number.cls ≠ "java/lang/invoke/VarHandle" ∧ (parseMethodDescriptor y_Mo_number.desc).map (fun d => d.parameters.length) = some 2 := by decide +kernel
abbrev w_Mo_number : List Cond := .code y_Mo_number b_Mo_number 4 none :: lw_good
theorem cm_Mo_number : Cond.code y_Mo_number b_Mo_number 4 none ∈ lw_good := tw_723
theorem gi_Mo_number : Cond.instanceMethod y_Mo_number ∈ lw_good := tw_721
theorem gs_Mo_number : Cond.selects R_Mo y_Mo_number y_Mo_number ∈ lw_good := tw_722
abbrev b_Mo_copy : ByteArray := prog_9_method_8_code
def y_Mo_copy : MethodName := ⟨R_Mo, "copy", "(II)V"⟩
theorem hd_Mo_copy : y_Mo_copy.cls ≠ "java/lang/invoke/MethodHandle" ∧ y_Mo_copy.cls ≠ "java/lang/invoke/VarHandle" ∧ (parseMethodDescriptor y_Mo_copy.desc).map (fun d => d.parameters.length) = some 2 := by decide +kernel
abbrev w_Mo_copy : List Cond := .code y_Mo_copy b_Mo_copy 3 none :: lw_good
theorem cm_Mo_copy : Cond.code y_Mo_copy b_Mo_copy 3 none ∈ lw_good := tw_727
theorem gi_Mo_copy : Cond.instanceMethod y_Mo_copy ∈ lw_good := tw_725
theorem gs_Mo_copy : Cond.selects R_Mo y_Mo_copy y_Mo_copy ∈ lw_good := tw_726
abbrev b_Mo_place : ByteArray := prog_9_method_9_code
def y_Mo_place : MethodName := ⟨R_Mo, "place", "(III)I"⟩
theorem hd_Mo_place : y_Mo_place.cls ≠ "java/lang/invoke/MethodHandle" ∧ y_Mo_place.cls ≠ "java/lang/invoke/VarHandle" ∧ (parseMethodDescriptor y_Mo_place.desc).map (fun d => d.parameters.length) = some 3 := by decide +kernel
abbrev w_Mo_place : List Cond := .code y_Mo_place b_Mo_place 4 (some .int) :: lw_good
theorem cm_Mo_place : Cond.code y_Mo_place b_Mo_place 4 (some .int) ∈ lw_good := tw_735
theorem gi_Mo_place : Cond.instanceMethod y_Mo_place ∈ lw_good := tw_734
theorem gs_Mo_place : Cond.selects R_Mo y_Mo_place y_Mo_place ∈ lw_good := ts_Mo_place
abbrev b_Mo_get : ByteArray := prog_9_method_10_code
def y_Mo_get : MethodName := ⟨R_Mo, "get", "(III)V"⟩
theorem hd_Mo_get : y_Mo_get.cls ≠ "java/lang/invoke/MethodHandle" ∧ y_Mo_get.cls ≠ "java/lang/invoke/VarHandle" ∧ (parseMethodDescriptor y_Mo_get.desc).map (fun d => d.parameters.length) = some 3 := by decide +kernel
abbrev w_Mo_get : List Cond := .code y_Mo_get b_Mo_get 5 none :: lw_good
theorem cm_Mo_get : Cond.code y_Mo_get b_Mo_get 5 none ∈ lw_good := tw_731
theorem gi_Mo_get : Cond.instanceMethod y_Mo_get ∈ lw_good := tw_729
theorem gs_Mo_get : Cond.selects R_Mo y_Mo_get y_Mo_get ∈ lw_good := tw_730
abbrev b_Mo_set : ByteArray := prog_9_method_11_code
def y_Mo_set : MethodName := ⟨R_Mo, "set", "(III)V"⟩
theorem hd_Mo_set : y_Mo_set.cls ≠ "java/lang/invoke/MethodHandle" ∧ y_Mo_set.cls ≠ "java/lang/invoke/VarHandle" ∧ (parseMethodDescriptor y_Mo_set.desc).map (fun d => d.parameters.length) = some 3 := by decide +kernel
abbrev w_Mo_set : List Cond := .code y_Mo_set b_Mo_set 5 none :: lw_good
theorem cm_Mo_set : Cond.code y_Mo_set b_Mo_set 5 none ∈ lw_good := tw_739
theorem gi_Mo_set : Cond.instanceMethod y_Mo_set ∈ lw_good := tw_737
theorem gs_Mo_set : Cond.selects R_Mo y_Mo_set y_Mo_set ∈ lw_good := tw_738
abbrev b_Mo_step : ByteArray := prog_9_method_12_code
def y_Mo_step : MethodName := ⟨R_Mo, "step", "(I)V"⟩
theorem hd_Mo_step : y_Mo_step.cls ≠ "java/lang/invoke/MethodHandle" ∧ y_Mo_step.cls ≠ "java/lang/invoke/VarHandle" ∧ (parseMethodDescriptor y_Mo_step.desc).map (fun d => d.parameters.length) = some 1 := by decide +kernel
abbrev w_Mo_step : List Cond := .code y_Mo_step b_Mo_step 2 none :: lw_good
theorem cm_Mo_step : Cond.code y_Mo_step b_Mo_step 2 none ∈ lw_good := tw_743
theorem gi_Mo_step : Cond.instanceMethod y_Mo_step ∈ lw_good := tw_741
theorem gs_Mo_step : Cond.selects R_Mo y_Mo_step y_Mo_step ∈ lw_good := tw_742
abbrev b_Mo_pace : ByteArray := prog_9_method_13_code
def y_Mo_pace : MethodName := ⟨R_Mo, "pace", "(I)I"⟩
theorem hd_Mo_pace : y_Mo_pace.cls ≠ "java/lang/invoke/MethodHandle" ∧ y_Mo_pace.cls ≠ "java/lang/invoke/VarHandle" ∧ (parseMethodDescriptor y_Mo_pace.desc).map (fun d => d.parameters.length) = some 1 := by decide +kernel
abbrev w_Mo_pace : List Cond := .code y_Mo_pace b_Mo_pace 3 (some .int) :: lw_good
theorem cm_Mo_pace : Cond.code y_Mo_pace b_Mo_pace 3 (some .int) ∈ lw_good := tw_747
theorem gi_Mo_pace : Cond.instanceMethod y_Mo_pace ∈ lw_good := tw_745
theorem gs_Mo_pace : Cond.selects R_Mo y_Mo_pace y_Mo_pace ∈ lw_good := tw_746
abbrev b_Mo_size : ByteArray := prog_9_method_14_code
def y_Mo_size : MethodName := ⟨R_Mo, "size", "(I)I"⟩
theorem hd_Mo_size : y_Mo_size.cls ≠ "java/lang/invoke/MethodHandle" ∧ y_Mo_size.cls ≠ "java/lang/invoke/VarHandle" ∧ (parseMethodDescriptor y_Mo_size.desc).map (fun d => d.parameters.length) = some 1 := by decide +kernel
abbrev w_Mo_size : List Cond := .code y_Mo_size b_Mo_size 2 (some .int) :: lw_good
theorem cm_Mo_size : Cond.code y_Mo_size b_Mo_size 2 (some .int) ∈ lw_good := tw_751
theorem gi_Mo_size : Cond.instanceMethod y_Mo_size ∈ lw_good := tw_749
theorem gs_Mo_size : Cond.selects R_Mo y_Mo_size y_Mo_size ∈ lw_good := tw_750
abbrev b_Mo_value : ByteArray := prog_9_method_15_code
def y_Mo_value : MethodName := ⟨R_Mo, "value", "(I)J"⟩
theorem hd_Mo_value : y_Mo_value.cls ≠ "java/lang/invoke/MethodHandle" ∧ y_Mo_value.cls ≠ "java/lang/invoke/VarHandle" ∧ (parseMethodDescriptor y_Mo_value.desc).map (fun d => d.parameters.length) = some 1 := by decide +kernel
abbrev w_Mo_value : List Cond := .code y_Mo_value b_Mo_value 2 (some .long) :: lw_good
theorem cm_Mo_value : Cond.code y_Mo_value b_Mo_value 2 (some .long) ∈ lw_good := tw_755
theorem gi_Mo_value : Cond.instanceMethod y_Mo_value ∈ lw_good := tw_753
theorem gs_Mo_value : Cond.selects R_Mo y_Mo_value y_Mo_value ∈ lw_good := tw_754
abbrev b_Mo_same : ByteArray := prog_9_method_16_code
def y_Mo_same : MethodName := ⟨R_Mo, "same", "(II)Z"⟩
theorem hd_Mo_same : y_Mo_same.cls ≠ "java/lang/invoke/MethodHandle" ∧ y_Mo_same.cls ≠ "java/lang/invoke/VarHandle" ∧ (parseMethodDescriptor y_Mo_same.desc).map (fun d => d.parameters.length) = some 2 := by decide +kernel
abbrev w_Mo_same : List Cond := .code y_Mo_same b_Mo_same 3 (some .boolean) :: lw_good
theorem cm_Mo_same : Cond.code y_Mo_same b_Mo_same 3 (some .boolean) ∈ lw_good := tw_759
theorem gi_Mo_same : Cond.instanceMethod y_Mo_same ∈ lw_good := tw_757
theorem gs_Mo_same : Cond.selects R_Mo y_Mo_same y_Mo_same ∈ lw_good := tw_758
abbrev b_Mo_count : ByteArray := prog_9_method_17_code
def y_Mo_count : MethodName := ⟨R_Mo, "count", "(I)I"⟩
theorem hd_Mo_count : y_Mo_count.cls ≠ "java/lang/invoke/MethodHandle" ∧ y_Mo_count.cls ≠ "java/lang/invoke/VarHandle" ∧ (parseMethodDescriptor y_Mo_count.desc).map (fun d => d.parameters.length) = some 1 := by decide +kernel
abbrev w_Mo_count : List Cond := .code y_Mo_count b_Mo_count 2 (some .int) :: lw_good
theorem cm_Mo_count : Cond.code y_Mo_count b_Mo_count 2 (some .int) ∈ lw_good := tw_763
theorem gi_Mo_count : Cond.instanceMethod y_Mo_count ∈ lw_good := tw_761
theorem gs_Mo_count : Cond.selects R_Mo y_Mo_count y_Mo_count ∈ lw_good := tw_762
abbrev b_Mo_digest : ByteArray := prog_9_method_18_code
def y_Mo_digest : MethodName := ⟨R_Mo, "digest", "()J"⟩
theorem hd_Mo_digest : y_Mo_digest.cls ≠ "java/lang/invoke/MethodHandle" ∧ y_Mo_digest.cls ≠ "java/lang/invoke/VarHandle" ∧ (parseMethodDescriptor y_Mo_digest.desc).map (fun d => d.parameters.length) = some 0 := by decide +kernel
abbrev w_Mo_digest : List Cond := .code y_Mo_digest b_Mo_digest 10 (some .long) :: lw_good
theorem cm_Mo_digest : Cond.code y_Mo_digest b_Mo_digest 10 (some .long) ∈ lw_good := tw_767
theorem gi_Mo_digest : Cond.instanceMethod y_Mo_digest ∈ lw_good := tw_765
theorem gs_Mo_digest : Cond.selects R_Mo y_Mo_digest y_Mo_digest ∈ lw_good := tw_766
abbrev b_Mo_collect : ByteArray := prog_9_method_19_code
def y_Mo_collect : MethodName := ⟨R_Mo, "collect", "()I"⟩
theorem hd_Mo_collect : y_Mo_collect.cls ≠ "java/lang/invoke/MethodHandle" ∧ y_Mo_collect.cls ≠ "java/lang/invoke/VarHandle" ∧ (parseMethodDescriptor y_Mo_collect.desc).map (fun d => d.parameters.length) = some 0 := by decide +kernel
abbrev w_Mo_collect : List Cond := .code y_Mo_collect b_Mo_collect 1 (some .int) :: lw_good
theorem cm_Mo_collect : Cond.code y_Mo_collect b_Mo_collect 1 (some .int) ∈ lw_good := tw_775
theorem gi_Mo_collect : Cond.instanceMethod y_Mo_collect ∈ lw_good := tw_773
theorem gs_Mo_collect : Cond.selects R_Mo y_Mo_collect y_Mo_collect ∈ lw_good := tw_774
abbrev b_Mo_check : ByteArray := prog_9_method_20_code
def y_Mo_check : MethodName := ⟨R_Mo, "check", "()I"⟩
theorem hd_Mo_check : y_Mo_check.cls ≠ "java/lang/invoke/MethodHandle" ∧ y_Mo_check.cls ≠ "java/lang/invoke/VarHandle" ∧ (parseMethodDescriptor y_Mo_check.desc).map (fun d => d.parameters.length) = some 0 := by decide +kernel
abbrev w_Mo_check : List Cond := .code y_Mo_check b_Mo_check 1 (some .int) :: lw_good
theorem cm_Mo_check : Cond.code y_Mo_check b_Mo_check 1 (some .int) ∈ lw_good := tw_779
theorem gi_Mo_check : Cond.instanceMethod y_Mo_check ∈ lw_good := tw_777
theorem gs_Mo_check : Cond.selects R_Mo y_Mo_check y_Mo_check ∈ lw_good := tw_778
abbrev b_Au_init : ByteArray := prog_2_method_1_code
def y_Au_init : MethodName := ⟨R_Au, "<init>", "(LSnapshotHeap$Store;LSnapshotHeap$Collector;LSnapshotHeap$Walk;)V"⟩
theorem hd_Au_init : y_Au_init.cls ≠ "java/lang/invoke/MethodHandle" ∧ y_Au_init.cls ≠ "java/lang/invoke/VarHandle" ∧ (parseMethodDescriptor y_Au_init.desc).map (fun d => d.parameters.length) = some 3 := by decide +kernel
abbrev w_Au_init : List Cond := .code y_Au_init b_Au_init 4 none :: lw_good
theorem cm_Au_init : Cond.code y_Au_init b_Au_init 4 none ∈ lw_good := tw_135
theorem gi_Au_init : Cond.instanceMethod y_Au_init ∈ lw_good := tw_134
abbrev b_Au_faults : ByteArray := prog_2_method_2_code
def y_Au_faults : MethodName := ⟨R_Au, "faults", "()I"⟩
theorem hd_Au_faults : y_Au_faults.cls ≠ "java/lang/invoke/MethodHandle" ∧ y_Au_faults.cls ≠ "java/lang/invoke/VarHandle" ∧ (parseMethodDescriptor y_Au_faults.desc).map (fun d => d.parameters.length) = some 0 := by decide +kernel
abbrev w_Au_faults : List Cond := .code y_Au_faults b_Au_faults 4 (some .int) :: lw_good
theorem cm_Au_faults : Cond.code y_Au_faults b_Au_faults 4 (some .int) ∈ lw_good := tw_329
theorem gi_Au_faults : Cond.instanceMethod y_Au_faults ∈ lw_good := tw_327
theorem gs_Au_faults : Cond.selects R_Au y_Au_faults y_Au_faults ∈ lw_good := tw_328
abbrev b_Au_markToTheEnd : ByteArray := prog_2_method_3_code
def y_Au_markToTheEnd : MethodName := ⟨R_Au, "markToTheEnd", "()V"⟩
theorem hd_Au_markToTheEnd : y_Au_markToTheEnd.cls ≠ "java/lang/invoke/MethodHandle" ∧ y_Au_markToTheEnd.cls ≠ "java/lang/invoke/VarHandle" ∧ (parseMethodDescriptor y_Au_markToTheEnd.desc).map (fun d => d.parameters.length) = some 0 := by decide +kernel
abbrev w_Au_markToTheEnd : List Cond := .code y_Au_markToTheEnd b_Au_markToTheEnd 3 none :: lw_good
theorem cm_Au_markToTheEnd : Cond.code y_Au_markToTheEnd b_Au_markToTheEnd 3 none ∈ lw_good := tw_339
theorem gi_Au_markToTheEnd : Cond.instanceMethod y_Au_markToTheEnd ∈ lw_good := tw_338
theorem gs_Au_markToTheEnd : Cond.selects R_Au y_Au_markToTheEnd y_Au_markToTheEnd ∈ lw_good := ts_Au_markToTheEnd
abbrev b_Au_isMarkWrong : ByteArray := prog_2_method_4_code
def y_Au_isMarkWrong : MethodName := ⟨R_Au, "isMarkWrong", "(I)Z"⟩
theorem hd_Au_isMarkWrong : y_Au_isMarkWrong.cls ≠ "java/lang/invoke/MethodHandle" ∧ y_Au_isMarkWrong.cls ≠ "java/lang/invoke/VarHandle" ∧ (parseMethodDescriptor y_Au_isMarkWrong.desc).map (fun d => d.parameters.length) = some 1 := by decide +kernel
abbrev w_Au_isMarkWrong : List Cond := .code y_Au_isMarkWrong b_Au_isMarkWrong 2 (some .boolean) :: lw_good
theorem cm_Au_isMarkWrong : Cond.code y_Au_isMarkWrong b_Au_isMarkWrong 2 (some .boolean) ∈ lw_good := tw_364
theorem gi_Au_isMarkWrong : Cond.instanceMethod y_Au_isMarkWrong ∈ lw_good := tw_363
theorem gs_Au_isMarkWrong : Cond.selects R_Au y_Au_isMarkWrong y_Au_isMarkWrong ∈ lw_good := ts_Au_isMarkWrong
abbrev b_Au_isMarkInUse : ByteArray := prog_2_method_5_code
def y_Au_isMarkInUse : MethodName := ⟨R_Au, "isMarkInUse", "(I)Z"⟩
theorem hd_Au_isMarkInUse : y_Au_isMarkInUse.cls ≠ "java/lang/invoke/MethodHandle" ∧ y_Au_isMarkInUse.cls ≠ "java/lang/invoke/VarHandle" ∧ (parseMethodDescriptor y_Au_isMarkInUse.desc).map (fun d => d.parameters.length) = some 1 := by decide +kernel
abbrev w_Au_isMarkInUse : List Cond := .code y_Au_isMarkInUse b_Au_isMarkInUse 2 (some .boolean) :: lw_good
theorem cm_Au_isMarkInUse : Cond.code y_Au_isMarkInUse b_Au_isMarkInUse 2 (some .boolean) ∈ lw_good := tw_368
theorem gi_Au_isMarkInUse : Cond.instanceMethod y_Au_isMarkInUse ∈ lw_good := tw_367
theorem gs_Au_isMarkInUse : Cond.selects R_Au y_Au_isMarkInUse y_Au_isMarkInUse ∈ lw_good := ts_Au_isMarkInUse
abbrev b_Co_init : ByteArray := prog_3_method_1_code
def y_Co_init : MethodName := ⟨R_Co, "<init>", "(LSnapshotHeap$Store;)V"⟩
theorem hd_Co_init : y_Co_init.cls ≠ "java/lang/invoke/MethodHandle" ∧ y_Co_init.cls ≠ "java/lang/invoke/VarHandle" ∧ (parseMethodDescriptor y_Co_init.desc).map (fun d => d.parameters.length) = some 1 := by decide +kernel
abbrev w_Co_init : List Cond := .code y_Co_init b_Co_init 2 none :: lw_good
theorem cm_Co_init : Cond.code y_Co_init b_Co_init 2 none ∈ lw_good := tw_64
theorem gi_Co_init : Cond.instanceMethod y_Co_init ∈ lw_good := tw_63
abbrev b_Co_phase : ByteArray := prog_3_method_2_code
def y_Co_phase : MethodName := ⟨R_Co, "phase", "()LSnapshotHeap$Phase;"⟩
theorem hd_Co_phase : y_Co_phase.cls ≠ "java/lang/invoke/MethodHandle" ∧ y_Co_phase.cls ≠ "java/lang/invoke/VarHandle" ∧ (parseMethodDescriptor y_Co_phase.desc).map (fun d => d.parameters.length) = some 0 := by decide +kernel
abbrev w_Co_phase : List Cond := .code y_Co_phase b_Co_phase 1 (some (.object "SnapshotHeap$Phase")) :: lw_good
theorem cm_Co_phase : Cond.code y_Co_phase b_Co_phase 1 (some (.object "SnapshotHeap$Phase")) ∈ lw_good := tw_354
theorem gi_Co_phase : Cond.instanceMethod y_Co_phase ∈ lw_good := tw_352
theorem gs_Co_phase : Cond.selects R_Co y_Co_phase y_Co_phase ∈ lw_good := tw_353
abbrev b_Co_marking : ByteArray := prog_3_method_3_code
def y_Co_marking : MethodName := ⟨R_Co, "marking", "()LSnapshotHeap$Marking;"⟩
theorem hd_Co_marking : y_Co_marking.cls ≠ "java/lang/invoke/MethodHandle" ∧ y_Co_marking.cls ≠ "java/lang/invoke/VarHandle" ∧ (parseMethodDescriptor y_Co_marking.desc).map (fun d => d.parameters.length) = some 0 := by decide +kernel
abbrev w_Co_marking : List Cond := .code y_Co_marking b_Co_marking 1 (some (.object "SnapshotHeap$Marking")) :: lw_good
theorem cm_Co_marking : Cond.code y_Co_marking b_Co_marking 1 (some (.object "SnapshotHeap$Marking")) ∈ lw_good := tw_343
theorem gi_Co_marking : Cond.instanceMethod y_Co_marking ∈ lw_good := tw_341
theorem gs_Co_marking : Cond.selects R_Co y_Co_marking y_Co_marking ∈ lw_good := tw_342
abbrev b_Co_work : ByteArray := prog_3_method_4_code
def y_Co_work : MethodName := ⟨R_Co, "work", "(I)V"⟩
theorem hd_Co_work : y_Co_work.cls ≠ "java/lang/invoke/MethodHandle" ∧ y_Co_work.cls ≠ "java/lang/invoke/VarHandle" ∧ (parseMethodDescriptor y_Co_work.desc).map (fun d => d.parameters.length) = some 1 := by decide +kernel
abbrev w_Co_work : List Cond := .code y_Co_work b_Co_work 3 none :: lw_good
theorem cm_Co_work : Cond.code y_Co_work b_Co_work 3 none ∈ lw_good := tw_181
theorem gi_Co_work : Cond.instanceMethod y_Co_work ∈ lw_good := tw_179
theorem gs_Co_work : Cond.selects R_Co y_Co_work y_Co_work ∈ lw_good := tw_180
abbrev b_Co_collectWhole : ByteArray := prog_3_method_5_code
def y_Co_collectWhole : MethodName := ⟨R_Co, "collectWhole", "()V"⟩
theorem hd_Co_collectWhole : y_Co_collectWhole.cls ≠ "java/lang/invoke/MethodHandle" ∧ y_Co_collectWhole.cls ≠ "java/lang/invoke/VarHandle" ∧ (parseMethodDescriptor y_Co_collectWhole.desc).map (fun d => d.parameters.length) = some 0 := by decide +kernel
abbrev w_Co_collectWhole : List Cond := .code y_Co_collectWhole b_Co_collectWhole 2 none :: lw_good
theorem cm_Co_collectWhole : Cond.code y_Co_collectWhole b_Co_collectWhole 2 none ∈ lw_good := tw_312
theorem gi_Co_collectWhole : Cond.instanceMethod y_Co_collectWhole ∈ lw_good := tw_310
theorem gs_Co_collectWhole : Cond.selects R_Co y_Co_collectWhole y_Co_collectWhole ∈ lw_good := tw_311
abbrev b_Co_allocate : ByteArray := prog_3_method_6_code
def y_Co_allocate : MethodName := ⟨R_Co, "allocate", "(I)I"⟩
theorem hd_Co_allocate : y_Co_allocate.cls ≠ "java/lang/invoke/MethodHandle" ∧ y_Co_allocate.cls ≠ "java/lang/invoke/VarHandle" ∧ (parseMethodDescriptor y_Co_allocate.desc).map (fun d => d.parameters.length) = some 1 := by decide +kernel
abbrev w_Co_allocate : List Cond := .code y_Co_allocate b_Co_allocate 3 (some .int) :: lw_good
theorem cm_Co_allocate : Cond.code y_Co_allocate b_Co_allocate 3 (some .int) ∈ lw_good := tw_510
theorem gi_Co_allocate : Cond.instanceMethod y_Co_allocate ∈ lw_good := tw_508
theorem gs_Co_allocate : Cond.selects R_Co y_Co_allocate y_Co_allocate ∈ lw_good := tw_509
abbrev b_Co_beforeOverwrite : ByteArray := prog_3_method_7_code
def y_Co_beforeOverwrite : MethodName := ⟨R_Co, "beforeOverwrite", "(I)V"⟩
theorem hd_Co_beforeOverwrite : y_Co_beforeOverwrite.cls ≠ "java/lang/invoke/MethodHandle" ∧ y_Co_beforeOverwrite.cls ≠ "java/lang/invoke/VarHandle" ∧ (parseMethodDescriptor y_Co_beforeOverwrite.desc).map (fun d => d.parameters.length) = some 1 := by decide +kernel
abbrev w_Co_beforeOverwrite : List Cond := .code y_Co_beforeOverwrite b_Co_beforeOverwrite 2 none :: lw_good
theorem cm_Co_beforeOverwrite : Cond.code y_Co_beforeOverwrite b_Co_beforeOverwrite 2 none ∈ lw_good := tw_590
theorem gi_Co_beforeOverwrite : Cond.instanceMethod y_Co_beforeOverwrite ∈ lw_good := tw_588
theorem gs_Co_beforeOverwrite : Cond.selects R_Co y_Co_beforeOverwrite y_Co_beforeOverwrite ∈ lw_good := tw_589
abbrev b_Co_isYetToBeSwept : ByteArray := prog_3_method_8_code
def y_Co_isYetToBeSwept : MethodName := ⟨R_Co, "isYetToBeSwept", "(I)Z"⟩
theorem hd_Co_isYetToBeSwept : y_Co_isYetToBeSwept.cls ≠ "java/lang/invoke/MethodHandle" ∧ y_Co_isYetToBeSwept.cls ≠ "java/lang/invoke/VarHandle" ∧ (parseMethodDescriptor y_Co_isYetToBeSwept.desc).map (fun d => d.parameters.length) = some 1 := by decide +kernel
abbrev w_Co_isYetToBeSwept : List Cond := .code y_Co_isYetToBeSwept b_Co_isYetToBeSwept 2 (some .boolean) :: lw_good
theorem cm_Co_isYetToBeSwept : Cond.code y_Co_isYetToBeSwept b_Co_isYetToBeSwept 2 (some .boolean) ∈ lw_good := tw_372
theorem gi_Co_isYetToBeSwept : Cond.instanceMethod y_Co_isYetToBeSwept ∈ lw_good := tw_370
theorem gs_Co_isYetToBeSwept : Cond.selects R_Co y_Co_isYetToBeSwept y_Co_isYetToBeSwept ∈ lw_good := tw_371
abbrev b_Co_advance : ByteArray := prog_3_method_9_code
def y_Co_advance : MethodName := ⟨R_Co, "advance", "()V"⟩
theorem hd_Co_advance : y_Co_advance.cls ≠ "java/lang/invoke/MethodHandle" ∧ y_Co_advance.cls ≠ "java/lang/invoke/VarHandle" ∧ (parseMethodDescriptor y_Co_advance.desc).map (fun d => d.parameters.length) = some 0 := by decide +kernel
abbrev w_Co_advance : List Cond := .code y_Co_advance b_Co_advance 1 none :: lw_good
theorem cm_Co_advance : Cond.code y_Co_advance b_Co_advance 1 none ∈ lw_good := tw_185
theorem gi_Co_advance : Cond.instanceMethod y_Co_advance ∈ lw_good := tw_184
theorem gs_Co_advance : Cond.selects R_Co y_Co_advance y_Co_advance ∈ lw_good := ts_Co_advance
abbrev b_Co_begin : ByteArray := prog_3_method_10_code
def y_Co_begin : MethodName := ⟨R_Co, "begin", "()V"⟩
theorem hd_Co_begin : y_Co_begin.cls ≠ "java/lang/invoke/MethodHandle" ∧ y_Co_begin.cls ≠ "java/lang/invoke/VarHandle" ∧ (parseMethodDescriptor y_Co_begin.desc).map (fun d => d.parameters.length) = some 0 := by decide +kernel
abbrev w_Co_begin : List Cond := .code y_Co_begin b_Co_begin 1 none :: lw_good
theorem cm_Co_begin : Cond.code y_Co_begin b_Co_begin 1 none ∈ lw_good := tw_189
theorem gi_Co_begin : Cond.instanceMethod y_Co_begin ∈ lw_good := tw_188
theorem gs_Co_begin : Cond.selects R_Co y_Co_begin y_Co_begin ∈ lw_good := ts_Co_begin
abbrev b_Co_sweepOne : ByteArray := prog_3_method_11_code
def y_Co_sweepOne : MethodName := ⟨R_Co, "sweepOne", "()V"⟩
theorem hd_Co_sweepOne : y_Co_sweepOne.cls ≠ "java/lang/invoke/MethodHandle" ∧ y_Co_sweepOne.cls ≠ "java/lang/invoke/VarHandle" ∧ (parseMethodDescriptor y_Co_sweepOne.desc).map (fun d => d.parameters.length) = some 0 := by decide +kernel
abbrev w_Co_sweepOne : List Cond := .code y_Co_sweepOne b_Co_sweepOne 1 none :: lw_good
theorem cm_Co_sweepOne : Cond.code y_Co_sweepOne b_Co_sweepOne 1 none ∈ lw_good := tw_233
theorem gi_Co_sweepOne : Cond.instanceMethod y_Co_sweepOne ∈ lw_good := tw_232
theorem gs_Co_sweepOne : Cond.selects R_Co y_Co_sweepOne y_Co_sweepOne ∈ lw_good := ts_Co_sweepOne
abbrev b_Ma_init : ByteArray := prog_4_method_1_code
def y_Ma_init : MethodName := ⟨R_Ma, "<init>", "(LSnapshotHeap$Store;)V"⟩
theorem hd_Ma_init : y_Ma_init.cls ≠ "java/lang/invoke/MethodHandle" ∧ y_Ma_init.cls ≠ "java/lang/invoke/VarHandle" ∧ (parseMethodDescriptor y_Ma_init.desc).map (fun d => d.parameters.length) = some 1 := by decide +kernel
abbrev w_Ma_init : List Cond := .code y_Ma_init b_Ma_init 2 none :: lw_good
theorem cm_Ma_init : Cond.code y_Ma_init b_Ma_init 2 none ∈ lw_good := tw_70
theorem gi_Ma_init : Cond.instanceMethod y_Ma_init ∈ lw_good := tw_69
abbrev b_Ma_reset : ByteArray := prog_4_method_2_code
def y_Ma_reset : MethodName := ⟨R_Ma, "reset", "()V"⟩
theorem hd_Ma_reset : y_Ma_reset.cls ≠ "java/lang/invoke/MethodHandle" ∧ y_Ma_reset.cls ≠ "java/lang/invoke/VarHandle" ∧ (parseMethodDescriptor y_Ma_reset.desc).map (fun d => d.parameters.length) = some 0 := by decide +kernel
abbrev w_Ma_reset : List Cond := .code y_Ma_reset b_Ma_reset 1 none :: lw_good
theorem cm_Ma_reset : Cond.code y_Ma_reset b_Ma_reset 1 none ∈ lw_good := tw_316
theorem gi_Ma_reset : Cond.instanceMethod y_Ma_reset ∈ lw_good := tw_314
theorem gs_Ma_reset : Cond.selects R_Ma y_Ma_reset y_Ma_reset ∈ lw_good := tw_315
abbrev b_Ma_imitate : ByteArray := prog_4_method_3_code
def y_Ma_imitate : MethodName := ⟨R_Ma, "imitate", "(LSnapshotHeap$Marking;)V"⟩
theorem hd_Ma_imitate : y_Ma_imitate.cls ≠ "java/lang/invoke/MethodHandle" ∧ y_Ma_imitate.cls ≠ "java/lang/invoke/VarHandle" ∧ (parseMethodDescriptor y_Ma_imitate.desc).map (fun d => d.parameters.length) = some 1 := by decide +kernel
abbrev w_Ma_imitate : List Cond := .code y_Ma_imitate b_Ma_imitate 2 none :: lw_good
theorem cm_Ma_imitate : Cond.code y_Ma_imitate b_Ma_imitate 2 none ∈ lw_good := tw_347
theorem gi_Ma_imitate : Cond.instanceMethod y_Ma_imitate ∈ lw_good := tw_345
theorem gs_Ma_imitate : Cond.selects R_Ma y_Ma_imitate y_Ma_imitate ∈ lw_good := tw_346
abbrev b_Ma_isDone : ByteArray := prog_4_method_4_code
def y_Ma_isDone : MethodName := ⟨R_Ma, "isDone", "()Z"⟩
theorem hd_Ma_isDone : y_Ma_isDone.cls ≠ "java/lang/invoke/MethodHandle" ∧ y_Ma_isDone.cls ≠ "java/lang/invoke/VarHandle" ∧ (parseMethodDescriptor y_Ma_isDone.desc).map (fun d => d.parameters.length) = some 0 := by decide +kernel
abbrev w_Ma_isDone : List Cond := .code y_Ma_isDone b_Ma_isDone 1 (some .boolean) :: lw_good
theorem cm_Ma_isDone : Cond.code y_Ma_isDone b_Ma_isDone 1 (some .boolean) ∈ lw_good := tw_218
theorem gi_Ma_isDone : Cond.instanceMethod y_Ma_isDone ∈ lw_good := tw_216
theorem gs_Ma_isDone : Cond.selects R_Ma y_Ma_isDone y_Ma_isDone ∈ lw_good := tw_217
abbrev b_Ma_isWhite : ByteArray := prog_4_method_5_code
def y_Ma_isWhite : MethodName := ⟨R_Ma, "isWhite", "(I)Z"⟩
theorem hd_Ma_isWhite : y_Ma_isWhite.cls ≠ "java/lang/invoke/MethodHandle" ∧ y_Ma_isWhite.cls ≠ "java/lang/invoke/VarHandle" ∧ (parseMethodDescriptor y_Ma_isWhite.desc).map (fun d => d.parameters.length) = some 1 := by decide +kernel
abbrev w_Ma_isWhite : List Cond := .code y_Ma_isWhite b_Ma_isWhite 2 (some .boolean) :: lw_good
theorem cm_Ma_isWhite : Cond.code y_Ma_isWhite b_Ma_isWhite 2 (some .boolean) ∈ lw_good := tw_376
theorem gi_Ma_isWhite : Cond.instanceMethod y_Ma_isWhite ∈ lw_good := tw_374
theorem gs_Ma_isWhite : Cond.selects R_Ma y_Ma_isWhite y_Ma_isWhite ∈ lw_good := tw_375
abbrev b_Ma_isGrey : ByteArray := prog_4_method_6_code
def y_Ma_isGrey : MethodName := ⟨R_Ma, "isGrey", "(I)Z"⟩
theorem hd_Ma_isGrey : y_Ma_isGrey.cls ≠ "java/lang/invoke/MethodHandle" ∧ y_Ma_isGrey.cls ≠ "java/lang/invoke/VarHandle" ∧ (parseMethodDescriptor y_Ma_isGrey.desc).map (fun d => d.parameters.length) = some 1 := by decide +kernel
abbrev w_Ma_isGrey : List Cond := .code y_Ma_isGrey b_Ma_isGrey 2 (some .boolean) :: lw_good
theorem cm_Ma_isGrey : Cond.code y_Ma_isGrey b_Ma_isGrey 2 (some .boolean) ∈ lw_good := tw_380
theorem gi_Ma_isGrey : Cond.instanceMethod y_Ma_isGrey ∈ lw_good := tw_378
theorem gs_Ma_isGrey : Cond.selects R_Ma y_Ma_isGrey y_Ma_isGrey ∈ lw_good := tw_379
abbrev b_Ma_isBlack : ByteArray := prog_4_method_7_code
def y_Ma_isBlack : MethodName := ⟨R_Ma, "isBlack", "(I)Z"⟩
theorem hd_Ma_isBlack : y_Ma_isBlack.cls ≠ "java/lang/invoke/MethodHandle" ∧ y_Ma_isBlack.cls ≠ "java/lang/invoke/VarHandle" ∧ (parseMethodDescriptor y_Ma_isBlack.desc).map (fun d => d.parameters.length) = some 1 := by decide +kernel
abbrev w_Ma_isBlack : List Cond := .code y_Ma_isBlack b_Ma_isBlack 2 (some .boolean) :: lw_good
theorem cm_Ma_isBlack : Cond.code y_Ma_isBlack b_Ma_isBlack 2 (some .boolean) ∈ lw_good := tw_237
theorem gi_Ma_isBlack : Cond.instanceMethod y_Ma_isBlack ∈ lw_good := tw_235
theorem gs_Ma_isBlack : Cond.selects R_Ma y_Ma_isBlack y_Ma_isBlack ∈ lw_good := tw_236
abbrev b_Ma_whiten : ByteArray := prog_4_method_8_code
def y_Ma_whiten : MethodName := ⟨R_Ma, "whiten", "(I)V"⟩
theorem hd_Ma_whiten : y_Ma_whiten.cls ≠ "java/lang/invoke/MethodHandle" ∧ y_Ma_whiten.cls ≠ "java/lang/invoke/VarHandle" ∧ (parseMethodDescriptor y_Ma_whiten.desc).map (fun d => d.parameters.length) = some 1 := by decide +kernel
abbrev w_Ma_whiten : List Cond := .code y_Ma_whiten b_Ma_whiten 2 none :: lw_good
theorem cm_Ma_whiten : Cond.code y_Ma_whiten b_Ma_whiten 2 none ∈ lw_good := tw_241
theorem gi_Ma_whiten : Cond.instanceMethod y_Ma_whiten ∈ lw_good := tw_239
theorem gs_Ma_whiten : Cond.selects R_Ma y_Ma_whiten y_Ma_whiten ∈ lw_good := tw_240
abbrev b_Ma_blacken : ByteArray := prog_4_method_9_code
def y_Ma_blacken : MethodName := ⟨R_Ma, "blacken", "(I)V"⟩
theorem hd_Ma_blacken : y_Ma_blacken.cls ≠ "java/lang/invoke/MethodHandle" ∧ y_Ma_blacken.cls ≠ "java/lang/invoke/VarHandle" ∧ (parseMethodDescriptor y_Ma_blacken.desc).map (fun d => d.parameters.length) = some 1 := by decide +kernel
abbrev w_Ma_blacken : List Cond := .code y_Ma_blacken b_Ma_blacken 2 none :: lw_good
theorem cm_Ma_blacken : Cond.code y_Ma_blacken b_Ma_blacken 2 none ∈ lw_good := tw_228
theorem gi_Ma_blacken : Cond.instanceMethod y_Ma_blacken ∈ lw_good := tw_226
theorem gs_Ma_blacken : Cond.selects R_Ma y_Ma_blacken y_Ma_blacken ∈ lw_good := tw_227
abbrev b_Ma_shade : ByteArray := prog_4_method_10_code
def y_Ma_shade : MethodName := ⟨R_Ma, "shade", "(I)V"⟩
theorem hd_Ma_shade : y_Ma_shade.cls ≠ "java/lang/invoke/MethodHandle" ∧ y_Ma_shade.cls ≠ "java/lang/invoke/VarHandle" ∧ (parseMethodDescriptor y_Ma_shade.desc).map (fun d => d.parameters.length) = some 1 := by decide +kernel
abbrev w_Ma_shade : List Cond := .code y_Ma_shade b_Ma_shade 2 none :: lw_good
theorem cm_Ma_shade : Cond.code y_Ma_shade b_Ma_shade 2 none ∈ lw_good := tw_210
theorem gi_Ma_shade : Cond.instanceMethod y_Ma_shade ∈ lw_good := tw_208
theorem gs_Ma_shade : Cond.selects R_Ma y_Ma_shade y_Ma_shade ∈ lw_good := tw_209
abbrev b_Ma_shadeValuesOf : ByteArray := prog_4_method_11_code
def y_Ma_shadeValuesOf : MethodName := ⟨R_Ma, "shadeValuesOf", "(I)V"⟩
theorem hd_Ma_shadeValuesOf : y_Ma_shadeValuesOf.cls ≠ "java/lang/invoke/MethodHandle" ∧ y_Ma_shadeValuesOf.cls ≠ "java/lang/invoke/VarHandle" ∧ (parseMethodDescriptor y_Ma_shadeValuesOf.desc).map (fun d => d.parameters.length) = some 1 := by decide +kernel
abbrev w_Ma_shadeValuesOf : List Cond := .code y_Ma_shadeValuesOf b_Ma_shadeValuesOf 4 none :: lw_good
theorem cm_Ma_shadeValuesOf : Cond.code y_Ma_shadeValuesOf b_Ma_shadeValuesOf 4 none ∈ lw_good := tw_195
theorem gi_Ma_shadeValuesOf : Cond.instanceMethod y_Ma_shadeValuesOf ∈ lw_good := tw_193
theorem gs_Ma_shadeValuesOf : Cond.selects R_Ma y_Ma_shadeValuesOf y_Ma_shadeValuesOf ∈ lw_good := tw_194
abbrev b_Ma_markOne : ByteArray := prog_4_method_12_code
def y_Ma_markOne : MethodName := ⟨R_Ma, "markOne", "()V"⟩
theorem hd_Ma_markOne : y_Ma_markOne.cls ≠ "java/lang/invoke/MethodHandle" ∧ y_Ma_markOne.cls ≠ "java/lang/invoke/VarHandle" ∧ (parseMethodDescriptor y_Ma_markOne.desc).map (fun d => d.parameters.length) = some 0 := by decide +kernel
abbrev w_Ma_markOne : List Cond := .code y_Ma_markOne b_Ma_markOne 2 none :: lw_good
theorem cm_Ma_markOne : Cond.code y_Ma_markOne b_Ma_markOne 2 none ∈ lw_good := tw_224
theorem gi_Ma_markOne : Cond.instanceMethod y_Ma_markOne ∈ lw_good := tw_222
theorem gs_Ma_markOne : Cond.selects R_Ma y_Ma_markOne y_Ma_markOne ∈ lw_good := tw_223
abbrev b_St_init : ByteArray := prog_6_method_1_code
def y_St_init : MethodName := ⟨R_St, "<init>", "()V"⟩
theorem hd_St_init : y_St_init.cls ≠ "java/lang/invoke/MethodHandle" ∧ y_St_init.cls ≠ "java/lang/invoke/VarHandle" ∧ (parseMethodDescriptor y_St_init.desc).map (fun d => d.parameters.length) = some 0 := by decide +kernel
abbrev w_St_init : List Cond := .code y_St_init b_St_init 1 none :: lw_good
theorem cm_St_init : Cond.code y_St_init b_St_init 1 none ∈ lw_good := tw_31
theorem gi_St_init : Cond.instanceMethod y_St_init ∈ lw_good := tw_30
abbrev b_St_isTuplePlace : ByteArray := prog_6_method_2_code
def y_St_isTuplePlace : MethodName := ⟨R_St, "isTuplePlace", "(I)Z"⟩
theorem hd_St_isTuplePlace : y_St_isTuplePlace.cls ≠ "java/lang/invoke/MethodHandle" ∧ y_St_isTuplePlace.cls ≠ "java/lang/invoke/VarHandle" ∧ (parseMethodDescriptor y_St_isTuplePlace.desc).map (fun d => d.parameters.length) = some 1 := by decide +kernel
abbrev w_St_isTuplePlace : List Cond := .code y_St_isTuplePlace b_St_isTuplePlace 2 (some .boolean) :: lw_good
theorem cm_St_isTuplePlace : Cond.code y_St_isTuplePlace b_St_isTuplePlace 2 (some .boolean) ∈ lw_good := tw_214
theorem gi_St_isTuplePlace : Cond.instanceMethod y_St_isTuplePlace ∈ lw_good := tw_212
theorem gs_St_isTuplePlace : Cond.selects R_St y_St_isTuplePlace y_St_isTuplePlace ∈ lw_good := tw_213
abbrev b_St_isFree : ByteArray := prog_6_method_3_code
def y_St_isFree : MethodName := ⟨R_St, "isFree", "(I)Z"⟩
theorem hd_St_isFree : y_St_isFree.cls ≠ "java/lang/invoke/MethodHandle" ∧ y_St_isFree.cls ≠ "java/lang/invoke/VarHandle" ∧ (parseMethodDescriptor y_St_isFree.desc).map (fun d => d.parameters.length) = some 1 := by decide +kernel
abbrev w_St_isFree : List Cond := .code y_St_isFree b_St_isFree 2 (some .boolean) :: lw_good
theorem cm_St_isFree : Cond.code y_St_isFree b_St_isFree 2 (some .boolean) ∈ lw_good := tw_245
theorem gi_St_isFree : Cond.instanceMethod y_St_isFree ∈ lw_good := tw_243
theorem gs_St_isFree : Cond.selects R_St y_St_isFree y_St_isFree ∈ lw_good := tw_244
abbrev b_St_valuesOf : ByteArray := prog_6_method_4_code
def y_St_valuesOf : MethodName := ⟨R_St, "valuesOf", "(I)I"⟩
theorem hd_St_valuesOf : y_St_valuesOf.cls ≠ "java/lang/invoke/MethodHandle" ∧ y_St_valuesOf.cls ≠ "java/lang/invoke/VarHandle" ∧ (parseMethodDescriptor y_St_valuesOf.desc).map (fun d => d.parameters.length) = some 1 := by decide +kernel
abbrev w_St_valuesOf : List Cond := .code y_St_valuesOf b_St_valuesOf 2 (some .int) :: lw_good
theorem cm_St_valuesOf : Cond.code y_St_valuesOf b_St_valuesOf 2 (some .int) ∈ lw_good := tw_199
theorem gi_St_valuesOf : Cond.instanceMethod y_St_valuesOf ∈ lw_good := tw_197
theorem gs_St_valuesOf : Cond.selects R_St y_St_valuesOf y_St_valuesOf ∈ lw_good := tw_198
abbrev b_St_cellsFor : ByteArray := prog_6_method_5_code
def y_St_cellsFor : MethodName := ⟨R_St, "cellsFor", "(I)I"⟩
theorem hd_St_cellsFor : y_St_cellsFor.cls ≠ "java/lang/invoke/MethodHandle" ∧ y_St_cellsFor.cls ≠ "java/lang/invoke/VarHandle" ∧ (parseMethodDescriptor y_St_cellsFor.desc).map (fun d => d.parameters.length) = some 1 := by decide +kernel
abbrev w_St_cellsFor : List Cond := .code y_St_cellsFor b_St_cellsFor 1 (some .int) :: lw_good
theorem cm_St_cellsFor : Cond.code y_St_cellsFor b_St_cellsFor 1 (some .int) ∈ lw_good := tw_254
theorem gt_St_cellsFor : Cond.static y_St_cellsFor ∈ lw_good := tw_253
abbrev b_St_top : ByteArray := prog_6_method_6_code
def y_St_top : MethodName := ⟨R_St, "top", "()I"⟩
theorem hd_St_top : y_St_top.cls ≠ "java/lang/invoke/MethodHandle" ∧ y_St_top.cls ≠ "java/lang/invoke/VarHandle" ∧ (parseMethodDescriptor y_St_top.desc).map (fun d => d.parameters.length) = some 0 := by decide +kernel
abbrev w_St_top : List Cond := .code y_St_top b_St_top 1 (some .int) :: lw_good
theorem cm_St_top : Cond.code y_St_top b_St_top 1 (some .int) ∈ lw_good := tw_258
theorem gi_St_top : Cond.instanceMethod y_St_top ∈ lw_good := tw_256
theorem gs_St_top : Cond.selects R_St y_St_top y_St_top ∈ lw_good := tw_257
abbrev b_St_tuples : ByteArray := prog_6_method_7_code
def y_St_tuples : MethodName := ⟨R_St, "tuples", "()I"⟩
theorem hd_St_tuples : y_St_tuples.cls ≠ "java/lang/invoke/MethodHandle" ∧ y_St_tuples.cls ≠ "java/lang/invoke/VarHandle" ∧ (parseMethodDescriptor y_St_tuples.desc).map (fun d => d.parameters.length) = some 0 := by decide +kernel
abbrev w_St_tuples : List Cond := .code y_St_tuples b_St_tuples 1 (some .int) :: lw_good
theorem cm_St_tuples : Cond.code y_St_tuples b_St_tuples 1 (some .int) ∈ lw_good := tw_321
theorem gi_St_tuples : Cond.instanceMethod y_St_tuples ∈ lw_good := tw_319
theorem gs_St_tuples : Cond.selects R_St y_St_tuples y_St_tuples ∈ lw_good := tw_320
abbrev b_St_hasRoomFor : ByteArray := prog_6_method_8_code
def y_St_hasRoomFor : MethodName := ⟨R_St, "hasRoomFor", "(I)Z"⟩
theorem hd_St_hasRoomFor : y_St_hasRoomFor.cls ≠ "java/lang/invoke/MethodHandle" ∧ y_St_hasRoomFor.cls ≠ "java/lang/invoke/VarHandle" ∧ (parseMethodDescriptor y_St_hasRoomFor.desc).map (fun d => d.parameters.length) = some 1 := by decide +kernel
abbrev w_St_hasRoomFor : List Cond := .code y_St_hasRoomFor b_St_hasRoomFor 2 (some .boolean) :: lw_good
theorem cm_St_hasRoomFor : Cond.code y_St_hasRoomFor b_St_hasRoomFor 2 (some .boolean) ∈ lw_good := tw_486
theorem gi_St_hasRoomFor : Cond.instanceMethod y_St_hasRoomFor ∈ lw_good := tw_484
theorem gs_St_hasRoomFor : Cond.selects R_St y_St_hasRoomFor y_St_hasRoomFor ∈ lw_good := tw_485
abbrev b_St_take : ByteArray := prog_6_method_9_code
def y_St_take : MethodName := ⟨R_St, "take", "(I)I"⟩
theorem hd_St_take : y_St_take.cls ≠ "java/lang/invoke/MethodHandle" ∧ y_St_take.cls ≠ "java/lang/invoke/VarHandle" ∧ (parseMethodDescriptor y_St_take.desc).map (fun d => d.parameters.length) = some 1 := by decide +kernel
abbrev w_St_take : List Cond := .code y_St_take b_St_take 4 (some .int) :: lw_good
theorem cm_St_take : Cond.code y_St_take b_St_take 4 (some .int) ∈ lw_good := tw_514
theorem gi_St_take : Cond.instanceMethod y_St_take ∈ lw_good := tw_512
theorem gs_St_take : Cond.selects R_St y_St_take y_St_take ∈ lw_good := tw_513
abbrev b_St_takeFreePlace : ByteArray := prog_6_method_10_code
def y_St_takeFreePlace : MethodName := ⟨R_St, "takeFreePlace", "()I"⟩
theorem hd_St_takeFreePlace : y_St_takeFreePlace.cls ≠ "java/lang/invoke/MethodHandle" ∧ y_St_takeFreePlace.cls ≠ "java/lang/invoke/VarHandle" ∧ (parseMethodDescriptor y_St_takeFreePlace.desc).map (fun d => d.parameters.length) = some 0 := by decide +kernel
abbrev w_St_takeFreePlace : List Cond := .code y_St_takeFreePlace b_St_takeFreePlace 1 (some .int) :: lw_good
theorem cm_St_takeFreePlace : Cond.code y_St_takeFreePlace b_St_takeFreePlace 1 (some .int) ∈ lw_good := tw_519
theorem gi_St_takeFreePlace : Cond.instanceMethod y_St_takeFreePlace ∈ lw_good := tw_518
theorem gs_St_takeFreePlace : Cond.selects R_St y_St_takeFreePlace y_St_takeFreePlace ∈ lw_good := ts_St_takeFreePlace
abbrev b_St_release : ByteArray := prog_6_method_11_code
def y_St_release : MethodName := ⟨R_St, "release", "(I)V"⟩
theorem hd_St_release : y_St_release.cls ≠ "java/lang/invoke/MethodHandle" ∧ y_St_release.cls ≠ "java/lang/invoke/VarHandle" ∧ (parseMethodDescriptor y_St_release.desc).map (fun d => d.parameters.length) = some 1 := by decide +kernel
abbrev w_St_release : List Cond := .code y_St_release b_St_release 2 none :: lw_good
theorem cm_St_release : Cond.code y_St_release b_St_release 2 none ∈ lw_good := tw_250
theorem gi_St_release : Cond.instanceMethod y_St_release ∈ lw_good := tw_248
theorem gs_St_release : Cond.selects R_St y_St_release y_St_release ∈ lw_good := tw_249
abbrev b_St_placeAt : ByteArray := prog_6_method_12_code
def y_St_placeAt : MethodName := ⟨R_St, "placeAt", "(I)I"⟩
theorem hd_St_placeAt : y_St_placeAt.cls ≠ "java/lang/invoke/MethodHandle" ∧ y_St_placeAt.cls ≠ "java/lang/invoke/VarHandle" ∧ (parseMethodDescriptor y_St_placeAt.desc).map (fun d => d.parameters.length) = some 1 := by decide +kernel
abbrev w_St_placeAt : List Cond := .code y_St_placeAt b_St_placeAt 2 (some .int) :: lw_good
theorem cm_St_placeAt : Cond.code y_St_placeAt b_St_placeAt 2 (some .int) ∈ lw_good := tw_206
theorem gi_St_placeAt : Cond.instanceMethod y_St_placeAt ∈ lw_good := tw_204
theorem gs_St_placeAt : Cond.selects R_St y_St_placeAt y_St_placeAt ∈ lw_good := tw_205
abbrev b_St_numberAt : ByteArray := prog_6_method_13_code
def y_St_numberAt : MethodName := ⟨R_St, "numberAt", "(I)J"⟩
theorem hd_St_numberAt : y_St_numberAt.cls ≠ "java/lang/invoke/MethodHandle" ∧ y_St_numberAt.cls ≠ "java/lang/invoke/VarHandle" ∧ (parseMethodDescriptor y_St_numberAt.desc).map (fun d => d.parameters.length) = some 1 := by decide +kernel
abbrev w_St_numberAt : List Cond := .code y_St_numberAt b_St_numberAt 2 (some .long) :: lw_good
theorem cm_St_numberAt : Cond.code y_St_numberAt b_St_numberAt 2 (some .long) ∈ lw_good := tw_284
theorem gi_St_numberAt : Cond.instanceMethod y_St_numberAt ∈ lw_good := tw_282
theorem gs_St_numberAt : Cond.selects R_St y_St_numberAt y_St_numberAt ∈ lw_good := tw_283
abbrev b_St_putNumber : ByteArray := prog_6_method_14_code
def y_St_putNumber : MethodName := ⟨R_St, "putNumber", "(IJ)V"⟩
theorem hd_St_putNumber : y_St_putNumber.cls ≠ "java/lang/invoke/MethodHandle" ∧ y_St_putNumber.cls ≠ "java/lang/invoke/VarHandle" ∧ (parseMethodDescriptor y_St_putNumber.desc).map (fun d => d.parameters.length) = some 2 := by decide +kernel
abbrev w_St_putNumber : List Cond := .code y_St_putNumber b_St_putNumber 4 none :: lw_good
theorem cm_St_putNumber : Cond.code y_St_putNumber b_St_putNumber 4 none ∈ lw_good := tw_524
theorem gi_St_putNumber : Cond.instanceMethod y_St_putNumber ∈ lw_good := tw_522
theorem gs_St_putNumber : Cond.selects R_St y_St_putNumber y_St_putNumber ∈ lw_good := tw_523
abbrev b_St_putReference : ByteArray := prog_6_method_15_code
def y_St_putReference : MethodName := ⟨R_St, "putReference", "(II)V"⟩
theorem hd_St_putReference : y_St_putReference.cls ≠ "java/lang/invoke/MethodHandle" ∧ y_St_putReference.cls ≠ "java/lang/invoke/VarHandle" ∧ (parseMethodDescriptor y_St_putReference.desc).map (fun d => d.parameters.length) = some 2 := by decide +kernel
abbrev w_St_putReference : List Cond := .code y_St_putReference b_St_putReference 3 none :: lw_good
theorem cm_St_putReference : Cond.code y_St_putReference b_St_putReference 3 none ∈ lw_good := tw_530
theorem gi_St_putReference : Cond.instanceMethod y_St_putReference ∈ lw_good := tw_528
theorem gs_St_putReference : Cond.selects R_St y_St_putReference y_St_putReference ∈ lw_good := tw_529
abbrev b_St_move : ByteArray := prog_6_method_16_code
def y_St_move : MethodName := ⟨R_St, "move", "(II)V"⟩
theorem hd_St_move : y_St_move.cls ≠ "java/lang/invoke/MethodHandle" ∧ y_St_move.cls ≠ "java/lang/invoke/VarHandle" ∧ (parseMethodDescriptor y_St_move.desc).map (fun d => d.parameters.length) = some 2 := by decide +kernel
abbrev w_St_move : List Cond := .code y_St_move b_St_move 3 none :: lw_good
theorem cm_St_move : Cond.code y_St_move b_St_move 3 none ∈ lw_good := tw_549
theorem gi_St_move : Cond.instanceMethod y_St_move ∈ lw_good := tw_547
theorem gs_St_move : Cond.selects R_St y_St_move y_St_move ∈ lw_good := tw_548
abbrev b_St_alike : ByteArray := prog_6_method_17_code
def y_St_alike : MethodName := ⟨R_St, "alike", "(II)Z"⟩
theorem hd_St_alike : y_St_alike.cls ≠ "java/lang/invoke/MethodHandle" ∧ y_St_alike.cls ≠ "java/lang/invoke/VarHandle" ∧ (parseMethodDescriptor y_St_alike.desc).map (fun d => d.parameters.length) = some 2 := by decide +kernel
abbrev w_St_alike : List Cond := .code y_St_alike b_St_alike 3 (some .boolean) :: lw_good
theorem cm_St_alike : Cond.code y_St_alike b_St_alike 3 (some .boolean) ∈ lw_good := tw_632
theorem gi_St_alike : Cond.instanceMethod y_St_alike ∈ lw_good := tw_630
theorem gs_St_alike : Cond.selects R_St y_St_alike y_St_alike ∈ lw_good := tw_631
abbrev b_St_countHolders : ByteArray := prog_6_method_18_code
def y_St_countHolders : MethodName := ⟨R_St, "countHolders", "([I)V"⟩
theorem hd_St_countHolders : y_St_countHolders.cls ≠ "java/lang/invoke/MethodHandle" ∧ y_St_countHolders.cls ≠ "java/lang/invoke/VarHandle" ∧ (parseMethodDescriptor y_St_countHolders.desc).map (fun d => d.parameters.length) = some 1 := by decide +kernel
abbrev w_St_countHolders : List Cond := .code y_St_countHolders b_St_countHolders 3 none :: lw_good
theorem cm_St_countHolders : Cond.code y_St_countHolders b_St_countHolders 3 none ∈ lw_good := tw_334
theorem gi_St_countHolders : Cond.instanceMethod y_St_countHolders ∈ lw_good := tw_332
theorem gs_St_countHolders : Cond.selects R_St y_St_countHolders y_St_countHolders ∈ lw_good := tw_333
abbrev b_Wa_init : ByteArray := prog_7_method_1_code
def y_Wa_init : MethodName := ⟨R_Wa, "<init>", "(LSnapshotHeap$Store;)V"⟩
theorem hd_Wa_init : y_Wa_init.cls ≠ "java/lang/invoke/MethodHandle" ∧ y_Wa_init.cls ≠ "java/lang/invoke/VarHandle" ∧ (parseMethodDescriptor y_Wa_init.desc).map (fun d => d.parameters.length) = some 1 := by decide +kernel
abbrev w_Wa_init : List Cond := .code y_Wa_init b_Wa_init 2 none :: lw_good
theorem cm_Wa_init : Cond.code y_Wa_init b_Wa_init 2 none ∈ lw_good := tw_104
theorem gi_Wa_init : Cond.instanceMethod y_Wa_init ∈ lw_good := tw_103
abbrev b_Wa_tuples : ByteArray := prog_7_method_2_code
def y_Wa_tuples : MethodName := ⟨R_Wa, "tuples", "()I"⟩
theorem hd_Wa_tuples : y_Wa_tuples.cls ≠ "java/lang/invoke/MethodHandle" ∧ y_Wa_tuples.cls ≠ "java/lang/invoke/VarHandle" ∧ (parseMethodDescriptor y_Wa_tuples.desc).map (fun d => d.parameters.length) = some 0 := by decide +kernel
abbrev w_Wa_tuples : List Cond := .code y_Wa_tuples b_Wa_tuples 1 (some .int) :: lw_good
theorem cm_Wa_tuples : Cond.code y_Wa_tuples b_Wa_tuples 1 (some .int) ∈ lw_good := tw_643
theorem gi_Wa_tuples : Cond.instanceMethod y_Wa_tuples ∈ lw_good := tw_641
theorem gs_Wa_tuples : Cond.selects R_Wa y_Wa_tuples y_Wa_tuples ∈ lw_good := tw_642
abbrev b_Wa_cells : ByteArray := prog_7_method_3_code
def y_Wa_cells : MethodName := ⟨R_Wa, "cells", "()I"⟩
theorem hd_Wa_cells : y_Wa_cells.cls ≠ "java/lang/invoke/MethodHandle" ∧ y_Wa_cells.cls ≠ "java/lang/invoke/VarHandle" ∧ (parseMethodDescriptor y_Wa_cells.desc).map (fun d => d.parameters.length) = some 0 := by decide +kernel
abbrev w_Wa_cells : List Cond := .code y_Wa_cells b_Wa_cells 1 (some .int) :: lw_good
theorem cm_Wa_cells : Cond.code y_Wa_cells b_Wa_cells 1 (some .int) ∈ lw_good := tw_647
theorem gi_Wa_cells : Cond.instanceMethod y_Wa_cells ∈ lw_good := tw_645
theorem gs_Wa_cells : Cond.selects R_Wa y_Wa_cells y_Wa_cells ∈ lw_good := tw_646
abbrev b_Wa_hash : ByteArray := prog_7_method_4_code
def y_Wa_hash : MethodName := ⟨R_Wa, "hash", "()J"⟩
theorem hd_Wa_hash : y_Wa_hash.cls ≠ "java/lang/invoke/MethodHandle" ∧ y_Wa_hash.cls ≠ "java/lang/invoke/VarHandle" ∧ (parseMethodDescriptor y_Wa_hash.desc).map (fun d => d.parameters.length) = some 0 := by decide +kernel
abbrev w_Wa_hash : List Cond := .code y_Wa_hash b_Wa_hash 1 (some .long) :: lw_good
theorem cm_Wa_hash : Cond.code y_Wa_hash b_Wa_hash 1 (some .long) ∈ lw_good := tw_304
theorem gi_Wa_hash : Cond.instanceMethod y_Wa_hash ∈ lw_good := tw_302
theorem gs_Wa_hash : Cond.selects R_Wa y_Wa_hash y_Wa_hash ∈ lw_good := tw_303
abbrev b_Wa_hasMet : ByteArray := prog_7_method_5_code
def y_Wa_hasMet : MethodName := ⟨R_Wa, "hasMet", "(I)Z"⟩
theorem hd_Wa_hasMet : y_Wa_hasMet.cls ≠ "java/lang/invoke/MethodHandle" ∧ y_Wa_hasMet.cls ≠ "java/lang/invoke/VarHandle" ∧ (parseMethodDescriptor y_Wa_hasMet.desc).map (fun d => d.parameters.length) = some 1 := by decide +kernel
abbrev w_Wa_hasMet : List Cond := .code y_Wa_hasMet b_Wa_hasMet 2 (some .boolean) :: lw_good
theorem cm_Wa_hasMet : Cond.code y_Wa_hasMet b_Wa_hasMet 2 (some .boolean) ∈ lw_good := tw_293
theorem gi_Wa_hasMet : Cond.instanceMethod y_Wa_hasMet ∈ lw_good := tw_291
theorem gs_Wa_hasMet : Cond.selects R_Wa y_Wa_hasMet y_Wa_hasMet ∈ lw_good := tw_292
abbrev b_Wa_run : ByteArray := prog_7_method_6_code
def y_Wa_run : MethodName := ⟨R_Wa, "run", "()V"⟩
theorem hd_Wa_run : y_Wa_run.cls ≠ "java/lang/invoke/MethodHandle" ∧ y_Wa_run.cls ≠ "java/lang/invoke/VarHandle" ∧ (parseMethodDescriptor y_Wa_run.desc).map (fun d => d.parameters.length) = some 0 := by decide +kernel
abbrev w_Wa_run : List Cond := .code y_Wa_run b_Wa_run 2 none :: lw_good
theorem cm_Wa_run : Cond.code y_Wa_run b_Wa_run 2 none ∈ lw_good := tw_262
theorem gi_Wa_run : Cond.instanceMethod y_Wa_run ∈ lw_good := tw_260
theorem gs_Wa_run : Cond.selects R_Wa y_Wa_run y_Wa_run ∈ lw_good := tw_261
abbrev b_Wa_goOn : ByteArray := prog_7_method_7_code
def y_Wa_goOn : MethodName := ⟨R_Wa, "goOn", "()V"⟩
theorem hd_Wa_goOn : y_Wa_goOn.cls ≠ "java/lang/invoke/MethodHandle" ∧ y_Wa_goOn.cls ≠ "java/lang/invoke/VarHandle" ∧ (parseMethodDescriptor y_Wa_goOn.desc).map (fun d => d.parameters.length) = some 0 := by decide +kernel
abbrev w_Wa_goOn : List Cond := .code y_Wa_goOn b_Wa_goOn 3 none :: lw_good
theorem cm_Wa_goOn : Cond.code y_Wa_goOn b_Wa_goOn 3 none ∈ lw_good := tw_272
theorem gi_Wa_goOn : Cond.instanceMethod y_Wa_goOn ∈ lw_good := tw_271
theorem gs_Wa_goOn : Cond.selects R_Wa y_Wa_goOn y_Wa_goOn ∈ lw_good := ts_Wa_goOn
abbrev b_Wa_meet : ByteArray := prog_7_method_8_code
def y_Wa_meet : MethodName := ⟨R_Wa, "meet", "(I)V"⟩
theorem hd_Wa_meet : y_Wa_meet.cls ≠ "java/lang/invoke/MethodHandle" ∧ y_Wa_meet.cls ≠ "java/lang/invoke/VarHandle" ∧ (parseMethodDescriptor y_Wa_meet.desc).map (fun d => d.parameters.length) = some 1 := by decide +kernel
abbrev w_Wa_meet : List Cond := .code y_Wa_meet b_Wa_meet 3 none :: lw_good
theorem cm_Wa_meet : Cond.code y_Wa_meet b_Wa_meet 3 none ∈ lw_good := tw_278
theorem gi_Wa_meet : Cond.instanceMethod y_Wa_meet ∈ lw_good := tw_277
theorem gs_Wa_meet : Cond.selects R_Wa y_Wa_meet y_Wa_meet ∈ lw_good := ts_Wa_meet
abbrev b_Wa_meetFirst : ByteArray := prog_7_method_9_code
def y_Wa_meetFirst : MethodName := ⟨R_Wa, "meetFirst", "(I)V"⟩
theorem hd_Wa_meetFirst : y_Wa_meetFirst.cls ≠ "java/lang/invoke/MethodHandle" ∧ y_Wa_meetFirst.cls ≠ "java/lang/invoke/VarHandle" ∧ (parseMethodDescriptor y_Wa_meetFirst.desc).map (fun d => d.parameters.length) = some 1 := by decide +kernel
abbrev w_Wa_meetFirst : List Cond := .code y_Wa_meetFirst b_Wa_meetFirst 3 none :: lw_good
theorem cm_Wa_meetFirst : Cond.code y_Wa_meetFirst b_Wa_meetFirst 3 none ∈ lw_good := tw_298
theorem gi_Wa_meetFirst : Cond.instanceMethod y_Wa_meetFirst ∈ lw_good := tw_297
theorem gs_Wa_meetFirst : Cond.selects R_Wa y_Wa_meetFirst y_Wa_meetFirst ∈ lw_good := ts_Wa_meetFirst
abbrev b_Wa_goInto : ByteArray := prog_7_method_10_code
def y_Wa_goInto : MethodName := ⟨R_Wa, "goInto", "(I)V"⟩
theorem hd_Wa_goInto : y_Wa_goInto.cls ≠ "java/lang/invoke/MethodHandle" ∧ y_Wa_goInto.cls ≠ "java/lang/invoke/VarHandle" ∧ (parseMethodDescriptor y_Wa_goInto.desc).map (fun d => d.parameters.length) = some 1 := by decide +kernel
abbrev w_Wa_goInto : List Cond := .code y_Wa_goInto b_Wa_goInto 2 none :: lw_good
theorem cm_Wa_goInto : Cond.code y_Wa_goInto b_Wa_goInto 2 none ∈ lw_good := tw_268
theorem gi_Wa_goInto : Cond.instanceMethod y_Wa_goInto ∈ lw_good := tw_267
theorem gs_Wa_goInto : Cond.selects R_Wa y_Wa_goInto y_Wa_goInto ∈ lw_good := ts_Wa_goInto
abbrev b_Wa_mix : ByteArray := prog_7_method_11_code
def y_Wa_mix : MethodName := ⟨R_Wa, "mix", "(J)V"⟩
theorem hd_Wa_mix : y_Wa_mix.cls ≠ "java/lang/invoke/MethodHandle" ∧ y_Wa_mix.cls ≠ "java/lang/invoke/VarHandle" ∧ (parseMethodDescriptor y_Wa_mix.desc).map (fun d => d.parameters.length) = some 1 := by decide +kernel
abbrev w_Wa_mix : List Cond := .code y_Wa_mix b_Wa_mix 3 none :: lw_good
theorem cm_Wa_mix : Cond.code y_Wa_mix b_Wa_mix 3 none ∈ lw_good := tw_288
theorem gi_Wa_mix : Cond.instanceMethod y_Wa_mix ∈ lw_good := tw_287
theorem gs_Wa_mix : Cond.selects R_Wa y_Wa_mix y_Wa_mix ∈ lw_good := ts_Wa_mix
abbrev b_La_tuple : ByteArray := method_3_code
def y_La_tuple : MethodName := ⟨R_La, "tuple", "(LSnapshotHeap;II[J)I"⟩
theorem hd_La_tuple : y_La_tuple.cls ≠ "java/lang/invoke/MethodHandle" ∧ y_La_tuple.cls ≠ "java/lang/invoke/VarHandle" ∧ (parseMethodDescriptor y_La_tuple.desc).map (fun d => d.parameters.length) = some 4 := by decide +kernel
theorem gt_La_tuple : Cond.static y_La_tuple ∈ lw_good := tw_383
abbrev b_La_number : ByteArray := method_4_code
def y_La_number : MethodName := ⟨R_La, "number", "(LSnapshotHeap;IJ)I"⟩
theorem hd_La_number : y_La_number.cls ≠ "java/lang/invoke/MethodHandle" ∧ y_La_number.cls ≠ "java/lang/invoke/VarHandle" ∧ (parseMethodDescriptor y_La_number.desc).map (fun d => d.parameters.length) = some 3 := by decide +kernel
theorem gt_La_number : Cond.static y_La_number ∈ lw_good := tw_532
abbrev b_La_copy : ByteArray := method_5_code
def y_La_copy : MethodName := ⟨R_La, "copy", "(LSnapshotHeap;II)I"⟩
theorem hd_La_copy : y_La_copy.cls ≠ "java/lang/invoke/MethodHandle" ∧ y_La_copy.cls ≠ "java/lang/invoke/VarHandle" ∧ (parseMethodDescriptor y_La_copy.desc).map (fun d => d.parameters.length) = some 3 := by decide +kernel
theorem gt_La_copy : Cond.static y_La_copy ∈ lw_good := tw_540
abbrev b_La_get : ByteArray := method_6_code
def y_La_get : MethodName := ⟨R_La, "get", "(LSnapshotHeap;III)I"⟩
theorem hd_La_get : y_La_get.cls ≠ "java/lang/invoke/MethodHandle" ∧ y_La_get.cls ≠ "java/lang/invoke/VarHandle" ∧ (parseMethodDescriptor y_La_get.desc).map (fun d => d.parameters.length) = some 4 := by decide +kernel
theorem gt_La_get : Cond.static y_La_get ∈ lw_good := tw_551
abbrev b_La_set : ByteArray := method_7_code
def y_La_set : MethodName := ⟨R_La, "set", "(LSnapshotHeap;III)I"⟩
theorem hd_La_set : y_La_set.cls ≠ "java/lang/invoke/MethodHandle" ∧ y_La_set.cls ≠ "java/lang/invoke/VarHandle" ∧ (parseMethodDescriptor y_La_set.desc).map (fun d => d.parameters.length) = some 4 := by decide +kernel
theorem gt_La_set : Cond.static y_La_set ∈ lw_good := tw_581
abbrev b_La_step : ByteArray := method_8_code
def y_La_step : MethodName := ⟨R_La, "step", "(LSnapshotHeap;I)I"⟩
theorem hd_La_step : y_La_step.cls ≠ "java/lang/invoke/MethodHandle" ∧ y_La_step.cls ≠ "java/lang/invoke/VarHandle" ∧ (parseMethodDescriptor y_La_step.desc).map (fun d => d.parameters.length) = some 2 := by decide +kernel
theorem gt_La_step : Cond.static y_La_step ∈ lw_good := tw_594
abbrev b_La_pace : ByteArray := method_9_code
def y_La_pace : MethodName := ⟨R_La, "pace", "(LSnapshotHeap;I[J)I"⟩
theorem hd_La_pace : y_La_pace.cls ≠ "java/lang/invoke/MethodHandle" ∧ y_La_pace.cls ≠ "java/lang/invoke/VarHandle" ∧ (parseMethodDescriptor y_La_pace.desc).map (fun d => d.parameters.length) = some 3 := by decide +kernel
theorem gt_La_pace : Cond.static y_La_pace ∈ lw_good := tw_601
abbrev b_La_size : ByteArray := method_10_code
def y_La_size : MethodName := ⟨R_La, "size", "(LSnapshotHeap;I[J)I"⟩
theorem hd_La_size : y_La_size.cls ≠ "java/lang/invoke/MethodHandle" ∧ y_La_size.cls ≠ "java/lang/invoke/VarHandle" ∧ (parseMethodDescriptor y_La_size.desc).map (fun d => d.parameters.length) = some 3 := by decide +kernel
theorem gt_La_size : Cond.static y_La_size ∈ lw_good := tw_608
abbrev b_La_value : ByteArray := method_11_code
def y_La_value : MethodName := ⟨R_La, "value", "(LSnapshotHeap;I[J)I"⟩
theorem hd_La_value : y_La_value.cls ≠ "java/lang/invoke/MethodHandle" ∧ y_La_value.cls ≠ "java/lang/invoke/VarHandle" ∧ (parseMethodDescriptor y_La_value.desc).map (fun d => d.parameters.length) = some 3 := by decide +kernel
theorem gt_La_value : Cond.static y_La_value ∈ lw_good := tw_615
abbrev b_La_same : ByteArray := method_12_code
def y_La_same : MethodName := ⟨R_La, "same", "(LSnapshotHeap;II[J)I"⟩
theorem hd_La_same : y_La_same.cls ≠ "java/lang/invoke/MethodHandle" ∧ y_La_same.cls ≠ "java/lang/invoke/VarHandle" ∧ (parseMethodDescriptor y_La_same.desc).map (fun d => d.parameters.length) = some 4 := by decide +kernel
theorem gt_La_same : Cond.static y_La_same ∈ lw_good := tw_623
abbrev b_La_count : ByteArray := method_13_code
def y_La_count : MethodName := ⟨R_La, "count", "(LSnapshotHeap;I[J)I"⟩
theorem hd_La_count : y_La_count.cls ≠ "java/lang/invoke/MethodHandle" ∧ y_La_count.cls ≠ "java/lang/invoke/VarHandle" ∧ (parseMethodDescriptor y_La_count.desc).map (fun d => d.parameters.length) = some 3 := by decide +kernel
theorem gt_La_count : Cond.static y_La_count ∈ lw_good := tw_634
abbrev b_Ob_init : ByteArray := object_method_1_code
def y_Ob_init : MethodName := ⟨R_Ob, "<init>", "()V"⟩
theorem hd_Ob_init : y_Ob_init.cls ≠ "java/lang/invoke/MethodHandle" ∧ y_Ob_init.cls ≠ "java/lang/invoke/VarHandle" ∧ (parseMethodDescriptor y_Ob_init.desc).map (fun d => d.parameters.length) = some 0 := by decide +kernel
abbrev w_Ob_init : List Cond := .code y_Ob_init b_Ob_init 1 none :: lw_good
theorem cm_Ob_init : Cond.code y_Ob_init b_Ob_init 1 none ∈ lw_good := tw_26
theorem gi_Ob_init : Cond.instanceMethod y_Ob_init ∈ lw_good := tw_25
abbrev b_Ar_fill : ByteArray := prog_19_method_103_code
def y_Ar_fill : MethodName := ⟨R_Ar, "fill", "([II)V"⟩
theorem hd_Ar_fill : y_Ar_fill.cls ≠ "java/lang/invoke/MethodHandle" ∧ y_Ar_fill.cls ≠ "java/lang/invoke/VarHandle" ∧ (parseMethodDescriptor y_Ar_fill.desc).map (fun d => d.parameters.length) = some 2 := by decide +kernel
abbrev w_Ar_fill : List Cond := .code y_Ar_fill b_Ar_fill 4 none :: lw_good
theorem cm_Ar_fill : Cond.code y_Ar_fill b_Ar_fill 4 none ∈ lw_good := tw_35
theorem gt_Ar_fill : Cond.static y_Ar_fill ∈ lw_good := tw_34
def sn_N (U : State) : Prop := va_Nw (.methodLinkNest R_Ma 48 y_Sh_slotOf R_Sh) U ∧ va_Nw (.methodLinkNest R_Wa 64 y_Sh_slotOf R_Sh) U ∧ va_Nw (.methodLinkNest R_St 59 y_Sh_slotOf R_Sh) U
theorem sn_N.moved {s U : State} (hW : s.WarmedH U.vm) (h : sn_N s) : sn_N U := ⟨va_Nw.warmM hW h.1, va_Nw.warmM hW h.2.1, va_Nw.warmM hW h.2.2⟩
theorem sn_N.call {U : State} {g : JFrame} {mk : MethodId} {a : Array Value} (h : sn_N U) : sn_N (U.calling g mk a) := ⟨va_Nw.same rfl rfl h.1, va_Nw.same rfl rfl h.2.1, va_Nw.same rfl rfl h.2.2⟩
end
