section
def lw_okq (q : MethodName × Nat) : Prop := (q.1.cls ≠ "java/lang/invoke/MethodHandle" ∧ q.1.cls ≠ "java/lang/invoke/VarHandle") ∧ Cond.instantiable q.1.cls q.2 ∈ tables_1 ∧ Cond.privateMethod q.1 ∈ tables_1 ∧ Cond.instanceMethod q.1 ∈ tables_1
theorem lw_p0 : lw_okq (⟨"SnapshotHeap$Collector", "advance", "()V"⟩, 4) := ⟨⟨by decide +kernel, by decide +kernel⟩, List.mem_of_getElem? (i := 61) (by decide +kernel), List.mem_of_getElem? (i := 183) (by decide +kernel), List.mem_of_getElem? (i := 184) (by decide +kernel)⟩
theorem lw_p1 : lw_okq (⟨"SnapshotHeap$Collector", "begin", "()V"⟩, 4) := ⟨⟨by decide +kernel, by decide +kernel⟩, List.mem_of_getElem? (i := 61) (by decide +kernel), List.mem_of_getElem? (i := 187) (by decide +kernel), List.mem_of_getElem? (i := 188) (by decide +kernel)⟩
theorem lw_p2 : lw_okq (⟨"SnapshotHeap$Collector", "sweepOne", "()V"⟩, 4) := ⟨⟨by decide +kernel, by decide +kernel⟩, List.mem_of_getElem? (i := 61) (by decide +kernel), List.mem_of_getElem? (i := 231) (by decide +kernel), List.mem_of_getElem? (i := 232) (by decide +kernel)⟩
theorem lw_p3 : lw_okq (⟨"SnapshotHeap$Walk", "goInto", "(I)V"⟩, 8) := ⟨⟨by decide +kernel, by decide +kernel⟩, List.mem_of_getElem? (i := 101) (by decide +kernel), List.mem_of_getElem? (i := 266) (by decide +kernel), List.mem_of_getElem? (i := 267) (by decide +kernel)⟩
theorem lw_p4 : lw_okq (⟨"SnapshotHeap$Walk", "goOn", "()V"⟩, 8) := ⟨⟨by decide +kernel, by decide +kernel⟩, List.mem_of_getElem? (i := 101) (by decide +kernel), List.mem_of_getElem? (i := 270) (by decide +kernel), List.mem_of_getElem? (i := 271) (by decide +kernel)⟩
theorem lw_p5 : lw_okq (⟨"SnapshotHeap$Walk", "meet", "(I)V"⟩, 8) := ⟨⟨by decide +kernel, by decide +kernel⟩, List.mem_of_getElem? (i := 101) (by decide +kernel), List.mem_of_getElem? (i := 276) (by decide +kernel), List.mem_of_getElem? (i := 277) (by decide +kernel)⟩
theorem lw_p6 : lw_okq (⟨"SnapshotHeap$Walk", "mix", "(J)V"⟩, 8) := ⟨⟨by decide +kernel, by decide +kernel⟩, List.mem_of_getElem? (i := 101) (by decide +kernel), List.mem_of_getElem? (i := 286) (by decide +kernel), List.mem_of_getElem? (i := 287) (by decide +kernel)⟩
theorem lw_p7 : lw_okq (⟨"SnapshotHeap$Walk", "meetFirst", "(I)V"⟩, 8) := ⟨⟨by decide +kernel, by decide +kernel⟩, List.mem_of_getElem? (i := 101) (by decide +kernel), List.mem_of_getElem? (i := 296) (by decide +kernel), List.mem_of_getElem? (i := 297) (by decide +kernel)⟩
theorem lw_p8 : lw_okq (⟨"SnapshotHeap$Audit", "markToTheEnd", "()V"⟩, 5) := ⟨⟨by decide +kernel, by decide +kernel⟩, List.mem_of_getElem? (i := 132) (by decide +kernel), List.mem_of_getElem? (i := 337) (by decide +kernel), List.mem_of_getElem? (i := 338) (by decide +kernel)⟩
theorem lw_p9 : lw_okq (⟨"SnapshotHeap$Audit", "isMarkWrong", "(I)Z"⟩, 5) := ⟨⟨by decide +kernel, by decide +kernel⟩, List.mem_of_getElem? (i := 132) (by decide +kernel), List.mem_of_getElem? (i := 362) (by decide +kernel), List.mem_of_getElem? (i := 363) (by decide +kernel)⟩
theorem lw_p10 : lw_okq (⟨"SnapshotHeap$Audit", "isMarkInUse", "(I)Z"⟩, 5) := ⟨⟨by decide +kernel, by decide +kernel⟩, List.mem_of_getElem? (i := 132) (by decide +kernel), List.mem_of_getElem? (i := 366) (by decide +kernel), List.mem_of_getElem? (i := 367) (by decide +kernel)⟩
theorem lw_p11 : lw_okq (⟨"java/lang/Throwable", "fillInStackTrace", "(I)Ljava/lang/Throwable;"⟩, 6) := ⟨⟨by decide +kernel, by decide +kernel⟩, List.mem_of_getElem? (i := 435) (by decide +kernel), List.mem_of_getElem? (i := 433) (by decide +kernel), List.mem_of_getElem? (i := 434) (by decide +kernel)⟩
theorem lw_p12 : lw_okq (⟨"SnapshotHeap$Store", "takeFreePlace", "()I"⟩, 7) := ⟨⟨by decide +kernel, by decide +kernel⟩, List.mem_of_getElem? (i := 28) (by decide +kernel), List.mem_of_getElem? (i := 517) (by decide +kernel), List.mem_of_getElem? (i := 518) (by decide +kernel)⟩
theorem lw_p13 : lw_okq (⟨"SnapshotHeap", "existingSlot", "(II)I"⟩, 6) := ⟨⟨by decide +kernel, by decide +kernel⟩, List.mem_of_getElem? (i := 20) (by decide +kernel), List.mem_of_getElem? (i := 559) (by decide +kernel), List.mem_of_getElem? (i := 560) (by decide +kernel)⟩
theorem lw_p14 : lw_okq (⟨"SnapshotHeapModel", "reachAll", "()V"⟩, 15) := ⟨⟨by decide +kernel, by decide +kernel⟩, List.mem_of_getElem? (i := 649) (by decide +kernel), List.mem_of_getElem? (i := 713) (by decide +kernel), List.mem_of_getElem? (i := 714) (by decide +kernel)⟩
theorem lw_p15 : lw_okq (⟨"SnapshotHeapModel", "reach", "(J)V"⟩, 15) := ⟨⟨by decide +kernel, by decide +kernel⟩, List.mem_of_getElem? (i := 649) (by decide +kernel), List.mem_of_getElem? (i := 717) (by decide +kernel), List.mem_of_getElem? (i := 718) (by decide +kernel)⟩
def lw_privs_1 : List (MethodName × Nat) := [(⟨"SnapshotHeap$Collector", "advance", "()V"⟩, 4), (⟨"SnapshotHeap$Collector", "begin", "()V"⟩, 4), (⟨"SnapshotHeap$Collector", "sweepOne", "()V"⟩, 4), (⟨"SnapshotHeap$Walk", "goInto", "(I)V"⟩, 8), (⟨"SnapshotHeap$Walk", "goOn", "()V"⟩, 8), (⟨"SnapshotHeap$Walk", "meet", "(I)V"⟩, 8), (⟨"SnapshotHeap$Walk", "mix", "(J)V"⟩, 8), (⟨"SnapshotHeap$Walk", "meetFirst", "(I)V"⟩, 8), (⟨"SnapshotHeap$Audit", "markToTheEnd", "()V"⟩, 5), (⟨"SnapshotHeap$Audit", "isMarkWrong", "(I)Z"⟩, 5), (⟨"SnapshotHeap$Audit", "isMarkInUse", "(I)Z"⟩, 5), (⟨"java/lang/Throwable", "fillInStackTrace", "(I)Ljava/lang/Throwable;"⟩, 6), (⟨"SnapshotHeap$Store", "takeFreePlace", "()I"⟩, 7), (⟨"SnapshotHeap", "existingSlot", "(II)I"⟩, 6), (⟨"SnapshotHeapModel", "reachAll", "()V"⟩, 15), (⟨"SnapshotHeapModel", "reach", "(J)V"⟩, 15)]
theorem lw_r1 : ∀ q ∈ lw_privs_1, lw_okq q := List.forall_mem_cons.mpr ⟨lw_p0, List.forall_mem_cons.mpr ⟨lw_p1, List.forall_mem_cons.mpr ⟨lw_p2, List.forall_mem_cons.mpr ⟨lw_p3, List.forall_mem_cons.mpr ⟨lw_p4, List.forall_mem_cons.mpr ⟨lw_p5, List.forall_mem_cons.mpr ⟨lw_p6, List.forall_mem_cons.mpr ⟨lw_p7, List.forall_mem_cons.mpr ⟨lw_p8, List.forall_mem_cons.mpr ⟨lw_p9, List.forall_mem_cons.mpr ⟨lw_p10, List.forall_mem_cons.mpr ⟨lw_p11, List.forall_mem_cons.mpr ⟨lw_p12, List.forall_mem_cons.mpr ⟨lw_p13, List.forall_mem_cons.mpr ⟨lw_p14, List.forall_mem_cons.mpr ⟨lw_p15, fun _ h => absurd h List.not_mem_nil⟩⟩⟩⟩⟩⟩⟩⟩⟩⟩⟩⟩⟩⟩⟩⟩
theorem lw_p16 : lw_okq (⟨"SnapshotHeapModel", "place", "(III)I"⟩, 15) := ⟨⟨by decide +kernel, by decide +kernel⟩, List.mem_of_getElem? (i := 649) (by decide +kernel), List.mem_of_getElem? (i := 733) (by decide +kernel), List.mem_of_getElem? (i := 734) (by decide +kernel)⟩
def lw_privs_2 : List (MethodName × Nat) := [(⟨"SnapshotHeapModel", "place", "(III)I"⟩, 15)]
theorem lw_r2 : ∀ q ∈ lw_privs_2, lw_okq q := List.forall_mem_cons.mpr ⟨lw_p16, fun _ h => absurd h List.not_mem_nil⟩
def lw_privs : List (MethodName × Nat) := lw_privs_1 ++ (lw_privs_2)
def lw_tbl : List Cond := k2_sels lw_privs ++ tables_1
theorem lw_privs_ok : ∀ q ∈ lw_privs, lw_okq q := by
  show ∀ q ∈ lw_privs_1 ++ (lw_privs_2), lw_okq q
  exact List.forall_mem_append.mpr ⟨lw_r1, lw_r2⟩
def lw_good : List Cond := lw_tbl.filter goodWord
theorem tw_mem {w : Cond} (h : w ∈ lw_tbl) (hg : goodWord w = true) : w ∈ lw_good := List.mem_filter.mpr ⟨h, hg⟩
theorem tw_at {w : Cond} (i : Nat) (h : tables_1[i]? = some w) (hg : goodWord w = true) : w ∈ lw_good := tw_mem (List.mem_append_right _ (List.mem_of_getElem? h)) hg
theorem tw_in {c1 : Cond} (h : c1 ∈ lw_good) : GoodIn lw_good (c1 :: lw_good) := fun w hw => (List.mem_cons.mp hw).elim (fun e => by rw [e]; exact ⟨h, good_of_word (List.mem_filter.mp h).2⟩) (fun h2 => ⟨h2, good_of_word (List.mem_filter.mp h2).2⟩)
theorem tw_0 : (Jvm.Cond.initialized "SnapshotHeapLaw") ∈ lw_good := tw_at 0 (by decide +kernel) rfl
theorem tw_1 : (Jvm.Cond.initialized "SnapshotHeap") ∈ lw_good := tw_at 1 (by decide +kernel) rfl
theorem tw_2 : (Jvm.Cond.initialized "SnapshotHeap$Store") ∈ lw_good := tw_at 2 (by decide +kernel) rfl
theorem tw_3 : (Jvm.Cond.initialized "java/util/Arrays") ∈ lw_good := tw_at 3 (by decide +kernel) rfl
theorem tw_4 : (Jvm.Cond.initialized "SnapshotHeap$Collector") ∈ lw_good := tw_at 4 (by decide +kernel) rfl
theorem tw_5 : (Jvm.Cond.initialized "SnapshotHeap$Marking") ∈ lw_good := tw_at 5 (by decide +kernel) rfl
theorem tw_6 : (Jvm.Cond.initialized "java/lang/Enum") ∈ lw_good := tw_at 6 (by decide +kernel) rfl
theorem tw_7 : (Jvm.Cond.initialized "SnapshotHeap$Phase") ∈ lw_good := tw_at 7 (by decide +kernel) rfl
theorem tw_8 : (Jvm.Cond.initialized "SnapshotHeap$Walk") ∈ lw_good := tw_at 8 (by decide +kernel) rfl
theorem tw_9 : (Jvm.Cond.initialized "SnapshotHeap$Audit") ∈ lw_good := tw_at 9 (by decide +kernel) rfl
theorem tw_10 : (Jvm.Cond.initialized "SnapshotHeapModel") ∈ lw_good := tw_at 10 (by decide +kernel) rfl
theorem tw_11 : (Jvm.Cond.initialized "java/lang/Throwable") ∈ lw_good := tw_at 11 (by decide +kernel) rfl
theorem tw_12 : (Jvm.Cond.initialized "java/lang/Exception") ∈ lw_good := tw_at 12 (by decide +kernel) rfl
theorem tw_13 : (Jvm.Cond.initialized "java/lang/RuntimeException") ∈ lw_good := tw_at 13 (by decide +kernel) rfl
theorem tw_14 : (Jvm.Cond.initialized "java/lang/IndexOutOfBoundsException") ∈ lw_good := tw_at 14 (by decide +kernel) rfl
theorem tw_15 : (Jvm.Cond.initialized "java/lang/IllegalArgumentException") ∈ lw_good := tw_at 15 (by decide +kernel) rfl
theorem tw_16 : (Jvm.Cond.initialized "java/lang/IllegalStateException") ∈ lw_good := tw_at 16 (by decide +kernel) rfl
theorem tw_17 : (Jvm.Cond.initialized "java/util/NoSuchElementException") ∈ lw_good := tw_at 17 (by decide +kernel) rfl
theorem tw_18 : (Jvm.Cond.initialized "java/lang/System") ∈ lw_good := tw_at 18 (by decide +kernel) rfl
theorem tw_19 : (Jvm.Cond.classLink "SnapshotHeapLaw" (8 : Nat) "SnapshotHeap") ∈ lw_good := tw_at 19 (by decide +kernel) rfl
theorem tw_20 : (Jvm.Cond.instantiable "SnapshotHeap" (6 : Nat)) ∈ lw_good := tw_at 20 (by decide +kernel) rfl
theorem tw_21 : (Jvm.Cond.methodLink "SnapshotHeapLaw" (58 : Nat) ({ cls := "SnapshotHeap", name := "<init>", desc := "()V" } : Jvm.MethodName)) ∈ lw_good := tw_at 21 (by decide +kernel) rfl
theorem tw_22 : (Jvm.Cond.instanceMethod ({ cls := "SnapshotHeap", name := "<init>", desc := "()V" } : Jvm.MethodName)) ∈ lw_good := tw_at 22 (by decide +kernel) rfl
set_option maxRecDepth 100000 in
theorem tw_23 : (Jvm.Cond.code ({ cls := "SnapshotHeap", name := "<init>", desc := "()V" } : Jvm.MethodName) prog_1_method_1_code (1 : Nat) (Option.none : Option Jvm.ClassFile.FieldType)) ∈ lw_good := tw_at 23 rfl rfl
theorem tw_24 : (Jvm.Cond.methodLink "SnapshotHeap" (3 : Nat) ({ cls := "java/lang/Object", name := "<init>", desc := "()V" } : Jvm.MethodName)) ∈ lw_good := tw_at 24 (by decide +kernel) rfl
theorem tw_25 : (Jvm.Cond.instanceMethod ({ cls := "java/lang/Object", name := "<init>", desc := "()V" } : Jvm.MethodName)) ∈ lw_good := tw_at 25 (by decide +kernel) rfl
set_option maxRecDepth 100000 in
theorem tw_26 : (Jvm.Cond.code ({ cls := "java/lang/Object", name := "<init>", desc := "()V" } : Jvm.MethodName) object_method_1_code (1 : Nat) (Option.none : Option Jvm.ClassFile.FieldType)) ∈ lw_good := tw_at 26 rfl rfl
theorem tw_27 : (Jvm.Cond.classLink "SnapshotHeap" (9 : Nat) "SnapshotHeap$Store") ∈ lw_good := tw_at 27 (by decide +kernel) rfl
theorem tw_28 : (Jvm.Cond.instantiable "SnapshotHeap$Store" (7 : Nat)) ∈ lw_good := tw_at 28 (by decide +kernel) rfl
theorem tw_29 : (Jvm.Cond.methodLink "SnapshotHeap" (11 : Nat) ({ cls := "SnapshotHeap$Store", name := "<init>", desc := "()V" } : Jvm.MethodName)) ∈ lw_good := tw_at 29 (by decide +kernel) rfl
theorem tw_30 : (Jvm.Cond.instanceMethod ({ cls := "SnapshotHeap$Store", name := "<init>", desc := "()V" } : Jvm.MethodName)) ∈ lw_good := tw_at 30 (by decide +kernel) rfl
set_option maxRecDepth 100000 in
theorem tw_31 : (Jvm.Cond.code ({ cls := "SnapshotHeap$Store", name := "<init>", desc := "()V" } : Jvm.MethodName) prog_6_method_1_code (1 : Nat) (Option.none : Option Jvm.ClassFile.FieldType)) ∈ lw_good := tw_at 31 rfl rfl
theorem tw_32 : (Jvm.Cond.methodLink "SnapshotHeap$Store" (3 : Nat) ({ cls := "java/lang/Object", name := "<init>", desc := "()V" } : Jvm.MethodName)) ∈ lw_good := tw_at 32 (by decide +kernel) rfl
theorem tw_33 : (Jvm.Cond.methodLink "SnapshotHeap$Store" (35 : Nat) ({ cls := "java/util/Arrays", name := "fill", desc := "([II)V" } : Jvm.MethodName)) ∈ lw_good := tw_at 33 (by decide +kernel) rfl
theorem tw_34 : (Jvm.Cond.static ({ cls := "java/util/Arrays", name := "fill", desc := "([II)V" } : Jvm.MethodName)) ∈ lw_good := tw_at 34 (by decide +kernel) rfl
set_option maxRecDepth 100000 in
theorem tw_35 : (Jvm.Cond.code ({ cls := "java/util/Arrays", name := "fill", desc := "([II)V" } : Jvm.MethodName) prog_19_method_103_code (4 : Nat) (Option.none : Option Jvm.ClassFile.FieldType)) ∈ lw_good := tw_at 35 rfl rfl
theorem tw_36 : (Jvm.Cond.fieldLink "SnapshotHeap$Store" (9 : Nat) "SnapshotHeap$Store" "sizes" "[I") ∈ lw_good := tw_at 36 (by decide +kernel) rfl
theorem tw_37 : (Jvm.Cond.fieldLink "SnapshotHeap$Store" (15 : Nat) "SnapshotHeap$Store" "links" "[I") ∈ lw_good := tw_at 37 (by decide +kernel) rfl
theorem tw_38 : (Jvm.Cond.fieldLink "SnapshotHeap$Store" (18 : Nat) "SnapshotHeap$Store" "numbers" "[J") ∈ lw_good := tw_at 38 (by decide +kernel) rfl
theorem tw_39 : (Jvm.Cond.fieldLink "SnapshotHeap$Store" (22 : Nat) "SnapshotHeap$Store" "released" "[I") ∈ lw_good := tw_at 39 (by decide +kernel) rfl
theorem tw_40 : (Jvm.Cond.fieldLink "SnapshotHeap$Store" (25 : Nat) "SnapshotHeap$Store" "releasedCount" "I") ∈ lw_good := tw_at 40 (by decide +kernel) rfl
theorem tw_41 : (Jvm.Cond.fieldLink "SnapshotHeap$Store" (29 : Nat) "SnapshotHeap$Store" "top" "I") ∈ lw_good := tw_at 41 (by decide +kernel) rfl
theorem tw_42 : (Jvm.Cond.fieldLink "SnapshotHeap$Store" (32 : Nat) "SnapshotHeap$Store" "usedCells" "I") ∈ lw_good := tw_at 42 (by decide +kernel) rfl
theorem tw_43 : (Jvm.Cond.laysFinal "SnapshotHeap$Store" "SnapshotHeap$Store" "sizes" "[I") ∈ lw_good := tw_at 43 (by decide +kernel) rfl
theorem tw_44 : (Jvm.Cond.soleField "SnapshotHeap$Store" "sizes") ∈ lw_good := tw_at 44 (by decide +kernel) rfl
theorem tw_45 : (Jvm.Cond.laysFinal "SnapshotHeap$Store" "SnapshotHeap$Store" "links" "[I") ∈ lw_good := tw_at 45 (by decide +kernel) rfl
theorem tw_46 : (Jvm.Cond.soleField "SnapshotHeap$Store" "links") ∈ lw_good := tw_at 46 (by decide +kernel) rfl
theorem tw_47 : (Jvm.Cond.laysFinal "SnapshotHeap$Store" "SnapshotHeap$Store" "numbers" "[J") ∈ lw_good := tw_at 47 (by decide +kernel) rfl
theorem tw_48 : (Jvm.Cond.soleField "SnapshotHeap$Store" "numbers") ∈ lw_good := tw_at 48 (by decide +kernel) rfl
theorem tw_49 : (Jvm.Cond.laysFinal "SnapshotHeap$Store" "SnapshotHeap$Store" "released" "[I") ∈ lw_good := tw_at 49 (by decide +kernel) rfl
theorem tw_50 : (Jvm.Cond.soleField "SnapshotHeap$Store" "released") ∈ lw_good := tw_at 50 (by decide +kernel) rfl
theorem tw_51 : (Jvm.Cond.lays "SnapshotHeap$Store" "SnapshotHeap$Store" "releasedCount" "I") ∈ lw_good := tw_at 51 (by decide +kernel) rfl
theorem tw_52 : (Jvm.Cond.soleField "SnapshotHeap$Store" "releasedCount") ∈ lw_good := tw_at 52 (by decide +kernel) rfl
theorem tw_53 : (Jvm.Cond.lays "SnapshotHeap$Store" "SnapshotHeap$Store" "top" "I") ∈ lw_good := tw_at 53 (by decide +kernel) rfl
theorem tw_54 : (Jvm.Cond.soleField "SnapshotHeap$Store" "top") ∈ lw_good := tw_at 54 (by decide +kernel) rfl
theorem tw_55 : (Jvm.Cond.lays "SnapshotHeap$Store" "SnapshotHeap$Store" "usedCells" "I") ∈ lw_good := tw_at 55 (by decide +kernel) rfl
theorem tw_56 : (Jvm.Cond.soleField "SnapshotHeap$Store" "usedCells") ∈ lw_good := tw_at 56 (by decide +kernel) rfl
theorem tw_57 : (Jvm.Cond.superclass "SnapshotHeap$Store" "java/lang/Object") ∈ lw_good := tw_at 57 (by decide +kernel) rfl
theorem tw_58 : (Jvm.Cond.arrayClass Jvm.ClassFile.FieldType.int) ∈ lw_good := tw_at 58 (by decide +kernel) rfl
theorem tw_59 : (Jvm.Cond.arrayClass Jvm.ClassFile.FieldType.long) ∈ lw_good := tw_at 59 (by decide +kernel) rfl
theorem tw_60 : (Jvm.Cond.classLink "SnapshotHeap" (16 : Nat) "SnapshotHeap$Collector") ∈ lw_good := tw_at 60 (by decide +kernel) rfl
theorem tw_61 : (Jvm.Cond.instantiable "SnapshotHeap$Collector" (4 : Nat)) ∈ lw_good := tw_at 61 (by decide +kernel) rfl
theorem tw_62 : (Jvm.Cond.methodLink "SnapshotHeap" (18 : Nat) ({ cls := "SnapshotHeap$Collector", name := "<init>", desc := "(LSnapshotHeap$Store;)V" } : Jvm.MethodName)) ∈ lw_good := tw_at 62 (by decide +kernel) rfl
theorem tw_63 : (Jvm.Cond.instanceMethod ({ cls := "SnapshotHeap$Collector", name := "<init>", desc := "(LSnapshotHeap$Store;)V" } : Jvm.MethodName)) ∈ lw_good := tw_at 63 (by decide +kernel) rfl
set_option maxRecDepth 100000 in
theorem tw_64 : (Jvm.Cond.code ({ cls := "SnapshotHeap$Collector", name := "<init>", desc := "(LSnapshotHeap$Store;)V" } : Jvm.MethodName) prog_3_method_1_code (2 : Nat) (Option.none : Option Jvm.ClassFile.FieldType)) ∈ lw_good := tw_at 64 rfl rfl
theorem tw_65 : (Jvm.Cond.methodLink "SnapshotHeap$Collector" (3 : Nat) ({ cls := "java/lang/Object", name := "<init>", desc := "()V" } : Jvm.MethodName)) ∈ lw_good := tw_at 65 (by decide +kernel) rfl
theorem tw_66 : (Jvm.Cond.classLink "SnapshotHeap$Collector" (15 : Nat) "SnapshotHeap$Marking") ∈ lw_good := tw_at 66 (by decide +kernel) rfl
theorem tw_67 : (Jvm.Cond.instantiable "SnapshotHeap$Marking" (4 : Nat)) ∈ lw_good := tw_at 67 (by decide +kernel) rfl
theorem tw_68 : (Jvm.Cond.methodLink "SnapshotHeap$Collector" (17 : Nat) ({ cls := "SnapshotHeap$Marking", name := "<init>", desc := "(LSnapshotHeap$Store;)V" } : Jvm.MethodName)) ∈ lw_good := tw_at 68 (by decide +kernel) rfl
theorem tw_69 : (Jvm.Cond.instanceMethod ({ cls := "SnapshotHeap$Marking", name := "<init>", desc := "(LSnapshotHeap$Store;)V" } : Jvm.MethodName)) ∈ lw_good := tw_at 69 (by decide +kernel) rfl
set_option maxRecDepth 100000 in
theorem tw_70 : (Jvm.Cond.code ({ cls := "SnapshotHeap$Marking", name := "<init>", desc := "(LSnapshotHeap$Store;)V" } : Jvm.MethodName) prog_4_method_1_code (2 : Nat) (Option.none : Option Jvm.ClassFile.FieldType)) ∈ lw_good := tw_at 70 rfl rfl
theorem tw_71 : (Jvm.Cond.methodLink "SnapshotHeap$Marking" (3 : Nat) ({ cls := "java/lang/Object", name := "<init>", desc := "()V" } : Jvm.MethodName)) ∈ lw_good := tw_at 71 (by decide +kernel) rfl
theorem tw_72 : (Jvm.Cond.fieldLink "SnapshotHeap$Marking" (9 : Nat) "SnapshotHeap$Marking" "store" "LSnapshotHeap$Store;") ∈ lw_good := tw_at 72 (by decide +kernel) rfl
theorem tw_73 : (Jvm.Cond.fieldLink "SnapshotHeap$Marking" (15 : Nat) "SnapshotHeap$Marking" "colours" "[I") ∈ lw_good := tw_at 73 (by decide +kernel) rfl
theorem tw_74 : (Jvm.Cond.fieldLink "SnapshotHeap$Marking" (19 : Nat) "SnapshotHeap$Marking" "waiting" "[I") ∈ lw_good := tw_at 74 (by decide +kernel) rfl
theorem tw_75 : (Jvm.Cond.fieldLink "SnapshotHeap$Marking" (22 : Nat) "SnapshotHeap$Marking" "waitingCount" "I") ∈ lw_good := tw_at 75 (by decide +kernel) rfl
theorem tw_76 : (Jvm.Cond.laysFinal "SnapshotHeap$Marking" "SnapshotHeap$Marking" "store" "LSnapshotHeap$Store;") ∈ lw_good := tw_at 76 (by decide +kernel) rfl
theorem tw_77 : (Jvm.Cond.soleField "SnapshotHeap$Marking" "store") ∈ lw_good := tw_at 77 (by decide +kernel) rfl
theorem tw_78 : (Jvm.Cond.laysFinal "SnapshotHeap$Marking" "SnapshotHeap$Marking" "colours" "[I") ∈ lw_good := tw_at 78 (by decide +kernel) rfl
theorem tw_79 : (Jvm.Cond.soleField "SnapshotHeap$Marking" "colours") ∈ lw_good := tw_at 79 (by decide +kernel) rfl
theorem tw_80 : (Jvm.Cond.laysFinal "SnapshotHeap$Marking" "SnapshotHeap$Marking" "waiting" "[I") ∈ lw_good := tw_at 80 (by decide +kernel) rfl
theorem tw_81 : (Jvm.Cond.soleField "SnapshotHeap$Marking" "waiting") ∈ lw_good := tw_at 81 (by decide +kernel) rfl
theorem tw_82 : (Jvm.Cond.lays "SnapshotHeap$Marking" "SnapshotHeap$Marking" "waitingCount" "I") ∈ lw_good := tw_at 82 (by decide +kernel) rfl
theorem tw_83 : (Jvm.Cond.soleField "SnapshotHeap$Marking" "waitingCount") ∈ lw_good := tw_at 83 (by decide +kernel) rfl
theorem tw_84 : (Jvm.Cond.superclass "SnapshotHeap$Marking" "java/lang/Object") ∈ lw_good := tw_at 84 (by decide +kernel) rfl
theorem tw_85 : (Jvm.Cond.fieldLink "SnapshotHeap$Collector" (24 : Nat) "SnapshotHeap$Phase" "REST" "LSnapshotHeap$Phase;") ∈ lw_good := tw_at 85 (by decide +kernel) rfl
theorem tn_86 : (Jvm.Cond.laysStatic "SnapshotHeap$Phase" "REST" "LSnapshotHeap$Phase;") ∈ lw_tbl := List.mem_append_right _ (List.mem_of_getElem? (i := 86) (by decide +kernel))
theorem tw_87 : (Jvm.Cond.fieldLink "SnapshotHeap$Collector" (9 : Nat) "SnapshotHeap$Collector" "store" "LSnapshotHeap$Store;") ∈ lw_good := tw_at 87 (by decide +kernel) rfl
theorem tw_88 : (Jvm.Cond.fieldLink "SnapshotHeap$Collector" (20 : Nat) "SnapshotHeap$Collector" "marking" "LSnapshotHeap$Marking;") ∈ lw_good := tw_at 88 (by decide +kernel) rfl
theorem tw_89 : (Jvm.Cond.fieldLink "SnapshotHeap$Collector" (30 : Nat) "SnapshotHeap$Collector" "phase" "LSnapshotHeap$Phase;") ∈ lw_good := tw_at 89 (by decide +kernel) rfl
theorem tw_90 : (Jvm.Cond.fieldLink "SnapshotHeap$Collector" (33 : Nat) "SnapshotHeap$Collector" "cursor" "I") ∈ lw_good := tw_at 90 (by decide +kernel) rfl
theorem tw_91 : (Jvm.Cond.laysFinal "SnapshotHeap$Collector" "SnapshotHeap$Collector" "store" "LSnapshotHeap$Store;") ∈ lw_good := tw_at 91 (by decide +kernel) rfl
theorem tw_92 : (Jvm.Cond.soleField "SnapshotHeap$Collector" "store") ∈ lw_good := tw_at 92 (by decide +kernel) rfl
theorem tw_93 : (Jvm.Cond.laysFinal "SnapshotHeap$Collector" "SnapshotHeap$Collector" "marking" "LSnapshotHeap$Marking;") ∈ lw_good := tw_at 93 (by decide +kernel) rfl
theorem tw_94 : (Jvm.Cond.soleField "SnapshotHeap$Collector" "marking") ∈ lw_good := tw_at 94 (by decide +kernel) rfl
theorem tw_95 : (Jvm.Cond.lays "SnapshotHeap$Collector" "SnapshotHeap$Collector" "phase" "LSnapshotHeap$Phase;") ∈ lw_good := tw_at 95 (by decide +kernel) rfl
theorem tw_96 : (Jvm.Cond.soleField "SnapshotHeap$Collector" "phase") ∈ lw_good := tw_at 96 (by decide +kernel) rfl
theorem tw_97 : (Jvm.Cond.lays "SnapshotHeap$Collector" "SnapshotHeap$Collector" "cursor" "I") ∈ lw_good := tw_at 97 (by decide +kernel) rfl
theorem tw_98 : (Jvm.Cond.soleField "SnapshotHeap$Collector" "cursor") ∈ lw_good := tw_at 98 (by decide +kernel) rfl
theorem tw_99 : (Jvm.Cond.superclass "SnapshotHeap$Collector" "java/lang/Object") ∈ lw_good := tw_at 99 (by decide +kernel) rfl
theorem tw_100 : (Jvm.Cond.classLink "SnapshotHeap" (25 : Nat) "SnapshotHeap$Walk") ∈ lw_good := tw_at 100 (by decide +kernel) rfl
theorem tw_101 : (Jvm.Cond.instantiable "SnapshotHeap$Walk" (8 : Nat)) ∈ lw_good := tw_at 101 (by decide +kernel) rfl
theorem tw_102 : (Jvm.Cond.methodLink "SnapshotHeap" (27 : Nat) ({ cls := "SnapshotHeap$Walk", name := "<init>", desc := "(LSnapshotHeap$Store;)V" } : Jvm.MethodName)) ∈ lw_good := tw_at 102 (by decide +kernel) rfl
theorem tw_103 : (Jvm.Cond.instanceMethod ({ cls := "SnapshotHeap$Walk", name := "<init>", desc := "(LSnapshotHeap$Store;)V" } : Jvm.MethodName)) ∈ lw_good := tw_at 103 (by decide +kernel) rfl
set_option maxRecDepth 100000 in
theorem tw_104 : (Jvm.Cond.code ({ cls := "SnapshotHeap$Walk", name := "<init>", desc := "(LSnapshotHeap$Store;)V" } : Jvm.MethodName) prog_7_method_1_code (2 : Nat) (Option.none : Option Jvm.ClassFile.FieldType)) ∈ lw_good := tw_at 104 rfl rfl
theorem tw_105 : (Jvm.Cond.methodLink "SnapshotHeap$Walk" (3 : Nat) ({ cls := "java/lang/Object", name := "<init>", desc := "()V" } : Jvm.MethodName)) ∈ lw_good := tw_at 105 (by decide +kernel) rfl
theorem tw_106 : (Jvm.Cond.fieldLink "SnapshotHeap$Walk" (9 : Nat) "SnapshotHeap$Walk" "store" "LSnapshotHeap$Store;") ∈ lw_good := tw_at 106 (by decide +kernel) rfl
theorem tw_107 : (Jvm.Cond.fieldLink "SnapshotHeap$Walk" (15 : Nat) "SnapshotHeap$Walk" "metAs" "[I") ∈ lw_good := tw_at 107 (by decide +kernel) rfl
theorem tw_108 : (Jvm.Cond.fieldLink "SnapshotHeap$Walk" (19 : Nat) "SnapshotHeap$Walk" "path" "[I") ∈ lw_good := tw_at 108 (by decide +kernel) rfl
theorem tw_109 : (Jvm.Cond.fieldLink "SnapshotHeap$Walk" (22 : Nat) "SnapshotHeap$Walk" "nextValue" "[I") ∈ lw_good := tw_at 109 (by decide +kernel) rfl
theorem tw_110 : (Jvm.Cond.fieldLink "SnapshotHeap$Walk" (50 : Nat) "SnapshotHeap$Walk" "depth" "I") ∈ lw_good := tw_at 110 (by decide +kernel) rfl
theorem tw_111 : (Jvm.Cond.fieldLink "SnapshotHeap$Walk" (25 : Nat) "SnapshotHeap$Walk" "met" "I") ∈ lw_good := tw_at 111 (by decide +kernel) rfl
theorem tw_112 : (Jvm.Cond.fieldLink "SnapshotHeap$Walk" (29 : Nat) "SnapshotHeap$Walk" "metCells" "I") ∈ lw_good := tw_at 112 (by decide +kernel) rfl
theorem tw_113 : (Jvm.Cond.fieldLink "SnapshotHeap$Walk" (32 : Nat) "SnapshotHeap$Walk" "hash" "J") ∈ lw_good := tw_at 113 (by decide +kernel) rfl
theorem tw_114 : (Jvm.Cond.laysFinal "SnapshotHeap$Walk" "SnapshotHeap$Walk" "store" "LSnapshotHeap$Store;") ∈ lw_good := tw_at 114 (by decide +kernel) rfl
theorem tw_115 : (Jvm.Cond.soleField "SnapshotHeap$Walk" "store") ∈ lw_good := tw_at 115 (by decide +kernel) rfl
theorem tw_116 : (Jvm.Cond.laysFinal "SnapshotHeap$Walk" "SnapshotHeap$Walk" "metAs" "[I") ∈ lw_good := tw_at 116 (by decide +kernel) rfl
theorem tw_117 : (Jvm.Cond.soleField "SnapshotHeap$Walk" "metAs") ∈ lw_good := tw_at 117 (by decide +kernel) rfl
theorem tw_118 : (Jvm.Cond.laysFinal "SnapshotHeap$Walk" "SnapshotHeap$Walk" "path" "[I") ∈ lw_good := tw_at 118 (by decide +kernel) rfl
theorem tw_119 : (Jvm.Cond.soleField "SnapshotHeap$Walk" "path") ∈ lw_good := tw_at 119 (by decide +kernel) rfl
theorem tw_120 : (Jvm.Cond.laysFinal "SnapshotHeap$Walk" "SnapshotHeap$Walk" "nextValue" "[I") ∈ lw_good := tw_at 120 (by decide +kernel) rfl
theorem tw_121 : (Jvm.Cond.soleField "SnapshotHeap$Walk" "nextValue") ∈ lw_good := tw_at 121 (by decide +kernel) rfl
theorem tw_122 : (Jvm.Cond.lays "SnapshotHeap$Walk" "SnapshotHeap$Walk" "depth" "I") ∈ lw_good := tw_at 122 (by decide +kernel) rfl
theorem tw_123 : (Jvm.Cond.soleField "SnapshotHeap$Walk" "depth") ∈ lw_good := tw_at 123 (by decide +kernel) rfl
theorem tw_124 : (Jvm.Cond.lays "SnapshotHeap$Walk" "SnapshotHeap$Walk" "met" "I") ∈ lw_good := tw_at 124 (by decide +kernel) rfl
theorem tw_125 : (Jvm.Cond.soleField "SnapshotHeap$Walk" "met") ∈ lw_good := tw_at 125 (by decide +kernel) rfl
theorem tw_126 : (Jvm.Cond.lays "SnapshotHeap$Walk" "SnapshotHeap$Walk" "metCells" "I") ∈ lw_good := tw_at 126 (by decide +kernel) rfl
theorem tw_127 : (Jvm.Cond.soleField "SnapshotHeap$Walk" "metCells") ∈ lw_good := tw_at 127 (by decide +kernel) rfl
theorem tw_128 : (Jvm.Cond.lays "SnapshotHeap$Walk" "SnapshotHeap$Walk" "hash" "J") ∈ lw_good := tw_at 128 (by decide +kernel) rfl
theorem tw_129 : (Jvm.Cond.soleField "SnapshotHeap$Walk" "hash") ∈ lw_good := tw_at 129 (by decide +kernel) rfl
theorem tw_130 : (Jvm.Cond.superclass "SnapshotHeap$Walk" "java/lang/Object") ∈ lw_good := tw_at 130 (by decide +kernel) rfl
theorem tw_131 : (Jvm.Cond.classLink "SnapshotHeap" (32 : Nat) "SnapshotHeap$Audit") ∈ lw_good := tw_at 131 (by decide +kernel) rfl
theorem tw_132 : (Jvm.Cond.instantiable "SnapshotHeap$Audit" (5 : Nat)) ∈ lw_good := tw_at 132 (by decide +kernel) rfl
theorem tw_133 : (Jvm.Cond.methodLink "SnapshotHeap" (34 : Nat) ({ cls := "SnapshotHeap$Audit", name := "<init>", desc := "(LSnapshotHeap$Store;LSnapshotHeap$Collector;LSnapshotHeap$Walk;)V" } : Jvm.MethodName)) ∈ lw_good := tw_at 133 (by decide +kernel) rfl
theorem tw_134 : (Jvm.Cond.instanceMethod ({ cls := "SnapshotHeap$Audit", name := "<init>", desc := "(LSnapshotHeap$Store;LSnapshotHeap$Collector;LSnapshotHeap$Walk;)V" } : Jvm.MethodName)) ∈ lw_good := tw_at 134 (by decide +kernel) rfl
set_option maxRecDepth 100000 in
theorem tw_135 : (Jvm.Cond.code ({ cls := "SnapshotHeap$Audit", name := "<init>", desc := "(LSnapshotHeap$Store;LSnapshotHeap$Collector;LSnapshotHeap$Walk;)V" } : Jvm.MethodName) prog_2_method_1_code (4 : Nat) (Option.none : Option Jvm.ClassFile.FieldType)) ∈ lw_good := tw_at 135 rfl rfl
theorem tw_136 : (Jvm.Cond.methodLink "SnapshotHeap$Audit" (3 : Nat) ({ cls := "java/lang/Object", name := "<init>", desc := "()V" } : Jvm.MethodName)) ∈ lw_good := tw_at 136 (by decide +kernel) rfl
theorem tw_137 : (Jvm.Cond.classLink "SnapshotHeap$Audit" (23 : Nat) "SnapshotHeap$Marking") ∈ lw_good := tw_at 137 (by decide +kernel) rfl
theorem tw_138 : (Jvm.Cond.methodLink "SnapshotHeap$Audit" (25 : Nat) ({ cls := "SnapshotHeap$Marking", name := "<init>", desc := "(LSnapshotHeap$Store;)V" } : Jvm.MethodName)) ∈ lw_good := tw_at 138 (by decide +kernel) rfl
theorem tw_139 : (Jvm.Cond.fieldLink "SnapshotHeap$Audit" (9 : Nat) "SnapshotHeap$Audit" "store" "LSnapshotHeap$Store;") ∈ lw_good := tw_at 139 (by decide +kernel) rfl
theorem tw_140 : (Jvm.Cond.fieldLink "SnapshotHeap$Audit" (15 : Nat) "SnapshotHeap$Audit" "collector" "LSnapshotHeap$Collector;") ∈ lw_good := tw_at 140 (by decide +kernel) rfl
theorem tw_141 : (Jvm.Cond.fieldLink "SnapshotHeap$Audit" (19 : Nat) "SnapshotHeap$Audit" "walk" "LSnapshotHeap$Walk;") ∈ lw_good := tw_at 141 (by decide +kernel) rfl
theorem tw_142 : (Jvm.Cond.fieldLink "SnapshotHeap$Audit" (28 : Nat) "SnapshotHeap$Audit" "trial" "LSnapshotHeap$Marking;") ∈ lw_good := tw_at 142 (by decide +kernel) rfl
theorem tw_143 : (Jvm.Cond.fieldLink "SnapshotHeap$Audit" (32 : Nat) "SnapshotHeap$Audit" "holders" "[I") ∈ lw_good := tw_at 143 (by decide +kernel) rfl
theorem tw_144 : (Jvm.Cond.laysFinal "SnapshotHeap$Audit" "SnapshotHeap$Audit" "store" "LSnapshotHeap$Store;") ∈ lw_good := tw_at 144 (by decide +kernel) rfl
theorem tw_145 : (Jvm.Cond.soleField "SnapshotHeap$Audit" "store") ∈ lw_good := tw_at 145 (by decide +kernel) rfl
theorem tw_146 : (Jvm.Cond.laysFinal "SnapshotHeap$Audit" "SnapshotHeap$Audit" "collector" "LSnapshotHeap$Collector;") ∈ lw_good := tw_at 146 (by decide +kernel) rfl
theorem tw_147 : (Jvm.Cond.soleField "SnapshotHeap$Audit" "collector") ∈ lw_good := tw_at 147 (by decide +kernel) rfl
theorem tw_148 : (Jvm.Cond.laysFinal "SnapshotHeap$Audit" "SnapshotHeap$Audit" "walk" "LSnapshotHeap$Walk;") ∈ lw_good := tw_at 148 (by decide +kernel) rfl
theorem tw_149 : (Jvm.Cond.soleField "SnapshotHeap$Audit" "walk") ∈ lw_good := tw_at 149 (by decide +kernel) rfl
theorem tw_150 : (Jvm.Cond.laysFinal "SnapshotHeap$Audit" "SnapshotHeap$Audit" "trial" "LSnapshotHeap$Marking;") ∈ lw_good := tw_at 150 (by decide +kernel) rfl
theorem tw_151 : (Jvm.Cond.soleField "SnapshotHeap$Audit" "trial") ∈ lw_good := tw_at 151 (by decide +kernel) rfl
theorem tw_152 : (Jvm.Cond.laysFinal "SnapshotHeap$Audit" "SnapshotHeap$Audit" "holders" "[I") ∈ lw_good := tw_at 152 (by decide +kernel) rfl
theorem tw_153 : (Jvm.Cond.soleField "SnapshotHeap$Audit" "holders") ∈ lw_good := tw_at 153 (by decide +kernel) rfl
theorem tw_154 : (Jvm.Cond.superclass "SnapshotHeap$Audit" "java/lang/Object") ∈ lw_good := tw_at 154 (by decide +kernel) rfl
theorem tw_155 : (Jvm.Cond.fieldLink "SnapshotHeap" (12 : Nat) "SnapshotHeap" "store" "LSnapshotHeap$Store;") ∈ lw_good := tw_at 155 (by decide +kernel) rfl
theorem tw_156 : (Jvm.Cond.fieldLink "SnapshotHeap" (21 : Nat) "SnapshotHeap" "collector" "LSnapshotHeap$Collector;") ∈ lw_good := tw_at 156 (by decide +kernel) rfl
theorem tw_157 : (Jvm.Cond.fieldLink "SnapshotHeap" (28 : Nat) "SnapshotHeap" "walk" "LSnapshotHeap$Walk;") ∈ lw_good := tw_at 157 (by decide +kernel) rfl
theorem tw_158 : (Jvm.Cond.fieldLink "SnapshotHeap" (37 : Nat) "SnapshotHeap" "audit" "LSnapshotHeap$Audit;") ∈ lw_good := tw_at 158 (by decide +kernel) rfl
theorem tw_159 : (Jvm.Cond.fieldLink "SnapshotHeap" (41 : Nat) "SnapshotHeap" "pace" "I") ∈ lw_good := tw_at 159 (by decide +kernel) rfl
theorem tw_160 : (Jvm.Cond.fieldLink "SnapshotHeap" (45 : Nat) "SnapshotHeap" "made" "I") ∈ lw_good := tw_at 160 (by decide +kernel) rfl
theorem tw_161 : (Jvm.Cond.laysFinal "SnapshotHeap" "SnapshotHeap" "store" "LSnapshotHeap$Store;") ∈ lw_good := tw_at 161 (by decide +kernel) rfl
theorem tw_162 : (Jvm.Cond.soleField "SnapshotHeap" "store") ∈ lw_good := tw_at 162 (by decide +kernel) rfl
theorem tw_163 : (Jvm.Cond.laysFinal "SnapshotHeap" "SnapshotHeap" "collector" "LSnapshotHeap$Collector;") ∈ lw_good := tw_at 163 (by decide +kernel) rfl
theorem tw_164 : (Jvm.Cond.soleField "SnapshotHeap" "collector") ∈ lw_good := tw_at 164 (by decide +kernel) rfl
theorem tw_165 : (Jvm.Cond.laysFinal "SnapshotHeap" "SnapshotHeap" "walk" "LSnapshotHeap$Walk;") ∈ lw_good := tw_at 165 (by decide +kernel) rfl
theorem tw_166 : (Jvm.Cond.soleField "SnapshotHeap" "walk") ∈ lw_good := tw_at 166 (by decide +kernel) rfl
theorem tw_167 : (Jvm.Cond.laysFinal "SnapshotHeap" "SnapshotHeap" "audit" "LSnapshotHeap$Audit;") ∈ lw_good := tw_at 167 (by decide +kernel) rfl
theorem tw_168 : (Jvm.Cond.soleField "SnapshotHeap" "audit") ∈ lw_good := tw_at 168 (by decide +kernel) rfl
theorem tw_169 : (Jvm.Cond.lays "SnapshotHeap" "SnapshotHeap" "pace" "I") ∈ lw_good := tw_at 169 (by decide +kernel) rfl
theorem tw_170 : (Jvm.Cond.soleField "SnapshotHeap" "pace") ∈ lw_good := tw_at 170 (by decide +kernel) rfl
theorem tw_171 : (Jvm.Cond.lays "SnapshotHeap" "SnapshotHeap" "made" "I") ∈ lw_good := tw_at 171 (by decide +kernel) rfl
theorem tw_172 : (Jvm.Cond.soleField "SnapshotHeap" "made") ∈ lw_good := tw_at 172 (by decide +kernel) rfl
theorem tw_173 : (Jvm.Cond.superclass "SnapshotHeap" "java/lang/Object") ∈ lw_good := tw_at 173 (by decide +kernel) rfl
theorem tw_174 : (Jvm.Cond.methodLink "SnapshotHeapLaw" (109 : Nat) ({ cls := "SnapshotHeap", name := "digest", desc := "()J" } : Jvm.MethodName)) ∈ lw_good := tw_at 174 (by decide +kernel) rfl
theorem tw_175 : (Jvm.Cond.instanceMethod ({ cls := "SnapshotHeap", name := "digest", desc := "()J" } : Jvm.MethodName)) ∈ lw_good := tw_at 175 (by decide +kernel) rfl
theorem tw_176 : (Jvm.Cond.selects "SnapshotHeap" ({ cls := "SnapshotHeap", name := "digest", desc := "()J" } : Jvm.MethodName) ({ cls := "SnapshotHeap", name := "digest", desc := "()J" } : Jvm.MethodName)) ∈ lw_good := tw_at 176 (by decide +kernel) rfl
set_option maxRecDepth 100000 in
theorem tw_177 : (Jvm.Cond.code ({ cls := "SnapshotHeap", name := "digest", desc := "()J" } : Jvm.MethodName) prog_1_method_13_code (1 : Nat) (Option.some Jvm.ClassFile.FieldType.long)) ∈ lw_good := tw_at 177 rfl rfl
theorem tw_178 : (Jvm.Cond.methodLink "SnapshotHeap" (48 : Nat) ({ cls := "SnapshotHeap$Collector", name := "work", desc := "(I)V" } : Jvm.MethodName)) ∈ lw_good := tw_at 178 (by decide +kernel) rfl
theorem tw_179 : (Jvm.Cond.instanceMethod ({ cls := "SnapshotHeap$Collector", name := "work", desc := "(I)V" } : Jvm.MethodName)) ∈ lw_good := tw_at 179 (by decide +kernel) rfl
theorem tw_180 : (Jvm.Cond.selects "SnapshotHeap$Collector" ({ cls := "SnapshotHeap$Collector", name := "work", desc := "(I)V" } : Jvm.MethodName) ({ cls := "SnapshotHeap$Collector", name := "work", desc := "(I)V" } : Jvm.MethodName)) ∈ lw_good := tw_at 180 (by decide +kernel) rfl
set_option maxRecDepth 100000 in
theorem tw_181 : (Jvm.Cond.code ({ cls := "SnapshotHeap$Collector", name := "work", desc := "(I)V" } : Jvm.MethodName) prog_3_method_4_code (3 : Nat) (Option.none : Option Jvm.ClassFile.FieldType)) ∈ lw_good := tw_at 181 rfl rfl
theorem tw_182 : (Jvm.Cond.methodLink "SnapshotHeap$Collector" (37 : Nat) ({ cls := "SnapshotHeap$Collector", name := "advance", desc := "()V" } : Jvm.MethodName)) ∈ lw_good := tw_at 182 (by decide +kernel) rfl
theorem tn_183 : (Jvm.Cond.privateMethod ({ cls := "SnapshotHeap$Collector", name := "advance", desc := "()V" } : Jvm.MethodName)) ∈ lw_tbl := List.mem_append_right _ (List.mem_of_getElem? (i := 183) (by decide +kernel))
theorem tw_184 : (Jvm.Cond.instanceMethod ({ cls := "SnapshotHeap$Collector", name := "advance", desc := "()V" } : Jvm.MethodName)) ∈ lw_good := tw_at 184 (by decide +kernel) rfl
set_option maxRecDepth 100000 in
theorem tw_185 : (Jvm.Cond.code ({ cls := "SnapshotHeap$Collector", name := "advance", desc := "()V" } : Jvm.MethodName) prog_3_method_9_code (1 : Nat) (Option.none : Option Jvm.ClassFile.FieldType)) ∈ lw_good := tw_at 185 rfl rfl
theorem tw_186 : (Jvm.Cond.methodLink "SnapshotHeap$Collector" (43 : Nat) ({ cls := "SnapshotHeap$Collector", name := "begin", desc := "()V" } : Jvm.MethodName)) ∈ lw_good := tw_at 186 (by decide +kernel) rfl
theorem tn_187 : (Jvm.Cond.privateMethod ({ cls := "SnapshotHeap$Collector", name := "begin", desc := "()V" } : Jvm.MethodName)) ∈ lw_tbl := List.mem_append_right _ (List.mem_of_getElem? (i := 187) (by decide +kernel))
theorem tw_188 : (Jvm.Cond.instanceMethod ({ cls := "SnapshotHeap$Collector", name := "begin", desc := "()V" } : Jvm.MethodName)) ∈ lw_good := tw_at 188 (by decide +kernel) rfl
set_option maxRecDepth 100000 in
theorem tw_189 : (Jvm.Cond.code ({ cls := "SnapshotHeap$Collector", name := "begin", desc := "()V" } : Jvm.MethodName) prog_3_method_10_code (1 : Nat) (Option.none : Option Jvm.ClassFile.FieldType)) ∈ lw_good := tw_at 189 rfl rfl
theorem tw_190 : (Jvm.Cond.fieldLink "SnapshotHeap$Collector" (52 : Nat) "SnapshotHeap$Phase" "MARKING" "LSnapshotHeap$Phase;") ∈ lw_good := tw_at 190 (by decide +kernel) rfl
theorem tn_191 : (Jvm.Cond.laysStatic "SnapshotHeap$Phase" "MARKING" "LSnapshotHeap$Phase;") ∈ lw_tbl := List.mem_append_right _ (List.mem_of_getElem? (i := 191) (by decide +kernel))
theorem tw_192 : (Jvm.Cond.methodLink "SnapshotHeap$Collector" (82 : Nat) ({ cls := "SnapshotHeap$Marking", name := "shadeValuesOf", desc := "(I)V" } : Jvm.MethodName)) ∈ lw_good := tw_at 192 (by decide +kernel) rfl
theorem tw_193 : (Jvm.Cond.instanceMethod ({ cls := "SnapshotHeap$Marking", name := "shadeValuesOf", desc := "(I)V" } : Jvm.MethodName)) ∈ lw_good := tw_at 193 (by decide +kernel) rfl
theorem tw_194 : (Jvm.Cond.selects "SnapshotHeap$Marking" ({ cls := "SnapshotHeap$Marking", name := "shadeValuesOf", desc := "(I)V" } : Jvm.MethodName) ({ cls := "SnapshotHeap$Marking", name := "shadeValuesOf", desc := "(I)V" } : Jvm.MethodName)) ∈ lw_good := tw_at 194 (by decide +kernel) rfl
set_option maxRecDepth 100000 in
theorem tw_195 : (Jvm.Cond.code ({ cls := "SnapshotHeap$Marking", name := "shadeValuesOf", desc := "(I)V" } : Jvm.MethodName) prog_4_method_11_code (4 : Nat) (Option.none : Option Jvm.ClassFile.FieldType)) ∈ lw_good := tw_at 195 rfl rfl
theorem tw_196 : (Jvm.Cond.methodLink "SnapshotHeap$Marking" (44 : Nat) ({ cls := "SnapshotHeap$Store", name := "valuesOf", desc := "(I)I" } : Jvm.MethodName)) ∈ lw_good := tw_at 196 (by decide +kernel) rfl
theorem tw_197 : (Jvm.Cond.instanceMethod ({ cls := "SnapshotHeap$Store", name := "valuesOf", desc := "(I)I" } : Jvm.MethodName)) ∈ lw_good := tw_at 197 (by decide +kernel) rfl
theorem tw_198 : (Jvm.Cond.selects "SnapshotHeap$Store" ({ cls := "SnapshotHeap$Store", name := "valuesOf", desc := "(I)I" } : Jvm.MethodName) ({ cls := "SnapshotHeap$Store", name := "valuesOf", desc := "(I)I" } : Jvm.MethodName)) ∈ lw_good := tw_at 198 (by decide +kernel) rfl
set_option maxRecDepth 100000 in
theorem tw_199 : (Jvm.Cond.code ({ cls := "SnapshotHeap$Store", name := "valuesOf", desc := "(I)I" } : Jvm.MethodName) prog_6_method_4_code (2 : Nat) (Option.some Jvm.ClassFile.FieldType.int)) ∈ lw_good := tw_at 199 rfl rfl
theorem tn_200 : (Jvm.Cond.methodLinkNest "SnapshotHeap$Marking" (48 : Nat) ({ cls := "SnapshotHeap", name := "slotOf", desc := "(II)I" } : Jvm.MethodName) "SnapshotHeap") ∈ lw_tbl := List.mem_append_right _ (List.mem_of_getElem? (i := 200) (by decide +kernel))
theorem tw_201 : (Jvm.Cond.static ({ cls := "SnapshotHeap", name := "slotOf", desc := "(II)I" } : Jvm.MethodName)) ∈ lw_good := tw_at 201 (by decide +kernel) rfl
set_option maxRecDepth 100000 in
theorem tw_202 : (Jvm.Cond.code ({ cls := "SnapshotHeap", name := "slotOf", desc := "(II)I" } : Jvm.MethodName) prog_1_method_19_code (2 : Nat) (Option.some Jvm.ClassFile.FieldType.int)) ∈ lw_good := tw_at 202 rfl rfl
theorem tw_203 : (Jvm.Cond.methodLink "SnapshotHeap$Marking" (52 : Nat) ({ cls := "SnapshotHeap$Store", name := "placeAt", desc := "(I)I" } : Jvm.MethodName)) ∈ lw_good := tw_at 203 (by decide +kernel) rfl
theorem tw_204 : (Jvm.Cond.instanceMethod ({ cls := "SnapshotHeap$Store", name := "placeAt", desc := "(I)I" } : Jvm.MethodName)) ∈ lw_good := tw_at 204 (by decide +kernel) rfl
theorem tw_205 : (Jvm.Cond.selects "SnapshotHeap$Store" ({ cls := "SnapshotHeap$Store", name := "placeAt", desc := "(I)I" } : Jvm.MethodName) ({ cls := "SnapshotHeap$Store", name := "placeAt", desc := "(I)I" } : Jvm.MethodName)) ∈ lw_good := tw_at 205 (by decide +kernel) rfl
set_option maxRecDepth 100000 in
theorem tw_206 : (Jvm.Cond.code ({ cls := "SnapshotHeap$Store", name := "placeAt", desc := "(I)I" } : Jvm.MethodName) prog_6_method_12_code (2 : Nat) (Option.some Jvm.ClassFile.FieldType.int)) ∈ lw_good := tw_at 206 rfl rfl
theorem tw_207 : (Jvm.Cond.methodLink "SnapshotHeap$Marking" (55 : Nat) ({ cls := "SnapshotHeap$Marking", name := "shade", desc := "(I)V" } : Jvm.MethodName)) ∈ lw_good := tw_at 207 (by decide +kernel) rfl
theorem tw_208 : (Jvm.Cond.instanceMethod ({ cls := "SnapshotHeap$Marking", name := "shade", desc := "(I)V" } : Jvm.MethodName)) ∈ lw_good := tw_at 208 (by decide +kernel) rfl
theorem tw_209 : (Jvm.Cond.selects "SnapshotHeap$Marking" ({ cls := "SnapshotHeap$Marking", name := "shade", desc := "(I)V" } : Jvm.MethodName) ({ cls := "SnapshotHeap$Marking", name := "shade", desc := "(I)V" } : Jvm.MethodName)) ∈ lw_good := tw_at 209 (by decide +kernel) rfl
set_option maxRecDepth 100000 in
theorem tw_210 : (Jvm.Cond.code ({ cls := "SnapshotHeap$Marking", name := "shade", desc := "(I)V" } : Jvm.MethodName) prog_4_method_10_code (2 : Nat) (Option.none : Option Jvm.ClassFile.FieldType)) ∈ lw_good := tw_at 210 rfl rfl
theorem tw_211 : (Jvm.Cond.methodLink "SnapshotHeap$Marking" (38 : Nat) ({ cls := "SnapshotHeap$Store", name := "isTuplePlace", desc := "(I)Z" } : Jvm.MethodName)) ∈ lw_good := tw_at 211 (by decide +kernel) rfl
theorem tw_212 : (Jvm.Cond.instanceMethod ({ cls := "SnapshotHeap$Store", name := "isTuplePlace", desc := "(I)Z" } : Jvm.MethodName)) ∈ lw_good := tw_at 212 (by decide +kernel) rfl
theorem tw_213 : (Jvm.Cond.selects "SnapshotHeap$Store" ({ cls := "SnapshotHeap$Store", name := "isTuplePlace", desc := "(I)Z" } : Jvm.MethodName) ({ cls := "SnapshotHeap$Store", name := "isTuplePlace", desc := "(I)Z" } : Jvm.MethodName)) ∈ lw_good := tw_at 213 (by decide +kernel) rfl
set_option maxRecDepth 100000 in
theorem tw_214 : (Jvm.Cond.code ({ cls := "SnapshotHeap$Store", name := "isTuplePlace", desc := "(I)Z" } : Jvm.MethodName) prog_6_method_2_code (2 : Nat) (Option.some Jvm.ClassFile.FieldType.boolean)) ∈ lw_good := tw_at 214 rfl rfl
theorem tw_215 : (Jvm.Cond.methodLink "SnapshotHeap$Collector" (72 : Nat) ({ cls := "SnapshotHeap$Marking", name := "isDone", desc := "()Z" } : Jvm.MethodName)) ∈ lw_good := tw_at 215 (by decide +kernel) rfl
theorem tw_216 : (Jvm.Cond.instanceMethod ({ cls := "SnapshotHeap$Marking", name := "isDone", desc := "()Z" } : Jvm.MethodName)) ∈ lw_good := tw_at 216 (by decide +kernel) rfl
theorem tw_217 : (Jvm.Cond.selects "SnapshotHeap$Marking" ({ cls := "SnapshotHeap$Marking", name := "isDone", desc := "()Z" } : Jvm.MethodName) ({ cls := "SnapshotHeap$Marking", name := "isDone", desc := "()Z" } : Jvm.MethodName)) ∈ lw_good := tw_at 217 (by decide +kernel) rfl
set_option maxRecDepth 100000 in
theorem tw_218 : (Jvm.Cond.code ({ cls := "SnapshotHeap$Marking", name := "isDone", desc := "()Z" } : Jvm.MethodName) prog_4_method_4_code (1 : Nat) (Option.some Jvm.ClassFile.FieldType.boolean)) ∈ lw_good := tw_at 218 rfl rfl
theorem tw_219 : (Jvm.Cond.fieldLink "SnapshotHeap$Collector" (69 : Nat) "SnapshotHeap$Phase" "SWEEPING" "LSnapshotHeap$Phase;") ∈ lw_good := tw_at 219 (by decide +kernel) rfl
theorem tn_220 : (Jvm.Cond.laysStatic "SnapshotHeap$Phase" "SWEEPING" "LSnapshotHeap$Phase;") ∈ lw_tbl := List.mem_append_right _ (List.mem_of_getElem? (i := 220) (by decide +kernel))
theorem tw_221 : (Jvm.Cond.methodLink "SnapshotHeap$Collector" (76 : Nat) ({ cls := "SnapshotHeap$Marking", name := "markOne", desc := "()V" } : Jvm.MethodName)) ∈ lw_good := tw_at 221 (by decide +kernel) rfl
theorem tw_222 : (Jvm.Cond.instanceMethod ({ cls := "SnapshotHeap$Marking", name := "markOne", desc := "()V" } : Jvm.MethodName)) ∈ lw_good := tw_at 222 (by decide +kernel) rfl
theorem tw_223 : (Jvm.Cond.selects "SnapshotHeap$Marking" ({ cls := "SnapshotHeap$Marking", name := "markOne", desc := "()V" } : Jvm.MethodName) ({ cls := "SnapshotHeap$Marking", name := "markOne", desc := "()V" } : Jvm.MethodName)) ∈ lw_good := tw_at 223 (by decide +kernel) rfl
set_option maxRecDepth 100000 in
theorem tw_224 : (Jvm.Cond.code ({ cls := "SnapshotHeap$Marking", name := "markOne", desc := "()V" } : Jvm.MethodName) prog_4_method_12_code (2 : Nat) (Option.none : Option Jvm.ClassFile.FieldType)) ∈ lw_good := tw_at 224 rfl rfl
theorem tw_225 : (Jvm.Cond.methodLink "SnapshotHeap$Marking" (59 : Nat) ({ cls := "SnapshotHeap$Marking", name := "blacken", desc := "(I)V" } : Jvm.MethodName)) ∈ lw_good := tw_at 225 (by decide +kernel) rfl
theorem tw_226 : (Jvm.Cond.instanceMethod ({ cls := "SnapshotHeap$Marking", name := "blacken", desc := "(I)V" } : Jvm.MethodName)) ∈ lw_good := tw_at 226 (by decide +kernel) rfl
theorem tw_227 : (Jvm.Cond.selects "SnapshotHeap$Marking" ({ cls := "SnapshotHeap$Marking", name := "blacken", desc := "(I)V" } : Jvm.MethodName) ({ cls := "SnapshotHeap$Marking", name := "blacken", desc := "(I)V" } : Jvm.MethodName)) ∈ lw_good := tw_at 227 (by decide +kernel) rfl
set_option maxRecDepth 100000 in
theorem tw_228 : (Jvm.Cond.code ({ cls := "SnapshotHeap$Marking", name := "blacken", desc := "(I)V" } : Jvm.MethodName) prog_4_method_9_code (2 : Nat) (Option.none : Option Jvm.ClassFile.FieldType)) ∈ lw_good := tw_at 228 rfl rfl
theorem tw_229 : (Jvm.Cond.methodLink "SnapshotHeap$Marking" (62 : Nat) ({ cls := "SnapshotHeap$Marking", name := "shadeValuesOf", desc := "(I)V" } : Jvm.MethodName)) ∈ lw_good := tw_at 229 (by decide +kernel) rfl
theorem tw_230 : (Jvm.Cond.methodLink "SnapshotHeap$Collector" (79 : Nat) ({ cls := "SnapshotHeap$Collector", name := "sweepOne", desc := "()V" } : Jvm.MethodName)) ∈ lw_good := tw_at 230 (by decide +kernel) rfl
theorem tn_231 : (Jvm.Cond.privateMethod ({ cls := "SnapshotHeap$Collector", name := "sweepOne", desc := "()V" } : Jvm.MethodName)) ∈ lw_tbl := List.mem_append_right _ (List.mem_of_getElem? (i := 231) (by decide +kernel))
theorem tw_232 : (Jvm.Cond.instanceMethod ({ cls := "SnapshotHeap$Collector", name := "sweepOne", desc := "()V" } : Jvm.MethodName)) ∈ lw_good := tw_at 232 (by decide +kernel) rfl
set_option maxRecDepth 100000 in
theorem tw_233 : (Jvm.Cond.code ({ cls := "SnapshotHeap$Collector", name := "sweepOne", desc := "()V" } : Jvm.MethodName) prog_3_method_11_code (1 : Nat) (Option.none : Option Jvm.ClassFile.FieldType)) ∈ lw_good := tw_at 233 rfl rfl
theorem tw_234 : (Jvm.Cond.methodLink "SnapshotHeap$Collector" (85 : Nat) ({ cls := "SnapshotHeap$Marking", name := "isBlack", desc := "(I)Z" } : Jvm.MethodName)) ∈ lw_good := tw_at 234 (by decide +kernel) rfl
theorem tw_235 : (Jvm.Cond.instanceMethod ({ cls := "SnapshotHeap$Marking", name := "isBlack", desc := "(I)Z" } : Jvm.MethodName)) ∈ lw_good := tw_at 235 (by decide +kernel) rfl
theorem tw_236 : (Jvm.Cond.selects "SnapshotHeap$Marking" ({ cls := "SnapshotHeap$Marking", name := "isBlack", desc := "(I)Z" } : Jvm.MethodName) ({ cls := "SnapshotHeap$Marking", name := "isBlack", desc := "(I)Z" } : Jvm.MethodName)) ∈ lw_good := tw_at 236 (by decide +kernel) rfl
set_option maxRecDepth 100000 in
theorem tw_237 : (Jvm.Cond.code ({ cls := "SnapshotHeap$Marking", name := "isBlack", desc := "(I)Z" } : Jvm.MethodName) prog_4_method_7_code (2 : Nat) (Option.some Jvm.ClassFile.FieldType.boolean)) ∈ lw_good := tw_at 237 rfl rfl
theorem tw_238 : (Jvm.Cond.methodLink "SnapshotHeap$Collector" (88 : Nat) ({ cls := "SnapshotHeap$Marking", name := "whiten", desc := "(I)V" } : Jvm.MethodName)) ∈ lw_good := tw_at 238 (by decide +kernel) rfl
theorem tw_239 : (Jvm.Cond.instanceMethod ({ cls := "SnapshotHeap$Marking", name := "whiten", desc := "(I)V" } : Jvm.MethodName)) ∈ lw_good := tw_at 239 (by decide +kernel) rfl
theorem tw_240 : (Jvm.Cond.selects "SnapshotHeap$Marking" ({ cls := "SnapshotHeap$Marking", name := "whiten", desc := "(I)V" } : Jvm.MethodName) ({ cls := "SnapshotHeap$Marking", name := "whiten", desc := "(I)V" } : Jvm.MethodName)) ∈ lw_good := tw_at 240 (by decide +kernel) rfl
set_option maxRecDepth 100000 in
theorem tw_241 : (Jvm.Cond.code ({ cls := "SnapshotHeap$Marking", name := "whiten", desc := "(I)V" } : Jvm.MethodName) prog_4_method_8_code (2 : Nat) (Option.none : Option Jvm.ClassFile.FieldType)) ∈ lw_good := tw_at 241 rfl rfl
theorem tw_242 : (Jvm.Cond.methodLink "SnapshotHeap$Collector" (91 : Nat) ({ cls := "SnapshotHeap$Store", name := "isFree", desc := "(I)Z" } : Jvm.MethodName)) ∈ lw_good := tw_at 242 (by decide +kernel) rfl
theorem tw_243 : (Jvm.Cond.instanceMethod ({ cls := "SnapshotHeap$Store", name := "isFree", desc := "(I)Z" } : Jvm.MethodName)) ∈ lw_good := tw_at 243 (by decide +kernel) rfl
theorem tw_244 : (Jvm.Cond.selects "SnapshotHeap$Store" ({ cls := "SnapshotHeap$Store", name := "isFree", desc := "(I)Z" } : Jvm.MethodName) ({ cls := "SnapshotHeap$Store", name := "isFree", desc := "(I)Z" } : Jvm.MethodName)) ∈ lw_good := tw_at 244 (by decide +kernel) rfl
set_option maxRecDepth 100000 in
theorem tw_245 : (Jvm.Cond.code ({ cls := "SnapshotHeap$Store", name := "isFree", desc := "(I)Z" } : Jvm.MethodName) prog_6_method_3_code (2 : Nat) (Option.some Jvm.ClassFile.FieldType.boolean)) ∈ lw_good := tw_at 245 rfl rfl
theorem tw_246 : (Jvm.Cond.methodLink "SnapshotHeap$Store" (41 : Nat) ({ cls := "SnapshotHeap$Store", name := "isTuplePlace", desc := "(I)Z" } : Jvm.MethodName)) ∈ lw_good := tw_at 246 (by decide +kernel) rfl
theorem tw_247 : (Jvm.Cond.methodLink "SnapshotHeap$Collector" (94 : Nat) ({ cls := "SnapshotHeap$Store", name := "release", desc := "(I)V" } : Jvm.MethodName)) ∈ lw_good := tw_at 247 (by decide +kernel) rfl
theorem tw_248 : (Jvm.Cond.instanceMethod ({ cls := "SnapshotHeap$Store", name := "release", desc := "(I)V" } : Jvm.MethodName)) ∈ lw_good := tw_at 248 (by decide +kernel) rfl
theorem tw_249 : (Jvm.Cond.selects "SnapshotHeap$Store" ({ cls := "SnapshotHeap$Store", name := "release", desc := "(I)V" } : Jvm.MethodName) ({ cls := "SnapshotHeap$Store", name := "release", desc := "(I)V" } : Jvm.MethodName)) ∈ lw_good := tw_at 249 (by decide +kernel) rfl
set_option maxRecDepth 100000 in
theorem tw_250 : (Jvm.Cond.code ({ cls := "SnapshotHeap$Store", name := "release", desc := "(I)V" } : Jvm.MethodName) prog_6_method_11_code (2 : Nat) (Option.none : Option Jvm.ClassFile.FieldType)) ∈ lw_good := tw_at 250 rfl rfl
theorem tw_251 : (Jvm.Cond.methodLink "SnapshotHeap$Store" (67 : Nat) ({ cls := "SnapshotHeap$Store", name := "valuesOf", desc := "(I)I" } : Jvm.MethodName)) ∈ lw_good := tw_at 251 (by decide +kernel) rfl
theorem tw_252 : (Jvm.Cond.methodLink "SnapshotHeap$Store" (45 : Nat) ({ cls := "SnapshotHeap$Store", name := "cellsFor", desc := "(I)I" } : Jvm.MethodName)) ∈ lw_good := tw_at 252 (by decide +kernel) rfl
theorem tw_253 : (Jvm.Cond.static ({ cls := "SnapshotHeap$Store", name := "cellsFor", desc := "(I)I" } : Jvm.MethodName)) ∈ lw_good := tw_at 253 (by decide +kernel) rfl
set_option maxRecDepth 100000 in
theorem tw_254 : (Jvm.Cond.code ({ cls := "SnapshotHeap$Store", name := "cellsFor", desc := "(I)I" } : Jvm.MethodName) prog_6_method_5_code (1 : Nat) (Option.some Jvm.ClassFile.FieldType.int)) ∈ lw_good := tw_at 254 rfl rfl
theorem tw_255 : (Jvm.Cond.methodLink "SnapshotHeap$Collector" (97 : Nat) ({ cls := "SnapshotHeap$Store", name := "top", desc := "()I" } : Jvm.MethodName)) ∈ lw_good := tw_at 255 (by decide +kernel) rfl
theorem tw_256 : (Jvm.Cond.instanceMethod ({ cls := "SnapshotHeap$Store", name := "top", desc := "()I" } : Jvm.MethodName)) ∈ lw_good := tw_at 256 (by decide +kernel) rfl
theorem tw_257 : (Jvm.Cond.selects "SnapshotHeap$Store" ({ cls := "SnapshotHeap$Store", name := "top", desc := "()I" } : Jvm.MethodName) ({ cls := "SnapshotHeap$Store", name := "top", desc := "()I" } : Jvm.MethodName)) ∈ lw_good := tw_at 257 (by decide +kernel) rfl
set_option maxRecDepth 100000 in
theorem tw_258 : (Jvm.Cond.code ({ cls := "SnapshotHeap$Store", name := "top", desc := "()I" } : Jvm.MethodName) prog_6_method_6_code (1 : Nat) (Option.some Jvm.ClassFile.FieldType.int)) ∈ lw_good := tw_at 258 rfl rfl
theorem tw_259 : (Jvm.Cond.methodLink "SnapshotHeap" (112 : Nat) ({ cls := "SnapshotHeap$Walk", name := "run", desc := "()V" } : Jvm.MethodName)) ∈ lw_good := tw_at 259 (by decide +kernel) rfl
theorem tw_260 : (Jvm.Cond.instanceMethod ({ cls := "SnapshotHeap$Walk", name := "run", desc := "()V" } : Jvm.MethodName)) ∈ lw_good := tw_at 260 (by decide +kernel) rfl
theorem tw_261 : (Jvm.Cond.selects "SnapshotHeap$Walk" ({ cls := "SnapshotHeap$Walk", name := "run", desc := "()V" } : Jvm.MethodName) ({ cls := "SnapshotHeap$Walk", name := "run", desc := "()V" } : Jvm.MethodName)) ∈ lw_good := tw_at 261 (by decide +kernel) rfl
set_option maxRecDepth 100000 in
theorem tw_262 : (Jvm.Cond.code ({ cls := "SnapshotHeap$Walk", name := "run", desc := "()V" } : Jvm.MethodName) prog_7_method_6_code (2 : Nat) (Option.none : Option Jvm.ClassFile.FieldType)) ∈ lw_good := tw_at 262 rfl rfl
theorem tw_263 : (Jvm.Cond.methodLink "SnapshotHeap$Walk" (42 : Nat) ({ cls := "java/util/Arrays", name := "fill", desc := "([II)V" } : Jvm.MethodName)) ∈ lw_good := tw_at 263 (by decide +kernel) rfl
theorem tw_264 : (Jvm.Cond.constantLong "SnapshotHeap$Walk" (48 : Nat) (7 : Int64)) ∈ lw_good := tw_at 264 (by decide +kernel) rfl
theorem tw_265 : (Jvm.Cond.methodLink "SnapshotHeap$Walk" (53 : Nat) ({ cls := "SnapshotHeap$Walk", name := "goInto", desc := "(I)V" } : Jvm.MethodName)) ∈ lw_good := tw_at 265 (by decide +kernel) rfl
theorem tn_266 : (Jvm.Cond.privateMethod ({ cls := "SnapshotHeap$Walk", name := "goInto", desc := "(I)V" } : Jvm.MethodName)) ∈ lw_tbl := List.mem_append_right _ (List.mem_of_getElem? (i := 266) (by decide +kernel))
theorem tw_267 : (Jvm.Cond.instanceMethod ({ cls := "SnapshotHeap$Walk", name := "goInto", desc := "(I)V" } : Jvm.MethodName)) ∈ lw_good := tw_at 267 (by decide +kernel) rfl
set_option maxRecDepth 100000 in
theorem tw_268 : (Jvm.Cond.code ({ cls := "SnapshotHeap$Walk", name := "goInto", desc := "(I)V" } : Jvm.MethodName) prog_7_method_10_code (2 : Nat) (Option.none : Option Jvm.ClassFile.FieldType)) ∈ lw_good := tw_at 268 rfl rfl
theorem tw_269 : (Jvm.Cond.methodLink "SnapshotHeap$Walk" (57 : Nat) ({ cls := "SnapshotHeap$Walk", name := "goOn", desc := "()V" } : Jvm.MethodName)) ∈ lw_good := tw_at 269 (by decide +kernel) rfl
theorem tn_270 : (Jvm.Cond.privateMethod ({ cls := "SnapshotHeap$Walk", name := "goOn", desc := "()V" } : Jvm.MethodName)) ∈ lw_tbl := List.mem_append_right _ (List.mem_of_getElem? (i := 270) (by decide +kernel))
theorem tw_271 : (Jvm.Cond.instanceMethod ({ cls := "SnapshotHeap$Walk", name := "goOn", desc := "()V" } : Jvm.MethodName)) ∈ lw_good := tw_at 271 (by decide +kernel) rfl
set_option maxRecDepth 100000 in
theorem tw_272 : (Jvm.Cond.code ({ cls := "SnapshotHeap$Walk", name := "goOn", desc := "()V" } : Jvm.MethodName) prog_7_method_7_code (3 : Nat) (Option.none : Option Jvm.ClassFile.FieldType)) ∈ lw_good := tw_at 272 rfl rfl
theorem tw_273 : (Jvm.Cond.methodLink "SnapshotHeap$Walk" (60 : Nat) ({ cls := "SnapshotHeap$Store", name := "valuesOf", desc := "(I)I" } : Jvm.MethodName)) ∈ lw_good := tw_at 273 (by decide +kernel) rfl
theorem tn_274 : (Jvm.Cond.methodLinkNest "SnapshotHeap$Walk" (64 : Nat) ({ cls := "SnapshotHeap", name := "slotOf", desc := "(II)I" } : Jvm.MethodName) "SnapshotHeap") ∈ lw_tbl := List.mem_append_right _ (List.mem_of_getElem? (i := 274) (by decide +kernel))
theorem tw_275 : (Jvm.Cond.methodLink "SnapshotHeap$Walk" (68 : Nat) ({ cls := "SnapshotHeap$Walk", name := "meet", desc := "(I)V" } : Jvm.MethodName)) ∈ lw_good := tw_at 275 (by decide +kernel) rfl
theorem tn_276 : (Jvm.Cond.privateMethod ({ cls := "SnapshotHeap$Walk", name := "meet", desc := "(I)V" } : Jvm.MethodName)) ∈ lw_tbl := List.mem_append_right _ (List.mem_of_getElem? (i := 276) (by decide +kernel))
theorem tw_277 : (Jvm.Cond.instanceMethod ({ cls := "SnapshotHeap$Walk", name := "meet", desc := "(I)V" } : Jvm.MethodName)) ∈ lw_good := tw_at 277 (by decide +kernel) rfl
set_option maxRecDepth 100000 in
theorem tw_278 : (Jvm.Cond.code ({ cls := "SnapshotHeap$Walk", name := "meet", desc := "(I)V" } : Jvm.MethodName) prog_7_method_8_code (3 : Nat) (Option.none : Option Jvm.ClassFile.FieldType)) ∈ lw_good := tw_at 278 rfl rfl
theorem tw_279 : (Jvm.Cond.methodLink "SnapshotHeap$Walk" (71 : Nat) ({ cls := "SnapshotHeap$Store", name := "placeAt", desc := "(I)I" } : Jvm.MethodName)) ∈ lw_good := tw_at 279 (by decide +kernel) rfl
theorem tw_280 : (Jvm.Cond.methodLink "SnapshotHeap$Walk" (36 : Nat) ({ cls := "SnapshotHeap$Store", name := "isTuplePlace", desc := "(I)Z" } : Jvm.MethodName)) ∈ lw_good := tw_at 280 (by decide +kernel) rfl
theorem tw_281 : (Jvm.Cond.methodLink "SnapshotHeap$Walk" (74 : Nat) ({ cls := "SnapshotHeap$Store", name := "numberAt", desc := "(I)J" } : Jvm.MethodName)) ∈ lw_good := tw_at 281 (by decide +kernel) rfl
theorem tw_282 : (Jvm.Cond.instanceMethod ({ cls := "SnapshotHeap$Store", name := "numberAt", desc := "(I)J" } : Jvm.MethodName)) ∈ lw_good := tw_at 282 (by decide +kernel) rfl
theorem tw_283 : (Jvm.Cond.selects "SnapshotHeap$Store" ({ cls := "SnapshotHeap$Store", name := "numberAt", desc := "(I)J" } : Jvm.MethodName) ({ cls := "SnapshotHeap$Store", name := "numberAt", desc := "(I)J" } : Jvm.MethodName)) ∈ lw_good := tw_at 283 (by decide +kernel) rfl
set_option maxRecDepth 100000 in
theorem tw_284 : (Jvm.Cond.code ({ cls := "SnapshotHeap$Store", name := "numberAt", desc := "(I)J" } : Jvm.MethodName) prog_6_method_13_code (2 : Nat) (Option.some Jvm.ClassFile.FieldType.long)) ∈ lw_good := tw_at 284 rfl rfl
theorem tw_285 : (Jvm.Cond.methodLink "SnapshotHeap$Walk" (78 : Nat) ({ cls := "SnapshotHeap$Walk", name := "mix", desc := "(J)V" } : Jvm.MethodName)) ∈ lw_good := tw_at 285 (by decide +kernel) rfl
theorem tn_286 : (Jvm.Cond.privateMethod ({ cls := "SnapshotHeap$Walk", name := "mix", desc := "(J)V" } : Jvm.MethodName)) ∈ lw_tbl := List.mem_append_right _ (List.mem_of_getElem? (i := 286) (by decide +kernel))
theorem tw_287 : (Jvm.Cond.instanceMethod ({ cls := "SnapshotHeap$Walk", name := "mix", desc := "(J)V" } : Jvm.MethodName)) ∈ lw_good := tw_at 287 (by decide +kernel) rfl
set_option maxRecDepth 100000 in
theorem tw_288 : (Jvm.Cond.code ({ cls := "SnapshotHeap$Walk", name := "mix", desc := "(J)V" } : Jvm.MethodName) prog_7_method_11_code (3 : Nat) (Option.none : Option Jvm.ClassFile.FieldType)) ∈ lw_good := tw_at 288 rfl rfl
theorem tw_289 : (Jvm.Cond.constantLong "SnapshotHeap$Walk" (95 : Nat) (31 : Int64)) ∈ lw_good := tw_at 289 (by decide +kernel) rfl
theorem tw_290 : (Jvm.Cond.methodLink "SnapshotHeap$Walk" (82 : Nat) ({ cls := "SnapshotHeap$Walk", name := "hasMet", desc := "(I)Z" } : Jvm.MethodName)) ∈ lw_good := tw_at 290 (by decide +kernel) rfl
theorem tw_291 : (Jvm.Cond.instanceMethod ({ cls := "SnapshotHeap$Walk", name := "hasMet", desc := "(I)Z" } : Jvm.MethodName)) ∈ lw_good := tw_at 291 (by decide +kernel) rfl
theorem tw_292 : (Jvm.Cond.selects "SnapshotHeap$Walk" ({ cls := "SnapshotHeap$Walk", name := "hasMet", desc := "(I)Z" } : Jvm.MethodName) ({ cls := "SnapshotHeap$Walk", name := "hasMet", desc := "(I)Z" } : Jvm.MethodName)) ∈ lw_good := tw_at 292 (by decide +kernel) rfl
set_option maxRecDepth 100000 in
theorem tw_293 : (Jvm.Cond.code ({ cls := "SnapshotHeap$Walk", name := "hasMet", desc := "(I)Z" } : Jvm.MethodName) prog_7_method_5_code (2 : Nat) (Option.some Jvm.ClassFile.FieldType.boolean)) ∈ lw_good := tw_at 293 rfl rfl
theorem tw_294 : (Jvm.Cond.constantLong "SnapshotHeap$Walk" (85 : Nat) (2 : Int64)) ∈ lw_good := tw_at 294 (by decide +kernel) rfl
theorem tw_295 : (Jvm.Cond.methodLink "SnapshotHeap$Walk" (87 : Nat) ({ cls := "SnapshotHeap$Walk", name := "meetFirst", desc := "(I)V" } : Jvm.MethodName)) ∈ lw_good := tw_at 295 (by decide +kernel) rfl
theorem tn_296 : (Jvm.Cond.privateMethod ({ cls := "SnapshotHeap$Walk", name := "meetFirst", desc := "(I)V" } : Jvm.MethodName)) ∈ lw_tbl := List.mem_append_right _ (List.mem_of_getElem? (i := 296) (by decide +kernel))
theorem tw_297 : (Jvm.Cond.instanceMethod ({ cls := "SnapshotHeap$Walk", name := "meetFirst", desc := "(I)V" } : Jvm.MethodName)) ∈ lw_good := tw_at 297 (by decide +kernel) rfl
set_option maxRecDepth 100000 in
theorem tw_298 : (Jvm.Cond.code ({ cls := "SnapshotHeap$Walk", name := "meetFirst", desc := "(I)V" } : Jvm.MethodName) prog_7_method_9_code (3 : Nat) (Option.none : Option Jvm.ClassFile.FieldType)) ∈ lw_good := tw_at 298 rfl rfl
theorem tw_299 : (Jvm.Cond.methodLink "SnapshotHeap$Walk" (90 : Nat) ({ cls := "SnapshotHeap$Store", name := "cellsFor", desc := "(I)I" } : Jvm.MethodName)) ∈ lw_good := tw_at 299 (by decide +kernel) rfl
theorem tw_300 : (Jvm.Cond.constantLong "SnapshotHeap$Walk" (93 : Nat) (3 : Int64)) ∈ lw_good := tw_at 300 (by decide +kernel) rfl
theorem tw_301 : (Jvm.Cond.methodLink "SnapshotHeap" (122 : Nat) ({ cls := "SnapshotHeap$Walk", name := "hash", desc := "()J" } : Jvm.MethodName)) ∈ lw_good := tw_at 301 (by decide +kernel) rfl
theorem tw_302 : (Jvm.Cond.instanceMethod ({ cls := "SnapshotHeap$Walk", name := "hash", desc := "()J" } : Jvm.MethodName)) ∈ lw_good := tw_at 302 (by decide +kernel) rfl
theorem tw_303 : (Jvm.Cond.selects "SnapshotHeap$Walk" ({ cls := "SnapshotHeap$Walk", name := "hash", desc := "()J" } : Jvm.MethodName) ({ cls := "SnapshotHeap$Walk", name := "hash", desc := "()J" } : Jvm.MethodName)) ∈ lw_good := tw_at 303 (by decide +kernel) rfl
set_option maxRecDepth 100000 in
theorem tw_304 : (Jvm.Cond.code ({ cls := "SnapshotHeap$Walk", name := "hash", desc := "()J" } : Jvm.MethodName) prog_7_method_4_code (1 : Nat) (Option.some Jvm.ClassFile.FieldType.long)) ∈ lw_good := tw_at 304 rfl rfl
theorem tw_305 : (Jvm.Cond.methodLink "SnapshotHeapLaw" (114 : Nat) ({ cls := "SnapshotHeap", name := "collect", desc := "()I" } : Jvm.MethodName)) ∈ lw_good := tw_at 305 (by decide +kernel) rfl
theorem tw_306 : (Jvm.Cond.instanceMethod ({ cls := "SnapshotHeap", name := "collect", desc := "()I" } : Jvm.MethodName)) ∈ lw_good := tw_at 306 (by decide +kernel) rfl
theorem tw_307 : (Jvm.Cond.selects "SnapshotHeap" ({ cls := "SnapshotHeap", name := "collect", desc := "()I" } : Jvm.MethodName) ({ cls := "SnapshotHeap", name := "collect", desc := "()I" } : Jvm.MethodName)) ∈ lw_good := tw_at 307 (by decide +kernel) rfl
set_option maxRecDepth 100000 in
theorem tw_308 : (Jvm.Cond.code ({ cls := "SnapshotHeap", name := "collect", desc := "()I" } : Jvm.MethodName) prog_1_method_14_code (1 : Nat) (Option.some Jvm.ClassFile.FieldType.int)) ∈ lw_good := tw_at 308 rfl rfl
theorem tw_309 : (Jvm.Cond.methodLink "SnapshotHeap" (63 : Nat) ({ cls := "SnapshotHeap$Collector", name := "collectWhole", desc := "()V" } : Jvm.MethodName)) ∈ lw_good := tw_at 309 (by decide +kernel) rfl
theorem tw_310 : (Jvm.Cond.instanceMethod ({ cls := "SnapshotHeap$Collector", name := "collectWhole", desc := "()V" } : Jvm.MethodName)) ∈ lw_good := tw_at 310 (by decide +kernel) rfl
theorem tw_311 : (Jvm.Cond.selects "SnapshotHeap$Collector" ({ cls := "SnapshotHeap$Collector", name := "collectWhole", desc := "()V" } : Jvm.MethodName) ({ cls := "SnapshotHeap$Collector", name := "collectWhole", desc := "()V" } : Jvm.MethodName)) ∈ lw_good := tw_at 311 (by decide +kernel) rfl
set_option maxRecDepth 100000 in
theorem tw_312 : (Jvm.Cond.code ({ cls := "SnapshotHeap$Collector", name := "collectWhole", desc := "()V" } : Jvm.MethodName) prog_3_method_5_code (2 : Nat) (Option.none : Option Jvm.ClassFile.FieldType)) ∈ lw_good := tw_at 312 rfl rfl
theorem tw_313 : (Jvm.Cond.methodLink "SnapshotHeap$Collector" (40 : Nat) ({ cls := "SnapshotHeap$Marking", name := "reset", desc := "()V" } : Jvm.MethodName)) ∈ lw_good := tw_at 313 (by decide +kernel) rfl
theorem tw_314 : (Jvm.Cond.instanceMethod ({ cls := "SnapshotHeap$Marking", name := "reset", desc := "()V" } : Jvm.MethodName)) ∈ lw_good := tw_at 314 (by decide +kernel) rfl
theorem tw_315 : (Jvm.Cond.selects "SnapshotHeap$Marking" ({ cls := "SnapshotHeap$Marking", name := "reset", desc := "()V" } : Jvm.MethodName) ({ cls := "SnapshotHeap$Marking", name := "reset", desc := "()V" } : Jvm.MethodName)) ∈ lw_good := tw_at 315 (by decide +kernel) rfl
set_option maxRecDepth 100000 in
theorem tw_316 : (Jvm.Cond.code ({ cls := "SnapshotHeap$Marking", name := "reset", desc := "()V" } : Jvm.MethodName) prog_4_method_2_code (1 : Nat) (Option.none : Option Jvm.ClassFile.FieldType)) ∈ lw_good := tw_at 316 rfl rfl
theorem tw_317 : (Jvm.Cond.methodLink "SnapshotHeap$Marking" (26 : Nat) ({ cls := "java/util/Arrays", name := "fill", desc := "([II)V" } : Jvm.MethodName)) ∈ lw_good := tw_at 317 (by decide +kernel) rfl
theorem tw_318 : (Jvm.Cond.methodLink "SnapshotHeap" (126 : Nat) ({ cls := "SnapshotHeap$Store", name := "tuples", desc := "()I" } : Jvm.MethodName)) ∈ lw_good := tw_at 318 (by decide +kernel) rfl
theorem tw_319 : (Jvm.Cond.instanceMethod ({ cls := "SnapshotHeap$Store", name := "tuples", desc := "()I" } : Jvm.MethodName)) ∈ lw_good := tw_at 319 (by decide +kernel) rfl
theorem tw_320 : (Jvm.Cond.selects "SnapshotHeap$Store" ({ cls := "SnapshotHeap$Store", name := "tuples", desc := "()I" } : Jvm.MethodName) ({ cls := "SnapshotHeap$Store", name := "tuples", desc := "()I" } : Jvm.MethodName)) ∈ lw_good := tw_at 320 (by decide +kernel) rfl
set_option maxRecDepth 100000 in
theorem tw_321 : (Jvm.Cond.code ({ cls := "SnapshotHeap$Store", name := "tuples", desc := "()I" } : Jvm.MethodName) prog_6_method_7_code (1 : Nat) (Option.some Jvm.ClassFile.FieldType.int)) ∈ lw_good := tw_at 321 rfl rfl
theorem tw_322 : (Jvm.Cond.methodLink "SnapshotHeapLaw" (118 : Nat) ({ cls := "SnapshotHeap", name := "check", desc := "()I" } : Jvm.MethodName)) ∈ lw_good := tw_at 322 (by decide +kernel) rfl
theorem tw_323 : (Jvm.Cond.instanceMethod ({ cls := "SnapshotHeap", name := "check", desc := "()I" } : Jvm.MethodName)) ∈ lw_good := tw_at 323 (by decide +kernel) rfl
theorem tw_324 : (Jvm.Cond.selects "SnapshotHeap" ({ cls := "SnapshotHeap", name := "check", desc := "()I" } : Jvm.MethodName) ({ cls := "SnapshotHeap", name := "check", desc := "()I" } : Jvm.MethodName)) ∈ lw_good := tw_at 324 (by decide +kernel) rfl
set_option maxRecDepth 100000 in
theorem tw_325 : (Jvm.Cond.code ({ cls := "SnapshotHeap", name := "check", desc := "()I" } : Jvm.MethodName) prog_1_method_15_code (1 : Nat) (Option.some Jvm.ClassFile.FieldType.int)) ∈ lw_good := tw_at 325 rfl rfl
theorem tw_326 : (Jvm.Cond.methodLink "SnapshotHeap" (127 : Nat) ({ cls := "SnapshotHeap$Audit", name := "faults", desc := "()I" } : Jvm.MethodName)) ∈ lw_good := tw_at 326 (by decide +kernel) rfl
theorem tw_327 : (Jvm.Cond.instanceMethod ({ cls := "SnapshotHeap$Audit", name := "faults", desc := "()I" } : Jvm.MethodName)) ∈ lw_good := tw_at 327 (by decide +kernel) rfl
theorem tw_328 : (Jvm.Cond.selects "SnapshotHeap$Audit" ({ cls := "SnapshotHeap$Audit", name := "faults", desc := "()I" } : Jvm.MethodName) ({ cls := "SnapshotHeap$Audit", name := "faults", desc := "()I" } : Jvm.MethodName)) ∈ lw_good := tw_at 328 (by decide +kernel) rfl
set_option maxRecDepth 100000 in
theorem tw_329 : (Jvm.Cond.code ({ cls := "SnapshotHeap$Audit", name := "faults", desc := "()I" } : Jvm.MethodName) prog_2_method_2_code (4 : Nat) (Option.some Jvm.ClassFile.FieldType.int)) ∈ lw_good := tw_at 329 rfl rfl
theorem tw_330 : (Jvm.Cond.methodLink "SnapshotHeap$Audit" (36 : Nat) ({ cls := "SnapshotHeap$Walk", name := "run", desc := "()V" } : Jvm.MethodName)) ∈ lw_good := tw_at 330 (by decide +kernel) rfl
theorem tw_331 : (Jvm.Cond.methodLink "SnapshotHeap$Audit" (41 : Nat) ({ cls := "SnapshotHeap$Store", name := "countHolders", desc := "([I)V" } : Jvm.MethodName)) ∈ lw_good := tw_at 331 (by decide +kernel) rfl
theorem tw_332 : (Jvm.Cond.instanceMethod ({ cls := "SnapshotHeap$Store", name := "countHolders", desc := "([I)V" } : Jvm.MethodName)) ∈ lw_good := tw_at 332 (by decide +kernel) rfl
theorem tw_333 : (Jvm.Cond.selects "SnapshotHeap$Store" ({ cls := "SnapshotHeap$Store", name := "countHolders", desc := "([I)V" } : Jvm.MethodName) ({ cls := "SnapshotHeap$Store", name := "countHolders", desc := "([I)V" } : Jvm.MethodName)) ∈ lw_good := tw_at 333 (by decide +kernel) rfl
set_option maxRecDepth 100000 in
theorem tw_334 : (Jvm.Cond.code ({ cls := "SnapshotHeap$Store", name := "countHolders", desc := "([I)V" } : Jvm.MethodName) prog_6_method_18_code (3 : Nat) (Option.none : Option Jvm.ClassFile.FieldType)) ∈ lw_good := tw_at 334 rfl rfl
theorem tw_335 : (Jvm.Cond.methodLink "SnapshotHeap$Store" (56 : Nat) ({ cls := "SnapshotHeap$Store", name := "isFree", desc := "(I)Z" } : Jvm.MethodName)) ∈ lw_good := tw_at 335 (by decide +kernel) rfl
theorem tw_336 : (Jvm.Cond.methodLink "SnapshotHeap$Audit" (47 : Nat) ({ cls := "SnapshotHeap$Audit", name := "markToTheEnd", desc := "()V" } : Jvm.MethodName)) ∈ lw_good := tw_at 336 (by decide +kernel) rfl
theorem tn_337 : (Jvm.Cond.privateMethod ({ cls := "SnapshotHeap$Audit", name := "markToTheEnd", desc := "()V" } : Jvm.MethodName)) ∈ lw_tbl := List.mem_append_right _ (List.mem_of_getElem? (i := 337) (by decide +kernel))
theorem tw_338 : (Jvm.Cond.instanceMethod ({ cls := "SnapshotHeap$Audit", name := "markToTheEnd", desc := "()V" } : Jvm.MethodName)) ∈ lw_good := tw_at 338 (by decide +kernel) rfl
set_option maxRecDepth 100000 in
theorem tw_339 : (Jvm.Cond.code ({ cls := "SnapshotHeap$Audit", name := "markToTheEnd", desc := "()V" } : Jvm.MethodName) prog_2_method_3_code (3 : Nat) (Option.none : Option Jvm.ClassFile.FieldType)) ∈ lw_good := tw_at 339 rfl rfl
theorem tw_340 : (Jvm.Cond.methodLink "SnapshotHeap$Audit" (64 : Nat) ({ cls := "SnapshotHeap$Collector", name := "marking", desc := "()LSnapshotHeap$Marking;" } : Jvm.MethodName)) ∈ lw_good := tw_at 340 (by decide +kernel) rfl
theorem tw_341 : (Jvm.Cond.instanceMethod ({ cls := "SnapshotHeap$Collector", name := "marking", desc := "()LSnapshotHeap$Marking;" } : Jvm.MethodName)) ∈ lw_good := tw_at 341 (by decide +kernel) rfl
theorem tw_342 : (Jvm.Cond.selects "SnapshotHeap$Collector" ({ cls := "SnapshotHeap$Collector", name := "marking", desc := "()LSnapshotHeap$Marking;" } : Jvm.MethodName) ({ cls := "SnapshotHeap$Collector", name := "marking", desc := "()LSnapshotHeap$Marking;" } : Jvm.MethodName)) ∈ lw_good := tw_at 342 (by decide +kernel) rfl
set_option maxRecDepth 100000 in
theorem tw_343 : (Jvm.Cond.code ({ cls := "SnapshotHeap$Collector", name := "marking", desc := "()LSnapshotHeap$Marking;" } : Jvm.MethodName) prog_3_method_3_code (1 : Nat) (Option.some (Jvm.ClassFile.FieldType.object "SnapshotHeap$Marking"))) ∈ lw_good := tw_at 343 rfl rfl
theorem tw_344 : (Jvm.Cond.methodLink "SnapshotHeap$Audit" (70 : Nat) ({ cls := "SnapshotHeap$Marking", name := "imitate", desc := "(LSnapshotHeap$Marking;)V" } : Jvm.MethodName)) ∈ lw_good := tw_at 344 (by decide +kernel) rfl
theorem tw_345 : (Jvm.Cond.instanceMethod ({ cls := "SnapshotHeap$Marking", name := "imitate", desc := "(LSnapshotHeap$Marking;)V" } : Jvm.MethodName)) ∈ lw_good := tw_at 345 (by decide +kernel) rfl
theorem tw_346 : (Jvm.Cond.selects "SnapshotHeap$Marking" ({ cls := "SnapshotHeap$Marking", name := "imitate", desc := "(LSnapshotHeap$Marking;)V" } : Jvm.MethodName) ({ cls := "SnapshotHeap$Marking", name := "imitate", desc := "(LSnapshotHeap$Marking;)V" } : Jvm.MethodName)) ∈ lw_good := tw_at 346 (by decide +kernel) rfl
set_option maxRecDepth 100000 in
theorem tw_347 : (Jvm.Cond.code ({ cls := "SnapshotHeap$Marking", name := "imitate", desc := "(LSnapshotHeap$Marking;)V" } : Jvm.MethodName) prog_4_method_3_code (2 : Nat) (Option.none : Option Jvm.ClassFile.FieldType)) ∈ lw_good := tw_at 347 rfl rfl
theorem tw_348 : (Jvm.Cond.methodLink "SnapshotHeap$Marking" (32 : Nat) ({ cls := "java/lang/System", name := "arraycopy", desc := "(Ljava/lang/Object;ILjava/lang/Object;II)V" } : Jvm.MethodName)) ∈ lw_good := tw_at 348 (by decide +kernel) rfl
theorem tw_349 : (Jvm.Cond.static ({ cls := "java/lang/System", name := "arraycopy", desc := "(Ljava/lang/Object;ILjava/lang/Object;II)V" } : Jvm.MethodName)) ∈ lw_good := tw_at 349 (by decide +kernel) rfl
theorem tw_350 : (Jvm.Cond.native ({ cls := "java/lang/System", name := "arraycopy", desc := "(Ljava/lang/Object;ILjava/lang/Object;II)V" } : Jvm.MethodName)) ∈ lw_good := tw_at 350 (by decide +kernel) rfl
theorem tw_351 : (Jvm.Cond.methodLink "SnapshotHeap$Audit" (74 : Nat) ({ cls := "SnapshotHeap$Collector", name := "phase", desc := "()LSnapshotHeap$Phase;" } : Jvm.MethodName)) ∈ lw_good := tw_at 351 (by decide +kernel) rfl
theorem tw_352 : (Jvm.Cond.instanceMethod ({ cls := "SnapshotHeap$Collector", name := "phase", desc := "()LSnapshotHeap$Phase;" } : Jvm.MethodName)) ∈ lw_good := tw_at 352 (by decide +kernel) rfl
theorem tw_353 : (Jvm.Cond.selects "SnapshotHeap$Collector" ({ cls := "SnapshotHeap$Collector", name := "phase", desc := "()LSnapshotHeap$Phase;" } : Jvm.MethodName) ({ cls := "SnapshotHeap$Collector", name := "phase", desc := "()LSnapshotHeap$Phase;" } : Jvm.MethodName)) ∈ lw_good := tw_at 353 (by decide +kernel) rfl
set_option maxRecDepth 100000 in
theorem tw_354 : (Jvm.Cond.code ({ cls := "SnapshotHeap$Collector", name := "phase", desc := "()LSnapshotHeap$Phase;" } : Jvm.MethodName) prog_3_method_2_code (1 : Nat) (Option.some (Jvm.ClassFile.FieldType.object "SnapshotHeap$Phase"))) ∈ lw_good := tw_at 354 rfl rfl
theorem tw_355 : (Jvm.Cond.fieldLink "SnapshotHeap$Audit" (78 : Nat) "SnapshotHeap$Phase" "MARKING" "LSnapshotHeap$Phase;") ∈ lw_good := tw_at 355 (by decide +kernel) rfl
theorem tw_356 : (Jvm.Cond.methodLink "SnapshotHeap$Audit" (84 : Nat) ({ cls := "SnapshotHeap$Marking", name := "isDone", desc := "()Z" } : Jvm.MethodName)) ∈ lw_good := tw_at 356 (by decide +kernel) rfl
theorem tw_357 : (Jvm.Cond.methodLink "SnapshotHeap$Audit" (88 : Nat) ({ cls := "SnapshotHeap$Marking", name := "markOne", desc := "()V" } : Jvm.MethodName)) ∈ lw_good := tw_at 357 (by decide +kernel) rfl
theorem tw_358 : (Jvm.Cond.methodLink "SnapshotHeap$Audit" (50 : Nat) ({ cls := "SnapshotHeap$Store", name := "top", desc := "()I" } : Jvm.MethodName)) ∈ lw_good := tw_at 358 (by decide +kernel) rfl
theorem tw_359 : (Jvm.Cond.methodLink "SnapshotHeap$Audit" (54 : Nat) ({ cls := "SnapshotHeap$Walk", name := "hasMet", desc := "(I)Z" } : Jvm.MethodName)) ∈ lw_good := tw_at 359 (by decide +kernel) rfl
theorem tw_360 : (Jvm.Cond.methodLink "SnapshotHeap$Audit" (58 : Nat) ({ cls := "SnapshotHeap$Store", name := "isFree", desc := "(I)Z" } : Jvm.MethodName)) ∈ lw_good := tw_at 360 (by decide +kernel) rfl
theorem tw_361 : (Jvm.Cond.methodLink "SnapshotHeap$Audit" (61 : Nat) ({ cls := "SnapshotHeap$Audit", name := "isMarkWrong", desc := "(I)Z" } : Jvm.MethodName)) ∈ lw_good := tw_at 361 (by decide +kernel) rfl
theorem tn_362 : (Jvm.Cond.privateMethod ({ cls := "SnapshotHeap$Audit", name := "isMarkWrong", desc := "(I)Z" } : Jvm.MethodName)) ∈ lw_tbl := List.mem_append_right _ (List.mem_of_getElem? (i := 362) (by decide +kernel))
theorem tw_363 : (Jvm.Cond.instanceMethod ({ cls := "SnapshotHeap$Audit", name := "isMarkWrong", desc := "(I)Z" } : Jvm.MethodName)) ∈ lw_good := tw_at 363 (by decide +kernel) rfl
set_option maxRecDepth 100000 in
theorem tw_364 : (Jvm.Cond.code ({ cls := "SnapshotHeap$Audit", name := "isMarkWrong", desc := "(I)Z" } : Jvm.MethodName) prog_2_method_4_code (2 : Nat) (Option.some Jvm.ClassFile.FieldType.boolean)) ∈ lw_good := tw_at 364 rfl rfl
theorem tw_365 : (Jvm.Cond.methodLink "SnapshotHeap$Audit" (91 : Nat) ({ cls := "SnapshotHeap$Audit", name := "isMarkInUse", desc := "(I)Z" } : Jvm.MethodName)) ∈ lw_good := tw_at 365 (by decide +kernel) rfl
theorem tn_366 : (Jvm.Cond.privateMethod ({ cls := "SnapshotHeap$Audit", name := "isMarkInUse", desc := "(I)Z" } : Jvm.MethodName)) ∈ lw_tbl := List.mem_append_right _ (List.mem_of_getElem? (i := 366) (by decide +kernel))
theorem tw_367 : (Jvm.Cond.instanceMethod ({ cls := "SnapshotHeap$Audit", name := "isMarkInUse", desc := "(I)Z" } : Jvm.MethodName)) ∈ lw_good := tw_at 367 (by decide +kernel) rfl
set_option maxRecDepth 100000 in
theorem tw_368 : (Jvm.Cond.code ({ cls := "SnapshotHeap$Audit", name := "isMarkInUse", desc := "(I)Z" } : Jvm.MethodName) prog_2_method_5_code (2 : Nat) (Option.some Jvm.ClassFile.FieldType.boolean)) ∈ lw_good := tw_at 368 rfl rfl
theorem tw_369 : (Jvm.Cond.methodLink "SnapshotHeap$Audit" (103 : Nat) ({ cls := "SnapshotHeap$Collector", name := "isYetToBeSwept", desc := "(I)Z" } : Jvm.MethodName)) ∈ lw_good := tw_at 369 (by decide +kernel) rfl
theorem tw_370 : (Jvm.Cond.instanceMethod ({ cls := "SnapshotHeap$Collector", name := "isYetToBeSwept", desc := "(I)Z" } : Jvm.MethodName)) ∈ lw_good := tw_at 370 (by decide +kernel) rfl
theorem tw_371 : (Jvm.Cond.selects "SnapshotHeap$Collector" ({ cls := "SnapshotHeap$Collector", name := "isYetToBeSwept", desc := "(I)Z" } : Jvm.MethodName) ({ cls := "SnapshotHeap$Collector", name := "isYetToBeSwept", desc := "(I)Z" } : Jvm.MethodName)) ∈ lw_good := tw_at 371 (by decide +kernel) rfl
set_option maxRecDepth 100000 in
theorem tw_372 : (Jvm.Cond.code ({ cls := "SnapshotHeap$Collector", name := "isYetToBeSwept", desc := "(I)Z" } : Jvm.MethodName) prog_3_method_8_code (2 : Nat) (Option.some Jvm.ClassFile.FieldType.boolean)) ∈ lw_good := tw_at 372 rfl rfl
theorem tw_373 : (Jvm.Cond.methodLink "SnapshotHeap$Audit" (94 : Nat) ({ cls := "SnapshotHeap$Marking", name := "isWhite", desc := "(I)Z" } : Jvm.MethodName)) ∈ lw_good := tw_at 373 (by decide +kernel) rfl
theorem tw_374 : (Jvm.Cond.instanceMethod ({ cls := "SnapshotHeap$Marking", name := "isWhite", desc := "(I)Z" } : Jvm.MethodName)) ∈ lw_good := tw_at 374 (by decide +kernel) rfl
theorem tw_375 : (Jvm.Cond.selects "SnapshotHeap$Marking" ({ cls := "SnapshotHeap$Marking", name := "isWhite", desc := "(I)Z" } : Jvm.MethodName) ({ cls := "SnapshotHeap$Marking", name := "isWhite", desc := "(I)Z" } : Jvm.MethodName)) ∈ lw_good := tw_at 375 (by decide +kernel) rfl
set_option maxRecDepth 100000 in
theorem tw_376 : (Jvm.Cond.code ({ cls := "SnapshotHeap$Marking", name := "isWhite", desc := "(I)Z" } : Jvm.MethodName) prog_4_method_5_code (2 : Nat) (Option.some Jvm.ClassFile.FieldType.boolean)) ∈ lw_good := tw_at 376 rfl rfl
theorem tw_377 : (Jvm.Cond.methodLink "SnapshotHeap$Audit" (97 : Nat) ({ cls := "SnapshotHeap$Marking", name := "isGrey", desc := "(I)Z" } : Jvm.MethodName)) ∈ lw_good := tw_at 377 (by decide +kernel) rfl
theorem tw_378 : (Jvm.Cond.instanceMethod ({ cls := "SnapshotHeap$Marking", name := "isGrey", desc := "(I)Z" } : Jvm.MethodName)) ∈ lw_good := tw_at 378 (by decide +kernel) rfl
theorem tw_379 : (Jvm.Cond.selects "SnapshotHeap$Marking" ({ cls := "SnapshotHeap$Marking", name := "isGrey", desc := "(I)Z" } : Jvm.MethodName) ({ cls := "SnapshotHeap$Marking", name := "isGrey", desc := "(I)Z" } : Jvm.MethodName)) ∈ lw_good := tw_at 379 (by decide +kernel) rfl
set_option maxRecDepth 100000 in
theorem tw_380 : (Jvm.Cond.code ({ cls := "SnapshotHeap$Marking", name := "isGrey", desc := "(I)Z" } : Jvm.MethodName) prog_4_method_6_code (2 : Nat) (Option.some Jvm.ClassFile.FieldType.boolean)) ∈ lw_good := tw_at 380 rfl rfl
theorem tw_381 : (Jvm.Cond.methodLink "SnapshotHeap$Audit" (100 : Nat) ({ cls := "SnapshotHeap$Marking", name := "isBlack", desc := "(I)Z" } : Jvm.MethodName)) ∈ lw_good := tw_at 381 (by decide +kernel) rfl
theorem tw_382 : (Jvm.Cond.methodLink "SnapshotHeapLaw" (62 : Nat) ({ cls := "SnapshotHeapLaw", name := "tuple", desc := "(LSnapshotHeap;II[J)I" } : Jvm.MethodName)) ∈ lw_good := tw_at 382 (by decide +kernel) rfl
theorem tw_383 : (Jvm.Cond.static ({ cls := "SnapshotHeapLaw", name := "tuple", desc := "(LSnapshotHeap;II[J)I" } : Jvm.MethodName)) ∈ lw_good := tw_at 383 (by decide +kernel) rfl
set_option maxRecDepth 100000 in
theorem tw_384 : (Jvm.Cond.codeWith ({ cls := "SnapshotHeapLaw", name := "tuple", desc := "(LSnapshotHeap;II[J)I" } : Jvm.MethodName) method_3_code (5 : Nat) (Option.some Jvm.ClassFile.FieldType.int) [((0 : Nat), (10 : Nat), (13 : Nat), (13 : Nat)), ((0 : Nat), (10 : Nat), (17 : Nat), (15 : Nat)), ((0 : Nat), (10 : Nat), (21 : Nat), (17 : Nat))]) ∈ lw_good := tw_at 384 rfl rfl
theorem tw_385 : (Jvm.Cond.classLink "SnapshotHeapLaw" (13 : Nat) "java/lang/IndexOutOfBoundsException") ∈ lw_good := tw_at 385 (by decide +kernel) rfl
theorem tw_386 : (Jvm.Cond.classLink "SnapshotHeapLaw" (15 : Nat) "java/lang/IllegalArgumentException") ∈ lw_good := tw_at 386 (by decide +kernel) rfl
theorem tw_387 : (Jvm.Cond.classLink "SnapshotHeapLaw" (17 : Nat) "java/lang/IllegalStateException") ∈ lw_good := tw_at 387 (by decide +kernel) rfl
theorem tw_388 : (Jvm.Cond.methodLink "SnapshotHeapLaw" (7 : Nat) ({ cls := "SnapshotHeap", name := "tuple", desc := "(II)I" } : Jvm.MethodName)) ∈ lw_good := tw_at 388 (by decide +kernel) rfl
theorem tw_389 : (Jvm.Cond.instanceMethod ({ cls := "SnapshotHeap", name := "tuple", desc := "(II)I" } : Jvm.MethodName)) ∈ lw_good := tw_at 389 (by decide +kernel) rfl
theorem tw_390 : (Jvm.Cond.selects "SnapshotHeap" ({ cls := "SnapshotHeap", name := "tuple", desc := "(II)I" } : Jvm.MethodName) ({ cls := "SnapshotHeap", name := "tuple", desc := "(II)I" } : Jvm.MethodName)) ∈ lw_good := tw_at 390 (by decide +kernel) rfl
set_option maxRecDepth 100000 in
theorem tw_391 : (Jvm.Cond.code ({ cls := "SnapshotHeap", name := "tuple", desc := "(II)I" } : Jvm.MethodName) prog_1_method_2_code (3 : Nat) (Option.some Jvm.ClassFile.FieldType.int)) ∈ lw_good := tw_at 391 rfl rfl
theorem tw_392 : (Jvm.Cond.methodLink "SnapshotHeap" (52 : Nat) ({ cls := "SnapshotHeap", name := "requireRoot", desc := "(I)V" } : Jvm.MethodName)) ∈ lw_good := tw_at 392 (by decide +kernel) rfl
theorem tw_393 : (Jvm.Cond.static ({ cls := "SnapshotHeap", name := "requireRoot", desc := "(I)V" } : Jvm.MethodName)) ∈ lw_good := tw_at 393 (by decide +kernel) rfl
set_option maxRecDepth 100000 in
theorem tw_394 : (Jvm.Cond.code ({ cls := "SnapshotHeap", name := "requireRoot", desc := "(I)V" } : Jvm.MethodName) prog_1_method_16_code (1 : Nat) (Option.none : Option Jvm.ClassFile.FieldType)) ∈ lw_good := tw_at 394 rfl rfl
theorem tw_395 : (Jvm.Cond.classLink "SnapshotHeap" (130 : Nat) "java/lang/IndexOutOfBoundsException") ∈ lw_good := tw_at 395 (by decide +kernel) rfl
theorem tw_396 : (Jvm.Cond.instantiable "java/lang/IndexOutOfBoundsException" (6 : Nat)) ∈ lw_good := tw_at 396 (by decide +kernel) rfl
theorem tn_397 : (Jvm.Cond.castable "java/lang/IndexOutOfBoundsException" "java/lang/IndexOutOfBoundsException") ∈ lw_tbl := List.mem_append_right _ (List.mem_of_getElem? (i := 397) (by decide +kernel))
theorem tn_398 : (Jvm.Cond.declares ({ cls := "java/lang/RuntimeException", name := "<init>", desc := "()V" } : Jvm.MethodName)) ∈ lw_tbl := List.mem_append_right _ (List.mem_of_getElem? (i := 398) (by decide +kernel))
theorem tn_399 : (Jvm.Cond.declares ({ cls := "java/lang/RuntimeException", name := "<init>", desc := "(Ljava/lang/String;)V" } : Jvm.MethodName)) ∈ lw_tbl := List.mem_append_right _ (List.mem_of_getElem? (i := 399) (by decide +kernel))
theorem tn_400 : (Jvm.Cond.declares ({ cls := "java/lang/Exception", name := "<init>", desc := "()V" } : Jvm.MethodName)) ∈ lw_tbl := List.mem_append_right _ (List.mem_of_getElem? (i := 400) (by decide +kernel))
theorem tn_401 : (Jvm.Cond.declares ({ cls := "java/lang/Exception", name := "<init>", desc := "(Ljava/lang/String;)V" } : Jvm.MethodName)) ∈ lw_tbl := List.mem_append_right _ (List.mem_of_getElem? (i := 401) (by decide +kernel))
theorem tn_402 : (Jvm.Cond.declares ({ cls := "java/lang/Throwable", name := "<init>", desc := "()V" } : Jvm.MethodName)) ∈ lw_tbl := List.mem_append_right _ (List.mem_of_getElem? (i := 402) (by decide +kernel))
theorem tn_403 : (Jvm.Cond.declares ({ cls := "java/lang/Throwable", name := "<init>", desc := "(Ljava/lang/String;)V" } : Jvm.MethodName)) ∈ lw_tbl := List.mem_append_right _ (List.mem_of_getElem? (i := 403) (by decide +kernel))
theorem tw_404 : (Jvm.Cond.selects "java/lang/IndexOutOfBoundsException" ({ cls := "java/lang/Throwable", name := "fillInStackTrace", desc := "(I)Ljava/lang/Throwable;" } : Jvm.MethodName) ({ cls := "java/lang/Throwable", name := "fillInStackTrace", desc := "(I)Ljava/lang/Throwable;" } : Jvm.MethodName)) ∈ lw_good := tw_at 404 (by decide +kernel) rfl
theorem tw_405 : (Jvm.Cond.selects "java/lang/IndexOutOfBoundsException" ({ cls := "java/lang/Throwable", name := "fillInStackTrace", desc := "()Ljava/lang/Throwable;" } : Jvm.MethodName) ({ cls := "java/lang/Throwable", name := "fillInStackTrace", desc := "()Ljava/lang/Throwable;" } : Jvm.MethodName)) ∈ lw_good := tw_at 405 (by decide +kernel) rfl
theorem tw_406 : (Jvm.Cond.lays "java/lang/IndexOutOfBoundsException" "java/lang/Throwable" "cause" "Ljava/lang/Throwable;") ∈ lw_good := tw_at 406 (by decide +kernel) rfl
theorem tw_407 : (Jvm.Cond.lays "java/lang/Throwable" "java/lang/Throwable" "cause" "Ljava/lang/Throwable;") ∈ lw_good := tw_at 407 (by decide +kernel) rfl
theorem tw_408 : (Jvm.Cond.lays "java/lang/IndexOutOfBoundsException" "java/lang/Throwable" "stackTrace" "[Ljava/lang/StackTraceElement;") ∈ lw_good := tw_at 408 (by decide +kernel) rfl
theorem tw_409 : (Jvm.Cond.lays "java/lang/Throwable" "java/lang/Throwable" "stackTrace" "[Ljava/lang/StackTraceElement;") ∈ lw_good := tw_at 409 (by decide +kernel) rfl
theorem tw_410 : (Jvm.Cond.lays "java/lang/IndexOutOfBoundsException" "java/lang/Throwable" "suppressedExceptions" "Ljava/util/List;") ∈ lw_good := tw_at 410 (by decide +kernel) rfl
theorem tw_411 : (Jvm.Cond.lays "java/lang/Throwable" "java/lang/Throwable" "suppressedExceptions" "Ljava/util/List;") ∈ lw_good := tw_at 411 (by decide +kernel) rfl
theorem tw_412 : (Jvm.Cond.lays "java/lang/IndexOutOfBoundsException" "java/lang/Throwable" "detailMessage" "Ljava/lang/String;") ∈ lw_good := tw_at 412 (by decide +kernel) rfl
theorem tw_413 : (Jvm.Cond.lays "java/lang/Throwable" "java/lang/Throwable" "detailMessage" "Ljava/lang/String;") ∈ lw_good := tw_at 413 (by decide +kernel) rfl
theorem tw_414 : (Jvm.Cond.lays "java/lang/IndexOutOfBoundsException" "java/lang/Throwable" "backtrace" "Ljava/lang/Object;") ∈ lw_good := tw_at 414 (by decide +kernel) rfl
theorem tw_415 : (Jvm.Cond.lays "java/lang/Throwable" "java/lang/Throwable" "backtrace" "Ljava/lang/Object;") ∈ lw_good := tw_at 415 (by decide +kernel) rfl
theorem tw_416 : (Jvm.Cond.fieldLink "java/lang/Throwable" (198 : Nat) "java/lang/Throwable" "backtrace" "Ljava/lang/Object;") ∈ lw_good := tw_at 416 (by decide +kernel) rfl
theorem tw_417 : (Jvm.Cond.superclass "java/lang/Throwable" "java/lang/Object") ∈ lw_good := tw_at 417 (by decide +kernel) rfl
theorem tw_418 : (Jvm.Cond.instanceMethod ({ cls := "java/lang/Throwable", name := "<init>", desc := "()V" } : Jvm.MethodName)) ∈ lw_good := tw_at 418 (by decide +kernel) rfl
set_option maxRecDepth 100000 in
theorem tw_419 : (Jvm.Cond.code ({ cls := "java/lang/Throwable", name := "<init>", desc := "()V" } : Jvm.MethodName) prog_18_method_1_code (1 : Nat) (Option.none : Option Jvm.ClassFile.FieldType)) ∈ lw_good := tw_at 419 rfl rfl
theorem tw_420 : (Jvm.Cond.methodLink "java/lang/Throwable" (1 : Nat) ({ cls := "java/lang/Object", name := "<init>", desc := "()V" } : Jvm.MethodName)) ∈ lw_good := tw_at 420 (by decide +kernel) rfl
theorem tw_421 : (Jvm.Cond.fieldLink "java/lang/Throwable" (13 : Nat) "java/lang/Throwable" "UNASSIGNED_STACK" "[Ljava/lang/StackTraceElement;") ∈ lw_good := tw_at 421 (by decide +kernel) rfl
theorem tn_422 : (Jvm.Cond.laysStatic "java/lang/Throwable" "UNASSIGNED_STACK" "[Ljava/lang/StackTraceElement;") ∈ lw_tbl := List.mem_append_right _ (List.mem_of_getElem? (i := 422) (by decide +kernel))
theorem tw_423 : (Jvm.Cond.fieldLink "java/lang/Throwable" (20 : Nat) "java/lang/Throwable" "SUPPRESSED_SENTINEL" "Ljava/util/List;") ∈ lw_good := tw_at 423 (by decide +kernel) rfl
theorem tn_424 : (Jvm.Cond.laysStatic "java/lang/Throwable" "SUPPRESSED_SENTINEL" "Ljava/util/List;") ∈ lw_tbl := List.mem_append_right _ (List.mem_of_getElem? (i := 424) (by decide +kernel))
theorem tw_425 : (Jvm.Cond.methodLink "java/lang/Throwable" (27 : Nat) ({ cls := "java/lang/Throwable", name := "fillInStackTrace", desc := "()Ljava/lang/Throwable;" } : Jvm.MethodName)) ∈ lw_good := tw_at 425 (by decide +kernel) rfl
theorem tw_426 : (Jvm.Cond.instanceMethod ({ cls := "java/lang/Throwable", name := "fillInStackTrace", desc := "()Ljava/lang/Throwable;" } : Jvm.MethodName)) ∈ lw_good := tw_at 426 (by decide +kernel) rfl
theorem tw_427 : (Jvm.Cond.sameMethod "java/lang/Throwable" "java/lang/Throwable" "fillInStackTrace" "()Ljava/lang/Throwable;") ∈ lw_good := tw_at 427 (by decide +kernel) rfl
theorem tw_428 : (Jvm.Cond.selects "java/lang/IllegalArgumentException" ({ cls := "java/lang/Throwable", name := "fillInStackTrace", desc := "()Ljava/lang/Throwable;" } : Jvm.MethodName) ({ cls := "java/lang/Throwable", name := "fillInStackTrace", desc := "()Ljava/lang/Throwable;" } : Jvm.MethodName)) ∈ lw_good := tw_at 428 (by decide +kernel) rfl
theorem tw_429 : (Jvm.Cond.selects "java/lang/IllegalStateException" ({ cls := "java/lang/Throwable", name := "fillInStackTrace", desc := "()Ljava/lang/Throwable;" } : Jvm.MethodName) ({ cls := "java/lang/Throwable", name := "fillInStackTrace", desc := "()Ljava/lang/Throwable;" } : Jvm.MethodName)) ∈ lw_good := tw_at 429 (by decide +kernel) rfl
theorem tw_430 : (Jvm.Cond.selects "java/util/NoSuchElementException" ({ cls := "java/lang/Throwable", name := "fillInStackTrace", desc := "()Ljava/lang/Throwable;" } : Jvm.MethodName) ({ cls := "java/lang/Throwable", name := "fillInStackTrace", desc := "()Ljava/lang/Throwable;" } : Jvm.MethodName)) ∈ lw_good := tw_at 430 (by decide +kernel) rfl
set_option maxRecDepth 100000 in
theorem tw_431 : (Jvm.Cond.codeSync ({ cls := "java/lang/Throwable", name := "fillInStackTrace", desc := "()Ljava/lang/Throwable;" } : Jvm.MethodName) prog_18_method_18_code (1 : Nat) (Option.some (Jvm.ClassFile.FieldType.object "java/lang/Throwable"))) ∈ lw_good := tw_at 431 rfl rfl
theorem tw_432 : (Jvm.Cond.methodLink "java/lang/Throwable" (202 : Nat) ({ cls := "java/lang/Throwable", name := "fillInStackTrace", desc := "(I)Ljava/lang/Throwable;" } : Jvm.MethodName)) ∈ lw_good := tw_at 432 (by decide +kernel) rfl
theorem tn_433 : (Jvm.Cond.privateMethod ({ cls := "java/lang/Throwable", name := "fillInStackTrace", desc := "(I)Ljava/lang/Throwable;" } : Jvm.MethodName)) ∈ lw_tbl := List.mem_append_right _ (List.mem_of_getElem? (i := 433) (by decide +kernel))
theorem tw_434 : (Jvm.Cond.instanceMethod ({ cls := "java/lang/Throwable", name := "fillInStackTrace", desc := "(I)Ljava/lang/Throwable;" } : Jvm.MethodName)) ∈ lw_good := tw_at 434 (by decide +kernel) rfl
theorem tw_435 : (Jvm.Cond.instantiable "java/lang/Throwable" (6 : Nat)) ∈ lw_good := tw_at 435 (by decide +kernel) rfl
theorem tw_436 : (Jvm.Cond.native ({ cls := "java/lang/Throwable", name := "fillInStackTrace", desc := "(I)Ljava/lang/Throwable;" } : Jvm.MethodName)) ∈ lw_good := tw_at 436 (by decide +kernel) rfl
theorem tn_437 : (Jvm.Cond.stringRef "SnapshotHeap" (132 : Nat) "no such root") ∈ lw_tbl := List.mem_append_right _ (List.mem_of_getElem? (i := 437) (by decide +kernel))
theorem tw_438 : (Jvm.Cond.methodLink "SnapshotHeap" (134 : Nat) ({ cls := "java/lang/IndexOutOfBoundsException", name := "<init>", desc := "(Ljava/lang/String;)V" } : Jvm.MethodName)) ∈ lw_good := tw_at 438 (by decide +kernel) rfl
theorem tw_439 : (Jvm.Cond.instanceMethod ({ cls := "java/lang/IndexOutOfBoundsException", name := "<init>", desc := "(Ljava/lang/String;)V" } : Jvm.MethodName)) ∈ lw_good := tw_at 439 (by decide +kernel) rfl
set_option maxRecDepth 100000 in
theorem tw_440 : (Jvm.Cond.code ({ cls := "java/lang/IndexOutOfBoundsException", name := "<init>", desc := "(Ljava/lang/String;)V" } : Jvm.MethodName) prog_14_method_2_code (2 : Nat) (Option.none : Option Jvm.ClassFile.FieldType)) ∈ lw_good := tw_at 440 rfl rfl
theorem tw_441 : (Jvm.Cond.methodLink "java/lang/IndexOutOfBoundsException" (7 : Nat) ({ cls := "java/lang/RuntimeException", name := "<init>", desc := "(Ljava/lang/String;)V" } : Jvm.MethodName)) ∈ lw_good := tw_at 441 (by decide +kernel) rfl
theorem tw_442 : (Jvm.Cond.instanceMethod ({ cls := "java/lang/RuntimeException", name := "<init>", desc := "(Ljava/lang/String;)V" } : Jvm.MethodName)) ∈ lw_good := tw_at 442 (by decide +kernel) rfl
set_option maxRecDepth 100000 in
theorem tw_443 : (Jvm.Cond.code ({ cls := "java/lang/RuntimeException", name := "<init>", desc := "(Ljava/lang/String;)V" } : Jvm.MethodName) prog_15_method_2_code (2 : Nat) (Option.none : Option Jvm.ClassFile.FieldType)) ∈ lw_good := tw_at 443 rfl rfl
theorem tw_444 : (Jvm.Cond.methodLink "java/lang/RuntimeException" (7 : Nat) ({ cls := "java/lang/Exception", name := "<init>", desc := "(Ljava/lang/String;)V" } : Jvm.MethodName)) ∈ lw_good := tw_at 444 (by decide +kernel) rfl
theorem tw_445 : (Jvm.Cond.instanceMethod ({ cls := "java/lang/Exception", name := "<init>", desc := "(Ljava/lang/String;)V" } : Jvm.MethodName)) ∈ lw_good := tw_at 445 (by decide +kernel) rfl
set_option maxRecDepth 100000 in
theorem tw_446 : (Jvm.Cond.code ({ cls := "java/lang/Exception", name := "<init>", desc := "(Ljava/lang/String;)V" } : Jvm.MethodName) prog_11_method_2_code (2 : Nat) (Option.none : Option Jvm.ClassFile.FieldType)) ∈ lw_good := tw_at 446 rfl rfl
theorem tw_447 : (Jvm.Cond.methodLink "java/lang/Exception" (7 : Nat) ({ cls := "java/lang/Throwable", name := "<init>", desc := "(Ljava/lang/String;)V" } : Jvm.MethodName)) ∈ lw_good := tw_at 447 (by decide +kernel) rfl
theorem tw_448 : (Jvm.Cond.instanceMethod ({ cls := "java/lang/Throwable", name := "<init>", desc := "(Ljava/lang/String;)V" } : Jvm.MethodName)) ∈ lw_good := tw_at 448 (by decide +kernel) rfl
set_option maxRecDepth 100000 in
theorem tw_449 : (Jvm.Cond.code ({ cls := "java/lang/Throwable", name := "<init>", desc := "(Ljava/lang/String;)V" } : Jvm.MethodName) prog_18_method_2_code (2 : Nat) (Option.none : Option Jvm.ClassFile.FieldType)) ∈ lw_good := tw_at 449 rfl rfl
theorem tw_450 : (Jvm.Cond.fieldLink "java/lang/Throwable" (198 : Nat) "java/lang/Throwable" "backtrace" "Ljava/lang/Object;") ∈ lw_good := tw_at 450 (by decide +kernel) rfl
theorem tw_451 : (Jvm.Cond.fieldLink "java/lang/Throwable" (31 : Nat) "java/lang/Throwable" "detailMessage" "Ljava/lang/String;") ∈ lw_good := tw_at 451 (by decide +kernel) rfl
theorem tw_452 : (Jvm.Cond.fieldLink "java/lang/Throwable" (7 : Nat) "java/lang/Throwable" "cause" "Ljava/lang/Throwable;") ∈ lw_good := tw_at 452 (by decide +kernel) rfl
theorem tw_453 : (Jvm.Cond.fieldLink "java/lang/Throwable" (17 : Nat) "java/lang/Throwable" "stackTrace" "[Ljava/lang/StackTraceElement;") ∈ lw_good := tw_at 453 (by decide +kernel) rfl
theorem tw_454 : (Jvm.Cond.fieldLink "java/lang/Throwable" (24 : Nat) "java/lang/Throwable" "suppressedExceptions" "Ljava/util/List;") ∈ lw_good := tw_at 454 (by decide +kernel) rfl
theorem tw_455 : (Jvm.Cond.soleField "java/lang/Throwable" "backtrace") ∈ lw_good := tw_at 455 (by decide +kernel) rfl
theorem tw_456 : (Jvm.Cond.soleField "java/lang/Throwable" "detailMessage") ∈ lw_good := tw_at 456 (by decide +kernel) rfl
theorem tw_457 : (Jvm.Cond.soleField "java/lang/Throwable" "cause") ∈ lw_good := tw_at 457 (by decide +kernel) rfl
theorem tw_458 : (Jvm.Cond.soleField "java/lang/Throwable" "stackTrace") ∈ lw_good := tw_at 458 (by decide +kernel) rfl
theorem tw_459 : (Jvm.Cond.lays "java/lang/IndexOutOfBoundsException" "java/lang/Throwable" "depth" "I") ∈ lw_good := tw_at 459 (by decide +kernel) rfl
theorem tw_460 : (Jvm.Cond.soleField "java/lang/Throwable" "depth") ∈ lw_good := tw_at 460 (by decide +kernel) rfl
theorem tw_461 : (Jvm.Cond.soleField "java/lang/Throwable" "suppressedExceptions") ∈ lw_good := tw_at 461 (by decide +kernel) rfl
theorem tw_462 : (Jvm.Cond.superclass "java/lang/IndexOutOfBoundsException" "java/lang/RuntimeException") ∈ lw_good := tw_at 462 (by decide +kernel) rfl
theorem tw_463 : (Jvm.Cond.arrayClass Jvm.ClassFile.FieldType.byte) ∈ lw_good := tw_at 463 (by decide +kernel) rfl
theorem tw_464 : (Jvm.Cond.methodLink "SnapshotHeap" (55 : Nat) ({ cls := "SnapshotHeap", name := "requireWithin", desc := "(III)V" } : Jvm.MethodName)) ∈ lw_good := tw_at 464 (by decide +kernel) rfl
theorem tw_465 : (Jvm.Cond.static ({ cls := "SnapshotHeap", name := "requireWithin", desc := "(III)V" } : Jvm.MethodName)) ∈ lw_good := tw_at 465 (by decide +kernel) rfl
set_option maxRecDepth 100000 in
theorem tw_466 : (Jvm.Cond.code ({ cls := "SnapshotHeap", name := "requireWithin", desc := "(III)V" } : Jvm.MethodName) prog_1_method_17_code (3 : Nat) (Option.none : Option Jvm.ClassFile.FieldType)) ∈ lw_good := tw_at 466 rfl rfl
theorem tw_467 : (Jvm.Cond.classLink "SnapshotHeap" (135 : Nat) "java/lang/IllegalArgumentException") ∈ lw_good := tw_at 467 (by decide +kernel) rfl
theorem tw_468 : (Jvm.Cond.instantiable "java/lang/IllegalArgumentException" (6 : Nat)) ∈ lw_good := tw_at 468 (by decide +kernel) rfl
theorem tn_469 : (Jvm.Cond.castable "java/lang/IllegalArgumentException" "java/lang/IllegalArgumentException") ∈ lw_tbl := List.mem_append_right _ (List.mem_of_getElem? (i := 469) (by decide +kernel))
theorem tw_470 : (Jvm.Cond.selects "java/lang/IllegalArgumentException" ({ cls := "java/lang/Throwable", name := "fillInStackTrace", desc := "(I)Ljava/lang/Throwable;" } : Jvm.MethodName) ({ cls := "java/lang/Throwable", name := "fillInStackTrace", desc := "(I)Ljava/lang/Throwable;" } : Jvm.MethodName)) ∈ lw_good := tw_at 470 (by decide +kernel) rfl
theorem tw_471 : (Jvm.Cond.lays "java/lang/IllegalArgumentException" "java/lang/Throwable" "cause" "Ljava/lang/Throwable;") ∈ lw_good := tw_at 471 (by decide +kernel) rfl
theorem tw_472 : (Jvm.Cond.lays "java/lang/IllegalArgumentException" "java/lang/Throwable" "stackTrace" "[Ljava/lang/StackTraceElement;") ∈ lw_good := tw_at 472 (by decide +kernel) rfl
theorem tw_473 : (Jvm.Cond.lays "java/lang/IllegalArgumentException" "java/lang/Throwable" "suppressedExceptions" "Ljava/util/List;") ∈ lw_good := tw_at 473 (by decide +kernel) rfl
theorem tw_474 : (Jvm.Cond.lays "java/lang/IllegalArgumentException" "java/lang/Throwable" "detailMessage" "Ljava/lang/String;") ∈ lw_good := tw_at 474 (by decide +kernel) rfl
theorem tw_475 : (Jvm.Cond.lays "java/lang/IllegalArgumentException" "java/lang/Throwable" "backtrace" "Ljava/lang/Object;") ∈ lw_good := tw_at 475 (by decide +kernel) rfl
theorem tn_476 : (Jvm.Cond.stringRef "SnapshotHeap" (137 : Nat) "out of range") ∈ lw_tbl := List.mem_append_right _ (List.mem_of_getElem? (i := 476) (by decide +kernel))
theorem tw_477 : (Jvm.Cond.methodLink "SnapshotHeap" (139 : Nat) ({ cls := "java/lang/IllegalArgumentException", name := "<init>", desc := "(Ljava/lang/String;)V" } : Jvm.MethodName)) ∈ lw_good := tw_at 477 (by decide +kernel) rfl
theorem tw_478 : (Jvm.Cond.instanceMethod ({ cls := "java/lang/IllegalArgumentException", name := "<init>", desc := "(Ljava/lang/String;)V" } : Jvm.MethodName)) ∈ lw_good := tw_at 478 (by decide +kernel) rfl
set_option maxRecDepth 100000 in
theorem tw_479 : (Jvm.Cond.code ({ cls := "java/lang/IllegalArgumentException", name := "<init>", desc := "(Ljava/lang/String;)V" } : Jvm.MethodName) prog_12_method_2_code (2 : Nat) (Option.none : Option Jvm.ClassFile.FieldType)) ∈ lw_good := tw_at 479 rfl rfl
theorem tw_480 : (Jvm.Cond.methodLink "java/lang/IllegalArgumentException" (7 : Nat) ({ cls := "java/lang/RuntimeException", name := "<init>", desc := "(Ljava/lang/String;)V" } : Jvm.MethodName)) ∈ lw_good := tw_at 480 (by decide +kernel) rfl
theorem tw_481 : (Jvm.Cond.lays "java/lang/IllegalArgumentException" "java/lang/Throwable" "depth" "I") ∈ lw_good := tw_at 481 (by decide +kernel) rfl
theorem tw_482 : (Jvm.Cond.superclass "java/lang/IllegalArgumentException" "java/lang/RuntimeException") ∈ lw_good := tw_at 482 (by decide +kernel) rfl
theorem tw_483 : (Jvm.Cond.methodLink "SnapshotHeap" (59 : Nat) ({ cls := "SnapshotHeap$Store", name := "hasRoomFor", desc := "(I)Z" } : Jvm.MethodName)) ∈ lw_good := tw_at 483 (by decide +kernel) rfl
theorem tw_484 : (Jvm.Cond.instanceMethod ({ cls := "SnapshotHeap$Store", name := "hasRoomFor", desc := "(I)Z" } : Jvm.MethodName)) ∈ lw_good := tw_at 484 (by decide +kernel) rfl
theorem tw_485 : (Jvm.Cond.selects "SnapshotHeap$Store" ({ cls := "SnapshotHeap$Store", name := "hasRoomFor", desc := "(I)Z" } : Jvm.MethodName) ({ cls := "SnapshotHeap$Store", name := "hasRoomFor", desc := "(I)Z" } : Jvm.MethodName)) ∈ lw_good := tw_at 485 (by decide +kernel) rfl
set_option maxRecDepth 100000 in
theorem tw_486 : (Jvm.Cond.code ({ cls := "SnapshotHeap$Store", name := "hasRoomFor", desc := "(I)Z" } : Jvm.MethodName) prog_6_method_8_code (2 : Nat) (Option.some Jvm.ClassFile.FieldType.boolean)) ∈ lw_good := tw_at 486 rfl rfl
theorem tw_487 : (Jvm.Cond.classLink "SnapshotHeap" (66 : Nat) "java/lang/IllegalStateException") ∈ lw_good := tw_at 487 (by decide +kernel) rfl
theorem tw_488 : (Jvm.Cond.instantiable "java/lang/IllegalStateException" (6 : Nat)) ∈ lw_good := tw_at 488 (by decide +kernel) rfl
theorem tn_489 : (Jvm.Cond.castable "java/lang/IllegalStateException" "java/lang/IllegalStateException") ∈ lw_tbl := List.mem_append_right _ (List.mem_of_getElem? (i := 489) (by decide +kernel))
theorem tw_490 : (Jvm.Cond.selects "java/lang/IllegalStateException" ({ cls := "java/lang/Throwable", name := "fillInStackTrace", desc := "(I)Ljava/lang/Throwable;" } : Jvm.MethodName) ({ cls := "java/lang/Throwable", name := "fillInStackTrace", desc := "(I)Ljava/lang/Throwable;" } : Jvm.MethodName)) ∈ lw_good := tw_at 490 (by decide +kernel) rfl
theorem tw_491 : (Jvm.Cond.lays "java/lang/IllegalStateException" "java/lang/Throwable" "cause" "Ljava/lang/Throwable;") ∈ lw_good := tw_at 491 (by decide +kernel) rfl
theorem tw_492 : (Jvm.Cond.lays "java/lang/IllegalStateException" "java/lang/Throwable" "stackTrace" "[Ljava/lang/StackTraceElement;") ∈ lw_good := tw_at 492 (by decide +kernel) rfl
theorem tw_493 : (Jvm.Cond.lays "java/lang/IllegalStateException" "java/lang/Throwable" "suppressedExceptions" "Ljava/util/List;") ∈ lw_good := tw_at 493 (by decide +kernel) rfl
theorem tw_494 : (Jvm.Cond.lays "java/lang/IllegalStateException" "java/lang/Throwable" "detailMessage" "Ljava/lang/String;") ∈ lw_good := tw_at 494 (by decide +kernel) rfl
theorem tw_495 : (Jvm.Cond.lays "java/lang/IllegalStateException" "java/lang/Throwable" "backtrace" "Ljava/lang/Object;") ∈ lw_good := tw_at 495 (by decide +kernel) rfl
theorem tn_496 : (Jvm.Cond.stringRef "SnapshotHeap" (68 : Nat) "the heap is full") ∈ lw_tbl := List.mem_append_right _ (List.mem_of_getElem? (i := 496) (by decide +kernel))
theorem tw_497 : (Jvm.Cond.methodLink "SnapshotHeap" (70 : Nat) ({ cls := "java/lang/IllegalStateException", name := "<init>", desc := "(Ljava/lang/String;)V" } : Jvm.MethodName)) ∈ lw_good := tw_at 497 (by decide +kernel) rfl
theorem tw_498 : (Jvm.Cond.instanceMethod ({ cls := "java/lang/IllegalStateException", name := "<init>", desc := "(Ljava/lang/String;)V" } : Jvm.MethodName)) ∈ lw_good := tw_at 498 (by decide +kernel) rfl
set_option maxRecDepth 100000 in
theorem tw_499 : (Jvm.Cond.code ({ cls := "java/lang/IllegalStateException", name := "<init>", desc := "(Ljava/lang/String;)V" } : Jvm.MethodName) prog_13_method_2_code (2 : Nat) (Option.none : Option Jvm.ClassFile.FieldType)) ∈ lw_good := tw_at 499 rfl rfl
theorem tw_500 : (Jvm.Cond.methodLink "java/lang/IllegalStateException" (7 : Nat) ({ cls := "java/lang/RuntimeException", name := "<init>", desc := "(Ljava/lang/String;)V" } : Jvm.MethodName)) ∈ lw_good := tw_at 500 (by decide +kernel) rfl
theorem tw_501 : (Jvm.Cond.lays "java/lang/IllegalStateException" "java/lang/Throwable" "depth" "I") ∈ lw_good := tw_at 501 (by decide +kernel) rfl
theorem tw_502 : (Jvm.Cond.superclass "java/lang/IllegalStateException" "java/lang/RuntimeException") ∈ lw_good := tw_at 502 (by decide +kernel) rfl
theorem tw_503 : (Jvm.Cond.methodLink "SnapshotHeap" (73 : Nat) ({ cls := "SnapshotHeap", name := "rootSlot", desc := "(I)I" } : Jvm.MethodName)) ∈ lw_good := tw_at 503 (by decide +kernel) rfl
theorem tw_504 : (Jvm.Cond.static ({ cls := "SnapshotHeap", name := "rootSlot", desc := "(I)I" } : Jvm.MethodName)) ∈ lw_good := tw_at 504 (by decide +kernel) rfl
set_option maxRecDepth 100000 in
theorem tw_505 : (Jvm.Cond.code ({ cls := "SnapshotHeap", name := "rootSlot", desc := "(I)I" } : Jvm.MethodName) prog_1_method_18_code (1 : Nat) (Option.some Jvm.ClassFile.FieldType.int)) ∈ lw_good := tw_at 505 rfl rfl
theorem tw_506 : (Jvm.Cond.methodLink "SnapshotHeap" (140 : Nat) ({ cls := "SnapshotHeap", name := "slotOf", desc := "(II)I" } : Jvm.MethodName)) ∈ lw_good := tw_at 506 (by decide +kernel) rfl
theorem tw_507 : (Jvm.Cond.methodLink "SnapshotHeap" (77 : Nat) ({ cls := "SnapshotHeap$Collector", name := "allocate", desc := "(I)I" } : Jvm.MethodName)) ∈ lw_good := tw_at 507 (by decide +kernel) rfl
theorem tw_508 : (Jvm.Cond.instanceMethod ({ cls := "SnapshotHeap$Collector", name := "allocate", desc := "(I)I" } : Jvm.MethodName)) ∈ lw_good := tw_at 508 (by decide +kernel) rfl
theorem tw_509 : (Jvm.Cond.selects "SnapshotHeap$Collector" ({ cls := "SnapshotHeap$Collector", name := "allocate", desc := "(I)I" } : Jvm.MethodName) ({ cls := "SnapshotHeap$Collector", name := "allocate", desc := "(I)I" } : Jvm.MethodName)) ∈ lw_good := tw_at 509 (by decide +kernel) rfl
set_option maxRecDepth 100000 in
theorem tw_510 : (Jvm.Cond.code ({ cls := "SnapshotHeap$Collector", name := "allocate", desc := "(I)I" } : Jvm.MethodName) prog_3_method_6_code (3 : Nat) (Option.some Jvm.ClassFile.FieldType.int)) ∈ lw_good := tw_at 510 rfl rfl
theorem tw_511 : (Jvm.Cond.methodLink "SnapshotHeap$Collector" (46 : Nat) ({ cls := "SnapshotHeap$Store", name := "take", desc := "(I)I" } : Jvm.MethodName)) ∈ lw_good := tw_at 511 (by decide +kernel) rfl
theorem tw_512 : (Jvm.Cond.instanceMethod ({ cls := "SnapshotHeap$Store", name := "take", desc := "(I)I" } : Jvm.MethodName)) ∈ lw_good := tw_at 512 (by decide +kernel) rfl
theorem tw_513 : (Jvm.Cond.selects "SnapshotHeap$Store" ({ cls := "SnapshotHeap$Store", name := "take", desc := "(I)I" } : Jvm.MethodName) ({ cls := "SnapshotHeap$Store", name := "take", desc := "(I)I" } : Jvm.MethodName)) ∈ lw_good := tw_at 513 (by decide +kernel) rfl
set_option maxRecDepth 100000 in
theorem tw_514 : (Jvm.Cond.code ({ cls := "SnapshotHeap$Store", name := "take", desc := "(I)I" } : Jvm.MethodName) prog_6_method_9_code (4 : Nat) (Option.some Jvm.ClassFile.FieldType.int)) ∈ lw_good := tw_at 514 rfl rfl
theorem tw_515 : (Jvm.Cond.methodLink "SnapshotHeap$Store" (49 : Nat) ({ cls := "SnapshotHeap$Store", name := "hasRoomFor", desc := "(I)Z" } : Jvm.MethodName)) ∈ lw_good := tw_at 515 (by decide +kernel) rfl
theorem tw_516 : (Jvm.Cond.methodLink "SnapshotHeap$Store" (52 : Nat) ({ cls := "SnapshotHeap$Store", name := "takeFreePlace", desc := "()I" } : Jvm.MethodName)) ∈ lw_good := tw_at 516 (by decide +kernel) rfl
theorem tn_517 : (Jvm.Cond.privateMethod ({ cls := "SnapshotHeap$Store", name := "takeFreePlace", desc := "()I" } : Jvm.MethodName)) ∈ lw_tbl := List.mem_append_right _ (List.mem_of_getElem? (i := 517) (by decide +kernel))
theorem tw_518 : (Jvm.Cond.instanceMethod ({ cls := "SnapshotHeap$Store", name := "takeFreePlace", desc := "()I" } : Jvm.MethodName)) ∈ lw_good := tw_at 518 (by decide +kernel) rfl
set_option maxRecDepth 100000 in
theorem tw_519 : (Jvm.Cond.code ({ cls := "SnapshotHeap$Store", name := "takeFreePlace", desc := "()I" } : Jvm.MethodName) prog_6_method_10_code (1 : Nat) (Option.some Jvm.ClassFile.FieldType.int)) ∈ lw_good := tw_at 519 rfl rfl
theorem tn_520 : (Jvm.Cond.methodLinkNest "SnapshotHeap$Store" (59 : Nat) ({ cls := "SnapshotHeap", name := "slotOf", desc := "(II)I" } : Jvm.MethodName) "SnapshotHeap") ∈ lw_tbl := List.mem_append_right _ (List.mem_of_getElem? (i := 520) (by decide +kernel))
theorem tw_521 : (Jvm.Cond.methodLink "SnapshotHeap$Store" (63 : Nat) ({ cls := "SnapshotHeap$Store", name := "putNumber", desc := "(IJ)V" } : Jvm.MethodName)) ∈ lw_good := tw_at 521 (by decide +kernel) rfl
theorem tw_522 : (Jvm.Cond.instanceMethod ({ cls := "SnapshotHeap$Store", name := "putNumber", desc := "(IJ)V" } : Jvm.MethodName)) ∈ lw_good := tw_at 522 (by decide +kernel) rfl
theorem tw_523 : (Jvm.Cond.selects "SnapshotHeap$Store" ({ cls := "SnapshotHeap$Store", name := "putNumber", desc := "(IJ)V" } : Jvm.MethodName) ({ cls := "SnapshotHeap$Store", name := "putNumber", desc := "(IJ)V" } : Jvm.MethodName)) ∈ lw_good := tw_at 523 (by decide +kernel) rfl
set_option maxRecDepth 100000 in
theorem tw_524 : (Jvm.Cond.code ({ cls := "SnapshotHeap$Store", name := "putNumber", desc := "(IJ)V" } : Jvm.MethodName) prog_6_method_14_code (4 : Nat) (Option.none : Option Jvm.ClassFile.FieldType)) ∈ lw_good := tw_at 524 rfl rfl
theorem tw_525 : (Jvm.Cond.methodLink "SnapshotHeap$Collector" (55 : Nat) ({ cls := "SnapshotHeap$Collector", name := "isYetToBeSwept", desc := "(I)Z" } : Jvm.MethodName)) ∈ lw_good := tw_at 525 (by decide +kernel) rfl
theorem tw_526 : (Jvm.Cond.methodLink "SnapshotHeap$Collector" (59 : Nat) ({ cls := "SnapshotHeap$Marking", name := "blacken", desc := "(I)V" } : Jvm.MethodName)) ∈ lw_good := tw_at 526 (by decide +kernel) rfl
theorem tw_527 : (Jvm.Cond.methodLink "SnapshotHeap" (80 : Nat) ({ cls := "SnapshotHeap$Store", name := "putReference", desc := "(II)V" } : Jvm.MethodName)) ∈ lw_good := tw_at 527 (by decide +kernel) rfl
theorem tw_528 : (Jvm.Cond.instanceMethod ({ cls := "SnapshotHeap$Store", name := "putReference", desc := "(II)V" } : Jvm.MethodName)) ∈ lw_good := tw_at 528 (by decide +kernel) rfl
theorem tw_529 : (Jvm.Cond.selects "SnapshotHeap$Store" ({ cls := "SnapshotHeap$Store", name := "putReference", desc := "(II)V" } : Jvm.MethodName) ({ cls := "SnapshotHeap$Store", name := "putReference", desc := "(II)V" } : Jvm.MethodName)) ∈ lw_good := tw_at 529 (by decide +kernel) rfl
set_option maxRecDepth 100000 in
theorem tw_530 : (Jvm.Cond.code ({ cls := "SnapshotHeap$Store", name := "putReference", desc := "(II)V" } : Jvm.MethodName) prog_6_method_15_code (3 : Nat) (Option.none : Option Jvm.ClassFile.FieldType)) ∈ lw_good := tw_at 530 rfl rfl
theorem tw_531 : (Jvm.Cond.methodLink "SnapshotHeapLaw" (74 : Nat) ({ cls := "SnapshotHeapLaw", name := "number", desc := "(LSnapshotHeap;IJ)I" } : Jvm.MethodName)) ∈ lw_good := tw_at 531 (by decide +kernel) rfl
theorem tw_532 : (Jvm.Cond.static ({ cls := "SnapshotHeapLaw", name := "number", desc := "(LSnapshotHeap;IJ)I" } : Jvm.MethodName)) ∈ lw_good := tw_at 532 (by decide +kernel) rfl
set_option maxRecDepth 100000 in
theorem tw_533 : (Jvm.Cond.codeWith ({ cls := "SnapshotHeapLaw", name := "number", desc := "(LSnapshotHeap;IJ)I" } : Jvm.MethodName) method_4_code (5 : Nat) (Option.some Jvm.ClassFile.FieldType.int) [((0 : Nat), (6 : Nat), (9 : Nat), (13 : Nat))]) ∈ lw_good := tw_at 533 rfl rfl
theorem tw_534 : (Jvm.Cond.methodLink "SnapshotHeapLaw" (19 : Nat) ({ cls := "SnapshotHeap", name := "number", desc := "(IJ)V" } : Jvm.MethodName)) ∈ lw_good := tw_at 534 (by decide +kernel) rfl
theorem tw_535 : (Jvm.Cond.instanceMethod ({ cls := "SnapshotHeap", name := "number", desc := "(IJ)V" } : Jvm.MethodName)) ∈ lw_good := tw_at 535 (by decide +kernel) rfl
theorem tw_536 : (Jvm.Cond.selects "SnapshotHeap" ({ cls := "SnapshotHeap", name := "number", desc := "(IJ)V" } : Jvm.MethodName) ({ cls := "SnapshotHeap", name := "number", desc := "(IJ)V" } : Jvm.MethodName)) ∈ lw_good := tw_at 536 (by decide +kernel) rfl
set_option maxRecDepth 100000 in
theorem tw_537 : (Jvm.Cond.code ({ cls := "SnapshotHeap", name := "number", desc := "(IJ)V" } : Jvm.MethodName) prog_1_method_3_code (4 : Nat) (Option.none : Option Jvm.ClassFile.FieldType)) ∈ lw_good := tw_at 537 rfl rfl
theorem tw_538 : (Jvm.Cond.methodLink "SnapshotHeap" (84 : Nat) ({ cls := "SnapshotHeap$Store", name := "putNumber", desc := "(IJ)V" } : Jvm.MethodName)) ∈ lw_good := tw_at 538 (by decide +kernel) rfl
theorem tw_539 : (Jvm.Cond.methodLink "SnapshotHeapLaw" (78 : Nat) ({ cls := "SnapshotHeapLaw", name := "copy", desc := "(LSnapshotHeap;II)I" } : Jvm.MethodName)) ∈ lw_good := tw_at 539 (by decide +kernel) rfl
theorem tw_540 : (Jvm.Cond.static ({ cls := "SnapshotHeapLaw", name := "copy", desc := "(LSnapshotHeap;II)I" } : Jvm.MethodName)) ∈ lw_good := tw_at 540 (by decide +kernel) rfl
set_option maxRecDepth 100000 in
theorem tw_541 : (Jvm.Cond.codeWith ({ cls := "SnapshotHeapLaw", name := "copy", desc := "(LSnapshotHeap;II)I" } : Jvm.MethodName) method_5_code (4 : Nat) (Option.some Jvm.ClassFile.FieldType.int) [((0 : Nat), (6 : Nat), (9 : Nat), (13 : Nat))]) ∈ lw_good := tw_at 541 rfl rfl
theorem tw_542 : (Jvm.Cond.methodLink "SnapshotHeapLaw" (23 : Nat) ({ cls := "SnapshotHeap", name := "copy", desc := "(II)V" } : Jvm.MethodName)) ∈ lw_good := tw_at 542 (by decide +kernel) rfl
theorem tw_543 : (Jvm.Cond.instanceMethod ({ cls := "SnapshotHeap", name := "copy", desc := "(II)V" } : Jvm.MethodName)) ∈ lw_good := tw_at 543 (by decide +kernel) rfl
theorem tw_544 : (Jvm.Cond.selects "SnapshotHeap" ({ cls := "SnapshotHeap", name := "copy", desc := "(II)V" } : Jvm.MethodName) ({ cls := "SnapshotHeap", name := "copy", desc := "(II)V" } : Jvm.MethodName)) ∈ lw_good := tw_at 544 (by decide +kernel) rfl
set_option maxRecDepth 100000 in
theorem tw_545 : (Jvm.Cond.code ({ cls := "SnapshotHeap", name := "copy", desc := "(II)V" } : Jvm.MethodName) prog_1_method_4_code (3 : Nat) (Option.none : Option Jvm.ClassFile.FieldType)) ∈ lw_good := tw_at 545 rfl rfl
theorem tw_546 : (Jvm.Cond.methodLink "SnapshotHeap" (88 : Nat) ({ cls := "SnapshotHeap$Store", name := "move", desc := "(II)V" } : Jvm.MethodName)) ∈ lw_good := tw_at 546 (by decide +kernel) rfl
theorem tw_547 : (Jvm.Cond.instanceMethod ({ cls := "SnapshotHeap$Store", name := "move", desc := "(II)V" } : Jvm.MethodName)) ∈ lw_good := tw_at 547 (by decide +kernel) rfl
theorem tw_548 : (Jvm.Cond.selects "SnapshotHeap$Store" ({ cls := "SnapshotHeap$Store", name := "move", desc := "(II)V" } : Jvm.MethodName) ({ cls := "SnapshotHeap$Store", name := "move", desc := "(II)V" } : Jvm.MethodName)) ∈ lw_good := tw_at 548 (by decide +kernel) rfl
set_option maxRecDepth 100000 in
theorem tw_549 : (Jvm.Cond.code ({ cls := "SnapshotHeap$Store", name := "move", desc := "(II)V" } : Jvm.MethodName) prog_6_method_16_code (3 : Nat) (Option.none : Option Jvm.ClassFile.FieldType)) ∈ lw_good := tw_at 549 rfl rfl
theorem tw_550 : (Jvm.Cond.methodLink "SnapshotHeapLaw" (82 : Nat) ({ cls := "SnapshotHeapLaw", name := "get", desc := "(LSnapshotHeap;III)I" } : Jvm.MethodName)) ∈ lw_good := tw_at 550 (by decide +kernel) rfl
theorem tw_551 : (Jvm.Cond.static ({ cls := "SnapshotHeapLaw", name := "get", desc := "(LSnapshotHeap;III)I" } : Jvm.MethodName)) ∈ lw_good := tw_at 551 (by decide +kernel) rfl
set_option maxRecDepth 100000 in
theorem tw_552 : (Jvm.Cond.codeWith ({ cls := "SnapshotHeapLaw", name := "get", desc := "(LSnapshotHeap;III)I" } : Jvm.MethodName) method_6_code (5 : Nat) (Option.some Jvm.ClassFile.FieldType.int) [((0 : Nat), (7 : Nat), (10 : Nat), (13 : Nat)), ((0 : Nat), (7 : Nat), (14 : Nat), (31 : Nat))]) ∈ lw_good := tw_at 552 rfl rfl
theorem tw_553 : (Jvm.Cond.classLink "SnapshotHeapLaw" (31 : Nat) "java/util/NoSuchElementException") ∈ lw_good := tw_at 553 (by decide +kernel) rfl
theorem tw_554 : (Jvm.Cond.methodLink "SnapshotHeapLaw" (27 : Nat) ({ cls := "SnapshotHeap", name := "get", desc := "(III)V" } : Jvm.MethodName)) ∈ lw_good := tw_at 554 (by decide +kernel) rfl
theorem tw_555 : (Jvm.Cond.instanceMethod ({ cls := "SnapshotHeap", name := "get", desc := "(III)V" } : Jvm.MethodName)) ∈ lw_good := tw_at 555 (by decide +kernel) rfl
theorem tw_556 : (Jvm.Cond.selects "SnapshotHeap" ({ cls := "SnapshotHeap", name := "get", desc := "(III)V" } : Jvm.MethodName) ({ cls := "SnapshotHeap", name := "get", desc := "(III)V" } : Jvm.MethodName)) ∈ lw_good := tw_at 556 (by decide +kernel) rfl
set_option maxRecDepth 100000 in
theorem tw_557 : (Jvm.Cond.code ({ cls := "SnapshotHeap", name := "get", desc := "(III)V" } : Jvm.MethodName) prog_1_method_5_code (4 : Nat) (Option.none : Option Jvm.ClassFile.FieldType)) ∈ lw_good := tw_at 557 rfl rfl
theorem tw_558 : (Jvm.Cond.methodLink "SnapshotHeap" (91 : Nat) ({ cls := "SnapshotHeap", name := "existingSlot", desc := "(II)I" } : Jvm.MethodName)) ∈ lw_good := tw_at 558 (by decide +kernel) rfl
theorem tn_559 : (Jvm.Cond.privateMethod ({ cls := "SnapshotHeap", name := "existingSlot", desc := "(II)I" } : Jvm.MethodName)) ∈ lw_tbl := List.mem_append_right _ (List.mem_of_getElem? (i := 559) (by decide +kernel))
theorem tw_560 : (Jvm.Cond.instanceMethod ({ cls := "SnapshotHeap", name := "existingSlot", desc := "(II)I" } : Jvm.MethodName)) ∈ lw_good := tw_at 560 (by decide +kernel) rfl
set_option maxRecDepth 100000 in
theorem tw_561 : (Jvm.Cond.code ({ cls := "SnapshotHeap", name := "existingSlot", desc := "(II)I" } : Jvm.MethodName) prog_1_method_20_code (4 : Nat) (Option.some Jvm.ClassFile.FieldType.int)) ∈ lw_good := tw_at 561 rfl rfl
theorem tw_562 : (Jvm.Cond.methodLink "SnapshotHeap" (98 : Nat) ({ cls := "SnapshotHeap$Store", name := "placeAt", desc := "(I)I" } : Jvm.MethodName)) ∈ lw_good := tw_at 562 (by decide +kernel) rfl
theorem tw_563 : (Jvm.Cond.methodLink "SnapshotHeap" (101 : Nat) ({ cls := "SnapshotHeap$Store", name := "valuesOf", desc := "(I)I" } : Jvm.MethodName)) ∈ lw_good := tw_at 563 (by decide +kernel) rfl
theorem tw_564 : (Jvm.Cond.classLink "SnapshotHeap" (143 : Nat) "java/util/NoSuchElementException") ∈ lw_good := tw_at 564 (by decide +kernel) rfl
theorem tw_565 : (Jvm.Cond.instantiable "java/util/NoSuchElementException" (6 : Nat)) ∈ lw_good := tw_at 565 (by decide +kernel) rfl
theorem tn_566 : (Jvm.Cond.castable "java/util/NoSuchElementException" "java/util/NoSuchElementException") ∈ lw_tbl := List.mem_append_right _ (List.mem_of_getElem? (i := 566) (by decide +kernel))
theorem tw_567 : (Jvm.Cond.selects "java/util/NoSuchElementException" ({ cls := "java/lang/Throwable", name := "fillInStackTrace", desc := "(I)Ljava/lang/Throwable;" } : Jvm.MethodName) ({ cls := "java/lang/Throwable", name := "fillInStackTrace", desc := "(I)Ljava/lang/Throwable;" } : Jvm.MethodName)) ∈ lw_good := tw_at 567 (by decide +kernel) rfl
theorem tw_568 : (Jvm.Cond.lays "java/util/NoSuchElementException" "java/lang/Throwable" "cause" "Ljava/lang/Throwable;") ∈ lw_good := tw_at 568 (by decide +kernel) rfl
theorem tw_569 : (Jvm.Cond.lays "java/util/NoSuchElementException" "java/lang/Throwable" "stackTrace" "[Ljava/lang/StackTraceElement;") ∈ lw_good := tw_at 569 (by decide +kernel) rfl
theorem tw_570 : (Jvm.Cond.lays "java/util/NoSuchElementException" "java/lang/Throwable" "suppressedExceptions" "Ljava/util/List;") ∈ lw_good := tw_at 570 (by decide +kernel) rfl
theorem tw_571 : (Jvm.Cond.lays "java/util/NoSuchElementException" "java/lang/Throwable" "detailMessage" "Ljava/lang/String;") ∈ lw_good := tw_at 571 (by decide +kernel) rfl
theorem tw_572 : (Jvm.Cond.lays "java/util/NoSuchElementException" "java/lang/Throwable" "backtrace" "Ljava/lang/Object;") ∈ lw_good := tw_at 572 (by decide +kernel) rfl
theorem tn_573 : (Jvm.Cond.stringRef "SnapshotHeap" (145 : Nat) "no such value") ∈ lw_tbl := List.mem_append_right _ (List.mem_of_getElem? (i := 573) (by decide +kernel))
theorem tw_574 : (Jvm.Cond.methodLink "SnapshotHeap" (147 : Nat) ({ cls := "java/util/NoSuchElementException", name := "<init>", desc := "(Ljava/lang/String;)V" } : Jvm.MethodName)) ∈ lw_good := tw_at 574 (by decide +kernel) rfl
theorem tw_575 : (Jvm.Cond.instanceMethod ({ cls := "java/util/NoSuchElementException", name := "<init>", desc := "(Ljava/lang/String;)V" } : Jvm.MethodName)) ∈ lw_good := tw_at 575 (by decide +kernel) rfl
set_option maxRecDepth 100000 in
theorem tw_576 : (Jvm.Cond.code ({ cls := "java/util/NoSuchElementException", name := "<init>", desc := "(Ljava/lang/String;)V" } : Jvm.MethodName) prog_20_method_4_code (2 : Nat) (Option.none : Option Jvm.ClassFile.FieldType)) ∈ lw_good := tw_at 576 rfl rfl
theorem tw_577 : (Jvm.Cond.methodLink "java/util/NoSuchElementException" (13 : Nat) ({ cls := "java/lang/RuntimeException", name := "<init>", desc := "(Ljava/lang/String;)V" } : Jvm.MethodName)) ∈ lw_good := tw_at 577 (by decide +kernel) rfl
theorem tw_578 : (Jvm.Cond.lays "java/util/NoSuchElementException" "java/lang/Throwable" "depth" "I") ∈ lw_good := tw_at 578 (by decide +kernel) rfl
theorem tw_579 : (Jvm.Cond.superclass "java/util/NoSuchElementException" "java/lang/RuntimeException") ∈ lw_good := tw_at 579 (by decide +kernel) rfl
theorem tw_580 : (Jvm.Cond.methodLink "SnapshotHeapLaw" (86 : Nat) ({ cls := "SnapshotHeapLaw", name := "set", desc := "(LSnapshotHeap;III)I" } : Jvm.MethodName)) ∈ lw_good := tw_at 580 (by decide +kernel) rfl
theorem tw_581 : (Jvm.Cond.static ({ cls := "SnapshotHeapLaw", name := "set", desc := "(LSnapshotHeap;III)I" } : Jvm.MethodName)) ∈ lw_good := tw_at 581 (by decide +kernel) rfl
set_option maxRecDepth 100000 in
theorem tw_582 : (Jvm.Cond.codeWith ({ cls := "SnapshotHeapLaw", name := "set", desc := "(LSnapshotHeap;III)I" } : Jvm.MethodName) method_7_code (5 : Nat) (Option.some Jvm.ClassFile.FieldType.int) [((0 : Nat), (7 : Nat), (10 : Nat), (13 : Nat)), ((0 : Nat), (7 : Nat), (14 : Nat), (31 : Nat))]) ∈ lw_good := tw_at 582 rfl rfl
theorem tw_583 : (Jvm.Cond.methodLink "SnapshotHeapLaw" (33 : Nat) ({ cls := "SnapshotHeap", name := "set", desc := "(III)V" } : Jvm.MethodName)) ∈ lw_good := tw_at 583 (by decide +kernel) rfl
theorem tw_584 : (Jvm.Cond.instanceMethod ({ cls := "SnapshotHeap", name := "set", desc := "(III)V" } : Jvm.MethodName)) ∈ lw_good := tw_at 584 (by decide +kernel) rfl
theorem tw_585 : (Jvm.Cond.selects "SnapshotHeap" ({ cls := "SnapshotHeap", name := "set", desc := "(III)V" } : Jvm.MethodName) ({ cls := "SnapshotHeap", name := "set", desc := "(III)V" } : Jvm.MethodName)) ∈ lw_good := tw_at 585 (by decide +kernel) rfl
set_option maxRecDepth 100000 in
theorem tw_586 : (Jvm.Cond.code ({ cls := "SnapshotHeap", name := "set", desc := "(III)V" } : Jvm.MethodName) prog_1_method_6_code (5 : Nat) (Option.none : Option Jvm.ClassFile.FieldType)) ∈ lw_good := tw_at 586 rfl rfl
theorem tw_587 : (Jvm.Cond.methodLink "SnapshotHeap" (95 : Nat) ({ cls := "SnapshotHeap$Collector", name := "beforeOverwrite", desc := "(I)V" } : Jvm.MethodName)) ∈ lw_good := tw_at 587 (by decide +kernel) rfl
theorem tw_588 : (Jvm.Cond.instanceMethod ({ cls := "SnapshotHeap$Collector", name := "beforeOverwrite", desc := "(I)V" } : Jvm.MethodName)) ∈ lw_good := tw_at 588 (by decide +kernel) rfl
theorem tw_589 : (Jvm.Cond.selects "SnapshotHeap$Collector" ({ cls := "SnapshotHeap$Collector", name := "beforeOverwrite", desc := "(I)V" } : Jvm.MethodName) ({ cls := "SnapshotHeap$Collector", name := "beforeOverwrite", desc := "(I)V" } : Jvm.MethodName)) ∈ lw_good := tw_at 589 (by decide +kernel) rfl
set_option maxRecDepth 100000 in
theorem tw_590 : (Jvm.Cond.code ({ cls := "SnapshotHeap$Collector", name := "beforeOverwrite", desc := "(I)V" } : Jvm.MethodName) prog_3_method_7_code (2 : Nat) (Option.none : Option Jvm.ClassFile.FieldType)) ∈ lw_good := tw_at 590 rfl rfl
theorem tw_591 : (Jvm.Cond.methodLink "SnapshotHeap$Collector" (63 : Nat) ({ cls := "SnapshotHeap$Store", name := "placeAt", desc := "(I)I" } : Jvm.MethodName)) ∈ lw_good := tw_at 591 (by decide +kernel) rfl
theorem tw_592 : (Jvm.Cond.methodLink "SnapshotHeap$Collector" (66 : Nat) ({ cls := "SnapshotHeap$Marking", name := "shade", desc := "(I)V" } : Jvm.MethodName)) ∈ lw_good := tw_at 592 (by decide +kernel) rfl
theorem tw_593 : (Jvm.Cond.methodLink "SnapshotHeapLaw" (89 : Nat) ({ cls := "SnapshotHeapLaw", name := "step", desc := "(LSnapshotHeap;I)I" } : Jvm.MethodName)) ∈ lw_good := tw_at 593 (by decide +kernel) rfl
theorem tw_594 : (Jvm.Cond.static ({ cls := "SnapshotHeapLaw", name := "step", desc := "(LSnapshotHeap;I)I" } : Jvm.MethodName)) ∈ lw_good := tw_at 594 (by decide +kernel) rfl
set_option maxRecDepth 100000 in
theorem tw_595 : (Jvm.Cond.codeWith ({ cls := "SnapshotHeapLaw", name := "step", desc := "(LSnapshotHeap;I)I" } : Jvm.MethodName) method_8_code (3 : Nat) (Option.some Jvm.ClassFile.FieldType.int) [((0 : Nat), (5 : Nat), (8 : Nat), (15 : Nat))]) ∈ lw_good := tw_at 595 rfl rfl
theorem tw_596 : (Jvm.Cond.methodLink "SnapshotHeapLaw" (36 : Nat) ({ cls := "SnapshotHeap", name := "step", desc := "(I)V" } : Jvm.MethodName)) ∈ lw_good := tw_at 596 (by decide +kernel) rfl
theorem tw_597 : (Jvm.Cond.instanceMethod ({ cls := "SnapshotHeap", name := "step", desc := "(I)V" } : Jvm.MethodName)) ∈ lw_good := tw_at 597 (by decide +kernel) rfl
theorem tw_598 : (Jvm.Cond.selects "SnapshotHeap" ({ cls := "SnapshotHeap", name := "step", desc := "(I)V" } : Jvm.MethodName) ({ cls := "SnapshotHeap", name := "step", desc := "(I)V" } : Jvm.MethodName)) ∈ lw_good := tw_at 598 (by decide +kernel) rfl
set_option maxRecDepth 100000 in
theorem tw_599 : (Jvm.Cond.code ({ cls := "SnapshotHeap", name := "step", desc := "(I)V" } : Jvm.MethodName) prog_1_method_7_code (2 : Nat) (Option.none : Option Jvm.ClassFile.FieldType)) ∈ lw_good := tw_at 599 rfl rfl
theorem tw_600 : (Jvm.Cond.methodLink "SnapshotHeapLaw" (93 : Nat) ({ cls := "SnapshotHeapLaw", name := "pace", desc := "(LSnapshotHeap;I[J)I" } : Jvm.MethodName)) ∈ lw_good := tw_at 600 (by decide +kernel) rfl
theorem tw_601 : (Jvm.Cond.static ({ cls := "SnapshotHeapLaw", name := "pace", desc := "(LSnapshotHeap;I[J)I" } : Jvm.MethodName)) ∈ lw_good := tw_at 601 (by decide +kernel) rfl
set_option maxRecDepth 100000 in
theorem tw_602 : (Jvm.Cond.codeWith ({ cls := "SnapshotHeapLaw", name := "pace", desc := "(LSnapshotHeap;I[J)I" } : Jvm.MethodName) method_9_code (4 : Nat) (Option.some Jvm.ClassFile.FieldType.int) [((0 : Nat), (9 : Nat), (12 : Nat), (15 : Nat))]) ∈ lw_good := tw_at 602 rfl rfl
theorem tw_603 : (Jvm.Cond.methodLink "SnapshotHeapLaw" (40 : Nat) ({ cls := "SnapshotHeap", name := "pace", desc := "(I)I" } : Jvm.MethodName)) ∈ lw_good := tw_at 603 (by decide +kernel) rfl
theorem tw_604 : (Jvm.Cond.instanceMethod ({ cls := "SnapshotHeap", name := "pace", desc := "(I)I" } : Jvm.MethodName)) ∈ lw_good := tw_at 604 (by decide +kernel) rfl
theorem tw_605 : (Jvm.Cond.selects "SnapshotHeap" ({ cls := "SnapshotHeap", name := "pace", desc := "(I)I" } : Jvm.MethodName) ({ cls := "SnapshotHeap", name := "pace", desc := "(I)I" } : Jvm.MethodName)) ∈ lw_good := tw_at 605 (by decide +kernel) rfl
set_option maxRecDepth 100000 in
theorem tw_606 : (Jvm.Cond.code ({ cls := "SnapshotHeap", name := "pace", desc := "(I)I" } : Jvm.MethodName) prog_1_method_8_code (3 : Nat) (Option.some Jvm.ClassFile.FieldType.int)) ∈ lw_good := tw_at 606 rfl rfl
theorem tw_607 : (Jvm.Cond.methodLink "SnapshotHeapLaw" (97 : Nat) ({ cls := "SnapshotHeapLaw", name := "size", desc := "(LSnapshotHeap;I[J)I" } : Jvm.MethodName)) ∈ lw_good := tw_at 607 (by decide +kernel) rfl
theorem tw_608 : (Jvm.Cond.static ({ cls := "SnapshotHeapLaw", name := "size", desc := "(LSnapshotHeap;I[J)I" } : Jvm.MethodName)) ∈ lw_good := tw_at 608 (by decide +kernel) rfl
set_option maxRecDepth 100000 in
theorem tw_609 : (Jvm.Cond.codeWith ({ cls := "SnapshotHeapLaw", name := "size", desc := "(LSnapshotHeap;I[J)I" } : Jvm.MethodName) method_10_code (4 : Nat) (Option.some Jvm.ClassFile.FieldType.int) [((0 : Nat), (9 : Nat), (12 : Nat), (13 : Nat))]) ∈ lw_good := tw_at 609 rfl rfl
theorem tw_610 : (Jvm.Cond.methodLink "SnapshotHeapLaw" (44 : Nat) ({ cls := "SnapshotHeap", name := "size", desc := "(I)I" } : Jvm.MethodName)) ∈ lw_good := tw_at 610 (by decide +kernel) rfl
theorem tw_611 : (Jvm.Cond.instanceMethod ({ cls := "SnapshotHeap", name := "size", desc := "(I)I" } : Jvm.MethodName)) ∈ lw_good := tw_at 611 (by decide +kernel) rfl
theorem tw_612 : (Jvm.Cond.selects "SnapshotHeap" ({ cls := "SnapshotHeap", name := "size", desc := "(I)I" } : Jvm.MethodName) ({ cls := "SnapshotHeap", name := "size", desc := "(I)I" } : Jvm.MethodName)) ∈ lw_good := tw_at 612 (by decide +kernel) rfl
set_option maxRecDepth 100000 in
theorem tw_613 : (Jvm.Cond.code ({ cls := "SnapshotHeap", name := "size", desc := "(I)I" } : Jvm.MethodName) prog_1_method_9_code (3 : Nat) (Option.some Jvm.ClassFile.FieldType.int)) ∈ lw_good := tw_at 613 rfl rfl
theorem tw_614 : (Jvm.Cond.methodLink "SnapshotHeapLaw" (100 : Nat) ({ cls := "SnapshotHeapLaw", name := "value", desc := "(LSnapshotHeap;I[J)I" } : Jvm.MethodName)) ∈ lw_good := tw_at 614 (by decide +kernel) rfl
theorem tw_615 : (Jvm.Cond.static ({ cls := "SnapshotHeapLaw", name := "value", desc := "(LSnapshotHeap;I[J)I" } : Jvm.MethodName)) ∈ lw_good := tw_at 615 (by decide +kernel) rfl
set_option maxRecDepth 100000 in
theorem tw_616 : (Jvm.Cond.codeWith ({ cls := "SnapshotHeapLaw", name := "value", desc := "(LSnapshotHeap;I[J)I" } : Jvm.MethodName) method_11_code (4 : Nat) (Option.some Jvm.ClassFile.FieldType.int) [((0 : Nat), (8 : Nat), (11 : Nat), (13 : Nat))]) ∈ lw_good := tw_at 616 rfl rfl
theorem tw_617 : (Jvm.Cond.methodLink "SnapshotHeapLaw" (47 : Nat) ({ cls := "SnapshotHeap", name := "value", desc := "(I)J" } : Jvm.MethodName)) ∈ lw_good := tw_at 617 (by decide +kernel) rfl
theorem tw_618 : (Jvm.Cond.instanceMethod ({ cls := "SnapshotHeap", name := "value", desc := "(I)J" } : Jvm.MethodName)) ∈ lw_good := tw_at 618 (by decide +kernel) rfl
theorem tw_619 : (Jvm.Cond.selects "SnapshotHeap" ({ cls := "SnapshotHeap", name := "value", desc := "(I)J" } : Jvm.MethodName) ({ cls := "SnapshotHeap", name := "value", desc := "(I)J" } : Jvm.MethodName)) ∈ lw_good := tw_at 619 (by decide +kernel) rfl
set_option maxRecDepth 100000 in
theorem tw_620 : (Jvm.Cond.code ({ cls := "SnapshotHeap", name := "value", desc := "(I)J" } : Jvm.MethodName) prog_1_method_10_code (2 : Nat) (Option.some Jvm.ClassFile.FieldType.long)) ∈ lw_good := tw_at 620 rfl rfl
theorem tw_621 : (Jvm.Cond.methodLink "SnapshotHeap" (104 : Nat) ({ cls := "SnapshotHeap$Store", name := "numberAt", desc := "(I)J" } : Jvm.MethodName)) ∈ lw_good := tw_at 621 (by decide +kernel) rfl
theorem tw_622 : (Jvm.Cond.methodLink "SnapshotHeapLaw" (103 : Nat) ({ cls := "SnapshotHeapLaw", name := "same", desc := "(LSnapshotHeap;II[J)I" } : Jvm.MethodName)) ∈ lw_good := tw_at 622 (by decide +kernel) rfl
theorem tw_623 : (Jvm.Cond.static ({ cls := "SnapshotHeapLaw", name := "same", desc := "(LSnapshotHeap;II[J)I" } : Jvm.MethodName)) ∈ lw_good := tw_at 623 (by decide +kernel) rfl
set_option maxRecDepth 100000 in
theorem tw_624 : (Jvm.Cond.codeWith ({ cls := "SnapshotHeapLaw", name := "same", desc := "(LSnapshotHeap;II[J)I" } : Jvm.MethodName) method_12_code (5 : Nat) (Option.some Jvm.ClassFile.FieldType.int) [((0 : Nat), (17 : Nat), (20 : Nat), (13 : Nat))]) ∈ lw_good := tw_at 624 rfl rfl
theorem tw_625 : (Jvm.Cond.methodLink "SnapshotHeapLaw" (51 : Nat) ({ cls := "SnapshotHeap", name := "same", desc := "(II)Z" } : Jvm.MethodName)) ∈ lw_good := tw_at 625 (by decide +kernel) rfl
theorem tw_626 : (Jvm.Cond.instanceMethod ({ cls := "SnapshotHeap", name := "same", desc := "(II)Z" } : Jvm.MethodName)) ∈ lw_good := tw_at 626 (by decide +kernel) rfl
theorem tw_627 : (Jvm.Cond.selects "SnapshotHeap" ({ cls := "SnapshotHeap", name := "same", desc := "(II)Z" } : Jvm.MethodName) ({ cls := "SnapshotHeap", name := "same", desc := "(II)Z" } : Jvm.MethodName)) ∈ lw_good := tw_at 627 (by decide +kernel) rfl
set_option maxRecDepth 100000 in
theorem tw_628 : (Jvm.Cond.code ({ cls := "SnapshotHeap", name := "same", desc := "(II)Z" } : Jvm.MethodName) prog_1_method_11_code (3 : Nat) (Option.some Jvm.ClassFile.FieldType.boolean)) ∈ lw_good := tw_at 628 rfl rfl
theorem tw_629 : (Jvm.Cond.methodLink "SnapshotHeap" (108 : Nat) ({ cls := "SnapshotHeap$Store", name := "alike", desc := "(II)Z" } : Jvm.MethodName)) ∈ lw_good := tw_at 629 (by decide +kernel) rfl
theorem tw_630 : (Jvm.Cond.instanceMethod ({ cls := "SnapshotHeap$Store", name := "alike", desc := "(II)Z" } : Jvm.MethodName)) ∈ lw_good := tw_at 630 (by decide +kernel) rfl
theorem tw_631 : (Jvm.Cond.selects "SnapshotHeap$Store" ({ cls := "SnapshotHeap$Store", name := "alike", desc := "(II)Z" } : Jvm.MethodName) ({ cls := "SnapshotHeap$Store", name := "alike", desc := "(II)Z" } : Jvm.MethodName)) ∈ lw_good := tw_at 631 (by decide +kernel) rfl
set_option maxRecDepth 100000 in
theorem tw_632 : (Jvm.Cond.code ({ cls := "SnapshotHeap$Store", name := "alike", desc := "(II)Z" } : Jvm.MethodName) prog_6_method_17_code (3 : Nat) (Option.some Jvm.ClassFile.FieldType.boolean)) ∈ lw_good := tw_at 632 rfl rfl
theorem tw_633 : (Jvm.Cond.methodLink "SnapshotHeapLaw" (106 : Nat) ({ cls := "SnapshotHeapLaw", name := "count", desc := "(LSnapshotHeap;I[J)I" } : Jvm.MethodName)) ∈ lw_good := tw_at 633 (by decide +kernel) rfl
theorem tw_634 : (Jvm.Cond.static ({ cls := "SnapshotHeapLaw", name := "count", desc := "(LSnapshotHeap;I[J)I" } : Jvm.MethodName)) ∈ lw_good := tw_at 634 (by decide +kernel) rfl
set_option maxRecDepth 100000 in
theorem tw_635 : (Jvm.Cond.codeWith ({ cls := "SnapshotHeapLaw", name := "count", desc := "(LSnapshotHeap;I[J)I" } : Jvm.MethodName) method_13_code (4 : Nat) (Option.some Jvm.ClassFile.FieldType.int) [((0 : Nat), (9 : Nat), (12 : Nat), (15 : Nat))]) ∈ lw_good := tw_at 635 rfl rfl
theorem tw_636 : (Jvm.Cond.methodLink "SnapshotHeapLaw" (55 : Nat) ({ cls := "SnapshotHeap", name := "count", desc := "(I)I" } : Jvm.MethodName)) ∈ lw_good := tw_at 636 (by decide +kernel) rfl
theorem tw_637 : (Jvm.Cond.instanceMethod ({ cls := "SnapshotHeap", name := "count", desc := "(I)I" } : Jvm.MethodName)) ∈ lw_good := tw_at 637 (by decide +kernel) rfl
theorem tw_638 : (Jvm.Cond.selects "SnapshotHeap" ({ cls := "SnapshotHeap", name := "count", desc := "(I)I" } : Jvm.MethodName) ({ cls := "SnapshotHeap", name := "count", desc := "(I)I" } : Jvm.MethodName)) ∈ lw_good := tw_at 638 (by decide +kernel) rfl
set_option maxRecDepth 100000 in
theorem tw_639 : (Jvm.Cond.code ({ cls := "SnapshotHeap", name := "count", desc := "(I)I" } : Jvm.MethodName) prog_1_method_12_code (2 : Nat) (Option.some Jvm.ClassFile.FieldType.int)) ∈ lw_good := tw_at 639 rfl rfl
theorem tw_640 : (Jvm.Cond.methodLink "SnapshotHeap" (115 : Nat) ({ cls := "SnapshotHeap$Walk", name := "tuples", desc := "()I" } : Jvm.MethodName)) ∈ lw_good := tw_at 640 (by decide +kernel) rfl
theorem tw_641 : (Jvm.Cond.instanceMethod ({ cls := "SnapshotHeap$Walk", name := "tuples", desc := "()I" } : Jvm.MethodName)) ∈ lw_good := tw_at 641 (by decide +kernel) rfl
theorem tw_642 : (Jvm.Cond.selects "SnapshotHeap$Walk" ({ cls := "SnapshotHeap$Walk", name := "tuples", desc := "()I" } : Jvm.MethodName) ({ cls := "SnapshotHeap$Walk", name := "tuples", desc := "()I" } : Jvm.MethodName)) ∈ lw_good := tw_at 642 (by decide +kernel) rfl
set_option maxRecDepth 100000 in
theorem tw_643 : (Jvm.Cond.code ({ cls := "SnapshotHeap$Walk", name := "tuples", desc := "()I" } : Jvm.MethodName) prog_7_method_2_code (1 : Nat) (Option.some Jvm.ClassFile.FieldType.int)) ∈ lw_good := tw_at 643 rfl rfl
theorem tw_644 : (Jvm.Cond.methodLink "SnapshotHeap" (119 : Nat) ({ cls := "SnapshotHeap$Walk", name := "cells", desc := "()I" } : Jvm.MethodName)) ∈ lw_good := tw_at 644 (by decide +kernel) rfl
theorem tw_645 : (Jvm.Cond.instanceMethod ({ cls := "SnapshotHeap$Walk", name := "cells", desc := "()I" } : Jvm.MethodName)) ∈ lw_good := tw_at 645 (by decide +kernel) rfl
theorem tw_646 : (Jvm.Cond.selects "SnapshotHeap$Walk" ({ cls := "SnapshotHeap$Walk", name := "cells", desc := "()I" } : Jvm.MethodName) ({ cls := "SnapshotHeap$Walk", name := "cells", desc := "()I" } : Jvm.MethodName)) ∈ lw_good := tw_at 646 (by decide +kernel) rfl
set_option maxRecDepth 100000 in
theorem tw_647 : (Jvm.Cond.code ({ cls := "SnapshotHeap$Walk", name := "cells", desc := "()I" } : Jvm.MethodName) prog_7_method_3_code (1 : Nat) (Option.some Jvm.ClassFile.FieldType.int)) ∈ lw_good := tw_at 647 rfl rfl
theorem tw_648 : (Jvm.Cond.classLink "SnapshotHeapLaw" (59 : Nat) "SnapshotHeapModel") ∈ lw_good := tw_at 648 (by decide +kernel) rfl
theorem tw_649 : (Jvm.Cond.instantiable "SnapshotHeapModel" (15 : Nat)) ∈ lw_good := tw_at 649 (by decide +kernel) rfl
theorem tw_650 : (Jvm.Cond.methodLink "SnapshotHeapLaw" (61 : Nat) ({ cls := "SnapshotHeapModel", name := "<init>", desc := "()V" } : Jvm.MethodName)) ∈ lw_good := tw_at 650 (by decide +kernel) rfl
theorem tw_651 : (Jvm.Cond.instanceMethod ({ cls := "SnapshotHeapModel", name := "<init>", desc := "()V" } : Jvm.MethodName)) ∈ lw_good := tw_at 651 (by decide +kernel) rfl
set_option maxRecDepth 100000 in
theorem tw_652 : (Jvm.Cond.code ({ cls := "SnapshotHeapModel", name := "<init>", desc := "()V" } : Jvm.MethodName) prog_9_method_1_code (1 : Nat) (Option.none : Option Jvm.ClassFile.FieldType)) ∈ lw_good := tw_at 652 rfl rfl
theorem tw_653 : (Jvm.Cond.methodLink "SnapshotHeapModel" (1 : Nat) ({ cls := "java/lang/Object", name := "<init>", desc := "()V" } : Jvm.MethodName)) ∈ lw_good := tw_at 653 (by decide +kernel) rfl
theorem tw_654 : (Jvm.Cond.fieldLink "SnapshotHeapModel" (9 : Nat) "SnapshotHeapModel" "value" "[J") ∈ lw_good := tw_at 654 (by decide +kernel) rfl
theorem tw_655 : (Jvm.Cond.fieldLink "SnapshotHeapModel" (13 : Nat) "SnapshotHeapModel" "root" "[J") ∈ lw_good := tw_at 655 (by decide +kernel) rfl
theorem tw_656 : (Jvm.Cond.fieldLink "SnapshotHeapModel" (16 : Nat) "SnapshotHeapModel" "refers" "[Z") ∈ lw_good := tw_at 656 (by decide +kernel) rfl
theorem tw_657 : (Jvm.Cond.fieldLink "SnapshotHeapModel" (20 : Nat) "SnapshotHeapModel" "rootRefers" "[Z") ∈ lw_good := tw_at 657 (by decide +kernel) rfl
theorem tw_658 : (Jvm.Cond.fieldLink "SnapshotHeapModel" (23 : Nat) "SnapshotHeapModel" "isReached" "[Z") ∈ lw_good := tw_at 658 (by decide +kernel) rfl
theorem tw_659 : (Jvm.Cond.fieldLink "SnapshotHeapModel" (26 : Nat) "SnapshotHeapModel" "size" "[I") ∈ lw_good := tw_at 659 (by decide +kernel) rfl
theorem tw_660 : (Jvm.Cond.fieldLink "SnapshotHeapModel" (30 : Nat) "SnapshotHeapModel" "todo" "[I") ∈ lw_good := tw_at 660 (by decide +kernel) rfl
theorem tw_661 : (Jvm.Cond.fieldLink "SnapshotHeapModel" (33 : Nat) "SnapshotHeapModel" "met" "[I") ∈ lw_good := tw_at 661 (by decide +kernel) rfl
theorem tw_662 : (Jvm.Cond.fieldLink "SnapshotHeapModel" (36 : Nat) "SnapshotHeapModel" "next" "[I") ∈ lw_good := tw_at 662 (by decide +kernel) rfl
theorem tw_663 : (Jvm.Cond.fieldLink "SnapshotHeapModel" (66 : Nat) "SnapshotHeapModel" "made" "I") ∈ lw_good := tw_at 663 (by decide +kernel) rfl
theorem tw_664 : (Jvm.Cond.fieldLink "SnapshotHeapModel" (39 : Nat) "SnapshotHeapModel" "pace" "I") ∈ lw_good := tw_at 664 (by decide +kernel) rfl
theorem tw_665 : (Jvm.Cond.fieldLink "SnapshotHeapModel" (46 : Nat) "SnapshotHeapModel" "reached" "I") ∈ lw_good := tw_at 665 (by decide +kernel) rfl
theorem tw_666 : (Jvm.Cond.fieldLink "SnapshotHeapModel" (49 : Nat) "SnapshotHeapModel" "cells" "I") ∈ lw_good := tw_at 666 (by decide +kernel) rfl
theorem tw_667 : (Jvm.Cond.fieldLink "SnapshotHeapModel" (43 : Nat) "SnapshotHeapModel" "thrown" "I") ∈ lw_good := tw_at 667 (by decide +kernel) rfl
theorem tw_668 : (Jvm.Cond.fieldLink "SnapshotHeapModel" (52 : Nat) "SnapshotHeapModel" "tops" "I") ∈ lw_good := tw_at 668 (by decide +kernel) rfl
theorem tw_669 : (Jvm.Cond.laysFinal "SnapshotHeapModel" "SnapshotHeapModel" "value" "[J") ∈ lw_good := tw_at 669 (by decide +kernel) rfl
theorem tw_670 : (Jvm.Cond.soleField "SnapshotHeapModel" "value") ∈ lw_good := tw_at 670 (by decide +kernel) rfl
theorem tw_671 : (Jvm.Cond.laysFinal "SnapshotHeapModel" "SnapshotHeapModel" "root" "[J") ∈ lw_good := tw_at 671 (by decide +kernel) rfl
theorem tw_672 : (Jvm.Cond.soleField "SnapshotHeapModel" "root") ∈ lw_good := tw_at 672 (by decide +kernel) rfl
theorem tw_673 : (Jvm.Cond.laysFinal "SnapshotHeapModel" "SnapshotHeapModel" "refers" "[Z") ∈ lw_good := tw_at 673 (by decide +kernel) rfl
theorem tw_674 : (Jvm.Cond.soleField "SnapshotHeapModel" "refers") ∈ lw_good := tw_at 674 (by decide +kernel) rfl
theorem tw_675 : (Jvm.Cond.laysFinal "SnapshotHeapModel" "SnapshotHeapModel" "rootRefers" "[Z") ∈ lw_good := tw_at 675 (by decide +kernel) rfl
theorem tw_676 : (Jvm.Cond.soleField "SnapshotHeapModel" "rootRefers") ∈ lw_good := tw_at 676 (by decide +kernel) rfl
theorem tw_677 : (Jvm.Cond.laysFinal "SnapshotHeapModel" "SnapshotHeapModel" "isReached" "[Z") ∈ lw_good := tw_at 677 (by decide +kernel) rfl
theorem tw_678 : (Jvm.Cond.soleField "SnapshotHeapModel" "isReached") ∈ lw_good := tw_at 678 (by decide +kernel) rfl
theorem tw_679 : (Jvm.Cond.laysFinal "SnapshotHeapModel" "SnapshotHeapModel" "size" "[I") ∈ lw_good := tw_at 679 (by decide +kernel) rfl
theorem tw_680 : (Jvm.Cond.soleField "SnapshotHeapModel" "size") ∈ lw_good := tw_at 680 (by decide +kernel) rfl
theorem tw_681 : (Jvm.Cond.laysFinal "SnapshotHeapModel" "SnapshotHeapModel" "todo" "[I") ∈ lw_good := tw_at 681 (by decide +kernel) rfl
theorem tw_682 : (Jvm.Cond.soleField "SnapshotHeapModel" "todo") ∈ lw_good := tw_at 682 (by decide +kernel) rfl
theorem tw_683 : (Jvm.Cond.laysFinal "SnapshotHeapModel" "SnapshotHeapModel" "met" "[I") ∈ lw_good := tw_at 683 (by decide +kernel) rfl
theorem tw_684 : (Jvm.Cond.soleField "SnapshotHeapModel" "met") ∈ lw_good := tw_at 684 (by decide +kernel) rfl
theorem tw_685 : (Jvm.Cond.laysFinal "SnapshotHeapModel" "SnapshotHeapModel" "next" "[I") ∈ lw_good := tw_at 685 (by decide +kernel) rfl
theorem tw_686 : (Jvm.Cond.soleField "SnapshotHeapModel" "next") ∈ lw_good := tw_at 686 (by decide +kernel) rfl
theorem tw_687 : (Jvm.Cond.lays "SnapshotHeapModel" "SnapshotHeapModel" "made" "I") ∈ lw_good := tw_at 687 (by decide +kernel) rfl
theorem tw_688 : (Jvm.Cond.soleField "SnapshotHeapModel" "made") ∈ lw_good := tw_at 688 (by decide +kernel) rfl
theorem tw_689 : (Jvm.Cond.lays "SnapshotHeapModel" "SnapshotHeapModel" "pace" "I") ∈ lw_good := tw_at 689 (by decide +kernel) rfl
theorem tw_690 : (Jvm.Cond.soleField "SnapshotHeapModel" "pace") ∈ lw_good := tw_at 690 (by decide +kernel) rfl
theorem tw_691 : (Jvm.Cond.lays "SnapshotHeapModel" "SnapshotHeapModel" "reached" "I") ∈ lw_good := tw_at 691 (by decide +kernel) rfl
theorem tw_692 : (Jvm.Cond.soleField "SnapshotHeapModel" "reached") ∈ lw_good := tw_at 692 (by decide +kernel) rfl
theorem tw_693 : (Jvm.Cond.lays "SnapshotHeapModel" "SnapshotHeapModel" "cells" "I") ∈ lw_good := tw_at 693 (by decide +kernel) rfl
theorem tw_694 : (Jvm.Cond.soleField "SnapshotHeapModel" "cells") ∈ lw_good := tw_at 694 (by decide +kernel) rfl
theorem tw_695 : (Jvm.Cond.lays "SnapshotHeapModel" "SnapshotHeapModel" "thrown" "I") ∈ lw_good := tw_at 695 (by decide +kernel) rfl
theorem tw_696 : (Jvm.Cond.soleField "SnapshotHeapModel" "thrown") ∈ lw_good := tw_at 696 (by decide +kernel) rfl
theorem tw_697 : (Jvm.Cond.lays "SnapshotHeapModel" "SnapshotHeapModel" "tops" "I") ∈ lw_good := tw_at 697 (by decide +kernel) rfl
theorem tw_698 : (Jvm.Cond.soleField "SnapshotHeapModel" "tops") ∈ lw_good := tw_at 698 (by decide +kernel) rfl
theorem tw_699 : (Jvm.Cond.superclass "SnapshotHeapModel" "java/lang/Object") ∈ lw_good := tw_at 699 (by decide +kernel) rfl
theorem tw_700 : (Jvm.Cond.arrayClass Jvm.ClassFile.FieldType.boolean) ∈ lw_good := tw_at 700 (by decide +kernel) rfl
theorem tw_701 : (Jvm.Cond.methodLink "SnapshotHeapLaw" (68 : Nat) ({ cls := "SnapshotHeapModel", name := "thrown", desc := "()I" } : Jvm.MethodName)) ∈ lw_good := tw_at 701 (by decide +kernel) rfl
theorem tw_702 : (Jvm.Cond.instanceMethod ({ cls := "SnapshotHeapModel", name := "thrown", desc := "()I" } : Jvm.MethodName)) ∈ lw_good := tw_at 702 (by decide +kernel) rfl
theorem tw_703 : (Jvm.Cond.selects "SnapshotHeapModel" ({ cls := "SnapshotHeapModel", name := "thrown", desc := "()I" } : Jvm.MethodName) ({ cls := "SnapshotHeapModel", name := "thrown", desc := "()I" } : Jvm.MethodName)) ∈ lw_good := tw_at 703 (by decide +kernel) rfl
set_option maxRecDepth 100000 in
theorem tw_704 : (Jvm.Cond.code ({ cls := "SnapshotHeapModel", name := "thrown", desc := "()I" } : Jvm.MethodName) prog_9_method_2_code (1 : Nat) (Option.some Jvm.ClassFile.FieldType.int)) ∈ lw_good := tw_at 704 rfl rfl
theorem tw_705 : (Jvm.Cond.methodLink "SnapshotHeapLaw" (67 : Nat) ({ cls := "SnapshotHeapModel", name := "tuple", desc := "(II)I" } : Jvm.MethodName)) ∈ lw_good := tw_at 705 (by decide +kernel) rfl
theorem tw_706 : (Jvm.Cond.instanceMethod ({ cls := "SnapshotHeapModel", name := "tuple", desc := "(II)I" } : Jvm.MethodName)) ∈ lw_good := tw_at 706 (by decide +kernel) rfl
theorem tw_707 : (Jvm.Cond.selects "SnapshotHeapModel" ({ cls := "SnapshotHeapModel", name := "tuple", desc := "(II)I" } : Jvm.MethodName) ({ cls := "SnapshotHeapModel", name := "tuple", desc := "(II)I" } : Jvm.MethodName)) ∈ lw_good := tw_at 707 (by decide +kernel) rfl
set_option maxRecDepth 100000 in
theorem tw_708 : (Jvm.Cond.code ({ cls := "SnapshotHeapModel", name := "tuple", desc := "(II)I" } : Jvm.MethodName) prog_9_method_6_code (5 : Nat) (Option.some Jvm.ClassFile.FieldType.int)) ∈ lw_good := tw_at 708 rfl rfl
theorem tw_709 : (Jvm.Cond.methodLink "SnapshotHeapModel" (59 : Nat) ({ cls := "SnapshotHeapModel", name := "isRoot", desc := "(I)Z" } : Jvm.MethodName)) ∈ lw_good := tw_at 709 (by decide +kernel) rfl
theorem tw_710 : (Jvm.Cond.static ({ cls := "SnapshotHeapModel", name := "isRoot", desc := "(I)Z" } : Jvm.MethodName)) ∈ lw_good := tw_at 710 (by decide +kernel) rfl
set_option maxRecDepth 100000 in
theorem tw_711 : (Jvm.Cond.code ({ cls := "SnapshotHeapModel", name := "isRoot", desc := "(I)Z" } : Jvm.MethodName) prog_9_method_3_code (1 : Nat) (Option.some Jvm.ClassFile.FieldType.boolean)) ∈ lw_good := tw_at 711 rfl rfl
theorem tw_712 : (Jvm.Cond.methodLink "SnapshotHeapModel" (63 : Nat) ({ cls := "SnapshotHeapModel", name := "reachAll", desc := "()V" } : Jvm.MethodName)) ∈ lw_good := tw_at 712 (by decide +kernel) rfl
theorem tn_713 : (Jvm.Cond.privateMethod ({ cls := "SnapshotHeapModel", name := "reachAll", desc := "()V" } : Jvm.MethodName)) ∈ lw_tbl := List.mem_append_right _ (List.mem_of_getElem? (i := 713) (by decide +kernel))
theorem tw_714 : (Jvm.Cond.instanceMethod ({ cls := "SnapshotHeapModel", name := "reachAll", desc := "()V" } : Jvm.MethodName)) ∈ lw_good := tw_at 714 (by decide +kernel) rfl
set_option maxRecDepth 100000 in
theorem tw_715 : (Jvm.Cond.code ({ cls := "SnapshotHeapModel", name := "reachAll", desc := "()V" } : Jvm.MethodName) prog_9_method_5_code (3 : Nat) (Option.none : Option Jvm.ClassFile.FieldType)) ∈ lw_good := tw_at 715 rfl rfl
theorem tw_716 : (Jvm.Cond.methodLink "SnapshotHeapModel" (55 : Nat) ({ cls := "SnapshotHeapModel", name := "reach", desc := "(J)V" } : Jvm.MethodName)) ∈ lw_good := tw_at 716 (by decide +kernel) rfl
theorem tn_717 : (Jvm.Cond.privateMethod ({ cls := "SnapshotHeapModel", name := "reach", desc := "(J)V" } : Jvm.MethodName)) ∈ lw_tbl := List.mem_append_right _ (List.mem_of_getElem? (i := 717) (by decide +kernel))
theorem tw_718 : (Jvm.Cond.instanceMethod ({ cls := "SnapshotHeapModel", name := "reach", desc := "(J)V" } : Jvm.MethodName)) ∈ lw_good := tw_at 718 (by decide +kernel) rfl
set_option maxRecDepth 100000 in
theorem tw_719 : (Jvm.Cond.code ({ cls := "SnapshotHeapModel", name := "reach", desc := "(J)V" } : Jvm.MethodName) prog_9_method_4_code (4 : Nat) (Option.none : Option Jvm.ClassFile.FieldType)) ∈ lw_good := tw_at 719 rfl rfl
theorem tw_720 : (Jvm.Cond.methodLink "SnapshotHeapLaw" (77 : Nat) ({ cls := "SnapshotHeapModel", name := "number", desc := "(IJ)V" } : Jvm.MethodName)) ∈ lw_good := tw_at 720 (by decide +kernel) rfl
theorem tw_721 : (Jvm.Cond.instanceMethod ({ cls := "SnapshotHeapModel", name := "number", desc := "(IJ)V" } : Jvm.MethodName)) ∈ lw_good := tw_at 721 (by decide +kernel) rfl
theorem tw_722 : (Jvm.Cond.selects "SnapshotHeapModel" ({ cls := "SnapshotHeapModel", name := "number", desc := "(IJ)V" } : Jvm.MethodName) ({ cls := "SnapshotHeapModel", name := "number", desc := "(IJ)V" } : Jvm.MethodName)) ∈ lw_good := tw_at 722 (by decide +kernel) rfl
set_option maxRecDepth 100000 in
theorem tw_723 : (Jvm.Cond.code ({ cls := "SnapshotHeapModel", name := "number", desc := "(IJ)V" } : Jvm.MethodName) prog_9_method_7_code (4 : Nat) (Option.none : Option Jvm.ClassFile.FieldType)) ∈ lw_good := tw_at 723 rfl rfl
theorem tw_724 : (Jvm.Cond.methodLink "SnapshotHeapLaw" (81 : Nat) ({ cls := "SnapshotHeapModel", name := "copy", desc := "(II)V" } : Jvm.MethodName)) ∈ lw_good := tw_at 724 (by decide +kernel) rfl
theorem tw_725 : (Jvm.Cond.instanceMethod ({ cls := "SnapshotHeapModel", name := "copy", desc := "(II)V" } : Jvm.MethodName)) ∈ lw_good := tw_at 725 (by decide +kernel) rfl
theorem tw_726 : (Jvm.Cond.selects "SnapshotHeapModel" ({ cls := "SnapshotHeapModel", name := "copy", desc := "(II)V" } : Jvm.MethodName) ({ cls := "SnapshotHeapModel", name := "copy", desc := "(II)V" } : Jvm.MethodName)) ∈ lw_good := tw_at 726 (by decide +kernel) rfl
set_option maxRecDepth 100000 in
theorem tw_727 : (Jvm.Cond.code ({ cls := "SnapshotHeapModel", name := "copy", desc := "(II)V" } : Jvm.MethodName) prog_9_method_8_code (3 : Nat) (Option.none : Option Jvm.ClassFile.FieldType)) ∈ lw_good := tw_at 727 rfl rfl
theorem tw_728 : (Jvm.Cond.methodLink "SnapshotHeapLaw" (85 : Nat) ({ cls := "SnapshotHeapModel", name := "get", desc := "(III)V" } : Jvm.MethodName)) ∈ lw_good := tw_at 728 (by decide +kernel) rfl
theorem tw_729 : (Jvm.Cond.instanceMethod ({ cls := "SnapshotHeapModel", name := "get", desc := "(III)V" } : Jvm.MethodName)) ∈ lw_good := tw_at 729 (by decide +kernel) rfl
theorem tw_730 : (Jvm.Cond.selects "SnapshotHeapModel" ({ cls := "SnapshotHeapModel", name := "get", desc := "(III)V" } : Jvm.MethodName) ({ cls := "SnapshotHeapModel", name := "get", desc := "(III)V" } : Jvm.MethodName)) ∈ lw_good := tw_at 730 (by decide +kernel) rfl
set_option maxRecDepth 100000 in
theorem tw_731 : (Jvm.Cond.code ({ cls := "SnapshotHeapModel", name := "get", desc := "(III)V" } : Jvm.MethodName) prog_9_method_10_code (5 : Nat) (Option.none : Option Jvm.ClassFile.FieldType)) ∈ lw_good := tw_at 731 rfl rfl
theorem tw_732 : (Jvm.Cond.methodLink "SnapshotHeapModel" (69 : Nat) ({ cls := "SnapshotHeapModel", name := "place", desc := "(III)I" } : Jvm.MethodName)) ∈ lw_good := tw_at 732 (by decide +kernel) rfl
theorem tn_733 : (Jvm.Cond.privateMethod ({ cls := "SnapshotHeapModel", name := "place", desc := "(III)I" } : Jvm.MethodName)) ∈ lw_tbl := List.mem_append_right _ (List.mem_of_getElem? (i := 733) (by decide +kernel))
theorem tw_734 : (Jvm.Cond.instanceMethod ({ cls := "SnapshotHeapModel", name := "place", desc := "(III)I" } : Jvm.MethodName)) ∈ lw_good := tw_at 734 (by decide +kernel) rfl
set_option maxRecDepth 100000 in
theorem tw_735 : (Jvm.Cond.code ({ cls := "SnapshotHeapModel", name := "place", desc := "(III)I" } : Jvm.MethodName) prog_9_method_9_code (4 : Nat) (Option.some Jvm.ClassFile.FieldType.int)) ∈ lw_good := tw_at 735 rfl rfl
theorem tw_736 : (Jvm.Cond.methodLink "SnapshotHeapLaw" (88 : Nat) ({ cls := "SnapshotHeapModel", name := "set", desc := "(III)V" } : Jvm.MethodName)) ∈ lw_good := tw_at 736 (by decide +kernel) rfl
theorem tw_737 : (Jvm.Cond.instanceMethod ({ cls := "SnapshotHeapModel", name := "set", desc := "(III)V" } : Jvm.MethodName)) ∈ lw_good := tw_at 737 (by decide +kernel) rfl
theorem tw_738 : (Jvm.Cond.selects "SnapshotHeapModel" ({ cls := "SnapshotHeapModel", name := "set", desc := "(III)V" } : Jvm.MethodName) ({ cls := "SnapshotHeapModel", name := "set", desc := "(III)V" } : Jvm.MethodName)) ∈ lw_good := tw_at 738 (by decide +kernel) rfl
set_option maxRecDepth 100000 in
theorem tw_739 : (Jvm.Cond.code ({ cls := "SnapshotHeapModel", name := "set", desc := "(III)V" } : Jvm.MethodName) prog_9_method_11_code (5 : Nat) (Option.none : Option Jvm.ClassFile.FieldType)) ∈ lw_good := tw_at 739 rfl rfl
theorem tw_740 : (Jvm.Cond.methodLink "SnapshotHeapLaw" (92 : Nat) ({ cls := "SnapshotHeapModel", name := "step", desc := "(I)V" } : Jvm.MethodName)) ∈ lw_good := tw_at 740 (by decide +kernel) rfl
theorem tw_741 : (Jvm.Cond.instanceMethod ({ cls := "SnapshotHeapModel", name := "step", desc := "(I)V" } : Jvm.MethodName)) ∈ lw_good := tw_at 741 (by decide +kernel) rfl
theorem tw_742 : (Jvm.Cond.selects "SnapshotHeapModel" ({ cls := "SnapshotHeapModel", name := "step", desc := "(I)V" } : Jvm.MethodName) ({ cls := "SnapshotHeapModel", name := "step", desc := "(I)V" } : Jvm.MethodName)) ∈ lw_good := tw_at 742 (by decide +kernel) rfl
set_option maxRecDepth 100000 in
theorem tw_743 : (Jvm.Cond.code ({ cls := "SnapshotHeapModel", name := "step", desc := "(I)V" } : Jvm.MethodName) prog_9_method_12_code (2 : Nat) (Option.none : Option Jvm.ClassFile.FieldType)) ∈ lw_good := tw_at 743 rfl rfl
theorem tw_744 : (Jvm.Cond.methodLink "SnapshotHeapLaw" (96 : Nat) ({ cls := "SnapshotHeapModel", name := "pace", desc := "(I)I" } : Jvm.MethodName)) ∈ lw_good := tw_at 744 (by decide +kernel) rfl
theorem tw_745 : (Jvm.Cond.instanceMethod ({ cls := "SnapshotHeapModel", name := "pace", desc := "(I)I" } : Jvm.MethodName)) ∈ lw_good := tw_at 745 (by decide +kernel) rfl
theorem tw_746 : (Jvm.Cond.selects "SnapshotHeapModel" ({ cls := "SnapshotHeapModel", name := "pace", desc := "(I)I" } : Jvm.MethodName) ({ cls := "SnapshotHeapModel", name := "pace", desc := "(I)I" } : Jvm.MethodName)) ∈ lw_good := tw_at 746 (by decide +kernel) rfl
set_option maxRecDepth 100000 in
theorem tw_747 : (Jvm.Cond.code ({ cls := "SnapshotHeapModel", name := "pace", desc := "(I)I" } : Jvm.MethodName) prog_9_method_13_code (3 : Nat) (Option.some Jvm.ClassFile.FieldType.int)) ∈ lw_good := tw_at 747 rfl rfl
theorem tw_748 : (Jvm.Cond.methodLink "SnapshotHeapLaw" (99 : Nat) ({ cls := "SnapshotHeapModel", name := "size", desc := "(I)I" } : Jvm.MethodName)) ∈ lw_good := tw_at 748 (by decide +kernel) rfl
theorem tw_749 : (Jvm.Cond.instanceMethod ({ cls := "SnapshotHeapModel", name := "size", desc := "(I)I" } : Jvm.MethodName)) ∈ lw_good := tw_at 749 (by decide +kernel) rfl
theorem tw_750 : (Jvm.Cond.selects "SnapshotHeapModel" ({ cls := "SnapshotHeapModel", name := "size", desc := "(I)I" } : Jvm.MethodName) ({ cls := "SnapshotHeapModel", name := "size", desc := "(I)I" } : Jvm.MethodName)) ∈ lw_good := tw_at 750 (by decide +kernel) rfl
set_option maxRecDepth 100000 in
theorem tw_751 : (Jvm.Cond.code ({ cls := "SnapshotHeapModel", name := "size", desc := "(I)I" } : Jvm.MethodName) prog_9_method_14_code (2 : Nat) (Option.some Jvm.ClassFile.FieldType.int)) ∈ lw_good := tw_at 751 rfl rfl
theorem tw_752 : (Jvm.Cond.methodLink "SnapshotHeapLaw" (102 : Nat) ({ cls := "SnapshotHeapModel", name := "value", desc := "(I)J" } : Jvm.MethodName)) ∈ lw_good := tw_at 752 (by decide +kernel) rfl
theorem tw_753 : (Jvm.Cond.instanceMethod ({ cls := "SnapshotHeapModel", name := "value", desc := "(I)J" } : Jvm.MethodName)) ∈ lw_good := tw_at 753 (by decide +kernel) rfl
theorem tw_754 : (Jvm.Cond.selects "SnapshotHeapModel" ({ cls := "SnapshotHeapModel", name := "value", desc := "(I)J" } : Jvm.MethodName) ({ cls := "SnapshotHeapModel", name := "value", desc := "(I)J" } : Jvm.MethodName)) ∈ lw_good := tw_at 754 (by decide +kernel) rfl
set_option maxRecDepth 100000 in
theorem tw_755 : (Jvm.Cond.code ({ cls := "SnapshotHeapModel", name := "value", desc := "(I)J" } : Jvm.MethodName) prog_9_method_15_code (2 : Nat) (Option.some Jvm.ClassFile.FieldType.long)) ∈ lw_good := tw_at 755 rfl rfl
theorem tw_756 : (Jvm.Cond.methodLink "SnapshotHeapLaw" (105 : Nat) ({ cls := "SnapshotHeapModel", name := "same", desc := "(II)Z" } : Jvm.MethodName)) ∈ lw_good := tw_at 756 (by decide +kernel) rfl
theorem tw_757 : (Jvm.Cond.instanceMethod ({ cls := "SnapshotHeapModel", name := "same", desc := "(II)Z" } : Jvm.MethodName)) ∈ lw_good := tw_at 757 (by decide +kernel) rfl
theorem tw_758 : (Jvm.Cond.selects "SnapshotHeapModel" ({ cls := "SnapshotHeapModel", name := "same", desc := "(II)Z" } : Jvm.MethodName) ({ cls := "SnapshotHeapModel", name := "same", desc := "(II)Z" } : Jvm.MethodName)) ∈ lw_good := tw_at 758 (by decide +kernel) rfl
set_option maxRecDepth 100000 in
theorem tw_759 : (Jvm.Cond.code ({ cls := "SnapshotHeapModel", name := "same", desc := "(II)Z" } : Jvm.MethodName) prog_9_method_16_code (3 : Nat) (Option.some Jvm.ClassFile.FieldType.boolean)) ∈ lw_good := tw_at 759 rfl rfl
theorem tw_760 : (Jvm.Cond.methodLink "SnapshotHeapLaw" (108 : Nat) ({ cls := "SnapshotHeapModel", name := "count", desc := "(I)I" } : Jvm.MethodName)) ∈ lw_good := tw_at 760 (by decide +kernel) rfl
theorem tw_761 : (Jvm.Cond.instanceMethod ({ cls := "SnapshotHeapModel", name := "count", desc := "(I)I" } : Jvm.MethodName)) ∈ lw_good := tw_at 761 (by decide +kernel) rfl
theorem tw_762 : (Jvm.Cond.selects "SnapshotHeapModel" ({ cls := "SnapshotHeapModel", name := "count", desc := "(I)I" } : Jvm.MethodName) ({ cls := "SnapshotHeapModel", name := "count", desc := "(I)I" } : Jvm.MethodName)) ∈ lw_good := tw_at 762 (by decide +kernel) rfl
set_option maxRecDepth 100000 in
theorem tw_763 : (Jvm.Cond.code ({ cls := "SnapshotHeapModel", name := "count", desc := "(I)I" } : Jvm.MethodName) prog_9_method_17_code (2 : Nat) (Option.some Jvm.ClassFile.FieldType.int)) ∈ lw_good := tw_at 763 rfl rfl
theorem tw_764 : (Jvm.Cond.methodLink "SnapshotHeapLaw" (113 : Nat) ({ cls := "SnapshotHeapModel", name := "digest", desc := "()J" } : Jvm.MethodName)) ∈ lw_good := tw_at 764 (by decide +kernel) rfl
theorem tw_765 : (Jvm.Cond.instanceMethod ({ cls := "SnapshotHeapModel", name := "digest", desc := "()J" } : Jvm.MethodName)) ∈ lw_good := tw_at 765 (by decide +kernel) rfl
theorem tw_766 : (Jvm.Cond.selects "SnapshotHeapModel" ({ cls := "SnapshotHeapModel", name := "digest", desc := "()J" } : Jvm.MethodName) ({ cls := "SnapshotHeapModel", name := "digest", desc := "()J" } : Jvm.MethodName)) ∈ lw_good := tw_at 766 (by decide +kernel) rfl
set_option maxRecDepth 100000 in
theorem tw_767 : (Jvm.Cond.code ({ cls := "SnapshotHeapModel", name := "digest", desc := "()J" } : Jvm.MethodName) prog_9_method_18_code (10 : Nat) (Option.some Jvm.ClassFile.FieldType.long)) ∈ lw_good := tw_at 767 rfl rfl
theorem tw_768 : (Jvm.Cond.constantLong "SnapshotHeapModel" (73 : Nat) (7 : Int64)) ∈ lw_good := tw_at 768 (by decide +kernel) rfl
theorem tw_769 : (Jvm.Cond.constantLong "SnapshotHeapModel" (75 : Nat) (31 : Int64)) ∈ lw_good := tw_at 769 (by decide +kernel) rfl
theorem tw_770 : (Jvm.Cond.constantLong "SnapshotHeapModel" (77 : Nat) (2 : Int64)) ∈ lw_good := tw_at 770 (by decide +kernel) rfl
theorem tw_771 : (Jvm.Cond.constantLong "SnapshotHeapModel" (79 : Nat) (3 : Int64)) ∈ lw_good := tw_at 771 (by decide +kernel) rfl
theorem tw_772 : (Jvm.Cond.methodLink "SnapshotHeapLaw" (117 : Nat) ({ cls := "SnapshotHeapModel", name := "collect", desc := "()I" } : Jvm.MethodName)) ∈ lw_good := tw_at 772 (by decide +kernel) rfl
theorem tw_773 : (Jvm.Cond.instanceMethod ({ cls := "SnapshotHeapModel", name := "collect", desc := "()I" } : Jvm.MethodName)) ∈ lw_good := tw_at 773 (by decide +kernel) rfl
theorem tw_774 : (Jvm.Cond.selects "SnapshotHeapModel" ({ cls := "SnapshotHeapModel", name := "collect", desc := "()I" } : Jvm.MethodName) ({ cls := "SnapshotHeapModel", name := "collect", desc := "()I" } : Jvm.MethodName)) ∈ lw_good := tw_at 774 (by decide +kernel) rfl
set_option maxRecDepth 100000 in
theorem tw_775 : (Jvm.Cond.code ({ cls := "SnapshotHeapModel", name := "collect", desc := "()I" } : Jvm.MethodName) prog_9_method_19_code (1 : Nat) (Option.some Jvm.ClassFile.FieldType.int)) ∈ lw_good := tw_at 775 rfl rfl
theorem tw_776 : (Jvm.Cond.methodLink "SnapshotHeapLaw" (121 : Nat) ({ cls := "SnapshotHeapModel", name := "check", desc := "()I" } : Jvm.MethodName)) ∈ lw_good := tw_at 776 (by decide +kernel) rfl
theorem tw_777 : (Jvm.Cond.instanceMethod ({ cls := "SnapshotHeapModel", name := "check", desc := "()I" } : Jvm.MethodName)) ∈ lw_good := tw_at 777 (by decide +kernel) rfl
theorem tw_778 : (Jvm.Cond.selects "SnapshotHeapModel" ({ cls := "SnapshotHeapModel", name := "check", desc := "()I" } : Jvm.MethodName) ({ cls := "SnapshotHeapModel", name := "check", desc := "()I" } : Jvm.MethodName)) ∈ lw_good := tw_at 778 (by decide +kernel) rfl
set_option maxRecDepth 100000 in
theorem tw_779 : (Jvm.Cond.code ({ cls := "SnapshotHeapModel", name := "check", desc := "()I" } : Jvm.MethodName) prog_9_method_20_code (1 : Nat) (Option.some Jvm.ClassFile.FieldType.int)) ∈ lw_good := tw_at 779 rfl rfl
theorem tw_780 : (Jvm.Cond.constantLong "SnapshotHeapLaw" (72 : Nat) (4294967295 : Int64)) ∈ lw_good := tw_at 780 (by decide +kernel) rfl
theorem tw_781 : (Jvm.Cond.sameMethod "java/lang/Throwable" "java/lang/Throwable" "fillInStackTrace" "(I)Ljava/lang/Throwable;") ∈ lw_good := tw_at 781 (by decide +kernel) rfl
theorem ts_Co_advance : Cond.selects "SnapshotHeap$Collector" ⟨"SnapshotHeap$Collector", "advance", "()V"⟩ ⟨"SnapshotHeap$Collector", "advance", "()V"⟩ ∈ lw_good := tw_mem (List.mem_append_left _ (List.mem_of_getElem? (i := 0) (by decide +kernel))) rfl
theorem ts_Co_begin : Cond.selects "SnapshotHeap$Collector" ⟨"SnapshotHeap$Collector", "begin", "()V"⟩ ⟨"SnapshotHeap$Collector", "begin", "()V"⟩ ∈ lw_good := tw_mem (List.mem_append_left _ (List.mem_of_getElem? (i := 1) (by decide +kernel))) rfl
theorem ts_Co_sweepOne : Cond.selects "SnapshotHeap$Collector" ⟨"SnapshotHeap$Collector", "sweepOne", "()V"⟩ ⟨"SnapshotHeap$Collector", "sweepOne", "()V"⟩ ∈ lw_good := tw_mem (List.mem_append_left _ (List.mem_of_getElem? (i := 2) (by decide +kernel))) rfl
theorem ts_Wa_goInto : Cond.selects "SnapshotHeap$Walk" ⟨"SnapshotHeap$Walk", "goInto", "(I)V"⟩ ⟨"SnapshotHeap$Walk", "goInto", "(I)V"⟩ ∈ lw_good := tw_mem (List.mem_append_left _ (List.mem_of_getElem? (i := 3) (by decide +kernel))) rfl
theorem ts_Wa_goOn : Cond.selects "SnapshotHeap$Walk" ⟨"SnapshotHeap$Walk", "goOn", "()V"⟩ ⟨"SnapshotHeap$Walk", "goOn", "()V"⟩ ∈ lw_good := tw_mem (List.mem_append_left _ (List.mem_of_getElem? (i := 4) (by decide +kernel))) rfl
theorem ts_Wa_meet : Cond.selects "SnapshotHeap$Walk" ⟨"SnapshotHeap$Walk", "meet", "(I)V"⟩ ⟨"SnapshotHeap$Walk", "meet", "(I)V"⟩ ∈ lw_good := tw_mem (List.mem_append_left _ (List.mem_of_getElem? (i := 5) (by decide +kernel))) rfl
theorem ts_Wa_mix : Cond.selects "SnapshotHeap$Walk" ⟨"SnapshotHeap$Walk", "mix", "(J)V"⟩ ⟨"SnapshotHeap$Walk", "mix", "(J)V"⟩ ∈ lw_good := tw_mem (List.mem_append_left _ (List.mem_of_getElem? (i := 6) (by decide +kernel))) rfl
theorem ts_Wa_meetFirst : Cond.selects "SnapshotHeap$Walk" ⟨"SnapshotHeap$Walk", "meetFirst", "(I)V"⟩ ⟨"SnapshotHeap$Walk", "meetFirst", "(I)V"⟩ ∈ lw_good := tw_mem (List.mem_append_left _ (List.mem_of_getElem? (i := 7) (by decide +kernel))) rfl
theorem ts_Au_markToTheEnd : Cond.selects "SnapshotHeap$Audit" ⟨"SnapshotHeap$Audit", "markToTheEnd", "()V"⟩ ⟨"SnapshotHeap$Audit", "markToTheEnd", "()V"⟩ ∈ lw_good := tw_mem (List.mem_append_left _ (List.mem_of_getElem? (i := 8) (by decide +kernel))) rfl
theorem ts_Au_isMarkWrong : Cond.selects "SnapshotHeap$Audit" ⟨"SnapshotHeap$Audit", "isMarkWrong", "(I)Z"⟩ ⟨"SnapshotHeap$Audit", "isMarkWrong", "(I)Z"⟩ ∈ lw_good := tw_mem (List.mem_append_left _ (List.mem_of_getElem? (i := 9) (by decide +kernel))) rfl
theorem ts_Au_isMarkInUse : Cond.selects "SnapshotHeap$Audit" ⟨"SnapshotHeap$Audit", "isMarkInUse", "(I)Z"⟩ ⟨"SnapshotHeap$Audit", "isMarkInUse", "(I)Z"⟩ ∈ lw_good := tw_mem (List.mem_append_left _ (List.mem_of_getElem? (i := 10) (by decide +kernel))) rfl
theorem ts_St_takeFreePlace : Cond.selects "SnapshotHeap$Store" ⟨"SnapshotHeap$Store", "takeFreePlace", "()I"⟩ ⟨"SnapshotHeap$Store", "takeFreePlace", "()I"⟩ ∈ lw_good := tw_mem (List.mem_append_left _ (List.mem_of_getElem? (i := 12) (by decide +kernel))) rfl
theorem ts_Sh_existingSlot : Cond.selects "SnapshotHeap" ⟨"SnapshotHeap", "existingSlot", "(II)I"⟩ ⟨"SnapshotHeap", "existingSlot", "(II)I"⟩ ∈ lw_good := tw_mem (List.mem_append_left _ (List.mem_of_getElem? (i := 13) (by decide +kernel))) rfl
theorem ts_Mo_reachAll : Cond.selects "SnapshotHeapModel" ⟨"SnapshotHeapModel", "reachAll", "()V"⟩ ⟨"SnapshotHeapModel", "reachAll", "()V"⟩ ∈ lw_good := tw_mem (List.mem_append_left _ (List.mem_of_getElem? (i := 14) (by decide +kernel))) rfl
theorem ts_Mo_reach : Cond.selects "SnapshotHeapModel" ⟨"SnapshotHeapModel", "reach", "(J)V"⟩ ⟨"SnapshotHeapModel", "reach", "(J)V"⟩ ∈ lw_good := tw_mem (List.mem_append_left _ (List.mem_of_getElem? (i := 15) (by decide +kernel))) rfl
theorem ts_Mo_place : Cond.selects "SnapshotHeapModel" ⟨"SnapshotHeapModel", "place", "(III)I"⟩ ⟨"SnapshotHeapModel", "place", "(III)I"⟩ ∈ lw_good := tw_mem (List.mem_append_left _ (List.mem_of_getElem? (i := 16) (by decide +kernel))) rfl
end
section
def R_Sh : String := "SnapshotHeap"
def R_Au : String := "SnapshotHeap$Audit"
def R_Co : String := "SnapshotHeap$Collector"
def R_Ma : String := "SnapshotHeap$Marking"
def R_Ph : String := "SnapshotHeap$Phase"
def R_St : String := "SnapshotHeap$Store"
def R_Wa : String := "SnapshotHeap$Walk"
def R_Mo : String := "SnapshotHeapModel"
def R_La : String := "SnapshotHeapLaw"
def R_Ar : String := "java/util/Arrays"
def R_Ob : String := "java/lang/Object"
def R_Sy : String := "java/lang/System"
def F_St : u_T := fun k => match k with
  | 0 => ("SnapshotHeap$Store", "sizes", "[I", true)
  | 1 => ("SnapshotHeap$Store", "links", "[I", true)
  | 2 => ("SnapshotHeap$Store", "numbers", "[J", true)
  | 3 => ("SnapshotHeap$Store", "released", "[I", true)
  | 4 => ("SnapshotHeap$Store", "releasedCount", "I", false)
  | 5 => ("SnapshotHeap$Store", "top", "I", false)
  | _ => ("SnapshotHeap$Store", "usedCells", "I", false)
def t_St : Nat → FieldType := fun k => match k with
  | 0 => (.array .int)
  | 1 => (.array .int)
  | 2 => (.array .long)
  | 3 => (.array .int)
  | 4 => .int
  | 5 => .int
  | _ => .int
theorem n_St : ∀ a, a < 7 → ∀ b, b < 7 → a ≠ b → (F_St a).2.1 ≠ (F_St b).2.1 := by decide +kernel
theorem t_St_ok : ∀ k, k < 7 → parseFieldDescriptor (F_St k).2.2.1 = some (t_St k) := by decide +kernel
theorem in_St : ∀ w ∈ u_ws R_St F_St 7, w ∈ lw_good := List.forall_mem_cons.mpr ⟨tw_43, List.forall_mem_cons.mpr ⟨tw_45, List.forall_mem_cons.mpr ⟨tw_47, List.forall_mem_cons.mpr ⟨tw_49, List.forall_mem_cons.mpr ⟨tw_51, List.forall_mem_cons.mpr ⟨tw_53, List.forall_mem_cons.mpr ⟨tw_55, fun _ h => absurd h List.not_mem_nil⟩⟩⟩⟩⟩⟩⟩
theorem gn_St : Cond.initialized R_St ∈ lw_good := tw_2
def F_Ma : u_T := fun k => match k with
  | 0 => ("SnapshotHeap$Marking", "store", "LSnapshotHeap$Store;", true)
  | 1 => ("SnapshotHeap$Marking", "colours", "[I", true)
  | 2 => ("SnapshotHeap$Marking", "waiting", "[I", true)
  | _ => ("SnapshotHeap$Marking", "waitingCount", "I", false)
def t_Ma : Nat → FieldType := fun k => match k with
  | 0 => (.object "SnapshotHeap$Store")
  | 1 => (.array .int)
  | 2 => (.array .int)
  | _ => .int
theorem n_Ma : ∀ a, a < 4 → ∀ b, b < 4 → a ≠ b → (F_Ma a).2.1 ≠ (F_Ma b).2.1 := by decide +kernel
theorem t_Ma_ok : ∀ k, k < 4 → parseFieldDescriptor (F_Ma k).2.2.1 = some (t_Ma k) := by decide +kernel
theorem in_Ma : ∀ w ∈ u_ws R_Ma F_Ma 4, w ∈ lw_good := List.forall_mem_cons.mpr ⟨tw_76, List.forall_mem_cons.mpr ⟨tw_78, List.forall_mem_cons.mpr ⟨tw_80, List.forall_mem_cons.mpr ⟨tw_82, fun _ h => absurd h List.not_mem_nil⟩⟩⟩⟩
theorem gn_Ma : Cond.initialized R_Ma ∈ lw_good := tw_5
def F_Co : u_T := fun k => match k with
  | 0 => ("SnapshotHeap$Collector", "store", "LSnapshotHeap$Store;", true)
  | 1 => ("SnapshotHeap$Collector", "marking", "LSnapshotHeap$Marking;", true)
  | 2 => ("SnapshotHeap$Collector", "phase", "LSnapshotHeap$Phase;", false)
  | _ => ("SnapshotHeap$Collector", "cursor", "I", false)
def t_Co : Nat → FieldType := fun k => match k with
  | 0 => (.object "SnapshotHeap$Store")
  | 1 => (.object "SnapshotHeap$Marking")
  | 2 => (.object "SnapshotHeap$Phase")
  | _ => .int
theorem n_Co : ∀ a, a < 4 → ∀ b, b < 4 → a ≠ b → (F_Co a).2.1 ≠ (F_Co b).2.1 := by decide +kernel
theorem t_Co_ok : ∀ k, k < 4 → parseFieldDescriptor (F_Co k).2.2.1 = some (t_Co k) := by decide +kernel
theorem in_Co : ∀ w ∈ u_ws R_Co F_Co 4, w ∈ lw_good := List.forall_mem_cons.mpr ⟨tw_91, List.forall_mem_cons.mpr ⟨tw_93, List.forall_mem_cons.mpr ⟨tw_95, List.forall_mem_cons.mpr ⟨tw_97, fun _ h => absurd h List.not_mem_nil⟩⟩⟩⟩
theorem gn_Co : Cond.initialized R_Co ∈ lw_good := tw_4
def F_Wa : u_T := fun k => match k with
  | 0 => ("SnapshotHeap$Walk", "store", "LSnapshotHeap$Store;", true)
  | 1 => ("SnapshotHeap$Walk", "metAs", "[I", true)
  | 2 => ("SnapshotHeap$Walk", "path", "[I", true)
  | 3 => ("SnapshotHeap$Walk", "nextValue", "[I", true)
  | 4 => ("SnapshotHeap$Walk", "depth", "I", false)
  | 5 => ("SnapshotHeap$Walk", "met", "I", false)
  | 6 => ("SnapshotHeap$Walk", "metCells", "I", false)
  | _ => ("SnapshotHeap$Walk", "hash", "J", false)
def t_Wa : Nat → FieldType := fun k => match k with
  | 0 => (.object "SnapshotHeap$Store")
  | 1 => (.array .int)
  | 2 => (.array .int)
  | 3 => (.array .int)
  | 4 => .int
  | 5 => .int
  | 6 => .int
  | _ => .long
theorem n_Wa : ∀ a, a < 8 → ∀ b, b < 8 → a ≠ b → (F_Wa a).2.1 ≠ (F_Wa b).2.1 := by decide +kernel
theorem t_Wa_ok : ∀ k, k < 8 → parseFieldDescriptor (F_Wa k).2.2.1 = some (t_Wa k) := by decide +kernel
theorem in_Wa : ∀ w ∈ u_ws R_Wa F_Wa 8, w ∈ lw_good := List.forall_mem_cons.mpr ⟨tw_114, List.forall_mem_cons.mpr ⟨tw_116, List.forall_mem_cons.mpr ⟨tw_118, List.forall_mem_cons.mpr ⟨tw_120, List.forall_mem_cons.mpr ⟨tw_122, List.forall_mem_cons.mpr ⟨tw_124, List.forall_mem_cons.mpr ⟨tw_126, List.forall_mem_cons.mpr ⟨tw_128, fun _ h => absurd h List.not_mem_nil⟩⟩⟩⟩⟩⟩⟩⟩
theorem gn_Wa : Cond.initialized R_Wa ∈ lw_good := tw_8
def F_Au : u_T := fun k => match k with
  | 0 => ("SnapshotHeap$Audit", "store", "LSnapshotHeap$Store;", true)
  | 1 => ("SnapshotHeap$Audit", "collector", "LSnapshotHeap$Collector;", true)
  | 2 => ("SnapshotHeap$Audit", "walk", "LSnapshotHeap$Walk;", true)
  | 3 => ("SnapshotHeap$Audit", "trial", "LSnapshotHeap$Marking;", true)
  | _ => ("SnapshotHeap$Audit", "holders", "[I", true)
def t_Au : Nat → FieldType := fun k => match k with
  | 0 => (.object "SnapshotHeap$Store")
  | 1 => (.object "SnapshotHeap$Collector")
  | 2 => (.object "SnapshotHeap$Walk")
  | 3 => (.object "SnapshotHeap$Marking")
  | _ => (.array .int)
theorem n_Au : ∀ a, a < 5 → ∀ b, b < 5 → a ≠ b → (F_Au a).2.1 ≠ (F_Au b).2.1 := by decide +kernel
theorem t_Au_ok : ∀ k, k < 5 → parseFieldDescriptor (F_Au k).2.2.1 = some (t_Au k) := by decide +kernel
theorem in_Au : ∀ w ∈ u_ws R_Au F_Au 5, w ∈ lw_good := List.forall_mem_cons.mpr ⟨tw_144, List.forall_mem_cons.mpr ⟨tw_146, List.forall_mem_cons.mpr ⟨tw_148, List.forall_mem_cons.mpr ⟨tw_150, List.forall_mem_cons.mpr ⟨tw_152, fun _ h => absurd h List.not_mem_nil⟩⟩⟩⟩⟩
theorem gn_Au : Cond.initialized R_Au ∈ lw_good := tw_9
def F_Sh : u_T := fun k => match k with
  | 0 => ("SnapshotHeap", "store", "LSnapshotHeap$Store;", true)
  | 1 => ("SnapshotHeap", "collector", "LSnapshotHeap$Collector;", true)
  | 2 => ("SnapshotHeap", "walk", "LSnapshotHeap$Walk;", true)
  | 3 => ("SnapshotHeap", "audit", "LSnapshotHeap$Audit;", true)
  | 4 => ("SnapshotHeap", "pace", "I", false)
  | _ => ("SnapshotHeap", "made", "I", false)
def t_Sh : Nat → FieldType := fun k => match k with
  | 0 => (.object "SnapshotHeap$Store")
  | 1 => (.object "SnapshotHeap$Collector")
  | 2 => (.object "SnapshotHeap$Walk")
  | 3 => (.object "SnapshotHeap$Audit")
  | 4 => .int
  | _ => .int
theorem n_Sh : ∀ a, a < 6 → ∀ b, b < 6 → a ≠ b → (F_Sh a).2.1 ≠ (F_Sh b).2.1 := by decide +kernel
theorem t_Sh_ok : ∀ k, k < 6 → parseFieldDescriptor (F_Sh k).2.2.1 = some (t_Sh k) := by decide +kernel
theorem in_Sh : ∀ w ∈ u_ws R_Sh F_Sh 6, w ∈ lw_good := List.forall_mem_cons.mpr ⟨tw_161, List.forall_mem_cons.mpr ⟨tw_163, List.forall_mem_cons.mpr ⟨tw_165, List.forall_mem_cons.mpr ⟨tw_167, List.forall_mem_cons.mpr ⟨tw_169, List.forall_mem_cons.mpr ⟨tw_171, fun _ h => absurd h List.not_mem_nil⟩⟩⟩⟩⟩⟩
theorem gn_Sh : Cond.initialized R_Sh ∈ lw_good := tw_1
def F_Mo : u_T := fun k => match k with
  | 0 => ("SnapshotHeapModel", "value", "[J", true)
  | 1 => ("SnapshotHeapModel", "root", "[J", true)
  | 2 => ("SnapshotHeapModel", "refers", "[Z", true)
  | 3 => ("SnapshotHeapModel", "rootRefers", "[Z", true)
  | 4 => ("SnapshotHeapModel", "isReached", "[Z", true)
  | 5 => ("SnapshotHeapModel", "size", "[I", true)
  | 6 => ("SnapshotHeapModel", "todo", "[I", true)
  | 7 => ("SnapshotHeapModel", "met", "[I", true)
  | 8 => ("SnapshotHeapModel", "next", "[I", true)
  | 9 => ("SnapshotHeapModel", "made", "I", false)
  | 10 => ("SnapshotHeapModel", "pace", "I", false)
  | 11 => ("SnapshotHeapModel", "reached", "I", false)
  | 12 => ("SnapshotHeapModel", "cells", "I", false)
  | 13 => ("SnapshotHeapModel", "thrown", "I", false)
  | _ => ("SnapshotHeapModel", "tops", "I", false)
def t_Mo : Nat → FieldType := fun k => match k with
  | 0 => (.array .long)
  | 1 => (.array .long)
  | 2 => (.array .boolean)
  | 3 => (.array .boolean)
  | 4 => (.array .boolean)
  | 5 => (.array .int)
  | 6 => (.array .int)
  | 7 => (.array .int)
  | 8 => (.array .int)
  | 9 => .int
  | 10 => .int
  | 11 => .int
  | 12 => .int
  | 13 => .int
  | _ => .int
theorem n_Mo : ∀ a, a < 15 → ∀ b, b < 15 → a ≠ b → (F_Mo a).2.1 ≠ (F_Mo b).2.1 := by decide +kernel
theorem t_Mo_ok : ∀ k, k < 15 → parseFieldDescriptor (F_Mo k).2.2.1 = some (t_Mo k) := by decide +kernel
theorem in_Mo : ∀ w ∈ u_ws R_Mo F_Mo 15, w ∈ lw_good := List.forall_mem_cons.mpr ⟨tw_669, List.forall_mem_cons.mpr ⟨tw_671, List.forall_mem_cons.mpr ⟨tw_673, List.forall_mem_cons.mpr ⟨tw_675, List.forall_mem_cons.mpr ⟨tw_677, List.forall_mem_cons.mpr ⟨tw_679, List.forall_mem_cons.mpr ⟨tw_681, List.forall_mem_cons.mpr ⟨tw_683, List.forall_mem_cons.mpr ⟨tw_685, List.forall_mem_cons.mpr ⟨tw_687, List.forall_mem_cons.mpr ⟨tw_689, List.forall_mem_cons.mpr ⟨tw_691, List.forall_mem_cons.mpr ⟨tw_693, List.forall_mem_cons.mpr ⟨tw_695, List.forall_mem_cons.mpr ⟨tw_697, fun _ h => absurd h List.not_mem_nil⟩⟩⟩⟩⟩⟩⟩⟩⟩⟩⟩⟩⟩⟩⟩
theorem gn_Mo : Cond.initialized R_Mo ∈ lw_good := tw_10
theorem gn_Ar : Cond.initialized R_Ar ∈ lw_good := tw_3
theorem gn_Sy : Cond.initialized R_Sy ∈ lw_good := tw_18
theorem gn_La : Cond.initialized R_La ∈ lw_good := tw_0
abbrev classes : List vw_C := [(R_St, F_St, 7), (R_Ma, F_Ma, 4), (R_Co, F_Co, 4), (R_Wa, F_Wa, 8), (R_Au, F_Au, 5), (R_Sh, F_Sh, 6), (R_Mo, F_Mo, 15)]
abbrev b_Sh_init : ByteArray := prog_1_method_1_code
def y_Sh_init : MethodName := ⟨R_Sh, "<init>", "()V"⟩
theorem hd_Sh_init : y_Sh_init.cls ≠ "java/lang/invoke/MethodHandle" ∧ y_Sh_init.cls ≠ "java/lang/invoke/VarHandle" ∧ (parseMethodDescriptor y_Sh_init.desc).map (fun d => d.parameters.length) = some 0 := by decide +kernel
abbrev w_Sh_init : List Cond := .code y_Sh_init b_Sh_init 1 none :: lw_good
theorem cm_Sh_init : Cond.code y_Sh_init b_Sh_init 1 none ∈ lw_good := tw_23
theorem gi_Sh_init : Cond.instanceMethod y_Sh_init ∈ lw_good := tw_22
abbrev b_Sh_tuple : ByteArray := prog_1_method_2_code
def y_Sh_tuple : MethodName := ⟨R_Sh, "tuple", "(II)I"⟩
theorem hd_Sh_tuple : y_Sh_tuple.cls ≠ "java/lang/invoke/MethodHandle" ∧ y_Sh_tuple.cls ≠ "java/lang/invoke/VarHandle" ∧ (parseMethodDescriptor y_Sh_tuple.desc).map (fun d => d.parameters.length) = some 2 := by decide +kernel
abbrev w_Sh_tuple : List Cond := .code y_Sh_tuple b_Sh_tuple 3 (some .int) :: lw_good
theorem cm_Sh_tuple : Cond.code y_Sh_tuple b_Sh_tuple 3 (some .int) ∈ lw_good := tw_391
theorem gi_Sh_tuple : Cond.instanceMethod y_Sh_tuple ∈ lw_good := tw_389
theorem gs_Sh_tuple : Cond.selects R_Sh y_Sh_tuple y_Sh_tuple ∈ lw_good := tw_390
abbrev b_Sh_number : ByteArray := prog_1_method_3_code
def y_Sh_number : MethodName := ⟨R_Sh, "number", "(IJ)V"⟩
theorem hd_Sh_number : y_Sh_number.cls ≠ "java/lang/invoke/MethodHandle" ∧ y_Sh_number.cls ≠ "java/lang/invoke/VarHandle" ∧ (parseMethodDescriptor y_Sh_number.desc).map (fun d => d.parameters.length) = some 2 := by decide +kernel
abbrev w_Sh_number : List Cond := .code y_Sh_number b_Sh_number 4 none :: lw_good
theorem cm_Sh_number : Cond.code y_Sh_number b_Sh_number 4 none ∈ lw_good := tw_537
theorem gi_Sh_number : Cond.instanceMethod y_Sh_number ∈ lw_good := tw_535
theorem gs_Sh_number : Cond.selects R_Sh y_Sh_number y_Sh_number ∈ lw_good := tw_536
abbrev b_Sh_copy : ByteArray := prog_1_method_4_code
def y_Sh_copy : MethodName := ⟨R_Sh, "copy", "(II)V"⟩
theorem hd_Sh_copy : y_Sh_copy.cls ≠ "java/lang/invoke/MethodHandle" ∧ y_Sh_copy.cls ≠ "java/lang/invoke/VarHandle" ∧ (parseMethodDescriptor y_Sh_copy.desc).map (fun d => d.parameters.length) = some 2 := by decide +kernel
abbrev w_Sh_copy : List Cond := .code y_Sh_copy b_Sh_copy 3 none :: lw_good
theorem cm_Sh_copy : Cond.code y_Sh_copy b_Sh_copy 3 none ∈ lw_good := tw_545
theorem gi_Sh_copy : Cond.instanceMethod y_Sh_copy ∈ lw_good := tw_543
theorem gs_Sh_copy : Cond.selects R_Sh y_Sh_copy y_Sh_copy ∈ lw_good := tw_544
abbrev b_Sh_get : ByteArray := prog_1_method_5_code
def y_Sh_get : MethodName := ⟨R_Sh, "get", "(III)V"⟩
theorem hd_Sh_get : y_Sh_get.cls ≠ "java/lang/invoke/MethodHandle" ∧ y_Sh_get.cls ≠ "java/lang/invoke/VarHandle" ∧ (parseMethodDescriptor y_Sh_get.desc).map (fun d => d.parameters.length) = some 3 := by decide +kernel
abbrev w_Sh_get : List Cond := .code y_Sh_get b_Sh_get 4 none :: lw_good
theorem cm_Sh_get : Cond.code y_Sh_get b_Sh_get 4 none ∈ lw_good := tw_557
theorem gi_Sh_get : Cond.instanceMethod y_Sh_get ∈ lw_good := tw_555
theorem gs_Sh_get : Cond.selects R_Sh y_Sh_get y_Sh_get ∈ lw_good := tw_556
abbrev b_Sh_set : ByteArray := prog_1_method_6_code
def y_Sh_set : MethodName := ⟨R_Sh, "set", "(III)V"⟩
theorem hd_Sh_set : y_Sh_set.cls ≠ "java/lang/invoke/MethodHandle" ∧ y_Sh_set.cls ≠ "java/lang/invoke/VarHandle" ∧ (parseMethodDescriptor y_Sh_set.desc).map (fun d => d.parameters.length) = some 3 := by decide +kernel
abbrev w_Sh_set : List Cond := .code y_Sh_set b_Sh_set 5 none :: lw_good
theorem cm_Sh_set : Cond.code y_Sh_set b_Sh_set 5 none ∈ lw_good := tw_586
theorem gi_Sh_set : Cond.instanceMethod y_Sh_set ∈ lw_good := tw_584
theorem gs_Sh_set : Cond.selects R_Sh y_Sh_set y_Sh_set ∈ lw_good := tw_585
abbrev b_Sh_step : ByteArray := prog_1_method_7_code
def y_Sh_step : MethodName := ⟨R_Sh, "step", "(I)V"⟩
theorem hd_Sh_step : y_Sh_step.cls ≠ "java/lang/invoke/MethodHandle" ∧ y_Sh_step.cls ≠ "java/lang/invoke/VarHandle" ∧ (parseMethodDescriptor y_Sh_step.desc).map (fun d => d.parameters.length) = some 1 := by decide +kernel
abbrev w_Sh_step : List Cond := .code y_Sh_step b_Sh_step 2 none :: lw_good
theorem cm_Sh_step : Cond.code y_Sh_step b_Sh_step 2 none ∈ lw_good := tw_599
theorem gi_Sh_step : Cond.instanceMethod y_Sh_step ∈ lw_good := tw_597
theorem gs_Sh_step : Cond.selects R_Sh y_Sh_step y_Sh_step ∈ lw_good := tw_598
abbrev b_Sh_pace : ByteArray := prog_1_method_8_code
def y_Sh_pace : MethodName := ⟨R_Sh, "pace", "(I)I"⟩
theorem hd_Sh_pace : y_Sh_pace.cls ≠ "java/lang/invoke/MethodHandle" ∧ y_Sh_pace.cls ≠ "java/lang/invoke/VarHandle" ∧ (parseMethodDescriptor y_Sh_pace.desc).map (fun d => d.parameters.length) = some 1 := by decide +kernel
abbrev w_Sh_pace : List Cond := .code y_Sh_pace b_Sh_pace 3 (some .int) :: lw_good
theorem cm_Sh_pace : Cond.code y_Sh_pace b_Sh_pace 3 (some .int) ∈ lw_good := tw_606
theorem gi_Sh_pace : Cond.instanceMethod y_Sh_pace ∈ lw_good := tw_604
theorem gs_Sh_pace : Cond.selects R_Sh y_Sh_pace y_Sh_pace ∈ lw_good := tw_605
abbrev b_Sh_size : ByteArray := prog_1_method_9_code
def y_Sh_size : MethodName := ⟨R_Sh, "size", "(I)I"⟩
theorem hd_Sh_size : y_Sh_size.cls ≠ "java/lang/invoke/MethodHandle" ∧ y_Sh_size.cls ≠ "java/lang/invoke/VarHandle" ∧ (parseMethodDescriptor y_Sh_size.desc).map (fun d => d.parameters.length) = some 1 := by decide +kernel
abbrev w_Sh_size : List Cond := .code y_Sh_size b_Sh_size 3 (some .int) :: lw_good
theorem cm_Sh_size : Cond.code y_Sh_size b_Sh_size 3 (some .int) ∈ lw_good := tw_613
theorem gi_Sh_size : Cond.instanceMethod y_Sh_size ∈ lw_good := tw_611
theorem gs_Sh_size : Cond.selects R_Sh y_Sh_size y_Sh_size ∈ lw_good := tw_612
abbrev b_Sh_value : ByteArray := prog_1_method_10_code
def y_Sh_value : MethodName := ⟨R_Sh, "value", "(I)J"⟩
theorem hd_Sh_value : y_Sh_value.cls ≠ "java/lang/invoke/MethodHandle" ∧ y_Sh_value.cls ≠ "java/lang/invoke/VarHandle" ∧ (parseMethodDescriptor y_Sh_value.desc).map (fun d => d.parameters.length) = some 1 := by decide +kernel
abbrev w_Sh_value : List Cond := .code y_Sh_value b_Sh_value 2 (some .long) :: lw_good
theorem cm_Sh_value : Cond.code y_Sh_value b_Sh_value 2 (some .long) ∈ lw_good := tw_620
theorem gi_Sh_value : Cond.instanceMethod y_Sh_value ∈ lw_good := tw_618
theorem gs_Sh_value : Cond.selects R_Sh y_Sh_value y_Sh_value ∈ lw_good := tw_619
abbrev b_Sh_same : ByteArray := prog_1_method_11_code
def y_Sh_same : MethodName := ⟨R_Sh, "same", "(II)Z"⟩
theorem hd_Sh_same : y_Sh_same.cls ≠ "java/lang/invoke/MethodHandle" ∧ y_Sh_same.cls ≠ "java/lang/invoke/VarHandle" ∧ (parseMethodDescriptor y_Sh_same.desc).map (fun d => d.parameters.length) = some 2 := by decide +kernel
abbrev w_Sh_same : List Cond := .code y_Sh_same b_Sh_same 3 (some .boolean) :: lw_good
theorem cm_Sh_same : Cond.code y_Sh_same b_Sh_same 3 (some .boolean) ∈ lw_good := tw_628
theorem gi_Sh_same : Cond.instanceMethod y_Sh_same ∈ lw_good := tw_626
theorem gs_Sh_same : Cond.selects R_Sh y_Sh_same y_Sh_same ∈ lw_good := tw_627
abbrev b_Sh_count : ByteArray := prog_1_method_12_code
def y_Sh_count : MethodName := ⟨R_Sh, "count", "(I)I"⟩
theorem hd_Sh_count : y_Sh_count.cls ≠ "java/lang/invoke/MethodHandle" ∧ y_Sh_count.cls ≠ "java/lang/invoke/VarHandle" ∧ (parseMethodDescriptor y_Sh_count.desc).map (fun d => d.parameters.length) = some 1 := by decide +kernel
abbrev w_Sh_count : List Cond := .code y_Sh_count b_Sh_count 2 (some .int) :: lw_good
theorem cm_Sh_count : Cond.code y_Sh_count b_Sh_count 2 (some .int) ∈ lw_good := tw_639
theorem gi_Sh_count : Cond.instanceMethod y_Sh_count ∈ lw_good := tw_637
theorem gs_Sh_count : Cond.selects R_Sh y_Sh_count y_Sh_count ∈ lw_good := tw_638
abbrev b_Sh_digest : ByteArray := prog_1_method_13_code
def y_Sh_digest : MethodName := ⟨R_Sh, "digest", "()J"⟩
theorem hd_Sh_digest : y_Sh_digest.cls ≠ "java/lang/invoke/MethodHandle" ∧ y_Sh_digest.cls ≠ "java/lang/invoke/VarHandle" ∧ (parseMethodDescriptor y_Sh_digest.desc).map (fun d => d.parameters.length) = some 0 := by decide +kernel
abbrev w_Sh_digest : List Cond := .code y_Sh_digest b_Sh_digest 1 (some .long) :: lw_good
theorem cm_Sh_digest : Cond.code y_Sh_digest b_Sh_digest 1 (some .long) ∈ lw_good := tw_177
theorem gi_Sh_digest : Cond.instanceMethod y_Sh_digest ∈ lw_good := tw_175
theorem gs_Sh_digest : Cond.selects R_Sh y_Sh_digest y_Sh_digest ∈ lw_good := tw_176
abbrev b_Sh_collect : ByteArray := prog_1_method_14_code
def y_Sh_collect : MethodName := ⟨R_Sh, "collect", "()I"⟩
theorem hd_Sh_collect : y_Sh_collect.cls ≠ "java/lang/invoke/MethodHandle" ∧ y_Sh_collect.cls ≠ "java/lang/invoke/VarHandle" ∧ (parseMethodDescriptor y_Sh_collect.desc).map (fun d => d.parameters.length) = some 0 := by decide +kernel
abbrev w_Sh_collect : List Cond := .code y_Sh_collect b_Sh_collect 1 (some .int) :: lw_good
theorem cm_Sh_collect : Cond.code y_Sh_collect b_Sh_collect 1 (some .int) ∈ lw_good := tw_308
theorem gi_Sh_collect : Cond.instanceMethod y_Sh_collect ∈ lw_good := tw_306
theorem gs_Sh_collect : Cond.selects R_Sh y_Sh_collect y_Sh_collect ∈ lw_good := tw_307
abbrev b_Sh_check : ByteArray := prog_1_method_15_code
def y_Sh_check : MethodName := ⟨R_Sh, "check", "()I"⟩
theorem hd_Sh_check : y_Sh_check.cls ≠ "java/lang/invoke/MethodHandle" ∧ y_Sh_check.cls ≠ "java/lang/invoke/VarHandle" ∧ (parseMethodDescriptor y_Sh_check.desc).map (fun d => d.parameters.length) = some 0 := by decide +kernel
abbrev w_Sh_check : List Cond := .code y_Sh_check b_Sh_check 1 (some .int) :: lw_good
theorem cm_Sh_check : Cond.code y_Sh_check b_Sh_check 1 (some .int) ∈ lw_good := tw_325
theorem gi_Sh_check : Cond.instanceMethod y_Sh_check ∈ lw_good := tw_323
theorem gs_Sh_check : Cond.selects R_Sh y_Sh_check y_Sh_check ∈ lw_good := tw_324
abbrev b_Sh_requireRoot : ByteArray := prog_1_method_16_code
def y_Sh_requireRoot : MethodName := ⟨R_Sh, "requireRoot", "(I)V"⟩
theorem hd_Sh_requireRoot : y_Sh_requireRoot.cls ≠ "java/lang/invoke/MethodHandle" ∧ y_Sh_requireRoot.cls ≠ "java/lang/invoke/VarHandle" ∧ (parseMethodDescriptor y_Sh_requireRoot.desc).map (fun d => d.parameters.length) = some 1 := by decide +kernel
abbrev w_Sh_requireRoot : List Cond := .code y_Sh_requireRoot b_Sh_requireRoot 1 none :: lw_good
theorem cm_Sh_requireRoot : Cond.code y_Sh_requireRoot b_Sh_requireRoot 1 none ∈ lw_good := tw_394
theorem gt_Sh_requireRoot : Cond.static y_Sh_requireRoot ∈ lw_good := tw_393
abbrev b_Sh_requireWithin : ByteArray := prog_1_method_17_code
def y_Sh_requireWithin : MethodName := ⟨R_Sh, "requireWithin", "(III)V"⟩
theorem hd_Sh_requireWithin : y_Sh_requireWithin.cls ≠ "java/lang/invoke/MethodHandle" ∧ y_Sh_requireWithin.cls ≠ "java/lang/invoke/VarHandle" ∧ (parseMethodDescriptor y_Sh_requireWithin.desc).map (fun d => d.parameters.length) = some 3 := by decide +kernel
abbrev w_Sh_requireWithin : List Cond := .code y_Sh_requireWithin b_Sh_requireWithin 3 none :: lw_good
theorem cm_Sh_requireWithin : Cond.code y_Sh_requireWithin b_Sh_requireWithin 3 none ∈ lw_good := tw_466
theorem gt_Sh_requireWithin : Cond.static y_Sh_requireWithin ∈ lw_good := tw_465
abbrev b_Sh_rootSlot : ByteArray := prog_1_method_18_code
def y_Sh_rootSlot : MethodName := ⟨R_Sh, "rootSlot", "(I)I"⟩
theorem hd_Sh_rootSlot : y_Sh_rootSlot.cls ≠ "java/lang/invoke/MethodHandle" ∧ y_Sh_rootSlot.cls ≠ "java/lang/invoke/VarHandle" ∧ (parseMethodDescriptor y_Sh_rootSlot.desc).map (fun d => d.parameters.length) = some 1 := by decide +kernel
abbrev w_Sh_rootSlot : List Cond := .code y_Sh_rootSlot b_Sh_rootSlot 1 (some .int) :: lw_good
theorem cm_Sh_rootSlot : Cond.code y_Sh_rootSlot b_Sh_rootSlot 1 (some .int) ∈ lw_good := tw_505
theorem gt_Sh_rootSlot : Cond.static y_Sh_rootSlot ∈ lw_good := tw_504
abbrev b_Sh_slotOf : ByteArray := prog_1_method_19_code
def y_Sh_slotOf : MethodName := ⟨R_Sh, "slotOf", "(II)I"⟩
theorem hd_Sh_slotOf : y_Sh_slotOf.cls ≠ "java/lang/invoke/MethodHandle" ∧ y_Sh_slotOf.cls ≠ "java/lang/invoke/VarHandle" ∧ (parseMethodDescriptor y_Sh_slotOf.desc).map (fun d => d.parameters.length) = some 2 := by decide +kernel
abbrev w_Sh_slotOf : List Cond := .code y_Sh_slotOf b_Sh_slotOf 2 (some .int) :: lw_good
theorem cm_Sh_slotOf : Cond.code y_Sh_slotOf b_Sh_slotOf 2 (some .int) ∈ lw_good := tw_202
theorem gt_Sh_slotOf : Cond.static y_Sh_slotOf ∈ lw_good := tw_201
abbrev b_Sh_existingSlot : ByteArray := prog_1_method_20_code
def y_Sh_existingSlot : MethodName := ⟨R_Sh, "existingSlot", "(II)I"⟩
theorem hd_Sh_existingSlot : y_Sh_existingSlot.cls ≠ "java/lang/invoke/MethodHandle" ∧ y_Sh_existingSlot.cls ≠ "java/lang/invoke/VarHandle" ∧ (parseMethodDescriptor y_Sh_existingSlot.desc).map (fun d => d.parameters.length) = some 2 := by decide +kernel
abbrev w_Sh_existingSlot : List Cond := .code y_Sh_existingSlot b_Sh_existingSlot 4 (some .int) :: lw_good
theorem cm_Sh_existingSlot : Cond.code y_Sh_existingSlot b_Sh_existingSlot 4 (some .int) ∈ lw_good := tw_561
theorem gi_Sh_existingSlot : Cond.instanceMethod y_Sh_existingSlot ∈ lw_good := tw_560
theorem gs_Sh_existingSlot : Cond.selects R_Sh y_Sh_existingSlot y_Sh_existingSlot ∈ lw_good := ts_Sh_existingSlot
abbrev b_Mo_init : ByteArray := prog_9_method_1_code
def y_Mo_init : MethodName := ⟨R_Mo, "<init>", "()V"⟩
theorem hd_Mo_init : y_Mo_init.cls ≠ "java/lang/invoke/MethodHandle" ∧ y_Mo_init.cls ≠ "java/lang/invoke/VarHandle" ∧ (parseMethodDescriptor y_Mo_init.desc).map (fun d => d.parameters.length) = some 0 := by decide +kernel
abbrev w_Mo_init : List Cond := .code y_Mo_init b_Mo_init 1 none :: lw_good
theorem cm_Mo_init : Cond.code y_Mo_init b_Mo_init 1 none ∈ lw_good := tw_652
theorem gi_Mo_init : Cond.instanceMethod y_Mo_init ∈ lw_good := tw_651
abbrev b_Mo_thrown : ByteArray := prog_9_method_2_code
def y_Mo_thrown : MethodName := ⟨R_Mo, "thrown", "()I"⟩
theorem hd_Mo_thrown : y_Mo_thrown.cls ≠ "java/lang/invoke/MethodHandle" ∧ y_Mo_thrown.cls ≠ "java/lang/invoke/VarHandle" ∧ (parseMethodDescriptor y_Mo_thrown.desc).map (fun d => d.parameters.length) = some 0 := by decide +kernel
abbrev w_Mo_thrown : List Cond := .code y_Mo_thrown b_Mo_thrown 1 (some .int) :: lw_good
theorem cm_Mo_thrown : Cond.code y_Mo_thrown b_Mo_thrown 1 (some .int) ∈ lw_good := tw_704
theorem gi_Mo_thrown : Cond.instanceMethod y_Mo_thrown ∈ lw_good := tw_702
theorem gs_Mo_thrown : Cond.selects R_Mo y_Mo_thrown y_Mo_thrown ∈ lw_good := tw_703
abbrev b_Mo_isRoot : ByteArray := prog_9_method_3_code
def y_Mo_isRoot : MethodName := ⟨R_Mo, "isRoot", "(I)Z"⟩
theorem hd_Mo_isRoot : y_Mo_isRoot.cls ≠ "java/lang/invoke/MethodHandle" ∧ y_Mo_isRoot.cls ≠ "java/lang/invoke/VarHandle" ∧ (parseMethodDescriptor y_Mo_isRoot.desc).map (fun d => d.parameters.length) = some 1 := by decide +kernel
abbrev w_Mo_isRoot : List Cond := .code y_Mo_isRoot b_Mo_isRoot 1 (some .boolean) :: lw_good
theorem cm_Mo_isRoot : Cond.code y_Mo_isRoot b_Mo_isRoot 1 (some .boolean) ∈ lw_good := tw_711
theorem gt_Mo_isRoot : Cond.static y_Mo_isRoot ∈ lw_good := tw_710
abbrev b_Mo_reach : ByteArray := prog_9_method_4_code
def y_Mo_reach : MethodName := ⟨R_Mo, "reach", "(J)V"⟩
theorem hd_Mo_reach : y_Mo_reach.cls ≠ "java/lang/invoke/MethodHandle" ∧ y_Mo_reach.cls ≠ "java/lang/invoke/VarHandle" ∧ (parseMethodDescriptor y_Mo_reach.desc).map (fun d => d.parameters.length) = some 1 := by decide +kernel
abbrev w_Mo_reach : List Cond := .code y_Mo_reach b_Mo_reach 4 none :: lw_good
theorem cm_Mo_reach : Cond.code y_Mo_reach b_Mo_reach 4 none ∈ lw_good := tw_719
theorem gi_Mo_reach : Cond.instanceMethod y_Mo_reach ∈ lw_good := tw_718
theorem gs_Mo_reach : Cond.selects R_Mo y_Mo_reach y_Mo_reach ∈ lw_good := ts_Mo_reach
abbrev b_Mo_reachAll : ByteArray := prog_9_method_5_code
def y_Mo_reachAll : MethodName := ⟨R_Mo, "reachAll", "()V"⟩
theorem hd_Mo_reachAll : y_Mo_reachAll.cls ≠ "java/lang/invoke/MethodHandle" ∧ y_Mo_reachAll.cls ≠ "java/lang/invoke/VarHandle" ∧ (parseMethodDescriptor y_Mo_reachAll.desc).map (fun d => d.parameters.length) = some 0 := by decide +kernel
abbrev w_Mo_reachAll : List Cond := .code y_Mo_reachAll b_Mo_reachAll 3 none :: lw_good
theorem cm_Mo_reachAll : Cond.code y_Mo_reachAll b_Mo_reachAll 3 none ∈ lw_good := tw_715
theorem gi_Mo_reachAll : Cond.instanceMethod y_Mo_reachAll ∈ lw_good := tw_714
theorem gs_Mo_reachAll : Cond.selects R_Mo y_Mo_reachAll y_Mo_reachAll ∈ lw_good := ts_Mo_reachAll
abbrev b_Mo_tuple : ByteArray := prog_9_method_6_code
def y_Mo_tuple : MethodName := ⟨R_Mo, "tuple", "(II)I"⟩
theorem hd_Mo_tuple : y_Mo_tuple.cls ≠ "java/lang/invoke/MethodHandle" ∧ y_Mo_tuple.cls ≠ "java/lang/invoke/VarHandle" ∧ (parseMethodDescriptor y_Mo_tuple.desc).map (fun d => d.parameters.length) = some 2 := by decide +kernel
abbrev w_Mo_tuple : List Cond := .code y_Mo_tuple b_Mo_tuple 5 (some .int) :: lw_good
theorem cm_Mo_tuple : Cond.code y_Mo_tuple b_Mo_tuple 5 (some .int) ∈ lw_good := tw_708
theorem gi_Mo_tuple : Cond.instanceMethod y_Mo_tuple ∈ lw_good := tw_706
theorem gs_Mo_tuple : Cond.selects R_Mo y_Mo_tuple y_Mo_tuple ∈ lw_good := tw_707
abbrev b_Mo_number : ByteArray := prog_9_method_7_code
def y_Mo_number : MethodName := ⟨R_Mo, "number", "(IJ)V"⟩
theorem hd_Mo_number : y_Mo_number.cls ≠ "java/lang/invoke/MethodHandle" ∧ y_Mo_number.cls ≠ "java/lang/invoke/VarHandle" ∧ (parseMethodDescriptor y_Mo_number.desc).map (fun d => d.parameters.length) = some 2 := by decide +kernel
abbrev w_Mo_number : List Cond := .code y_Mo_number b_Mo_number 4 none :: lw_good
theorem cm_Mo_number : Cond.code y_Mo_number b_Mo_number 4 none ∈ lw_good := tw_723
theorem gi_Mo_number : Cond.instanceMethod y_Mo_number ∈ lw_good := tw_721
theorem gs_Mo_number : Cond.selects R_Mo y_Mo_number y_Mo_number ∈ lw_good := tw_722
abbrev b_Mo_copy : ByteArray := prog_9_method_8_code
def y_Mo_copy : MethodName := ⟨R_Mo, "copy", "(II)V"⟩
theorem hd_Mo_copy : y_Mo_copy.cls ≠ "java/lang/invoke/MethodHandle" ∧ y_Mo_copy.cls ≠ "java/lang/invoke/VarHandle" ∧ (parseMethodDescriptor y_Mo_copy.desc).map (fun d => d.parameters.length) = some 2 := by decide +kernel
abbrev w_Mo_copy : List Cond := .code y_Mo_copy b_Mo_copy 3 none :: lw_good
theorem cm_Mo_copy : Cond.code y_Mo_copy b_Mo_copy 3 none ∈ lw_good := tw_727
theorem gi_Mo_copy : Cond.instanceMethod y_Mo_copy ∈ lw_good := tw_725
theorem gs_Mo_copy : Cond.selects R_Mo y_Mo_copy y_Mo_copy ∈ lw_good := tw_726
abbrev b_Mo_place : ByteArray := prog_9_method_9_code
def y_Mo_place : MethodName := ⟨R_Mo, "place", "(III)I"⟩
theorem hd_Mo_place : y_Mo_place.cls ≠ "java/lang/invoke/MethodHandle" ∧ y_Mo_place.cls ≠ "java/lang/invoke/VarHandle" ∧ (parseMethodDescriptor y_Mo_place.desc).map (fun d => d.parameters.length) = some 3 := by decide +kernel
abbrev w_Mo_place : List Cond := .code y_Mo_place b_Mo_place 4 (some .int) :: lw_good
theorem cm_Mo_place : Cond.code y_Mo_place b_Mo_place 4 (some .int) ∈ lw_good := tw_735
theorem gi_Mo_place : Cond.instanceMethod y_Mo_place ∈ lw_good := tw_734
theorem gs_Mo_place : Cond.selects R_Mo y_Mo_place y_Mo_place ∈ lw_good := ts_Mo_place
abbrev b_Mo_get : ByteArray := prog_9_method_10_code
def y_Mo_get : MethodName := ⟨R_Mo, "get", "(III)V"⟩
theorem hd_Mo_get : y_Mo_get.cls ≠ "java/lang/invoke/MethodHandle" ∧ y_Mo_get.cls ≠ "java/lang/invoke/VarHandle" ∧ (parseMethodDescriptor y_Mo_get.desc).map (fun d => d.parameters.length) = some 3 := by decide +kernel
abbrev w_Mo_get : List Cond := .code y_Mo_get b_Mo_get 5 none :: lw_good
theorem cm_Mo_get : Cond.code y_Mo_get b_Mo_get 5 none ∈ lw_good := tw_731
theorem gi_Mo_get : Cond.instanceMethod y_Mo_get ∈ lw_good := tw_729
theorem gs_Mo_get : Cond.selects R_Mo y_Mo_get y_Mo_get ∈ lw_good := tw_730
abbrev b_Mo_set : ByteArray := prog_9_method_11_code
def y_Mo_set : MethodName := ⟨R_Mo, "set", "(III)V"⟩
theorem hd_Mo_set : y_Mo_set.cls ≠ "java/lang/invoke/MethodHandle" ∧ y_Mo_set.cls ≠ "java/lang/invoke/VarHandle" ∧ (parseMethodDescriptor y_Mo_set.desc).map (fun d => d.parameters.length) = some 3 := by decide +kernel
abbrev w_Mo_set : List Cond := .code y_Mo_set b_Mo_set 5 none :: lw_good
theorem cm_Mo_set : Cond.code y_Mo_set b_Mo_set 5 none ∈ lw_good := tw_739
theorem gi_Mo_set : Cond.instanceMethod y_Mo_set ∈ lw_good := tw_737
theorem gs_Mo_set : Cond.selects R_Mo y_Mo_set y_Mo_set ∈ lw_good := tw_738
abbrev b_Mo_step : ByteArray := prog_9_method_12_code
def y_Mo_step : MethodName := ⟨R_Mo, "step", "(I)V"⟩
theorem hd_Mo_step : y_Mo_step.cls ≠ "java/lang/invoke/MethodHandle" ∧ y_Mo_step.cls ≠ "java/lang/invoke/VarHandle" ∧ (parseMethodDescriptor y_Mo_step.desc).map (fun d => d.parameters.length) = some 1 := by decide +kernel
abbrev w_Mo_step : List Cond := .code y_Mo_step b_Mo_step 2 none :: lw_good
theorem cm_Mo_step : Cond.code y_Mo_step b_Mo_step 2 none ∈ lw_good := tw_743
theorem gi_Mo_step : Cond.instanceMethod y_Mo_step ∈ lw_good := tw_741
theorem gs_Mo_step : Cond.selects R_Mo y_Mo_step y_Mo_step ∈ lw_good := tw_742
abbrev b_Mo_pace : ByteArray := prog_9_method_13_code
def y_Mo_pace : MethodName := ⟨R_Mo, "pace", "(I)I"⟩
theorem hd_Mo_pace : y_Mo_pace.cls ≠ "java/lang/invoke/MethodHandle" ∧ y_Mo_pace.cls ≠ "java/lang/invoke/VarHandle" ∧ (parseMethodDescriptor y_Mo_pace.desc).map (fun d => d.parameters.length) = some 1 := by decide +kernel
abbrev w_Mo_pace : List Cond := .code y_Mo_pace b_Mo_pace 3 (some .int) :: lw_good
theorem cm_Mo_pace : Cond.code y_Mo_pace b_Mo_pace 3 (some .int) ∈ lw_good := tw_747
theorem gi_Mo_pace : Cond.instanceMethod y_Mo_pace ∈ lw_good := tw_745
theorem gs_Mo_pace : Cond.selects R_Mo y_Mo_pace y_Mo_pace ∈ lw_good := tw_746
abbrev b_Mo_size : ByteArray := prog_9_method_14_code
def y_Mo_size : MethodName := ⟨R_Mo, "size", "(I)I"⟩
theorem hd_Mo_size : y_Mo_size.cls ≠ "java/lang/invoke/MethodHandle" ∧ y_Mo_size.cls ≠ "java/lang/invoke/VarHandle" ∧ (parseMethodDescriptor y_Mo_size.desc).map (fun d => d.parameters.length) = some 1 := by decide +kernel
abbrev w_Mo_size : List Cond := .code y_Mo_size b_Mo_size 2 (some .int) :: lw_good
theorem cm_Mo_size : Cond.code y_Mo_size b_Mo_size 2 (some .int) ∈ lw_good := tw_751
theorem gi_Mo_size : Cond.instanceMethod y_Mo_size ∈ lw_good := tw_749
theorem gs_Mo_size : Cond.selects R_Mo y_Mo_size y_Mo_size ∈ lw_good := tw_750
abbrev b_Mo_value : ByteArray := prog_9_method_15_code
def y_Mo_value : MethodName := ⟨R_Mo, "value", "(I)J"⟩
theorem hd_Mo_value : y_Mo_value.cls ≠ "java/lang/invoke/MethodHandle" ∧ y_Mo_value.cls ≠ "java/lang/invoke/VarHandle" ∧ (parseMethodDescriptor y_Mo_value.desc).map (fun d => d.parameters.length) = some 1 := by decide +kernel
abbrev w_Mo_value : List Cond := .code y_Mo_value b_Mo_value 2 (some .long) :: lw_good
theorem cm_Mo_value : Cond.code y_Mo_value b_Mo_value 2 (some .long) ∈ lw_good := tw_755
theorem gi_Mo_value : Cond.instanceMethod y_Mo_value ∈ lw_good := tw_753
theorem gs_Mo_value : Cond.selects R_Mo y_Mo_value y_Mo_value ∈ lw_good := tw_754
abbrev b_Mo_same : ByteArray := prog_9_method_16_code
def y_Mo_same : MethodName := ⟨R_Mo, "same", "(II)Z"⟩
theorem hd_Mo_same : y_Mo_same.cls ≠ "java/lang/invoke/MethodHandle" ∧ y_Mo_same.cls ≠ "java/lang/invoke/VarHandle" ∧ (parseMethodDescriptor y_Mo_same.desc).map (fun d => d.parameters.length) = some 2 := by decide +kernel
abbrev w_Mo_same : List Cond := .code y_Mo_same b_Mo_same 3 (some .boolean) :: lw_good
theorem cm_Mo_same : Cond.code y_Mo_same b_Mo_same 3 (some .boolean) ∈ lw_good := tw_759
theorem gi_Mo_same : Cond.instanceMethod y_Mo_same ∈ lw_good := tw_757
theorem gs_Mo_same : Cond.selects R_Mo y_Mo_same y_Mo_same ∈ lw_good := tw_758
abbrev b_Mo_count : ByteArray := prog_9_method_17_code
def y_Mo_count : MethodName := ⟨R_Mo, "count", "(I)I"⟩
theorem hd_Mo_count : y_Mo_count.cls ≠ "java/lang/invoke/MethodHandle" ∧ y_Mo_count.cls ≠ "java/lang/invoke/VarHandle" ∧ (parseMethodDescriptor y_Mo_count.desc).map (fun d => d.parameters.length) = some 1 := by decide +kernel
abbrev w_Mo_count : List Cond := .code y_Mo_count b_Mo_count 2 (some .int) :: lw_good
theorem cm_Mo_count : Cond.code y_Mo_count b_Mo_count 2 (some .int) ∈ lw_good := tw_763
theorem gi_Mo_count : Cond.instanceMethod y_Mo_count ∈ lw_good := tw_761
theorem gs_Mo_count : Cond.selects R_Mo y_Mo_count y_Mo_count ∈ lw_good := tw_762
abbrev b_Mo_digest : ByteArray := prog_9_method_18_code
def y_Mo_digest : MethodName := ⟨R_Mo, "digest", "()J"⟩
theorem hd_Mo_digest : y_Mo_digest.cls ≠ "java/lang/invoke/MethodHandle" ∧ y_Mo_digest.cls ≠ "java/lang/invoke/VarHandle" ∧ (parseMethodDescriptor y_Mo_digest.desc).map (fun d => d.parameters.length) = some 0 := by decide +kernel
abbrev w_Mo_digest : List Cond := .code y_Mo_digest b_Mo_digest 10 (some .long) :: lw_good
theorem cm_Mo_digest : Cond.code y_Mo_digest b_Mo_digest 10 (some .long) ∈ lw_good := tw_767
theorem gi_Mo_digest : Cond.instanceMethod y_Mo_digest ∈ lw_good := tw_765
theorem gs_Mo_digest : Cond.selects R_Mo y_Mo_digest y_Mo_digest ∈ lw_good := tw_766
abbrev b_Mo_collect : ByteArray := prog_9_method_19_code
def y_Mo_collect : MethodName := ⟨R_Mo, "collect", "()I"⟩
theorem hd_Mo_collect : y_Mo_collect.cls ≠ "java/lang/invoke/MethodHandle" ∧ y_Mo_collect.cls ≠ "java/lang/invoke/VarHandle" ∧ (parseMethodDescriptor y_Mo_collect.desc).map (fun d => d.parameters.length) = some 0 := by decide +kernel
abbrev w_Mo_collect : List Cond := .code y_Mo_collect b_Mo_collect 1 (some .int) :: lw_good
theorem cm_Mo_collect : Cond.code y_Mo_collect b_Mo_collect 1 (some .int) ∈ lw_good := tw_775
theorem gi_Mo_collect : Cond.instanceMethod y_Mo_collect ∈ lw_good := tw_773
theorem gs_Mo_collect : Cond.selects R_Mo y_Mo_collect y_Mo_collect ∈ lw_good := tw_774
abbrev b_Mo_check : ByteArray := prog_9_method_20_code
def y_Mo_check : MethodName := ⟨R_Mo, "check", "()I"⟩
theorem hd_Mo_check : y_Mo_check.cls ≠ "java/lang/invoke/MethodHandle" ∧ y_Mo_check.cls ≠ "java/lang/invoke/VarHandle" ∧ (parseMethodDescriptor y_Mo_check.desc).map (fun d => d.parameters.length) = some 0 := by decide +kernel
abbrev w_Mo_check : List Cond := .code y_Mo_check b_Mo_check 1 (some .int) :: lw_good
theorem cm_Mo_check : Cond.code y_Mo_check b_Mo_check 1 (some .int) ∈ lw_good := tw_779
theorem gi_Mo_check : Cond.instanceMethod y_Mo_check ∈ lw_good := tw_777
theorem gs_Mo_check : Cond.selects R_Mo y_Mo_check y_Mo_check ∈ lw_good := tw_778
abbrev b_Au_init : ByteArray := prog_2_method_1_code
def y_Au_init : MethodName := ⟨R_Au, "<init>", "(LSnapshotHeap$Store;LSnapshotHeap$Collector;LSnapshotHeap$Walk;)V"⟩
theorem hd_Au_init : y_Au_init.cls ≠ "java/lang/invoke/MethodHandle" ∧ y_Au_init.cls ≠ "java/lang/invoke/VarHandle" ∧ (parseMethodDescriptor y_Au_init.desc).map (fun d => d.parameters.length) = some 3 := by decide +kernel
abbrev w_Au_init : List Cond := .code y_Au_init b_Au_init 4 none :: lw_good
theorem cm_Au_init : Cond.code y_Au_init b_Au_init 4 none ∈ lw_good := tw_135
theorem gi_Au_init : Cond.instanceMethod y_Au_init ∈ lw_good := tw_134
abbrev b_Au_faults : ByteArray := prog_2_method_2_code
def y_Au_faults : MethodName := ⟨R_Au, "faults", "()I"⟩
theorem hd_Au_faults : y_Au_faults.cls ≠ "java/lang/invoke/MethodHandle" ∧ y_Au_faults.cls ≠ "java/lang/invoke/VarHandle" ∧ (parseMethodDescriptor y_Au_faults.desc).map (fun d => d.parameters.length) = some 0 := by decide +kernel
abbrev w_Au_faults : List Cond := .code y_Au_faults b_Au_faults 4 (some .int) :: lw_good
theorem cm_Au_faults : Cond.code y_Au_faults b_Au_faults 4 (some .int) ∈ lw_good := tw_329
theorem gi_Au_faults : Cond.instanceMethod y_Au_faults ∈ lw_good := tw_327
theorem gs_Au_faults : Cond.selects R_Au y_Au_faults y_Au_faults ∈ lw_good := tw_328
abbrev b_Au_markToTheEnd : ByteArray := prog_2_method_3_code
def y_Au_markToTheEnd : MethodName := ⟨R_Au, "markToTheEnd", "()V"⟩
theorem hd_Au_markToTheEnd : y_Au_markToTheEnd.cls ≠ "java/lang/invoke/MethodHandle" ∧ y_Au_markToTheEnd.cls ≠ "java/lang/invoke/VarHandle" ∧ (parseMethodDescriptor y_Au_markToTheEnd.desc).map (fun d => d.parameters.length) = some 0 := by decide +kernel
abbrev w_Au_markToTheEnd : List Cond := .code y_Au_markToTheEnd b_Au_markToTheEnd 3 none :: lw_good
theorem cm_Au_markToTheEnd : Cond.code y_Au_markToTheEnd b_Au_markToTheEnd 3 none ∈ lw_good := tw_339
theorem gi_Au_markToTheEnd : Cond.instanceMethod y_Au_markToTheEnd ∈ lw_good := tw_338
theorem gs_Au_markToTheEnd : Cond.selects R_Au y_Au_markToTheEnd y_Au_markToTheEnd ∈ lw_good := ts_Au_markToTheEnd
abbrev b_Au_isMarkWrong : ByteArray := prog_2_method_4_code
def y_Au_isMarkWrong : MethodName := ⟨R_Au, "isMarkWrong", "(I)Z"⟩
theorem hd_Au_isMarkWrong : y_Au_isMarkWrong.cls ≠ "java/lang/invoke/MethodHandle" ∧ y_Au_isMarkWrong.cls ≠ "java/lang/invoke/VarHandle" ∧ (parseMethodDescriptor y_Au_isMarkWrong.desc).map (fun d => d.parameters.length) = some 1 := by decide +kernel
abbrev w_Au_isMarkWrong : List Cond := .code y_Au_isMarkWrong b_Au_isMarkWrong 2 (some .boolean) :: lw_good
theorem cm_Au_isMarkWrong : Cond.code y_Au_isMarkWrong b_Au_isMarkWrong 2 (some .boolean) ∈ lw_good := tw_364
theorem gi_Au_isMarkWrong : Cond.instanceMethod y_Au_isMarkWrong ∈ lw_good := tw_363
theorem gs_Au_isMarkWrong : Cond.selects R_Au y_Au_isMarkWrong y_Au_isMarkWrong ∈ lw_good := ts_Au_isMarkWrong
abbrev b_Au_isMarkInUse : ByteArray := prog_2_method_5_code
def y_Au_isMarkInUse : MethodName := ⟨R_Au, "isMarkInUse", "(I)Z"⟩
theorem hd_Au_isMarkInUse : y_Au_isMarkInUse.cls ≠ "java/lang/invoke/MethodHandle" ∧ y_Au_isMarkInUse.cls ≠ "java/lang/invoke/VarHandle" ∧ (parseMethodDescriptor y_Au_isMarkInUse.desc).map (fun d => d.parameters.length) = some 1 := by decide +kernel
abbrev w_Au_isMarkInUse : List Cond := .code y_Au_isMarkInUse b_Au_isMarkInUse 2 (some .boolean) :: lw_good
theorem cm_Au_isMarkInUse : Cond.code y_Au_isMarkInUse b_Au_isMarkInUse 2 (some .boolean) ∈ lw_good := tw_368
theorem gi_Au_isMarkInUse : Cond.instanceMethod y_Au_isMarkInUse ∈ lw_good := tw_367
theorem gs_Au_isMarkInUse : Cond.selects R_Au y_Au_isMarkInUse y_Au_isMarkInUse ∈ lw_good := ts_Au_isMarkInUse
abbrev b_Co_init : ByteArray := prog_3_method_1_code
def y_Co_init : MethodName := ⟨R_Co, "<init>", "(LSnapshotHeap$Store;)V"⟩
theorem hd_Co_init : y_Co_init.cls ≠ "java/lang/invoke/MethodHandle" ∧ y_Co_init.cls ≠ "java/lang/invoke/VarHandle" ∧ (parseMethodDescriptor y_Co_init.desc).map (fun d => d.parameters.length) = some 1 := by decide +kernel
abbrev w_Co_init : List Cond := .code y_Co_init b_Co_init 2 none :: lw_good
theorem cm_Co_init : Cond.code y_Co_init b_Co_init 2 none ∈ lw_good := tw_64
theorem gi_Co_init : Cond.instanceMethod y_Co_init ∈ lw_good := tw_63
abbrev b_Co_phase : ByteArray := prog_3_method_2_code
def y_Co_phase : MethodName := ⟨R_Co, "phase", "()LSnapshotHeap$Phase;"⟩
theorem hd_Co_phase : y_Co_phase.cls ≠ "java/lang/invoke/MethodHandle" ∧ y_Co_phase.cls ≠ "java/lang/invoke/VarHandle" ∧ (parseMethodDescriptor y_Co_phase.desc).map (fun d => d.parameters.length) = some 0 := by decide +kernel
abbrev w_Co_phase : List Cond := .code y_Co_phase b_Co_phase 1 (some (.object "SnapshotHeap$Phase")) :: lw_good
theorem cm_Co_phase : Cond.code y_Co_phase b_Co_phase 1 (some (.object "SnapshotHeap$Phase")) ∈ lw_good := tw_354
theorem gi_Co_phase : Cond.instanceMethod y_Co_phase ∈ lw_good := tw_352
theorem gs_Co_phase : Cond.selects R_Co y_Co_phase y_Co_phase ∈ lw_good := tw_353
abbrev b_Co_marking : ByteArray := prog_3_method_3_code
def y_Co_marking : MethodName := ⟨R_Co, "marking", "()LSnapshotHeap$Marking;"⟩
theorem hd_Co_marking : y_Co_marking.cls ≠ "java/lang/invoke/MethodHandle" ∧ y_Co_marking.cls ≠ "java/lang/invoke/VarHandle" ∧ (parseMethodDescriptor y_Co_marking.desc).map (fun d => d.parameters.length) = some 0 := by decide +kernel
abbrev w_Co_marking : List Cond := .code y_Co_marking b_Co_marking 1 (some (.object "SnapshotHeap$Marking")) :: lw_good
theorem cm_Co_marking : Cond.code y_Co_marking b_Co_marking 1 (some (.object "SnapshotHeap$Marking")) ∈ lw_good := tw_343
theorem gi_Co_marking : Cond.instanceMethod y_Co_marking ∈ lw_good := tw_341
theorem gs_Co_marking : Cond.selects R_Co y_Co_marking y_Co_marking ∈ lw_good := tw_342
abbrev b_Co_work : ByteArray := prog_3_method_4_code
def y_Co_work : MethodName := ⟨R_Co, "work", "(I)V"⟩
theorem hd_Co_work : y_Co_work.cls ≠ "java/lang/invoke/MethodHandle" ∧ y_Co_work.cls ≠ "java/lang/invoke/VarHandle" ∧ (parseMethodDescriptor y_Co_work.desc).map (fun d => d.parameters.length) = some 1 := by decide +kernel
abbrev w_Co_work : List Cond := .code y_Co_work b_Co_work 3 none :: lw_good
theorem cm_Co_work : Cond.code y_Co_work b_Co_work 3 none ∈ lw_good := tw_181
theorem gi_Co_work : Cond.instanceMethod y_Co_work ∈ lw_good := tw_179
theorem gs_Co_work : Cond.selects R_Co y_Co_work y_Co_work ∈ lw_good := tw_180
abbrev b_Co_collectWhole : ByteArray := prog_3_method_5_code
def y_Co_collectWhole : MethodName := ⟨R_Co, "collectWhole", "()V"⟩
theorem hd_Co_collectWhole : y_Co_collectWhole.cls ≠ "java/lang/invoke/MethodHandle" ∧ y_Co_collectWhole.cls ≠ "java/lang/invoke/VarHandle" ∧ (parseMethodDescriptor y_Co_collectWhole.desc).map (fun d => d.parameters.length) = some 0 := by decide +kernel
abbrev w_Co_collectWhole : List Cond := .code y_Co_collectWhole b_Co_collectWhole 2 none :: lw_good
theorem cm_Co_collectWhole : Cond.code y_Co_collectWhole b_Co_collectWhole 2 none ∈ lw_good := tw_312
theorem gi_Co_collectWhole : Cond.instanceMethod y_Co_collectWhole ∈ lw_good := tw_310
theorem gs_Co_collectWhole : Cond.selects R_Co y_Co_collectWhole y_Co_collectWhole ∈ lw_good := tw_311
abbrev b_Co_allocate : ByteArray := prog_3_method_6_code
def y_Co_allocate : MethodName := ⟨R_Co, "allocate", "(I)I"⟩
theorem hd_Co_allocate : y_Co_allocate.cls ≠ "java/lang/invoke/MethodHandle" ∧ y_Co_allocate.cls ≠ "java/lang/invoke/VarHandle" ∧ (parseMethodDescriptor y_Co_allocate.desc).map (fun d => d.parameters.length) = some 1 := by decide +kernel
abbrev w_Co_allocate : List Cond := .code y_Co_allocate b_Co_allocate 3 (some .int) :: lw_good
theorem cm_Co_allocate : Cond.code y_Co_allocate b_Co_allocate 3 (some .int) ∈ lw_good := tw_510
theorem gi_Co_allocate : Cond.instanceMethod y_Co_allocate ∈ lw_good := tw_508
theorem gs_Co_allocate : Cond.selects R_Co y_Co_allocate y_Co_allocate ∈ lw_good := tw_509
abbrev b_Co_beforeOverwrite : ByteArray := prog_3_method_7_code
def y_Co_beforeOverwrite : MethodName := ⟨R_Co, "beforeOverwrite", "(I)V"⟩
theorem hd_Co_beforeOverwrite : y_Co_beforeOverwrite.cls ≠ "java/lang/invoke/MethodHandle" ∧ y_Co_beforeOverwrite.cls ≠ "java/lang/invoke/VarHandle" ∧ (parseMethodDescriptor y_Co_beforeOverwrite.desc).map (fun d => d.parameters.length) = some 1 := by decide +kernel
abbrev w_Co_beforeOverwrite : List Cond := .code y_Co_beforeOverwrite b_Co_beforeOverwrite 2 none :: lw_good
theorem cm_Co_beforeOverwrite : Cond.code y_Co_beforeOverwrite b_Co_beforeOverwrite 2 none ∈ lw_good := tw_590
theorem gi_Co_beforeOverwrite : Cond.instanceMethod y_Co_beforeOverwrite ∈ lw_good := tw_588
theorem gs_Co_beforeOverwrite : Cond.selects R_Co y_Co_beforeOverwrite y_Co_beforeOverwrite ∈ lw_good := tw_589
abbrev b_Co_isYetToBeSwept : ByteArray := prog_3_method_8_code
def y_Co_isYetToBeSwept : MethodName := ⟨R_Co, "isYetToBeSwept", "(I)Z"⟩
theorem hd_Co_isYetToBeSwept : y_Co_isYetToBeSwept.cls ≠ "java/lang/invoke/MethodHandle" ∧ y_Co_isYetToBeSwept.cls ≠ "java/lang/invoke/VarHandle" ∧ (parseMethodDescriptor y_Co_isYetToBeSwept.desc).map (fun d => d.parameters.length) = some 1 := by decide +kernel
abbrev w_Co_isYetToBeSwept : List Cond := .code y_Co_isYetToBeSwept b_Co_isYetToBeSwept 2 (some .boolean) :: lw_good
theorem cm_Co_isYetToBeSwept : Cond.code y_Co_isYetToBeSwept b_Co_isYetToBeSwept 2 (some .boolean) ∈ lw_good := tw_372
theorem gi_Co_isYetToBeSwept : Cond.instanceMethod y_Co_isYetToBeSwept ∈ lw_good := tw_370
theorem gs_Co_isYetToBeSwept : Cond.selects R_Co y_Co_isYetToBeSwept y_Co_isYetToBeSwept ∈ lw_good := tw_371
abbrev b_Co_advance : ByteArray := prog_3_method_9_code
def y_Co_advance : MethodName := ⟨R_Co, "advance", "()V"⟩
theorem hd_Co_advance : y_Co_advance.cls ≠ "java/lang/invoke/MethodHandle" ∧ y_Co_advance.cls ≠ "java/lang/invoke/VarHandle" ∧ (parseMethodDescriptor y_Co_advance.desc).map (fun d => d.parameters.length) = some 0 := by decide +kernel
abbrev w_Co_advance : List Cond := .code y_Co_advance b_Co_advance 1 none :: lw_good
theorem cm_Co_advance : Cond.code y_Co_advance b_Co_advance 1 none ∈ lw_good := tw_185
theorem gi_Co_advance : Cond.instanceMethod y_Co_advance ∈ lw_good := tw_184
theorem gs_Co_advance : Cond.selects R_Co y_Co_advance y_Co_advance ∈ lw_good := ts_Co_advance
abbrev b_Co_begin : ByteArray := prog_3_method_10_code
def y_Co_begin : MethodName := ⟨R_Co, "begin", "()V"⟩
theorem hd_Co_begin : y_Co_begin.cls ≠ "java/lang/invoke/MethodHandle" ∧ y_Co_begin.cls ≠ "java/lang/invoke/VarHandle" ∧ (parseMethodDescriptor y_Co_begin.desc).map (fun d => d.parameters.length) = some 0 := by decide +kernel
abbrev w_Co_begin : List Cond := .code y_Co_begin b_Co_begin 1 none :: lw_good
theorem cm_Co_begin : Cond.code y_Co_begin b_Co_begin 1 none ∈ lw_good := tw_189
theorem gi_Co_begin : Cond.instanceMethod y_Co_begin ∈ lw_good := tw_188
theorem gs_Co_begin : Cond.selects R_Co y_Co_begin y_Co_begin ∈ lw_good := ts_Co_begin
abbrev b_Co_sweepOne : ByteArray := prog_3_method_11_code
def y_Co_sweepOne : MethodName := ⟨R_Co, "sweepOne", "()V"⟩
theorem hd_Co_sweepOne : y_Co_sweepOne.cls ≠ "java/lang/invoke/MethodHandle" ∧ y_Co_sweepOne.cls ≠ "java/lang/invoke/VarHandle" ∧ (parseMethodDescriptor y_Co_sweepOne.desc).map (fun d => d.parameters.length) = some 0 := by decide +kernel
abbrev w_Co_sweepOne : List Cond := .code y_Co_sweepOne b_Co_sweepOne 1 none :: lw_good
theorem cm_Co_sweepOne : Cond.code y_Co_sweepOne b_Co_sweepOne 1 none ∈ lw_good := tw_233
theorem gi_Co_sweepOne : Cond.instanceMethod y_Co_sweepOne ∈ lw_good := tw_232
theorem gs_Co_sweepOne : Cond.selects R_Co y_Co_sweepOne y_Co_sweepOne ∈ lw_good := ts_Co_sweepOne
abbrev b_Ma_init : ByteArray := prog_4_method_1_code
def y_Ma_init : MethodName := ⟨R_Ma, "<init>", "(LSnapshotHeap$Store;)V"⟩
theorem hd_Ma_init : y_Ma_init.cls ≠ "java/lang/invoke/MethodHandle" ∧ y_Ma_init.cls ≠ "java/lang/invoke/VarHandle" ∧ (parseMethodDescriptor y_Ma_init.desc).map (fun d => d.parameters.length) = some 1 := by decide +kernel
abbrev w_Ma_init : List Cond := .code y_Ma_init b_Ma_init 2 none :: lw_good
theorem cm_Ma_init : Cond.code y_Ma_init b_Ma_init 2 none ∈ lw_good := tw_70
theorem gi_Ma_init : Cond.instanceMethod y_Ma_init ∈ lw_good := tw_69
abbrev b_Ma_reset : ByteArray := prog_4_method_2_code
def y_Ma_reset : MethodName := ⟨R_Ma, "reset", "()V"⟩
theorem hd_Ma_reset : y_Ma_reset.cls ≠ "java/lang/invoke/MethodHandle" ∧ y_Ma_reset.cls ≠ "java/lang/invoke/VarHandle" ∧ (parseMethodDescriptor y_Ma_reset.desc).map (fun d => d.parameters.length) = some 0 := by decide +kernel
abbrev w_Ma_reset : List Cond := .code y_Ma_reset b_Ma_reset 1 none :: lw_good
theorem cm_Ma_reset : Cond.code y_Ma_reset b_Ma_reset 1 none ∈ lw_good := tw_316
theorem gi_Ma_reset : Cond.instanceMethod y_Ma_reset ∈ lw_good := tw_314
theorem gs_Ma_reset : Cond.selects R_Ma y_Ma_reset y_Ma_reset ∈ lw_good := tw_315
abbrev b_Ma_imitate : ByteArray := prog_4_method_3_code
def y_Ma_imitate : MethodName := ⟨R_Ma, "imitate", "(LSnapshotHeap$Marking;)V"⟩
theorem hd_Ma_imitate : y_Ma_imitate.cls ≠ "java/lang/invoke/MethodHandle" ∧ y_Ma_imitate.cls ≠ "java/lang/invoke/VarHandle" ∧ (parseMethodDescriptor y_Ma_imitate.desc).map (fun d => d.parameters.length) = some 1 := by decide +kernel
abbrev w_Ma_imitate : List Cond := .code y_Ma_imitate b_Ma_imitate 2 none :: lw_good
theorem cm_Ma_imitate : Cond.code y_Ma_imitate b_Ma_imitate 2 none ∈ lw_good := tw_347
theorem gi_Ma_imitate : Cond.instanceMethod y_Ma_imitate ∈ lw_good := tw_345
theorem gs_Ma_imitate : Cond.selects R_Ma y_Ma_imitate y_Ma_imitate ∈ lw_good := tw_346
abbrev b_Ma_isDone : ByteArray := prog_4_method_4_code
def y_Ma_isDone : MethodName := ⟨R_Ma, "isDone", "()Z"⟩
theorem hd_Ma_isDone : y_Ma_isDone.cls ≠ "java/lang/invoke/MethodHandle" ∧ y_Ma_isDone.cls ≠ "java/lang/invoke/VarHandle" ∧ (parseMethodDescriptor y_Ma_isDone.desc).map (fun d => d.parameters.length) = some 0 := by decide +kernel
abbrev w_Ma_isDone : List Cond := .code y_Ma_isDone b_Ma_isDone 1 (some .boolean) :: lw_good
theorem cm_Ma_isDone : Cond.code y_Ma_isDone b_Ma_isDone 1 (some .boolean) ∈ lw_good := tw_218
theorem gi_Ma_isDone : Cond.instanceMethod y_Ma_isDone ∈ lw_good := tw_216
theorem gs_Ma_isDone : Cond.selects R_Ma y_Ma_isDone y_Ma_isDone ∈ lw_good := tw_217
abbrev b_Ma_isWhite : ByteArray := prog_4_method_5_code
def y_Ma_isWhite : MethodName := ⟨R_Ma, "isWhite", "(I)Z"⟩
theorem hd_Ma_isWhite : y_Ma_isWhite.cls ≠ "java/lang/invoke/MethodHandle" ∧ y_Ma_isWhite.cls ≠ "java/lang/invoke/VarHandle" ∧ (parseMethodDescriptor y_Ma_isWhite.desc).map (fun d => d.parameters.length) = some 1 := by decide +kernel
abbrev w_Ma_isWhite : List Cond := .code y_Ma_isWhite b_Ma_isWhite 2 (some .boolean) :: lw_good
theorem cm_Ma_isWhite : Cond.code y_Ma_isWhite b_Ma_isWhite 2 (some .boolean) ∈ lw_good := tw_376
theorem gi_Ma_isWhite : Cond.instanceMethod y_Ma_isWhite ∈ lw_good := tw_374
theorem gs_Ma_isWhite : Cond.selects R_Ma y_Ma_isWhite y_Ma_isWhite ∈ lw_good := tw_375
abbrev b_Ma_isGrey : ByteArray := prog_4_method_6_code
def y_Ma_isGrey : MethodName := ⟨R_Ma, "isGrey", "(I)Z"⟩
theorem hd_Ma_isGrey : y_Ma_isGrey.cls ≠ "java/lang/invoke/MethodHandle" ∧ y_Ma_isGrey.cls ≠ "java/lang/invoke/VarHandle" ∧ (parseMethodDescriptor y_Ma_isGrey.desc).map (fun d => d.parameters.length) = some 1 := by decide +kernel
abbrev w_Ma_isGrey : List Cond := .code y_Ma_isGrey b_Ma_isGrey 2 (some .boolean) :: lw_good
theorem cm_Ma_isGrey : Cond.code y_Ma_isGrey b_Ma_isGrey 2 (some .boolean) ∈ lw_good := tw_380
theorem gi_Ma_isGrey : Cond.instanceMethod y_Ma_isGrey ∈ lw_good := tw_378
theorem gs_Ma_isGrey : Cond.selects R_Ma y_Ma_isGrey y_Ma_isGrey ∈ lw_good := tw_379
abbrev b_Ma_isBlack : ByteArray := prog_4_method_7_code
def y_Ma_isBlack : MethodName := ⟨R_Ma, "isBlack", "(I)Z"⟩
theorem hd_Ma_isBlack : y_Ma_isBlack.cls ≠ "java/lang/invoke/MethodHandle" ∧ y_Ma_isBlack.cls ≠ "java/lang/invoke/VarHandle" ∧ (parseMethodDescriptor y_Ma_isBlack.desc).map (fun d => d.parameters.length) = some 1 := by decide +kernel
abbrev w_Ma_isBlack : List Cond := .code y_Ma_isBlack b_Ma_isBlack 2 (some .boolean) :: lw_good
theorem cm_Ma_isBlack : Cond.code y_Ma_isBlack b_Ma_isBlack 2 (some .boolean) ∈ lw_good := tw_237
theorem gi_Ma_isBlack : Cond.instanceMethod y_Ma_isBlack ∈ lw_good := tw_235
theorem gs_Ma_isBlack : Cond.selects R_Ma y_Ma_isBlack y_Ma_isBlack ∈ lw_good := tw_236
abbrev b_Ma_whiten : ByteArray := prog_4_method_8_code
def y_Ma_whiten : MethodName := ⟨R_Ma, "whiten", "(I)V"⟩
theorem hd_Ma_whiten : y_Ma_whiten.cls ≠ "java/lang/invoke/MethodHandle" ∧ y_Ma_whiten.cls ≠ "java/lang/invoke/VarHandle" ∧ (parseMethodDescriptor y_Ma_whiten.desc).map (fun d => d.parameters.length) = some 1 := by decide +kernel
abbrev w_Ma_whiten : List Cond := .code y_Ma_whiten b_Ma_whiten 2 none :: lw_good
theorem cm_Ma_whiten : Cond.code y_Ma_whiten b_Ma_whiten 2 none ∈ lw_good := tw_241
theorem gi_Ma_whiten : Cond.instanceMethod y_Ma_whiten ∈ lw_good := tw_239
theorem gs_Ma_whiten : Cond.selects R_Ma y_Ma_whiten y_Ma_whiten ∈ lw_good := tw_240
abbrev b_Ma_blacken : ByteArray := prog_4_method_9_code
def y_Ma_blacken : MethodName := ⟨R_Ma, "blacken", "(I)V"⟩
theorem hd_Ma_blacken : y_Ma_blacken.cls ≠ "java/lang/invoke/MethodHandle" ∧ y_Ma_blacken.cls ≠ "java/lang/invoke/VarHandle" ∧ (parseMethodDescriptor y_Ma_blacken.desc).map (fun d => d.parameters.length) = some 1 := by decide +kernel
abbrev w_Ma_blacken : List Cond := .code y_Ma_blacken b_Ma_blacken 2 none :: lw_good
theorem cm_Ma_blacken : Cond.code y_Ma_blacken b_Ma_blacken 2 none ∈ lw_good := tw_228
theorem gi_Ma_blacken : Cond.instanceMethod y_Ma_blacken ∈ lw_good := tw_226
theorem gs_Ma_blacken : Cond.selects R_Ma y_Ma_blacken y_Ma_blacken ∈ lw_good := tw_227
abbrev b_Ma_shade : ByteArray := prog_4_method_10_code
def y_Ma_shade : MethodName := ⟨R_Ma, "shade", "(I)V"⟩
theorem hd_Ma_shade : y_Ma_shade.cls ≠ "java/lang/invoke/MethodHandle" ∧ y_Ma_shade.cls ≠ "java/lang/invoke/VarHandle" ∧ (parseMethodDescriptor y_Ma_shade.desc).map (fun d => d.parameters.length) = some 1 := by decide +kernel
abbrev w_Ma_shade : List Cond := .code y_Ma_shade b_Ma_shade 2 none :: lw_good
theorem cm_Ma_shade : Cond.code y_Ma_shade b_Ma_shade 2 none ∈ lw_good := tw_210
theorem gi_Ma_shade : Cond.instanceMethod y_Ma_shade ∈ lw_good := tw_208
theorem gs_Ma_shade : Cond.selects R_Ma y_Ma_shade y_Ma_shade ∈ lw_good := tw_209
abbrev b_Ma_shadeValuesOf : ByteArray := prog_4_method_11_code
def y_Ma_shadeValuesOf : MethodName := ⟨R_Ma, "shadeValuesOf", "(I)V"⟩
theorem hd_Ma_shadeValuesOf : y_Ma_shadeValuesOf.cls ≠ "java/lang/invoke/MethodHandle" ∧ y_Ma_shadeValuesOf.cls ≠ "java/lang/invoke/VarHandle" ∧ (parseMethodDescriptor y_Ma_shadeValuesOf.desc).map (fun d => d.parameters.length) = some 1 := by decide +kernel
abbrev w_Ma_shadeValuesOf : List Cond := .code y_Ma_shadeValuesOf b_Ma_shadeValuesOf 4 none :: lw_good
theorem cm_Ma_shadeValuesOf : Cond.code y_Ma_shadeValuesOf b_Ma_shadeValuesOf 4 none ∈ lw_good := tw_195
theorem gi_Ma_shadeValuesOf : Cond.instanceMethod y_Ma_shadeValuesOf ∈ lw_good := tw_193
theorem gs_Ma_shadeValuesOf : Cond.selects R_Ma y_Ma_shadeValuesOf y_Ma_shadeValuesOf ∈ lw_good := tw_194
abbrev b_Ma_markOne : ByteArray := prog_4_method_12_code
def y_Ma_markOne : MethodName := ⟨R_Ma, "markOne", "()V"⟩
theorem hd_Ma_markOne : y_Ma_markOne.cls ≠ "java/lang/invoke/MethodHandle" ∧ y_Ma_markOne.cls ≠ "java/lang/invoke/VarHandle" ∧ (parseMethodDescriptor y_Ma_markOne.desc).map (fun d => d.parameters.length) = some 0 := by decide +kernel
abbrev w_Ma_markOne : List Cond := .code y_Ma_markOne b_Ma_markOne 2 none :: lw_good
theorem cm_Ma_markOne : Cond.code y_Ma_markOne b_Ma_markOne 2 none ∈ lw_good := tw_224
theorem gi_Ma_markOne : Cond.instanceMethod y_Ma_markOne ∈ lw_good := tw_222
theorem gs_Ma_markOne : Cond.selects R_Ma y_Ma_markOne y_Ma_markOne ∈ lw_good := tw_223
abbrev b_St_init : ByteArray := prog_6_method_1_code
def y_St_init : MethodName := ⟨R_St, "<init>", "()V"⟩
theorem hd_St_init : y_St_init.cls ≠ "java/lang/invoke/MethodHandle" ∧ y_St_init.cls ≠ "java/lang/invoke/VarHandle" ∧ (parseMethodDescriptor y_St_init.desc).map (fun d => d.parameters.length) = some 0 := by decide +kernel
abbrev w_St_init : List Cond := .code y_St_init b_St_init 1 none :: lw_good
theorem cm_St_init : Cond.code y_St_init b_St_init 1 none ∈ lw_good := tw_31
theorem gi_St_init : Cond.instanceMethod y_St_init ∈ lw_good := tw_30
abbrev b_St_isTuplePlace : ByteArray := prog_6_method_2_code
def y_St_isTuplePlace : MethodName := ⟨R_St, "isTuplePlace", "(I)Z"⟩
theorem hd_St_isTuplePlace : y_St_isTuplePlace.cls ≠ "java/lang/invoke/MethodHandle" ∧ y_St_isTuplePlace.cls ≠ "java/lang/invoke/VarHandle" ∧ (parseMethodDescriptor y_St_isTuplePlace.desc).map (fun d => d.parameters.length) = some 1 := by decide +kernel
abbrev w_St_isTuplePlace : List Cond := .code y_St_isTuplePlace b_St_isTuplePlace 2 (some .boolean) :: lw_good
theorem cm_St_isTuplePlace : Cond.code y_St_isTuplePlace b_St_isTuplePlace 2 (some .boolean) ∈ lw_good := tw_214
theorem gi_St_isTuplePlace : Cond.instanceMethod y_St_isTuplePlace ∈ lw_good := tw_212
theorem gs_St_isTuplePlace : Cond.selects R_St y_St_isTuplePlace y_St_isTuplePlace ∈ lw_good := tw_213
abbrev b_St_isFree : ByteArray := prog_6_method_3_code
def y_St_isFree : MethodName := ⟨R_St, "isFree", "(I)Z"⟩
theorem hd_St_isFree : y_St_isFree.cls ≠ "java/lang/invoke/MethodHandle" ∧ y_St_isFree.cls ≠ "java/lang/invoke/VarHandle" ∧ (parseMethodDescriptor y_St_isFree.desc).map (fun d => d.parameters.length) = some 1 := by decide +kernel
abbrev w_St_isFree : List Cond := .code y_St_isFree b_St_isFree 2 (some .boolean) :: lw_good
theorem cm_St_isFree : Cond.code y_St_isFree b_St_isFree 2 (some .boolean) ∈ lw_good := tw_245
theorem gi_St_isFree : Cond.instanceMethod y_St_isFree ∈ lw_good := tw_243
theorem gs_St_isFree : Cond.selects R_St y_St_isFree y_St_isFree ∈ lw_good := tw_244
abbrev b_St_valuesOf : ByteArray := prog_6_method_4_code
def y_St_valuesOf : MethodName := ⟨R_St, "valuesOf", "(I)I"⟩
theorem hd_St_valuesOf : y_St_valuesOf.cls ≠ "java/lang/invoke/MethodHandle" ∧ y_St_valuesOf.cls ≠ "java/lang/invoke/VarHandle" ∧ (parseMethodDescriptor y_St_valuesOf.desc).map (fun d => d.parameters.length) = some 1 := by decide +kernel
abbrev w_St_valuesOf : List Cond := .code y_St_valuesOf b_St_valuesOf 2 (some .int) :: lw_good
theorem cm_St_valuesOf : Cond.code y_St_valuesOf b_St_valuesOf 2 (some .int) ∈ lw_good := tw_199
theorem gi_St_valuesOf : Cond.instanceMethod y_St_valuesOf ∈ lw_good := tw_197
theorem gs_St_valuesOf : Cond.selects R_St y_St_valuesOf y_St_valuesOf ∈ lw_good := tw_198
abbrev b_St_cellsFor : ByteArray := prog_6_method_5_code
def y_St_cellsFor : MethodName := ⟨R_St, "cellsFor", "(I)I"⟩
theorem hd_St_cellsFor : y_St_cellsFor.cls ≠ "java/lang/invoke/MethodHandle" ∧ y_St_cellsFor.cls ≠ "java/lang/invoke/VarHandle" ∧ (parseMethodDescriptor y_St_cellsFor.desc).map (fun d => d.parameters.length) = some 1 := by decide +kernel
abbrev w_St_cellsFor : List Cond := .code y_St_cellsFor b_St_cellsFor 1 (some .int) :: lw_good
theorem cm_St_cellsFor : Cond.code y_St_cellsFor b_St_cellsFor 1 (some .int) ∈ lw_good := tw_254
theorem gt_St_cellsFor : Cond.static y_St_cellsFor ∈ lw_good := tw_253
abbrev b_St_top : ByteArray := prog_6_method_6_code
def y_St_top : MethodName := ⟨R_St, "top", "()I"⟩
theorem hd_St_top : y_St_top.cls ≠ "java/lang/invoke/MethodHandle" ∧ y_St_top.cls ≠ "java/lang/invoke/VarHandle" ∧ (parseMethodDescriptor y_St_top.desc).map (fun d => d.parameters.length) = some 0 := by decide +kernel
abbrev w_St_top : List Cond := .code y_St_top b_St_top 1 (some .int) :: lw_good
theorem cm_St_top : Cond.code y_St_top b_St_top 1 (some .int) ∈ lw_good := tw_258
theorem gi_St_top : Cond.instanceMethod y_St_top ∈ lw_good := tw_256
theorem gs_St_top : Cond.selects R_St y_St_top y_St_top ∈ lw_good := tw_257
abbrev b_St_tuples : ByteArray := prog_6_method_7_code
def y_St_tuples : MethodName := ⟨R_St, "tuples", "()I"⟩
theorem hd_St_tuples : y_St_tuples.cls ≠ "java/lang/invoke/MethodHandle" ∧ y_St_tuples.cls ≠ "java/lang/invoke/VarHandle" ∧ (parseMethodDescriptor y_St_tuples.desc).map (fun d => d.parameters.length) = some 0 := by decide +kernel
abbrev w_St_tuples : List Cond := .code y_St_tuples b_St_tuples 1 (some .int) :: lw_good
theorem cm_St_tuples : Cond.code y_St_tuples b_St_tuples 1 (some .int) ∈ lw_good := tw_321
theorem gi_St_tuples : Cond.instanceMethod y_St_tuples ∈ lw_good := tw_319
theorem gs_St_tuples : Cond.selects R_St y_St_tuples y_St_tuples ∈ lw_good := tw_320
abbrev b_St_hasRoomFor : ByteArray := prog_6_method_8_code
def y_St_hasRoomFor : MethodName := ⟨R_St, "hasRoomFor", "(I)Z"⟩
theorem hd_St_hasRoomFor : y_St_hasRoomFor.cls ≠ "java/lang/invoke/MethodHandle" ∧ y_St_hasRoomFor.cls ≠ "java/lang/invoke/VarHandle" ∧ (parseMethodDescriptor y_St_hasRoomFor.desc).map (fun d => d.parameters.length) = some 1 := by decide +kernel
abbrev w_St_hasRoomFor : List Cond := .code y_St_hasRoomFor b_St_hasRoomFor 2 (some .boolean) :: lw_good
theorem cm_St_hasRoomFor : Cond.code y_St_hasRoomFor b_St_hasRoomFor 2 (some .boolean) ∈ lw_good := tw_486
theorem gi_St_hasRoomFor : Cond.instanceMethod y_St_hasRoomFor ∈ lw_good := tw_484
theorem gs_St_hasRoomFor : Cond.selects R_St y_St_hasRoomFor y_St_hasRoomFor ∈ lw_good := tw_485
abbrev b_St_take : ByteArray := prog_6_method_9_code
def y_St_take : MethodName := ⟨R_St, "take", "(I)I"⟩
theorem hd_St_take : y_St_take.cls ≠ "java/lang/invoke/MethodHandle" ∧ y_St_take.cls ≠ "java/lang/invoke/VarHandle" ∧ (parseMethodDescriptor y_St_take.desc).map (fun d => d.parameters.length) = some 1 := by decide +kernel
abbrev w_St_take : List Cond := .code y_St_take b_St_take 4 (some .int) :: lw_good
theorem cm_St_take : Cond.code y_St_take b_St_take 4 (some .int) ∈ lw_good := tw_514
theorem gi_St_take : Cond.instanceMethod y_St_take ∈ lw_good := tw_512
theorem gs_St_take : Cond.selects R_St y_St_take y_St_take ∈ lw_good := tw_513
abbrev b_St_takeFreePlace : ByteArray := prog_6_method_10_code
def y_St_takeFreePlace : MethodName := ⟨R_St, "takeFreePlace", "()I"⟩
theorem hd_St_takeFreePlace : y_St_takeFreePlace.cls ≠ "java/lang/invoke/MethodHandle" ∧ y_St_takeFreePlace.cls ≠ "java/lang/invoke/VarHandle" ∧ (parseMethodDescriptor y_St_takeFreePlace.desc).map (fun d => d.parameters.length) = some 0 := by decide +kernel
abbrev w_St_takeFreePlace : List Cond := .code y_St_takeFreePlace b_St_takeFreePlace 1 (some .int) :: lw_good
theorem cm_St_takeFreePlace : Cond.code y_St_takeFreePlace b_St_takeFreePlace 1 (some .int) ∈ lw_good := tw_519
theorem gi_St_takeFreePlace : Cond.instanceMethod y_St_takeFreePlace ∈ lw_good := tw_518
theorem gs_St_takeFreePlace : Cond.selects R_St y_St_takeFreePlace y_St_takeFreePlace ∈ lw_good := ts_St_takeFreePlace
abbrev b_St_release : ByteArray := prog_6_method_11_code
def y_St_release : MethodName := ⟨R_St, "release", "(I)V"⟩
theorem hd_St_release : y_St_release.cls ≠ "java/lang/invoke/MethodHandle" ∧ y_St_release.cls ≠ "java/lang/invoke/VarHandle" ∧ (parseMethodDescriptor y_St_release.desc).map (fun d => d.parameters.length) = some 1 := by decide +kernel
abbrev w_St_release : List Cond := .code y_St_release b_St_release 2 none :: lw_good
theorem cm_St_release : Cond.code y_St_release b_St_release 2 none ∈ lw_good := tw_250
theorem gi_St_release : Cond.instanceMethod y_St_release ∈ lw_good := tw_248
theorem gs_St_release : Cond.selects R_St y_St_release y_St_release ∈ lw_good := tw_249
abbrev b_St_placeAt : ByteArray := prog_6_method_12_code
def y_St_placeAt : MethodName := ⟨R_St, "placeAt", "(I)I"⟩
theorem hd_St_placeAt : y_St_placeAt.cls ≠ "java/lang/invoke/MethodHandle" ∧ y_St_placeAt.cls ≠ "java/lang/invoke/VarHandle" ∧ (parseMethodDescriptor y_St_placeAt.desc).map (fun d => d.parameters.length) = some 1 := by decide +kernel
abbrev w_St_placeAt : List Cond := .code y_St_placeAt b_St_placeAt 2 (some .int) :: lw_good
theorem cm_St_placeAt : Cond.code y_St_placeAt b_St_placeAt 2 (some .int) ∈ lw_good := tw_206
theorem gi_St_placeAt : Cond.instanceMethod y_St_placeAt ∈ lw_good := tw_204
theorem gs_St_placeAt : Cond.selects R_St y_St_placeAt y_St_placeAt ∈ lw_good := tw_205
abbrev b_St_numberAt : ByteArray := prog_6_method_13_code
def y_St_numberAt : MethodName := ⟨R_St, "numberAt", "(I)J"⟩
theorem hd_St_numberAt : y_St_numberAt.cls ≠ "java/lang/invoke/MethodHandle" ∧ y_St_numberAt.cls ≠ "java/lang/invoke/VarHandle" ∧ (parseMethodDescriptor y_St_numberAt.desc).map (fun d => d.parameters.length) = some 1 := by decide +kernel
abbrev w_St_numberAt : List Cond := .code y_St_numberAt b_St_numberAt 2 (some .long) :: lw_good
theorem cm_St_numberAt : Cond.code y_St_numberAt b_St_numberAt 2 (some .long) ∈ lw_good := tw_284
theorem gi_St_numberAt : Cond.instanceMethod y_St_numberAt ∈ lw_good := tw_282
theorem gs_St_numberAt : Cond.selects R_St y_St_numberAt y_St_numberAt ∈ lw_good := tw_283
abbrev b_St_putNumber : ByteArray := prog_6_method_14_code
def y_St_putNumber : MethodName := ⟨R_St, "putNumber", "(IJ)V"⟩
theorem hd_St_putNumber : y_St_putNumber.cls ≠ "java/lang/invoke/MethodHandle" ∧ y_St_putNumber.cls ≠ "java/lang/invoke/VarHandle" ∧ (parseMethodDescriptor y_St_putNumber.desc).map (fun d => d.parameters.length) = some 2 := by decide +kernel
abbrev w_St_putNumber : List Cond := .code y_St_putNumber b_St_putNumber 4 none :: lw_good
theorem cm_St_putNumber : Cond.code y_St_putNumber b_St_putNumber 4 none ∈ lw_good := tw_524
theorem gi_St_putNumber : Cond.instanceMethod y_St_putNumber ∈ lw_good := tw_522
theorem gs_St_putNumber : Cond.selects R_St y_St_putNumber y_St_putNumber ∈ lw_good := tw_523
abbrev b_St_putReference : ByteArray := prog_6_method_15_code
def y_St_putReference : MethodName := ⟨R_St, "putReference", "(II)V"⟩
theorem hd_St_putReference : y_St_putReference.cls ≠ "java/lang/invoke/MethodHandle" ∧ y_St_putReference.cls ≠ "java/lang/invoke/VarHandle" ∧ (parseMethodDescriptor y_St_putReference.desc).map (fun d => d.parameters.length) = some 2 := by decide +kernel
abbrev w_St_putReference : List Cond := .code y_St_putReference b_St_putReference 3 none :: lw_good
theorem cm_St_putReference : Cond.code y_St_putReference b_St_putReference 3 none ∈ lw_good := tw_530
theorem gi_St_putReference : Cond.instanceMethod y_St_putReference ∈ lw_good := tw_528
theorem gs_St_putReference : Cond.selects R_St y_St_putReference y_St_putReference ∈ lw_good := tw_529
abbrev b_St_move : ByteArray := prog_6_method_16_code
def y_St_move : MethodName := ⟨R_St, "move", "(II)V"⟩
theorem hd_St_move : y_St_move.cls ≠ "java/lang/invoke/MethodHandle" ∧ y_St_move.cls ≠ "java/lang/invoke/VarHandle" ∧ (parseMethodDescriptor y_St_move.desc).map (fun d => d.parameters.length) = some 2 := by decide +kernel
abbrev w_St_move : List Cond := .code y_St_move b_St_move 3 none :: lw_good
theorem cm_St_move : Cond.code y_St_move b_St_move 3 none ∈ lw_good := tw_549
theorem gi_St_move : Cond.instanceMethod y_St_move ∈ lw_good := tw_547
theorem gs_St_move : Cond.selects R_St y_St_move y_St_move ∈ lw_good := tw_548
abbrev b_St_alike : ByteArray := prog_6_method_17_code
def y_St_alike : MethodName := ⟨R_St, "alike", "(II)Z"⟩
theorem hd_St_alike : y_St_alike.cls ≠ "java/lang/invoke/MethodHandle" ∧ y_St_alike.cls ≠ "java/lang/invoke/VarHandle" ∧ (parseMethodDescriptor y_St_alike.desc).map (fun d => d.parameters.length) = some 2 := by decide +kernel
abbrev w_St_alike : List Cond := .code y_St_alike b_St_alike 3 (some .boolean) :: lw_good
theorem cm_St_alike : Cond.code y_St_alike b_St_alike 3 (some .boolean) ∈ lw_good := tw_632
theorem gi_St_alike : Cond.instanceMethod y_St_alike ∈ lw_good := tw_630
theorem gs_St_alike : Cond.selects R_St y_St_alike y_St_alike ∈ lw_good := tw_631
abbrev b_St_countHolders : ByteArray := prog_6_method_18_code
def y_St_countHolders : MethodName := ⟨R_St, "countHolders", "([I)V"⟩
theorem hd_St_countHolders : y_St_countHolders.cls ≠ "java/lang/invoke/MethodHandle" ∧ y_St_countHolders.cls ≠ "java/lang/invoke/VarHandle" ∧ (parseMethodDescriptor y_St_countHolders.desc).map (fun d => d.parameters.length) = some 1 := by decide +kernel
abbrev w_St_countHolders : List Cond := .code y_St_countHolders b_St_countHolders 3 none :: lw_good
theorem cm_St_countHolders : Cond.code y_St_countHolders b_St_countHolders 3 none ∈ lw_good := tw_334
theorem gi_St_countHolders : Cond.instanceMethod y_St_countHolders ∈ lw_good := tw_332
theorem gs_St_countHolders : Cond.selects R_St y_St_countHolders y_St_countHolders ∈ lw_good := tw_333
abbrev b_Wa_init : ByteArray := prog_7_method_1_code
def y_Wa_init : MethodName := ⟨R_Wa, "<init>", "(LSnapshotHeap$Store;)V"⟩
theorem hd_Wa_init : y_Wa_init.cls ≠ "java/lang/invoke/MethodHandle" ∧ y_Wa_init.cls ≠ "java/lang/invoke/VarHandle" ∧ (parseMethodDescriptor y_Wa_init.desc).map (fun d => d.parameters.length) = some 1 := by decide +kernel
abbrev w_Wa_init : List Cond := .code y_Wa_init b_Wa_init 2 none :: lw_good
theorem cm_Wa_init : Cond.code y_Wa_init b_Wa_init 2 none ∈ lw_good := tw_104
theorem gi_Wa_init : Cond.instanceMethod y_Wa_init ∈ lw_good := tw_103
abbrev b_Wa_tuples : ByteArray := prog_7_method_2_code
def y_Wa_tuples : MethodName := ⟨R_Wa, "tuples", "()I"⟩
theorem hd_Wa_tuples : y_Wa_tuples.cls ≠ "java/lang/invoke/MethodHandle" ∧ y_Wa_tuples.cls ≠ "java/lang/invoke/VarHandle" ∧ (parseMethodDescriptor y_Wa_tuples.desc).map (fun d => d.parameters.length) = some 0 := by decide +kernel
abbrev w_Wa_tuples : List Cond := .code y_Wa_tuples b_Wa_tuples 1 (some .int) :: lw_good
theorem cm_Wa_tuples : Cond.code y_Wa_tuples b_Wa_tuples 1 (some .int) ∈ lw_good := tw_643
theorem gi_Wa_tuples : Cond.instanceMethod y_Wa_tuples ∈ lw_good := tw_641
theorem gs_Wa_tuples : Cond.selects R_Wa y_Wa_tuples y_Wa_tuples ∈ lw_good := tw_642
abbrev b_Wa_cells : ByteArray := prog_7_method_3_code
def y_Wa_cells : MethodName := ⟨R_Wa, "cells", "()I"⟩
theorem hd_Wa_cells : y_Wa_cells.cls ≠ "java/lang/invoke/MethodHandle" ∧ y_Wa_cells.cls ≠ "java/lang/invoke/VarHandle" ∧ (parseMethodDescriptor y_Wa_cells.desc).map (fun d => d.parameters.length) = some 0 := by decide +kernel
abbrev w_Wa_cells : List Cond := .code y_Wa_cells b_Wa_cells 1 (some .int) :: lw_good
theorem cm_Wa_cells : Cond.code y_Wa_cells b_Wa_cells 1 (some .int) ∈ lw_good := tw_647
theorem gi_Wa_cells : Cond.instanceMethod y_Wa_cells ∈ lw_good := tw_645
theorem gs_Wa_cells : Cond.selects R_Wa y_Wa_cells y_Wa_cells ∈ lw_good := tw_646
abbrev b_Wa_hash : ByteArray := prog_7_method_4_code
def y_Wa_hash : MethodName := ⟨R_Wa, "hash", "()J"⟩
theorem hd_Wa_hash : y_Wa_hash.cls ≠ "java/lang/invoke/MethodHandle" ∧ y_Wa_hash.cls ≠ "java/lang/invoke/VarHandle" ∧ (parseMethodDescriptor y_Wa_hash.desc).map (fun d => d.parameters.length) = some 0 := by decide +kernel
abbrev w_Wa_hash : List Cond := .code y_Wa_hash b_Wa_hash 1 (some .long) :: lw_good
theorem cm_Wa_hash : Cond.code y_Wa_hash b_Wa_hash 1 (some .long) ∈ lw_good := tw_304
theorem gi_Wa_hash : Cond.instanceMethod y_Wa_hash ∈ lw_good := tw_302
theorem gs_Wa_hash : Cond.selects R_Wa y_Wa_hash y_Wa_hash ∈ lw_good := tw_303
abbrev b_Wa_hasMet : ByteArray := prog_7_method_5_code
def y_Wa_hasMet : MethodName := ⟨R_Wa, "hasMet", "(I)Z"⟩
theorem hd_Wa_hasMet : y_Wa_hasMet.cls ≠ "java/lang/invoke/MethodHandle" ∧ y_Wa_hasMet.cls ≠ "java/lang/invoke/VarHandle" ∧ (parseMethodDescriptor y_Wa_hasMet.desc).map (fun d => d.parameters.length) = some 1 := by decide +kernel
abbrev w_Wa_hasMet : List Cond := .code y_Wa_hasMet b_Wa_hasMet 2 (some .boolean) :: lw_good
theorem cm_Wa_hasMet : Cond.code y_Wa_hasMet b_Wa_hasMet 2 (some .boolean) ∈ lw_good := tw_293
theorem gi_Wa_hasMet : Cond.instanceMethod y_Wa_hasMet ∈ lw_good := tw_291
theorem gs_Wa_hasMet : Cond.selects R_Wa y_Wa_hasMet y_Wa_hasMet ∈ lw_good := tw_292
abbrev b_Wa_run : ByteArray := prog_7_method_6_code
def y_Wa_run : MethodName := ⟨R_Wa, "run", "()V"⟩
theorem hd_Wa_run : y_Wa_run.cls ≠ "java/lang/invoke/MethodHandle" ∧ y_Wa_run.cls ≠ "java/lang/invoke/VarHandle" ∧ (parseMethodDescriptor y_Wa_run.desc).map (fun d => d.parameters.length) = some 0 := by decide +kernel
abbrev w_Wa_run : List Cond := .code y_Wa_run b_Wa_run 2 none :: lw_good
theorem cm_Wa_run : Cond.code y_Wa_run b_Wa_run 2 none ∈ lw_good := tw_262
theorem gi_Wa_run : Cond.instanceMethod y_Wa_run ∈ lw_good := tw_260
theorem gs_Wa_run : Cond.selects R_Wa y_Wa_run y_Wa_run ∈ lw_good := tw_261
abbrev b_Wa_goOn : ByteArray := prog_7_method_7_code
def y_Wa_goOn : MethodName := ⟨R_Wa, "goOn", "()V"⟩
theorem hd_Wa_goOn : y_Wa_goOn.cls ≠ "java/lang/invoke/MethodHandle" ∧ y_Wa_goOn.cls ≠ "java/lang/invoke/VarHandle" ∧ (parseMethodDescriptor y_Wa_goOn.desc).map (fun d => d.parameters.length) = some 0 := by decide +kernel
abbrev w_Wa_goOn : List Cond := .code y_Wa_goOn b_Wa_goOn 3 none :: lw_good
theorem cm_Wa_goOn : Cond.code y_Wa_goOn b_Wa_goOn 3 none ∈ lw_good := tw_272
theorem gi_Wa_goOn : Cond.instanceMethod y_Wa_goOn ∈ lw_good := tw_271
theorem gs_Wa_goOn : Cond.selects R_Wa y_Wa_goOn y_Wa_goOn ∈ lw_good := ts_Wa_goOn
abbrev b_Wa_meet : ByteArray := prog_7_method_8_code
def y_Wa_meet : MethodName := ⟨R_Wa, "meet", "(I)V"⟩
theorem hd_Wa_meet : y_Wa_meet.cls ≠ "java/lang/invoke/MethodHandle" ∧ y_Wa_meet.cls ≠ "java/lang/invoke/VarHandle" ∧ (parseMethodDescriptor y_Wa_meet.desc).map (fun d => d.parameters.length) = some 1 := by decide +kernel
abbrev w_Wa_meet : List Cond := .code y_Wa_meet b_Wa_meet 3 none :: lw_good
theorem cm_Wa_meet : Cond.code y_Wa_meet b_Wa_meet 3 none ∈ lw_good := tw_278
theorem gi_Wa_meet : Cond.instanceMethod y_Wa_meet ∈ lw_good := tw_277
theorem gs_Wa_meet : Cond.selects R_Wa y_Wa_meet y_Wa_meet ∈ lw_good := ts_Wa_meet
abbrev b_Wa_meetFirst : ByteArray := prog_7_method_9_code
def y_Wa_meetFirst : MethodName := ⟨R_Wa, "meetFirst", "(I)V"⟩
theorem hd_Wa_meetFirst : y_Wa_meetFirst.cls ≠ "java/lang/invoke/MethodHandle" ∧ y_Wa_meetFirst.cls ≠ "java/lang/invoke/VarHandle" ∧ (parseMethodDescriptor y_Wa_meetFirst.desc).map (fun d => d.parameters.length) = some 1 := by decide +kernel
abbrev w_Wa_meetFirst : List Cond := .code y_Wa_meetFirst b_Wa_meetFirst 3 none :: lw_good
theorem cm_Wa_meetFirst : Cond.code y_Wa_meetFirst b_Wa_meetFirst 3 none ∈ lw_good := tw_298
theorem gi_Wa_meetFirst : Cond.instanceMethod y_Wa_meetFirst ∈ lw_good := tw_297
theorem gs_Wa_meetFirst : Cond.selects R_Wa y_Wa_meetFirst y_Wa_meetFirst ∈ lw_good := ts_Wa_meetFirst
abbrev b_Wa_goInto : ByteArray := prog_7_method_10_code
def y_Wa_goInto : MethodName := ⟨R_Wa, "goInto", "(I)V"⟩
theorem hd_Wa_goInto : y_Wa_goInto.cls ≠ "java/lang/invoke/MethodHandle" ∧ y_Wa_goInto.cls ≠ "java/lang/invoke/VarHandle" ∧ (parseMethodDescriptor y_Wa_goInto.desc).map (fun d => d.parameters.length) = some 1 := by decide +kernel
abbrev w_Wa_goInto : List Cond := .code y_Wa_goInto b_Wa_goInto 2 none :: lw_good
theorem cm_Wa_goInto : Cond.code y_Wa_goInto b_Wa_goInto 2 none ∈ lw_good := tw_268
theorem gi_Wa_goInto : Cond.instanceMethod y_Wa_goInto ∈ lw_good := tw_267
theorem gs_Wa_goInto : Cond.selects R_Wa y_Wa_goInto y_Wa_goInto ∈ lw_good := ts_Wa_goInto
abbrev b_Wa_mix : ByteArray := prog_7_method_11_code
def y_Wa_mix : MethodName := ⟨R_Wa, "mix", "(J)V"⟩
theorem hd_Wa_mix : y_Wa_mix.cls ≠ "java/lang/invoke/MethodHandle" ∧ y_Wa_mix.cls ≠ "java/lang/invoke/VarHandle" ∧ (parseMethodDescriptor y_Wa_mix.desc).map (fun d => d.parameters.length) = some 1 := by decide +kernel
abbrev w_Wa_mix : List Cond := .code y_Wa_mix b_Wa_mix 3 none :: lw_good
theorem cm_Wa_mix : Cond.code y_Wa_mix b_Wa_mix 3 none ∈ lw_good := tw_288
theorem gi_Wa_mix : Cond.instanceMethod y_Wa_mix ∈ lw_good := tw_287
theorem gs_Wa_mix : Cond.selects R_Wa y_Wa_mix y_Wa_mix ∈ lw_good := ts_Wa_mix
abbrev b_La_tuple : ByteArray := method_3_code
def y_La_tuple : MethodName := ⟨R_La, "tuple", "(LSnapshotHeap;II[J)I"⟩
theorem hd_La_tuple : y_La_tuple.cls ≠ "java/lang/invoke/MethodHandle" ∧ y_La_tuple.cls ≠ "java/lang/invoke/VarHandle" ∧ (parseMethodDescriptor y_La_tuple.desc).map (fun d => d.parameters.length) = some 4 := by decide +kernel
theorem gt_La_tuple : Cond.static y_La_tuple ∈ lw_good := tw_383
abbrev b_La_number : ByteArray := method_4_code
def y_La_number : MethodName := ⟨R_La, "number", "(LSnapshotHeap;IJ)I"⟩
theorem hd_La_number : y_La_number.cls ≠ "java/lang/invoke/MethodHandle" ∧ y_La_number.cls ≠ "java/lang/invoke/VarHandle" ∧ (parseMethodDescriptor y_La_number.desc).map (fun d => d.parameters.length) = some 3 := by decide +kernel
theorem gt_La_number : Cond.static y_La_number ∈ lw_good := tw_532
abbrev b_La_copy : ByteArray := method_5_code
def y_La_copy : MethodName := ⟨R_La, "copy", "(LSnapshotHeap;II)I"⟩
theorem hd_La_copy : y_La_copy.cls ≠ "java/lang/invoke/MethodHandle" ∧ y_La_copy.cls ≠ "java/lang/invoke/VarHandle" ∧ (parseMethodDescriptor y_La_copy.desc).map (fun d => d.parameters.length) = some 3 := by decide +kernel
theorem gt_La_copy : Cond.static y_La_copy ∈ lw_good := tw_540
abbrev b_La_get : ByteArray := method_6_code
def y_La_get : MethodName := ⟨R_La, "get", "(LSnapshotHeap;III)I"⟩
theorem hd_La_get : y_La_get.cls ≠ "java/lang/invoke/MethodHandle" ∧ y_La_get.cls ≠ "java/lang/invoke/VarHandle" ∧ (parseMethodDescriptor y_La_get.desc).map (fun d => d.parameters.length) = some 4 := by decide +kernel
theorem gt_La_get : Cond.static y_La_get ∈ lw_good := tw_551
abbrev b_La_set : ByteArray := method_7_code
def y_La_set : MethodName := ⟨R_La, "set", "(LSnapshotHeap;III)I"⟩
theorem hd_La_set : y_La_set.cls ≠ "java/lang/invoke/MethodHandle" ∧ y_La_set.cls ≠ "java/lang/invoke/VarHandle" ∧ (parseMethodDescriptor y_La_set.desc).map (fun d => d.parameters.length) = some 4 := by decide +kernel
theorem gt_La_set : Cond.static y_La_set ∈ lw_good := tw_581
abbrev b_La_step : ByteArray := method_8_code
def y_La_step : MethodName := ⟨R_La, "step", "(LSnapshotHeap;I)I"⟩
theorem hd_La_step : y_La_step.cls ≠ "java/lang/invoke/MethodHandle" ∧ y_La_step.cls ≠ "java/lang/invoke/VarHandle" ∧ (parseMethodDescriptor y_La_step.desc).map (fun d => d.parameters.length) = some 2 := by decide +kernel
theorem gt_La_step : Cond.static y_La_step ∈ lw_good := tw_594
abbrev b_La_pace : ByteArray := method_9_code
def y_La_pace : MethodName := ⟨R_La, "pace", "(LSnapshotHeap;I[J)I"⟩
theorem hd_La_pace : y_La_pace.cls ≠ "java/lang/invoke/MethodHandle" ∧ y_La_pace.cls ≠ "java/lang/invoke/VarHandle" ∧ (parseMethodDescriptor y_La_pace.desc).map (fun d => d.parameters.length) = some 3 := by decide +kernel
theorem gt_La_pace : Cond.static y_La_pace ∈ lw_good := tw_601
abbrev b_La_size : ByteArray := method_10_code
def y_La_size : MethodName := ⟨R_La, "size", "(LSnapshotHeap;I[J)I"⟩
theorem hd_La_size : y_La_size.cls ≠ "java/lang/invoke/MethodHandle" ∧ y_La_size.cls ≠ "java/lang/invoke/VarHandle" ∧ (parseMethodDescriptor y_La_size.desc).map (fun d => d.parameters.length) = some 3 := by decide +kernel
theorem gt_La_size : Cond.static y_La_size ∈ lw_good := tw_608
abbrev b_La_value : ByteArray := method_11_code
def y_La_value : MethodName := ⟨R_La, "value", "(LSnapshotHeap;I[J)I"⟩
theorem hd_La_value : y_La_value.cls ≠ "java/lang/invoke/MethodHandle" ∧ y_La_value.cls ≠ "java/lang/invoke/VarHandle" ∧ (parseMethodDescriptor y_La_value.desc).map (fun d => d.parameters.length) = some 3 := by decide +kernel
theorem gt_La_value : Cond.static y_La_value ∈ lw_good := tw_615
abbrev b_La_same : ByteArray := method_12_code
def y_La_same : MethodName := ⟨R_La, "same", "(LSnapshotHeap;II[J)I"⟩
theorem hd_La_same : y_La_same.cls ≠ "java/lang/invoke/MethodHandle" ∧ y_La_same.cls ≠ "java/lang/invoke/VarHandle" ∧ (parseMethodDescriptor y_La_same.desc).map (fun d => d.parameters.length) = some 4 := by decide +kernel
theorem gt_La_same : Cond.static y_La_same ∈ lw_good := tw_623
abbrev b_La_count : ByteArray := method_13_code
def y_La_count : MethodName := ⟨R_La, "count", "(LSnapshotHeap;I[J)I"⟩
theorem hd_La_count : y_La_count.cls ≠ "java/lang/invoke/MethodHandle" ∧ y_La_count.cls ≠ "java/lang/invoke/VarHandle" ∧ (parseMethodDescriptor y_La_count.desc).map (fun d => d.parameters.length) = some 3 := by decide +kernel
theorem gt_La_count : Cond.static y_La_count ∈ lw_good := tw_634
abbrev b_Ob_init : ByteArray := object_method_1_code
def y_Ob_init : MethodName := ⟨R_Ob, "<init>", "()V"⟩
theorem hd_Ob_init : y_Ob_init.cls ≠ "java/lang/invoke/MethodHandle" ∧ y_Ob_init.cls ≠ "java/lang/invoke/VarHandle" ∧ (parseMethodDescriptor y_Ob_init.desc).map (fun d => d.parameters.length) = some 0 := by decide +kernel
abbrev w_Ob_init : List Cond := .code y_Ob_init b_Ob_init 1 none :: lw_good
theorem cm_Ob_init : Cond.code y_Ob_init b_Ob_init 1 none ∈ lw_good := tw_26
theorem gi_Ob_init : Cond.instanceMethod y_Ob_init ∈ lw_good := tw_25
abbrev b_Ar_fill : ByteArray := prog_19_method_103_code
def y_Ar_fill : MethodName := ⟨R_Ar, "fill", "([II)V"⟩
theorem hd_Ar_fill : y_Ar_fill.cls ≠ "java/lang/invoke/MethodHandle" ∧ y_Ar_fill.cls ≠ "java/lang/invoke/VarHandle" ∧ (parseMethodDescriptor y_Ar_fill.desc).map (fun d => d.parameters.length) = some 2 := by decide +kernel
abbrev w_Ar_fill : List Cond := .code y_Ar_fill b_Ar_fill 4 none :: lw_good
theorem cm_Ar_fill : Cond.code y_Ar_fill b_Ar_fill 4 none ∈ lw_good := tw_35
theorem gt_Ar_fill : Cond.static y_Ar_fill ∈ lw_good := tw_34
def sn_N (U : State) : Prop := va_Nw (.methodLinkNest R_Ma 48 y_Sh_slotOf R_Sh) U ∧ va_Nw (.methodLinkNest R_Wa 64 y_Sh_slotOf R_Sh) U ∧ va_Nw (.methodLinkNest R_St 59 y_Sh_slotOf R_Sh) U
theorem sn_N.moved {s U : State} (hW : s.WarmedH U.vm) (h : sn_N s) : sn_N U := ⟨va_Nw.warmM hW h.1, va_Nw.warmM hW h.2.1, va_Nw.warmM hW h.2.2⟩
theorem sn_N.call {U : State} {g : JFrame} {mk : MethodId} {a : Array Value} (h : sn_N U) : sn_N (U.calling g mk a) := ⟨va_Nw.same rfl rfl h.1, va_Nw.same rfl rfl h.2.1, va_Nw.same rfl rfl h.2.2⟩
end
section
theorem d_Sh_init_0 : decode b_Sh_init 0 = .ok (.aload_n 0, 1) := by decide +kernel
theorem d_Sh_init_1 : decode b_Sh_init 1 = .ok (.invokespecial 3, 3) := by decide +kernel
theorem d_Sh_init_4 : decode b_Sh_init 4 = .ok (.aload_n 0, 1) := by decide +kernel
theorem d_Sh_init_5 : decode b_Sh_init 5 = .ok (.new 9, 3) := by decide +kernel
theorem d_Sh_init_8 : decode b_Sh_init 8 = .ok (.dup, 1) := by decide +kernel
theorem d_Sh_init_9 : decode b_Sh_init 9 = .ok (.invokespecial 11, 3) := by decide +kernel
theorem d_Sh_init_12 : decode b_Sh_init 12 = .ok (.putfield 12, 3) := by decide +kernel
theorem d_Sh_init_15 : decode b_Sh_init 15 = .ok (.aload_n 0, 1) := by decide +kernel
theorem d_Sh_init_16 : decode b_Sh_init 16 = .ok (.new 16, 3) := by decide +kernel
theorem d_Sh_init_19 : decode b_Sh_init 19 = .ok (.dup, 1) := by decide +kernel
theorem d_Sh_init_20 : decode b_Sh_init 20 = .ok (.aload_n 0, 1) := by decide +kernel
theorem d_Sh_init_21 : decode b_Sh_init 21 = .ok (.getfield 12, 3) := by decide +kernel
theorem d_Sh_init_24 : decode b_Sh_init 24 = .ok (.invokespecial 18, 3) := by decide +kernel
theorem d_Sh_init_27 : decode b_Sh_init 27 = .ok (.putfield 21, 3) := by decide +kernel
theorem d_Sh_init_30 : decode b_Sh_init 30 = .ok (.aload_n 0, 1) := by decide +kernel
theorem d_Sh_init_31 : decode b_Sh_init 31 = .ok (.new 25, 3) := by decide +kernel
theorem d_Sh_init_34 : decode b_Sh_init 34 = .ok (.dup, 1) := by decide +kernel
theorem d_Sh_init_35 : decode b_Sh_init 35 = .ok (.aload_n 0, 1) := by decide +kernel
theorem d_Sh_init_36 : decode b_Sh_init 36 = .ok (.getfield 12, 3) := by decide +kernel
theorem d_Sh_init_39 : decode b_Sh_init 39 = .ok (.invokespecial 27, 3) := by decide +kernel
theorem d_Sh_init_42 : decode b_Sh_init 42 = .ok (.putfield 28, 3) := by decide +kernel
theorem d_Sh_init_45 : decode b_Sh_init 45 = .ok (.aload_n 0, 1) := by decide +kernel
theorem d_Sh_init_46 : decode b_Sh_init 46 = .ok (.new 32, 3) := by decide +kernel
theorem d_Sh_init_49 : decode b_Sh_init 49 = .ok (.dup, 1) := by decide +kernel
theorem d_Sh_init_50 : decode b_Sh_init 50 = .ok (.aload_n 0, 1) := by decide +kernel
theorem d_Sh_init_51 : decode b_Sh_init 51 = .ok (.getfield 12, 3) := by decide +kernel
theorem d_Sh_init_54 : decode b_Sh_init 54 = .ok (.aload_n 0, 1) := by decide +kernel
theorem d_Sh_init_55 : decode b_Sh_init 55 = .ok (.getfield 21, 3) := by decide +kernel
theorem d_Sh_init_58 : decode b_Sh_init 58 = .ok (.aload_n 0, 1) := by decide +kernel
theorem d_Sh_init_59 : decode b_Sh_init 59 = .ok (.getfield 28, 3) := by decide +kernel
theorem d_Sh_init_62 : decode b_Sh_init 62 = .ok (.invokespecial 34, 3) := by decide +kernel
theorem d_Sh_init_65 : decode b_Sh_init 65 = .ok (.putfield 37, 3) := by decide +kernel
theorem d_Sh_init_68 : decode b_Sh_init 68 = .ok (.aload_n 0, 1) := by decide +kernel
theorem d_Sh_init_69 : decode b_Sh_init 69 = .ok (.iconst 3, 1) := by decide +kernel
theorem d_Sh_init_70 : decode b_Sh_init 70 = .ok (.putfield 41, 3) := by decide +kernel
theorem d_Sh_init_73 : decode b_Sh_init 73 = .ok (.aload_n 0, 1) := by decide +kernel
theorem d_Sh_init_74 : decode b_Sh_init 74 = .ok (.iconst 0, 1) := by decide +kernel
theorem d_Sh_init_75 : decode b_Sh_init 75 = .ok (.putfield 45, 3) := by decide +kernel
theorem d_Sh_init_78 : decode b_Sh_init 78 = .ok (.return_, 1) := by decide +kernel
theorem d_Sh_tuple_0 : decode b_Sh_tuple 0 = .ok (.aload_n 0, 1) := by decide +kernel
theorem d_Sh_tuple_1 : decode b_Sh_tuple 1 = .ok (.getfield 21, 3) := by decide +kernel
theorem d_Sh_tuple_4 : decode b_Sh_tuple 4 = .ok (.aload_n 0, 1) := by decide +kernel
theorem d_Sh_tuple_5 : decode b_Sh_tuple 5 = .ok (.getfield 41, 3) := by decide +kernel
theorem d_Sh_tuple_8 : decode b_Sh_tuple 8 = .ok (.invokevirtual 48, 3) := by decide +kernel
theorem d_Sh_tuple_11 : decode b_Sh_tuple 11 = .ok (.iload_n 1, 1) := by decide +kernel
theorem d_Sh_tuple_12 : decode b_Sh_tuple 12 = .ok (.invokestatic 52, 3) := by decide +kernel
theorem d_Sh_tuple_15 : decode b_Sh_tuple 15 = .ok (.iload_n 2, 1) := by decide +kernel
theorem d_Sh_tuple_16 : decode b_Sh_tuple 16 = .ok (.iconst 0, 1) := by decide +kernel
theorem d_Sh_tuple_17 : decode b_Sh_tuple 17 = .ok (.bipush 16, 2) := by decide +kernel
theorem d_Sh_tuple_19 : decode b_Sh_tuple 19 = .ok (.invokestatic 55, 3) := by decide +kernel
theorem d_Sh_tuple_22 : decode b_Sh_tuple 22 = .ok (.aload_n 0, 1) := by decide +kernel
theorem d_Sh_tuple_23 : decode b_Sh_tuple 23 = .ok (.getfield 12, 3) := by decide +kernel
theorem d_Sh_tuple_26 : decode b_Sh_tuple 26 = .ok (.iload_n 2, 1) := by decide +kernel
theorem d_Sh_tuple_27 : decode b_Sh_tuple 27 = .ok (.invokevirtual 59, 3) := by decide +kernel
theorem d_Sh_tuple_30 : decode b_Sh_tuple 30 = .ok (.ifCond .ne 10, 3) := by decide +kernel
theorem d_Sh_tuple_33 : decode b_Sh_tuple 33 = .ok (.aload_n 0, 1) := by decide +kernel
theorem d_Sh_tuple_34 : decode b_Sh_tuple 34 = .ok (.getfield 21, 3) := by decide +kernel
theorem d_Sh_tuple_37 : decode b_Sh_tuple 37 = .ok (.invokevirtual 63, 3) := by decide +kernel
theorem d_Sh_tuple_40 : decode b_Sh_tuple 40 = .ok (.aload_n 0, 1) := by decide +kernel
theorem d_Sh_tuple_41 : decode b_Sh_tuple 41 = .ok (.getfield 12, 3) := by decide +kernel
theorem d_Sh_tuple_44 : decode b_Sh_tuple 44 = .ok (.iload_n 2, 1) := by decide +kernel
theorem d_Sh_tuple_45 : decode b_Sh_tuple 45 = .ok (.invokevirtual 59, 3) := by decide +kernel
theorem d_Sh_tuple_48 : decode b_Sh_tuple 48 = .ok (.ifCond .ne 13, 3) := by decide +kernel
theorem d_Sh_tuple_51 : decode b_Sh_tuple 51 = .ok (.new 66, 3) := by decide +kernel
theorem d_Sh_tuple_54 : decode b_Sh_tuple 54 = .ok (.dup, 1) := by decide +kernel
theorem d_Sh_tuple_55 : decode b_Sh_tuple 55 = .ok (.ldc 68, 2) := by decide +kernel
theorem d_Sh_tuple_57 : decode b_Sh_tuple 57 = .ok (.invokespecial 70, 3) := by decide +kernel
theorem d_Sh_tuple_60 : decode b_Sh_tuple 60 = .ok (.athrow, 1) := by decide +kernel
theorem d_Sh_tuple_61 : decode b_Sh_tuple 61 = .ok (.aload_n 0, 1) := by decide +kernel
theorem d_Sh_tuple_62 : decode b_Sh_tuple 62 = .ok (.getfield 12, 3) := by decide +kernel
theorem d_Sh_tuple_65 : decode b_Sh_tuple 65 = .ok (.iload_n 1, 1) := by decide +kernel
theorem d_Sh_tuple_66 : decode b_Sh_tuple 66 = .ok (.invokestatic 73, 3) := by decide +kernel
theorem d_Sh_tuple_69 : decode b_Sh_tuple 69 = .ok (.aload_n 0, 1) := by decide +kernel
theorem d_Sh_tuple_70 : decode b_Sh_tuple 70 = .ok (.getfield 21, 3) := by decide +kernel
theorem d_Sh_tuple_73 : decode b_Sh_tuple 73 = .ok (.iload_n 2, 1) := by decide +kernel
theorem d_Sh_tuple_74 : decode b_Sh_tuple 74 = .ok (.invokevirtual 77, 3) := by decide +kernel
theorem d_Sh_tuple_77 : decode b_Sh_tuple 77 = .ok (.invokevirtual 80, 3) := by decide +kernel
theorem d_Sh_tuple_80 : decode b_Sh_tuple 80 = .ok (.aload_n 0, 1) := by decide +kernel
theorem d_Sh_tuple_81 : decode b_Sh_tuple 81 = .ok (.dup, 1) := by decide +kernel
theorem d_Sh_tuple_82 : decode b_Sh_tuple 82 = .ok (.getfield 45, 3) := by decide +kernel
theorem d_Sh_tuple_85 : decode b_Sh_tuple 85 = .ok (.iconst 1, 1) := by decide +kernel
theorem d_Sh_tuple_86 : decode b_Sh_tuple 86 = .ok (.iadd, 1) := by decide +kernel
theorem d_Sh_tuple_87 : decode b_Sh_tuple 87 = .ok (.putfield 45, 3) := by decide +kernel
theorem d_Sh_tuple_90 : decode b_Sh_tuple 90 = .ok (.aload_n 0, 1) := by decide +kernel
theorem d_Sh_tuple_91 : decode b_Sh_tuple 91 = .ok (.getfield 45, 3) := by decide +kernel
theorem d_Sh_tuple_94 : decode b_Sh_tuple 94 = .ok (.ireturn, 1) := by decide +kernel
theorem d_Sh_number_0 : decode b_Sh_number 0 = .ok (.aload_n 0, 1) := by decide +kernel
theorem d_Sh_number_1 : decode b_Sh_number 1 = .ok (.getfield 21, 3) := by decide +kernel
theorem d_Sh_number_4 : decode b_Sh_number 4 = .ok (.aload_n 0, 1) := by decide +kernel
theorem d_Sh_number_5 : decode b_Sh_number 5 = .ok (.getfield 41, 3) := by decide +kernel
theorem d_Sh_number_8 : decode b_Sh_number 8 = .ok (.invokevirtual 48, 3) := by decide +kernel
theorem d_Sh_number_11 : decode b_Sh_number 11 = .ok (.iload_n 1, 1) := by decide +kernel
theorem d_Sh_number_12 : decode b_Sh_number 12 = .ok (.invokestatic 52, 3) := by decide +kernel
theorem d_Sh_number_15 : decode b_Sh_number 15 = .ok (.aload_n 0, 1) := by decide +kernel
theorem d_Sh_number_16 : decode b_Sh_number 16 = .ok (.getfield 12, 3) := by decide +kernel
theorem d_Sh_number_19 : decode b_Sh_number 19 = .ok (.iload_n 1, 1) := by decide +kernel
theorem d_Sh_number_20 : decode b_Sh_number 20 = .ok (.invokestatic 73, 3) := by decide +kernel
theorem d_Sh_number_23 : decode b_Sh_number 23 = .ok (.lload_n 2, 1) := by decide +kernel
theorem d_Sh_number_24 : decode b_Sh_number 24 = .ok (.invokevirtual 84, 3) := by decide +kernel
theorem d_Sh_number_27 : decode b_Sh_number 27 = .ok (.return_, 1) := by decide +kernel
theorem d_Sh_copy_0 : decode b_Sh_copy 0 = .ok (.aload_n 0, 1) := by decide +kernel
theorem d_Sh_copy_1 : decode b_Sh_copy 1 = .ok (.getfield 21, 3) := by decide +kernel
theorem d_Sh_copy_4 : decode b_Sh_copy 4 = .ok (.aload_n 0, 1) := by decide +kernel
theorem d_Sh_copy_5 : decode b_Sh_copy 5 = .ok (.getfield 41, 3) := by decide +kernel
theorem d_Sh_copy_8 : decode b_Sh_copy 8 = .ok (.invokevirtual 48, 3) := by decide +kernel
theorem d_Sh_copy_11 : decode b_Sh_copy 11 = .ok (.iload_n 1, 1) := by decide +kernel
theorem d_Sh_copy_12 : decode b_Sh_copy 12 = .ok (.invokestatic 52, 3) := by decide +kernel
theorem d_Sh_copy_15 : decode b_Sh_copy 15 = .ok (.iload_n 2, 1) := by decide +kernel
theorem d_Sh_copy_16 : decode b_Sh_copy 16 = .ok (.invokestatic 52, 3) := by decide +kernel
theorem d_Sh_copy_19 : decode b_Sh_copy 19 = .ok (.aload_n 0, 1) := by decide +kernel
theorem d_Sh_copy_20 : decode b_Sh_copy 20 = .ok (.getfield 12, 3) := by decide +kernel
theorem d_Sh_copy_23 : decode b_Sh_copy 23 = .ok (.iload_n 2, 1) := by decide +kernel
theorem d_Sh_copy_24 : decode b_Sh_copy 24 = .ok (.invokestatic 73, 3) := by decide +kernel
theorem d_Sh_copy_27 : decode b_Sh_copy 27 = .ok (.iload_n 1, 1) := by decide +kernel
theorem d_Sh_copy_28 : decode b_Sh_copy 28 = .ok (.invokestatic 73, 3) := by decide +kernel
theorem d_Sh_copy_31 : decode b_Sh_copy 31 = .ok (.invokevirtual 88, 3) := by decide +kernel
theorem d_Sh_copy_34 : decode b_Sh_copy 34 = .ok (.return_, 1) := by decide +kernel
theorem d_Sh_get_0 : decode b_Sh_get 0 = .ok (.aload_n 0, 1) := by decide +kernel
theorem d_Sh_get_1 : decode b_Sh_get 1 = .ok (.getfield 21, 3) := by decide +kernel
theorem d_Sh_get_4 : decode b_Sh_get 4 = .ok (.aload_n 0, 1) := by decide +kernel
theorem d_Sh_get_5 : decode b_Sh_get 5 = .ok (.getfield 41, 3) := by decide +kernel
theorem d_Sh_get_8 : decode b_Sh_get 8 = .ok (.invokevirtual 48, 3) := by decide +kernel
theorem d_Sh_get_11 : decode b_Sh_get 11 = .ok (.iload_n 1, 1) := by decide +kernel
theorem d_Sh_get_12 : decode b_Sh_get 12 = .ok (.invokestatic 52, 3) := by decide +kernel
theorem d_Sh_get_15 : decode b_Sh_get 15 = .ok (.iload_n 2, 1) := by decide +kernel
theorem d_Sh_get_16 : decode b_Sh_get 16 = .ok (.invokestatic 52, 3) := by decide +kernel
theorem d_Sh_get_19 : decode b_Sh_get 19 = .ok (.aload_n 0, 1) := by decide +kernel
theorem d_Sh_get_20 : decode b_Sh_get 20 = .ok (.getfield 12, 3) := by decide +kernel
theorem d_Sh_get_23 : decode b_Sh_get 23 = .ok (.aload_n 0, 1) := by decide +kernel
theorem d_Sh_get_24 : decode b_Sh_get 24 = .ok (.iload_n 2, 1) := by decide +kernel
theorem d_Sh_get_25 : decode b_Sh_get 25 = .ok (.iload_n 3, 1) := by decide +kernel
theorem d_Sh_get_26 : decode b_Sh_get 26 = .ok (.invokevirtual 91, 3) := by decide +kernel
theorem d_Sh_get_29 : decode b_Sh_get 29 = .ok (.iload_n 1, 1) := by decide +kernel
theorem d_Sh_get_30 : decode b_Sh_get 30 = .ok (.invokestatic 73, 3) := by decide +kernel
theorem d_Sh_get_33 : decode b_Sh_get 33 = .ok (.invokevirtual 88, 3) := by decide +kernel
theorem d_Sh_get_36 : decode b_Sh_get 36 = .ok (.return_, 1) := by decide +kernel
theorem d_Sh_set_0 : decode b_Sh_set 0 = .ok (.aload_n 0, 1) := by decide +kernel
theorem d_Sh_set_1 : decode b_Sh_set 1 = .ok (.getfield 21, 3) := by decide +kernel
theorem d_Sh_set_4 : decode b_Sh_set 4 = .ok (.aload_n 0, 1) := by decide +kernel
theorem d_Sh_set_5 : decode b_Sh_set 5 = .ok (.getfield 41, 3) := by decide +kernel
theorem d_Sh_set_8 : decode b_Sh_set 8 = .ok (.invokevirtual 48, 3) := by decide +kernel
theorem d_Sh_set_11 : decode b_Sh_set 11 = .ok (.iload_n 1, 1) := by decide +kernel
theorem d_Sh_set_12 : decode b_Sh_set 12 = .ok (.invokestatic 52, 3) := by decide +kernel
theorem d_Sh_set_15 : decode b_Sh_set 15 = .ok (.iload_n 3, 1) := by decide +kernel
theorem d_Sh_set_16 : decode b_Sh_set 16 = .ok (.invokestatic 52, 3) := by decide +kernel
theorem d_Sh_set_19 : decode b_Sh_set 19 = .ok (.aload_n 0, 1) := by decide +kernel
theorem d_Sh_set_20 : decode b_Sh_set 20 = .ok (.iload_n 1, 1) := by decide +kernel
theorem d_Sh_set_21 : decode b_Sh_set 21 = .ok (.iload_n 2, 1) := by decide +kernel
theorem d_Sh_set_22 : decode b_Sh_set 22 = .ok (.invokevirtual 91, 3) := by decide +kernel
theorem d_Sh_set_25 : decode b_Sh_set 25 = .ok (.istore 4, 2) := by decide +kernel
theorem d_Sh_set_27 : decode b_Sh_set 27 = .ok (.aload_n 0, 1) := by decide +kernel
theorem d_Sh_set_28 : decode b_Sh_set 28 = .ok (.getfield 21, 3) := by decide +kernel
theorem d_Sh_set_31 : decode b_Sh_set 31 = .ok (.iload 4, 2) := by decide +kernel
theorem d_Sh_set_33 : decode b_Sh_set 33 = .ok (.invokevirtual 95, 3) := by decide +kernel
theorem d_Sh_set_36 : decode b_Sh_set 36 = .ok (.aload_n 0, 1) := by decide +kernel
theorem d_Sh_set_37 : decode b_Sh_set 37 = .ok (.getfield 12, 3) := by decide +kernel
theorem d_Sh_set_40 : decode b_Sh_set 40 = .ok (.iload_n 3, 1) := by decide +kernel
theorem d_Sh_set_41 : decode b_Sh_set 41 = .ok (.invokestatic 73, 3) := by decide +kernel
theorem d_Sh_set_44 : decode b_Sh_set 44 = .ok (.iload 4, 2) := by decide +kernel
theorem d_Sh_set_46 : decode b_Sh_set 46 = .ok (.invokevirtual 88, 3) := by decide +kernel
theorem d_Sh_set_49 : decode b_Sh_set 49 = .ok (.return_, 1) := by decide +kernel
theorem d_Sh_step_0 : decode b_Sh_step 0 = .ok (.aload_n 0, 1) := by decide +kernel
theorem d_Sh_step_1 : decode b_Sh_step 1 = .ok (.getfield 21, 3) := by decide +kernel
theorem d_Sh_step_4 : decode b_Sh_step 4 = .ok (.aload_n 0, 1) := by decide +kernel
theorem d_Sh_step_5 : decode b_Sh_step 5 = .ok (.getfield 41, 3) := by decide +kernel
theorem d_Sh_step_8 : decode b_Sh_step 8 = .ok (.invokevirtual 48, 3) := by decide +kernel
theorem d_Sh_step_11 : decode b_Sh_step 11 = .ok (.iload_n 1, 1) := by decide +kernel
theorem d_Sh_step_12 : decode b_Sh_step 12 = .ok (.iconst 1, 1) := by decide +kernel
theorem d_Sh_step_13 : decode b_Sh_step 13 = .ok (.sipush 1000, 3) := by decide +kernel
theorem d_Sh_step_16 : decode b_Sh_step 16 = .ok (.invokestatic 55, 3) := by decide +kernel
theorem d_Sh_step_19 : decode b_Sh_step 19 = .ok (.aload_n 0, 1) := by decide +kernel
theorem d_Sh_step_20 : decode b_Sh_step 20 = .ok (.getfield 21, 3) := by decide +kernel
theorem d_Sh_step_23 : decode b_Sh_step 23 = .ok (.iload_n 1, 1) := by decide +kernel
theorem d_Sh_step_24 : decode b_Sh_step 24 = .ok (.invokevirtual 48, 3) := by decide +kernel
theorem d_Sh_step_27 : decode b_Sh_step 27 = .ok (.return_, 1) := by decide +kernel
theorem d_Sh_pace_0 : decode b_Sh_pace 0 = .ok (.aload_n 0, 1) := by decide +kernel
theorem d_Sh_pace_1 : decode b_Sh_pace 1 = .ok (.getfield 21, 3) := by decide +kernel
theorem d_Sh_pace_4 : decode b_Sh_pace 4 = .ok (.aload_n 0, 1) := by decide +kernel
theorem d_Sh_pace_5 : decode b_Sh_pace 5 = .ok (.getfield 41, 3) := by decide +kernel
theorem d_Sh_pace_8 : decode b_Sh_pace 8 = .ok (.invokevirtual 48, 3) := by decide +kernel
theorem d_Sh_pace_11 : decode b_Sh_pace 11 = .ok (.iload_n 1, 1) := by decide +kernel
theorem d_Sh_pace_12 : decode b_Sh_pace 12 = .ok (.iconst 0, 1) := by decide +kernel
theorem d_Sh_pace_13 : decode b_Sh_pace 13 = .ok (.bipush 50, 2) := by decide +kernel
theorem d_Sh_pace_15 : decode b_Sh_pace 15 = .ok (.invokestatic 55, 3) := by decide +kernel
theorem d_Sh_pace_18 : decode b_Sh_pace 18 = .ok (.aload_n 0, 1) := by decide +kernel
theorem d_Sh_pace_19 : decode b_Sh_pace 19 = .ok (.getfield 41, 3) := by decide +kernel
theorem d_Sh_pace_22 : decode b_Sh_pace 22 = .ok (.istore_n 2, 1) := by decide +kernel
theorem d_Sh_pace_23 : decode b_Sh_pace 23 = .ok (.aload_n 0, 1) := by decide +kernel
theorem d_Sh_pace_24 : decode b_Sh_pace 24 = .ok (.iload_n 1, 1) := by decide +kernel
theorem d_Sh_pace_25 : decode b_Sh_pace 25 = .ok (.putfield 41, 3) := by decide +kernel
theorem d_Sh_pace_28 : decode b_Sh_pace 28 = .ok (.iload_n 2, 1) := by decide +kernel
theorem d_Sh_pace_29 : decode b_Sh_pace 29 = .ok (.ireturn, 1) := by decide +kernel
theorem d_Sh_size_0 : decode b_Sh_size 0 = .ok (.aload_n 0, 1) := by decide +kernel
theorem d_Sh_size_1 : decode b_Sh_size 1 = .ok (.getfield 21, 3) := by decide +kernel
theorem d_Sh_size_4 : decode b_Sh_size 4 = .ok (.aload_n 0, 1) := by decide +kernel
theorem d_Sh_size_5 : decode b_Sh_size 5 = .ok (.getfield 41, 3) := by decide +kernel
theorem d_Sh_size_8 : decode b_Sh_size 8 = .ok (.invokevirtual 48, 3) := by decide +kernel
theorem d_Sh_size_11 : decode b_Sh_size 11 = .ok (.iload_n 1, 1) := by decide +kernel
theorem d_Sh_size_12 : decode b_Sh_size 12 = .ok (.invokestatic 52, 3) := by decide +kernel
theorem d_Sh_size_15 : decode b_Sh_size 15 = .ok (.aload_n 0, 1) := by decide +kernel
theorem d_Sh_size_16 : decode b_Sh_size 16 = .ok (.getfield 12, 3) := by decide +kernel
theorem d_Sh_size_19 : decode b_Sh_size 19 = .ok (.iload_n 1, 1) := by decide +kernel
theorem d_Sh_size_20 : decode b_Sh_size 20 = .ok (.invokestatic 73, 3) := by decide +kernel
theorem d_Sh_size_23 : decode b_Sh_size 23 = .ok (.invokevirtual 98, 3) := by decide +kernel
theorem d_Sh_size_26 : decode b_Sh_size 26 = .ok (.istore_n 2, 1) := by decide +kernel
theorem d_Sh_size_27 : decode b_Sh_size 27 = .ok (.iload_n 2, 1) := by decide +kernel
theorem d_Sh_size_28 : decode b_Sh_size 28 = .ok (.ifCond .ne 7, 3) := by decide +kernel
theorem d_Sh_size_31 : decode b_Sh_size 31 = .ok (.iconst (-1), 1) := by decide +kernel
theorem d_Sh_size_32 : decode b_Sh_size 32 = .ok (.goto 11, 3) := by decide +kernel
theorem d_Sh_size_35 : decode b_Sh_size 35 = .ok (.aload_n 0, 1) := by decide +kernel
theorem d_Sh_size_36 : decode b_Sh_size 36 = .ok (.getfield 12, 3) := by decide +kernel
theorem d_Sh_size_39 : decode b_Sh_size 39 = .ok (.iload_n 2, 1) := by decide +kernel
theorem d_Sh_size_40 : decode b_Sh_size 40 = .ok (.invokevirtual 101, 3) := by decide +kernel
theorem d_Sh_size_43 : decode b_Sh_size 43 = .ok (.ireturn, 1) := by decide +kernel
theorem d_Sh_value_0 : decode b_Sh_value 0 = .ok (.aload_n 0, 1) := by decide +kernel
theorem d_Sh_value_1 : decode b_Sh_value 1 = .ok (.getfield 21, 3) := by decide +kernel
theorem d_Sh_value_4 : decode b_Sh_value 4 = .ok (.aload_n 0, 1) := by decide +kernel
theorem d_Sh_value_5 : decode b_Sh_value 5 = .ok (.getfield 41, 3) := by decide +kernel
theorem d_Sh_value_8 : decode b_Sh_value 8 = .ok (.invokevirtual 48, 3) := by decide +kernel
theorem d_Sh_value_11 : decode b_Sh_value 11 = .ok (.iload_n 1, 1) := by decide +kernel
theorem d_Sh_value_12 : decode b_Sh_value 12 = .ok (.invokestatic 52, 3) := by decide +kernel
theorem d_Sh_value_15 : decode b_Sh_value 15 = .ok (.aload_n 0, 1) := by decide +kernel
theorem d_Sh_value_16 : decode b_Sh_value 16 = .ok (.getfield 12, 3) := by decide +kernel
theorem d_Sh_value_19 : decode b_Sh_value 19 = .ok (.iload_n 1, 1) := by decide +kernel
theorem d_Sh_value_20 : decode b_Sh_value 20 = .ok (.invokestatic 73, 3) := by decide +kernel
theorem d_Sh_value_23 : decode b_Sh_value 23 = .ok (.invokevirtual 104, 3) := by decide +kernel
theorem d_Sh_value_26 : decode b_Sh_value 26 = .ok (.lreturn, 1) := by decide +kernel
theorem d_Sh_same_0 : decode b_Sh_same 0 = .ok (.aload_n 0, 1) := by decide +kernel
theorem d_Sh_same_1 : decode b_Sh_same 1 = .ok (.getfield 21, 3) := by decide +kernel
theorem d_Sh_same_4 : decode b_Sh_same 4 = .ok (.aload_n 0, 1) := by decide +kernel
theorem d_Sh_same_5 : decode b_Sh_same 5 = .ok (.getfield 41, 3) := by decide +kernel
theorem d_Sh_same_8 : decode b_Sh_same 8 = .ok (.invokevirtual 48, 3) := by decide +kernel
theorem d_Sh_same_11 : decode b_Sh_same 11 = .ok (.iload_n 1, 1) := by decide +kernel
theorem d_Sh_same_12 : decode b_Sh_same 12 = .ok (.invokestatic 52, 3) := by decide +kernel
theorem d_Sh_same_15 : decode b_Sh_same 15 = .ok (.iload_n 2, 1) := by decide +kernel
theorem d_Sh_same_16 : decode b_Sh_same 16 = .ok (.invokestatic 52, 3) := by decide +kernel
theorem d_Sh_same_19 : decode b_Sh_same 19 = .ok (.aload_n 0, 1) := by decide +kernel
theorem d_Sh_same_20 : decode b_Sh_same 20 = .ok (.getfield 12, 3) := by decide +kernel
theorem d_Sh_same_23 : decode b_Sh_same 23 = .ok (.iload_n 1, 1) := by decide +kernel
theorem d_Sh_same_24 : decode b_Sh_same 24 = .ok (.invokestatic 73, 3) := by decide +kernel
theorem d_Sh_same_27 : decode b_Sh_same 27 = .ok (.iload_n 2, 1) := by decide +kernel
theorem d_Sh_same_28 : decode b_Sh_same 28 = .ok (.invokestatic 73, 3) := by decide +kernel
theorem d_Sh_same_31 : decode b_Sh_same 31 = .ok (.invokevirtual 108, 3) := by decide +kernel
theorem d_Sh_same_34 : decode b_Sh_same 34 = .ok (.ireturn, 1) := by decide +kernel
theorem d_Sh_count_0 : decode b_Sh_count 0 = .ok (.aload_n 0, 1) := by decide +kernel
theorem d_Sh_count_1 : decode b_Sh_count 1 = .ok (.getfield 21, 3) := by decide +kernel
theorem d_Sh_count_4 : decode b_Sh_count 4 = .ok (.aload_n 0, 1) := by decide +kernel
theorem d_Sh_count_5 : decode b_Sh_count 5 = .ok (.getfield 41, 3) := by decide +kernel
theorem d_Sh_count_8 : decode b_Sh_count 8 = .ok (.invokevirtual 48, 3) := by decide +kernel
theorem d_Sh_count_11 : decode b_Sh_count 11 = .ok (.iload_n 1, 1) := by decide +kernel
theorem d_Sh_count_12 : decode b_Sh_count 12 = .ok (.iconst 0, 1) := by decide +kernel
theorem d_Sh_count_13 : decode b_Sh_count 13 = .ok (.iconst 2, 1) := by decide +kernel
theorem d_Sh_count_14 : decode b_Sh_count 14 = .ok (.invokestatic 55, 3) := by decide +kernel
theorem d_Sh_count_17 : decode b_Sh_count 17 = .ok (.iload_n 1, 1) := by decide +kernel
theorem d_Sh_count_18 : decode b_Sh_count 18 = .ok (.iconst 2, 1) := by decide +kernel
theorem d_Sh_count_19 : decode b_Sh_count 19 = .ok (.if_icmp .ne 8, 3) := by decide +kernel
theorem d_Sh_count_22 : decode b_Sh_count 22 = .ok (.aload_n 0, 1) := by decide +kernel
theorem d_Sh_count_23 : decode b_Sh_count 23 = .ok (.getfield 45, 3) := by decide +kernel
theorem d_Sh_count_26 : decode b_Sh_count 26 = .ok (.ireturn, 1) := by decide +kernel
theorem d_Sh_count_27 : decode b_Sh_count 27 = .ok (.aload_n 0, 1) := by decide +kernel
theorem d_Sh_count_28 : decode b_Sh_count 28 = .ok (.getfield 28, 3) := by decide +kernel
theorem d_Sh_count_31 : decode b_Sh_count 31 = .ok (.invokevirtual 112, 3) := by decide +kernel
theorem d_Sh_count_34 : decode b_Sh_count 34 = .ok (.iload_n 1, 1) := by decide +kernel
theorem d_Sh_count_35 : decode b_Sh_count 35 = .ok (.ifCond .ne 13, 3) := by decide +kernel
theorem d_Sh_count_38 : decode b_Sh_count 38 = .ok (.aload_n 0, 1) := by decide +kernel
theorem d_Sh_count_39 : decode b_Sh_count 39 = .ok (.getfield 28, 3) := by decide +kernel
theorem d_Sh_count_42 : decode b_Sh_count 42 = .ok (.invokevirtual 115, 3) := by decide +kernel
theorem d_Sh_count_45 : decode b_Sh_count 45 = .ok (.goto 10, 3) := by decide +kernel
theorem d_Sh_count_48 : decode b_Sh_count 48 = .ok (.aload_n 0, 1) := by decide +kernel
theorem d_Sh_count_49 : decode b_Sh_count 49 = .ok (.getfield 28, 3) := by decide +kernel
theorem d_Sh_count_52 : decode b_Sh_count 52 = .ok (.invokevirtual 119, 3) := by decide +kernel
theorem d_Sh_count_55 : decode b_Sh_count 55 = .ok (.ireturn, 1) := by decide +kernel
theorem d_Sh_digest_0 : decode b_Sh_digest 0 = .ok (.aload_n 0, 1) := by decide +kernel
theorem d_Sh_digest_1 : decode b_Sh_digest 1 = .ok (.getfield 21, 3) := by decide +kernel
theorem d_Sh_digest_4 : decode b_Sh_digest 4 = .ok (.aload_n 0, 1) := by decide +kernel
theorem d_Sh_digest_5 : decode b_Sh_digest 5 = .ok (.getfield 41, 3) := by decide +kernel
theorem d_Sh_digest_8 : decode b_Sh_digest 8 = .ok (.invokevirtual 48, 3) := by decide +kernel
theorem d_Sh_digest_11 : decode b_Sh_digest 11 = .ok (.aload_n 0, 1) := by decide +kernel
theorem d_Sh_digest_12 : decode b_Sh_digest 12 = .ok (.getfield 28, 3) := by decide +kernel
theorem d_Sh_digest_15 : decode b_Sh_digest 15 = .ok (.invokevirtual 112, 3) := by decide +kernel
theorem d_Sh_digest_18 : decode b_Sh_digest 18 = .ok (.aload_n 0, 1) := by decide +kernel
theorem d_Sh_digest_19 : decode b_Sh_digest 19 = .ok (.getfield 28, 3) := by decide +kernel
theorem d_Sh_digest_22 : decode b_Sh_digest 22 = .ok (.invokevirtual 122, 3) := by decide +kernel
theorem d_Sh_digest_25 : decode b_Sh_digest 25 = .ok (.lreturn, 1) := by decide +kernel
theorem d_Sh_collect_0 : decode b_Sh_collect 0 = .ok (.aload_n 0, 1) := by decide +kernel
theorem d_Sh_collect_1 : decode b_Sh_collect 1 = .ok (.getfield 21, 3) := by decide +kernel
theorem d_Sh_collect_4 : decode b_Sh_collect 4 = .ok (.aload_n 0, 1) := by decide +kernel
theorem d_Sh_collect_5 : decode b_Sh_collect 5 = .ok (.getfield 41, 3) := by decide +kernel
theorem d_Sh_collect_8 : decode b_Sh_collect 8 = .ok (.invokevirtual 48, 3) := by decide +kernel
theorem d_Sh_collect_11 : decode b_Sh_collect 11 = .ok (.aload_n 0, 1) := by decide +kernel
theorem d_Sh_collect_12 : decode b_Sh_collect 12 = .ok (.getfield 21, 3) := by decide +kernel
theorem d_Sh_collect_15 : decode b_Sh_collect 15 = .ok (.invokevirtual 63, 3) := by decide +kernel
theorem d_Sh_collect_18 : decode b_Sh_collect 18 = .ok (.aload_n 0, 1) := by decide +kernel
theorem d_Sh_collect_19 : decode b_Sh_collect 19 = .ok (.getfield 12, 3) := by decide +kernel
theorem d_Sh_collect_22 : decode b_Sh_collect 22 = .ok (.invokevirtual 126, 3) := by decide +kernel
theorem d_Sh_collect_25 : decode b_Sh_collect 25 = .ok (.ireturn, 1) := by decide +kernel
theorem d_Sh_check_0 : decode b_Sh_check 0 = .ok (.aload_n 0, 1) := by decide +kernel
theorem d_Sh_check_1 : decode b_Sh_check 1 = .ok (.getfield 21, 3) := by decide +kernel
theorem d_Sh_check_4 : decode b_Sh_check 4 = .ok (.aload_n 0, 1) := by decide +kernel
theorem d_Sh_check_5 : decode b_Sh_check 5 = .ok (.getfield 41, 3) := by decide +kernel
theorem d_Sh_check_8 : decode b_Sh_check 8 = .ok (.invokevirtual 48, 3) := by decide +kernel
theorem d_Sh_check_11 : decode b_Sh_check 11 = .ok (.aload_n 0, 1) := by decide +kernel
theorem d_Sh_check_12 : decode b_Sh_check 12 = .ok (.getfield 37, 3) := by decide +kernel
theorem d_Sh_check_15 : decode b_Sh_check 15 = .ok (.invokevirtual 127, 3) := by decide +kernel
theorem d_Sh_check_18 : decode b_Sh_check 18 = .ok (.ireturn, 1) := by decide +kernel
theorem d_Sh_requireRoot_0 : decode b_Sh_requireRoot 0 = .ok (.iload_n 0, 1) := by decide +kernel
theorem d_Sh_requireRoot_1 : decode b_Sh_requireRoot 1 = .ok (.ifCond .lt 9, 3) := by decide +kernel
theorem d_Sh_requireRoot_4 : decode b_Sh_requireRoot 4 = .ok (.iload_n 0, 1) := by decide +kernel
theorem d_Sh_requireRoot_5 : decode b_Sh_requireRoot 5 = .ok (.bipush 16, 2) := by decide +kernel
theorem d_Sh_requireRoot_7 : decode b_Sh_requireRoot 7 = .ok (.if_icmp .lt 13, 3) := by decide +kernel
theorem d_Sh_requireRoot_10 : decode b_Sh_requireRoot 10 = .ok (.new 130, 3) := by decide +kernel
theorem d_Sh_requireRoot_13 : decode b_Sh_requireRoot 13 = .ok (.dup, 1) := by decide +kernel
theorem d_Sh_requireRoot_14 : decode b_Sh_requireRoot 14 = .ok (.ldc 132, 2) := by decide +kernel
theorem d_Sh_requireRoot_16 : decode b_Sh_requireRoot 16 = .ok (.invokespecial 134, 3) := by decide +kernel
theorem d_Sh_requireRoot_19 : decode b_Sh_requireRoot 19 = .ok (.athrow, 1) := by decide +kernel
theorem d_Sh_requireRoot_20 : decode b_Sh_requireRoot 20 = .ok (.return_, 1) := by decide +kernel
theorem d_Sh_requireWithin_0 : decode b_Sh_requireWithin 0 = .ok (.iload_n 0, 1) := by decide +kernel
theorem d_Sh_requireWithin_1 : decode b_Sh_requireWithin 1 = .ok (.iload_n 1, 1) := by decide +kernel
theorem d_Sh_requireWithin_2 : decode b_Sh_requireWithin 2 = .ok (.if_icmp .lt 8, 3) := by decide +kernel
theorem d_Sh_requireWithin_5 : decode b_Sh_requireWithin 5 = .ok (.iload_n 0, 1) := by decide +kernel
theorem d_Sh_requireWithin_6 : decode b_Sh_requireWithin 6 = .ok (.iload_n 2, 1) := by decide +kernel
theorem d_Sh_requireWithin_7 : decode b_Sh_requireWithin 7 = .ok (.if_icmp .le 13, 3) := by decide +kernel
theorem d_Sh_requireWithin_10 : decode b_Sh_requireWithin 10 = .ok (.new 135, 3) := by decide +kernel
theorem d_Sh_requireWithin_13 : decode b_Sh_requireWithin 13 = .ok (.dup, 1) := by decide +kernel
theorem d_Sh_requireWithin_14 : decode b_Sh_requireWithin 14 = .ok (.ldc 137, 2) := by decide +kernel
theorem d_Sh_requireWithin_16 : decode b_Sh_requireWithin 16 = .ok (.invokespecial 139, 3) := by decide +kernel
theorem d_Sh_requireWithin_19 : decode b_Sh_requireWithin 19 = .ok (.athrow, 1) := by decide +kernel
theorem d_Sh_requireWithin_20 : decode b_Sh_requireWithin 20 = .ok (.return_, 1) := by decide +kernel
theorem d_Sh_rootSlot_0 : decode b_Sh_rootSlot 0 = .ok (.iconst 0, 1) := by decide +kernel
theorem d_Sh_rootSlot_1 : decode b_Sh_rootSlot 1 = .ok (.iload_n 0, 1) := by decide +kernel
theorem d_Sh_rootSlot_2 : decode b_Sh_rootSlot 2 = .ok (.invokestatic 140, 3) := by decide +kernel
theorem d_Sh_rootSlot_5 : decode b_Sh_rootSlot 5 = .ok (.ireturn, 1) := by decide +kernel
theorem d_Sh_slotOf_0 : decode b_Sh_slotOf 0 = .ok (.iload_n 0, 1) := by decide +kernel
theorem d_Sh_slotOf_1 : decode b_Sh_slotOf 1 = .ok (.bipush 16, 2) := by decide +kernel
theorem d_Sh_slotOf_3 : decode b_Sh_slotOf 3 = .ok (.imul, 1) := by decide +kernel
theorem d_Sh_slotOf_4 : decode b_Sh_slotOf 4 = .ok (.iload_n 1, 1) := by decide +kernel
theorem d_Sh_slotOf_5 : decode b_Sh_slotOf 5 = .ok (.iadd, 1) := by decide +kernel
theorem d_Sh_slotOf_6 : decode b_Sh_slotOf 6 = .ok (.ireturn, 1) := by decide +kernel
theorem d_Sh_existingSlot_0 : decode b_Sh_existingSlot 0 = .ok (.aload_n 0, 1) := by decide +kernel
theorem d_Sh_existingSlot_1 : decode b_Sh_existingSlot 1 = .ok (.getfield 12, 3) := by decide +kernel
theorem d_Sh_existingSlot_4 : decode b_Sh_existingSlot 4 = .ok (.iload_n 1, 1) := by decide +kernel
theorem d_Sh_existingSlot_5 : decode b_Sh_existingSlot 5 = .ok (.invokestatic 73, 3) := by decide +kernel
theorem d_Sh_existingSlot_8 : decode b_Sh_existingSlot 8 = .ok (.invokevirtual 98, 3) := by decide +kernel
theorem d_Sh_existingSlot_11 : decode b_Sh_existingSlot 11 = .ok (.istore_n 3, 1) := by decide +kernel
theorem d_Sh_existingSlot_12 : decode b_Sh_existingSlot 12 = .ok (.iload_n 3, 1) := by decide +kernel
theorem d_Sh_existingSlot_13 : decode b_Sh_existingSlot 13 = .ok (.ifCond .eq 19, 3) := by decide +kernel
theorem d_Sh_existingSlot_16 : decode b_Sh_existingSlot 16 = .ok (.iload_n 2, 1) := by decide +kernel
theorem d_Sh_existingSlot_17 : decode b_Sh_existingSlot 17 = .ok (.ifCond .lt 15, 3) := by decide +kernel
theorem d_Sh_existingSlot_20 : decode b_Sh_existingSlot 20 = .ok (.iload_n 2, 1) := by decide +kernel
theorem d_Sh_existingSlot_21 : decode b_Sh_existingSlot 21 = .ok (.aload_n 0, 1) := by decide +kernel
theorem d_Sh_existingSlot_22 : decode b_Sh_existingSlot 22 = .ok (.getfield 12, 3) := by decide +kernel
theorem d_Sh_existingSlot_25 : decode b_Sh_existingSlot 25 = .ok (.iload_n 3, 1) := by decide +kernel
theorem d_Sh_existingSlot_26 : decode b_Sh_existingSlot 26 = .ok (.invokevirtual 101, 3) := by decide +kernel
theorem d_Sh_existingSlot_29 : decode b_Sh_existingSlot 29 = .ok (.if_icmp .lt 13, 3) := by decide +kernel
theorem d_Sh_existingSlot_32 : decode b_Sh_existingSlot 32 = .ok (.new 143, 3) := by decide +kernel
theorem d_Sh_existingSlot_35 : decode b_Sh_existingSlot 35 = .ok (.dup, 1) := by decide +kernel
theorem d_Sh_existingSlot_36 : decode b_Sh_existingSlot 36 = .ok (.ldc 145, 2) := by decide +kernel
theorem d_Sh_existingSlot_38 : decode b_Sh_existingSlot 38 = .ok (.invokespecial 147, 3) := by decide +kernel
theorem d_Sh_existingSlot_41 : decode b_Sh_existingSlot 41 = .ok (.athrow, 1) := by decide +kernel
theorem d_Sh_existingSlot_42 : decode b_Sh_existingSlot 42 = .ok (.iload_n 3, 1) := by decide +kernel
theorem d_Sh_existingSlot_43 : decode b_Sh_existingSlot 43 = .ok (.iload_n 2, 1) := by decide +kernel
theorem d_Sh_existingSlot_44 : decode b_Sh_existingSlot 44 = .ok (.invokestatic 140, 3) := by decide +kernel
theorem d_Sh_existingSlot_47 : decode b_Sh_existingSlot 47 = .ok (.ireturn, 1) := by decide +kernel
theorem d_Mo_init_0 : decode b_Mo_init 0 = .ok (.aload_n 0, 1) := by decide +kernel
theorem d_Mo_init_1 : decode b_Mo_init 1 = .ok (.invokespecial 1, 3) := by decide +kernel
theorem d_Mo_init_4 : decode b_Mo_init 4 = .ok (.aload_n 0, 1) := by decide +kernel
theorem d_Mo_init_5 : decode b_Mo_init 5 = .ok (.sipush 10240, 3) := by decide +kernel
theorem d_Mo_init_8 : decode b_Mo_init 8 = .ok (.newarray .long, 2) := by decide +kernel
theorem d_Mo_init_10 : decode b_Mo_init 10 = .ok (.putfield 9, 3) := by decide +kernel
theorem d_Mo_init_13 : decode b_Mo_init 13 = .ok (.aload_n 0, 1) := by decide +kernel
theorem d_Mo_init_14 : decode b_Mo_init 14 = .ok (.bipush 16, 2) := by decide +kernel
theorem d_Mo_init_16 : decode b_Mo_init 16 = .ok (.newarray .long, 2) := by decide +kernel
theorem d_Mo_init_18 : decode b_Mo_init 18 = .ok (.putfield 13, 3) := by decide +kernel
theorem d_Mo_init_21 : decode b_Mo_init 21 = .ok (.aload_n 0, 1) := by decide +kernel
theorem d_Mo_init_22 : decode b_Mo_init 22 = .ok (.sipush 10240, 3) := by decide +kernel
theorem d_Mo_init_25 : decode b_Mo_init 25 = .ok (.newarray .boolean, 2) := by decide +kernel
theorem d_Mo_init_27 : decode b_Mo_init 27 = .ok (.putfield 16, 3) := by decide +kernel
theorem d_Mo_init_30 : decode b_Mo_init 30 = .ok (.aload_n 0, 1) := by decide +kernel
theorem d_Mo_init_31 : decode b_Mo_init 31 = .ok (.bipush 16, 2) := by decide +kernel
theorem d_Mo_init_33 : decode b_Mo_init 33 = .ok (.newarray .boolean, 2) := by decide +kernel
theorem d_Mo_init_35 : decode b_Mo_init 35 = .ok (.putfield 20, 3) := by decide +kernel
theorem d_Mo_init_38 : decode b_Mo_init 38 = .ok (.aload_n 0, 1) := by decide +kernel
theorem d_Mo_init_39 : decode b_Mo_init 39 = .ok (.sipush 640, 3) := by decide +kernel
theorem d_Mo_init_42 : decode b_Mo_init 42 = .ok (.newarray .boolean, 2) := by decide +kernel
theorem d_Mo_init_44 : decode b_Mo_init 44 = .ok (.putfield 23, 3) := by decide +kernel
theorem d_Mo_init_47 : decode b_Mo_init 47 = .ok (.aload_n 0, 1) := by decide +kernel
theorem d_Mo_init_48 : decode b_Mo_init 48 = .ok (.sipush 640, 3) := by decide +kernel
theorem d_Mo_init_51 : decode b_Mo_init 51 = .ok (.newarray .int, 2) := by decide +kernel
theorem d_Mo_init_53 : decode b_Mo_init 53 = .ok (.putfield 26, 3) := by decide +kernel
theorem d_Mo_init_56 : decode b_Mo_init 56 = .ok (.aload_n 0, 1) := by decide +kernel
theorem d_Mo_init_57 : decode b_Mo_init 57 = .ok (.sipush 640, 3) := by decide +kernel
theorem d_Mo_init_60 : decode b_Mo_init 60 = .ok (.newarray .int, 2) := by decide +kernel
theorem d_Mo_init_62 : decode b_Mo_init 62 = .ok (.putfield 30, 3) := by decide +kernel
theorem d_Mo_init_65 : decode b_Mo_init 65 = .ok (.aload_n 0, 1) := by decide +kernel
theorem d_Mo_init_66 : decode b_Mo_init 66 = .ok (.sipush 640, 3) := by decide +kernel
theorem d_Mo_init_69 : decode b_Mo_init 69 = .ok (.newarray .int, 2) := by decide +kernel
theorem d_Mo_init_71 : decode b_Mo_init 71 = .ok (.putfield 33, 3) := by decide +kernel
theorem d_Mo_init_74 : decode b_Mo_init 74 = .ok (.aload_n 0, 1) := by decide +kernel
theorem d_Mo_init_75 : decode b_Mo_init 75 = .ok (.sipush 640, 3) := by decide +kernel
theorem d_Mo_init_78 : decode b_Mo_init 78 = .ok (.newarray .int, 2) := by decide +kernel
theorem d_Mo_init_80 : decode b_Mo_init 80 = .ok (.putfield 36, 3) := by decide +kernel
theorem d_Mo_init_83 : decode b_Mo_init 83 = .ok (.aload_n 0, 1) := by decide +kernel
theorem d_Mo_init_84 : decode b_Mo_init 84 = .ok (.iconst 3, 1) := by decide +kernel
theorem d_Mo_init_85 : decode b_Mo_init 85 = .ok (.putfield 39, 3) := by decide +kernel
theorem d_Mo_init_88 : decode b_Mo_init 88 = .ok (.return_, 1) := by decide +kernel
theorem d_Mo_thrown_0 : decode b_Mo_thrown 0 = .ok (.aload_n 0, 1) := by decide +kernel
theorem d_Mo_thrown_1 : decode b_Mo_thrown 1 = .ok (.getfield 43, 3) := by decide +kernel
theorem d_Mo_thrown_4 : decode b_Mo_thrown 4 = .ok (.ireturn, 1) := by decide +kernel
theorem d_Mo_isRoot_0 : decode b_Mo_isRoot 0 = .ok (.iload_n 0, 1) := by decide +kernel
theorem d_Mo_isRoot_1 : decode b_Mo_isRoot 1 = .ok (.ifCond .lt 13, 3) := by decide +kernel
theorem d_Mo_isRoot_4 : decode b_Mo_isRoot 4 = .ok (.iload_n 0, 1) := by decide +kernel
theorem d_Mo_isRoot_5 : decode b_Mo_isRoot 5 = .ok (.bipush 16, 2) := by decide +kernel
theorem d_Mo_isRoot_7 : decode b_Mo_isRoot 7 = .ok (.if_icmp .ge 7, 3) := by decide +kernel
theorem d_Mo_isRoot_10 : decode b_Mo_isRoot 10 = .ok (.iconst 1, 1) := by decide +kernel
theorem d_Mo_isRoot_11 : decode b_Mo_isRoot 11 = .ok (.goto 4, 3) := by decide +kernel
theorem d_Mo_isRoot_14 : decode b_Mo_isRoot 14 = .ok (.iconst 0, 1) := by decide +kernel
theorem d_Mo_isRoot_15 : decode b_Mo_isRoot 15 = .ok (.ireturn, 1) := by decide +kernel
theorem d_Mo_reach_0 : decode b_Mo_reach 0 = .ok (.lload_n 1, 1) := by decide +kernel
theorem d_Mo_reach_1 : decode b_Mo_reach 1 = .ok (.l2i, 1) := by decide +kernel
theorem d_Mo_reach_2 : decode b_Mo_reach 2 = .ok (.istore_n 3, 1) := by decide +kernel
theorem d_Mo_reach_3 : decode b_Mo_reach 3 = .ok (.aload_n 0, 1) := by decide +kernel
theorem d_Mo_reach_4 : decode b_Mo_reach 4 = .ok (.getfield 23, 3) := by decide +kernel
theorem d_Mo_reach_7 : decode b_Mo_reach 7 = .ok (.iload_n 3, 1) := by decide +kernel
theorem d_Mo_reach_8 : decode b_Mo_reach 8 = .ok (.baload, 1) := by decide +kernel
theorem d_Mo_reach_9 : decode b_Mo_reach 9 = .ok (.ifCond .eq 4, 3) := by decide +kernel
theorem d_Mo_reach_12 : decode b_Mo_reach 12 = .ok (.return_, 1) := by decide +kernel
theorem d_Mo_reach_13 : decode b_Mo_reach 13 = .ok (.aload_n 0, 1) := by decide +kernel
theorem d_Mo_reach_14 : decode b_Mo_reach 14 = .ok (.getfield 23, 3) := by decide +kernel
theorem d_Mo_reach_17 : decode b_Mo_reach 17 = .ok (.iload_n 3, 1) := by decide +kernel
theorem d_Mo_reach_18 : decode b_Mo_reach 18 = .ok (.iconst 1, 1) := by decide +kernel
theorem d_Mo_reach_19 : decode b_Mo_reach 19 = .ok (.bastore, 1) := by decide +kernel
theorem d_Mo_reach_20 : decode b_Mo_reach 20 = .ok (.aload_n 0, 1) := by decide +kernel
theorem d_Mo_reach_21 : decode b_Mo_reach 21 = .ok (.dup, 1) := by decide +kernel
theorem d_Mo_reach_22 : decode b_Mo_reach 22 = .ok (.getfield 46, 3) := by decide +kernel
theorem d_Mo_reach_25 : decode b_Mo_reach 25 = .ok (.iconst 1, 1) := by decide +kernel
theorem d_Mo_reach_26 : decode b_Mo_reach 26 = .ok (.iadd, 1) := by decide +kernel
theorem d_Mo_reach_27 : decode b_Mo_reach 27 = .ok (.putfield 46, 3) := by decide +kernel
theorem d_Mo_reach_30 : decode b_Mo_reach 30 = .ok (.aload_n 0, 1) := by decide +kernel
theorem d_Mo_reach_31 : decode b_Mo_reach 31 = .ok (.dup, 1) := by decide +kernel
theorem d_Mo_reach_32 : decode b_Mo_reach 32 = .ok (.getfield 49, 3) := by decide +kernel
theorem d_Mo_reach_35 : decode b_Mo_reach 35 = .ok (.aload_n 0, 1) := by decide +kernel
theorem d_Mo_reach_36 : decode b_Mo_reach 36 = .ok (.getfield 26, 3) := by decide +kernel
theorem d_Mo_reach_39 : decode b_Mo_reach 39 = .ok (.iload_n 3, 1) := by decide +kernel
theorem d_Mo_reach_40 : decode b_Mo_reach 40 = .ok (.iaload, 1) := by decide +kernel
theorem d_Mo_reach_41 : decode b_Mo_reach 41 = .ok (.iconst 2, 1) := by decide +kernel
theorem d_Mo_reach_42 : decode b_Mo_reach 42 = .ok (.iadd, 1) := by decide +kernel
theorem d_Mo_reach_43 : decode b_Mo_reach 43 = .ok (.iadd, 1) := by decide +kernel
theorem d_Mo_reach_44 : decode b_Mo_reach 44 = .ok (.putfield 49, 3) := by decide +kernel
theorem d_Mo_reach_47 : decode b_Mo_reach 47 = .ok (.aload_n 0, 1) := by decide +kernel
theorem d_Mo_reach_48 : decode b_Mo_reach 48 = .ok (.getfield 30, 3) := by decide +kernel
theorem d_Mo_reach_51 : decode b_Mo_reach 51 = .ok (.aload_n 0, 1) := by decide +kernel
theorem d_Mo_reach_52 : decode b_Mo_reach 52 = .ok (.getfield 52, 3) := by decide +kernel
theorem d_Mo_reach_55 : decode b_Mo_reach 55 = .ok (.iload_n 3, 1) := by decide +kernel
theorem d_Mo_reach_56 : decode b_Mo_reach 56 = .ok (.iastore, 1) := by decide +kernel
theorem d_Mo_reach_57 : decode b_Mo_reach 57 = .ok (.aload_n 0, 1) := by decide +kernel
theorem d_Mo_reach_58 : decode b_Mo_reach 58 = .ok (.dup, 1) := by decide +kernel
theorem d_Mo_reach_59 : decode b_Mo_reach 59 = .ok (.getfield 52, 3) := by decide +kernel
theorem d_Mo_reach_62 : decode b_Mo_reach 62 = .ok (.iconst 1, 1) := by decide +kernel
theorem d_Mo_reach_63 : decode b_Mo_reach 63 = .ok (.iadd, 1) := by decide +kernel
theorem d_Mo_reach_64 : decode b_Mo_reach 64 = .ok (.putfield 52, 3) := by decide +kernel
theorem d_Mo_reach_67 : decode b_Mo_reach 67 = .ok (.return_, 1) := by decide +kernel
theorem d_Mo_reachAll_0 : decode b_Mo_reachAll 0 = .ok (.iconst 0, 1) := by decide +kernel
theorem d_Mo_reachAll_1 : decode b_Mo_reachAll 1 = .ok (.istore_n 1, 1) := by decide +kernel
theorem d_Mo_reachAll_2 : decode b_Mo_reachAll 2 = .ok (.iload_n 1, 1) := by decide +kernel
theorem d_Mo_reachAll_3 : decode b_Mo_reachAll 3 = .ok (.sipush 640, 3) := by decide +kernel
theorem d_Mo_reachAll_6 : decode b_Mo_reachAll 6 = .ok (.if_icmp .ge 16, 3) := by decide +kernel
theorem d_Mo_reachAll_9 : decode b_Mo_reachAll 9 = .ok (.aload_n 0, 1) := by decide +kernel
theorem d_Mo_reachAll_10 : decode b_Mo_reachAll 10 = .ok (.getfield 23, 3) := by decide +kernel
theorem d_Mo_reachAll_13 : decode b_Mo_reachAll 13 = .ok (.iload_n 1, 1) := by decide +kernel
theorem d_Mo_reachAll_14 : decode b_Mo_reachAll 14 = .ok (.iconst 0, 1) := by decide +kernel
theorem d_Mo_reachAll_15 : decode b_Mo_reachAll 15 = .ok (.bastore, 1) := by decide +kernel
theorem d_Mo_reachAll_16 : decode b_Mo_reachAll 16 = .ok (.iinc 1 1, 3) := by decide +kernel
theorem d_Mo_reachAll_19 : decode b_Mo_reachAll 19 = .ok (.goto (-17), 3) := by decide +kernel
theorem d_Mo_reachAll_22 : decode b_Mo_reachAll 22 = .ok (.aload_n 0, 1) := by decide +kernel
theorem d_Mo_reachAll_23 : decode b_Mo_reachAll 23 = .ok (.iconst 0, 1) := by decide +kernel
theorem d_Mo_reachAll_24 : decode b_Mo_reachAll 24 = .ok (.putfield 46, 3) := by decide +kernel
theorem d_Mo_reachAll_27 : decode b_Mo_reachAll 27 = .ok (.aload_n 0, 1) := by decide +kernel
theorem d_Mo_reachAll_28 : decode b_Mo_reachAll 28 = .ok (.iconst 0, 1) := by decide +kernel
theorem d_Mo_reachAll_29 : decode b_Mo_reachAll 29 = .ok (.putfield 49, 3) := by decide +kernel
theorem d_Mo_reachAll_32 : decode b_Mo_reachAll 32 = .ok (.aload_n 0, 1) := by decide +kernel
theorem d_Mo_reachAll_33 : decode b_Mo_reachAll 33 = .ok (.iconst 0, 1) := by decide +kernel
theorem d_Mo_reachAll_34 : decode b_Mo_reachAll 34 = .ok (.putfield 52, 3) := by decide +kernel
theorem d_Mo_reachAll_37 : decode b_Mo_reachAll 37 = .ok (.iconst 0, 1) := by decide +kernel
theorem d_Mo_reachAll_38 : decode b_Mo_reachAll 38 = .ok (.istore_n 1, 1) := by decide +kernel
theorem d_Mo_reachAll_39 : decode b_Mo_reachAll 39 = .ok (.iload_n 1, 1) := by decide +kernel
theorem d_Mo_reachAll_40 : decode b_Mo_reachAll 40 = .ok (.bipush 16, 2) := by decide +kernel
theorem d_Mo_reachAll_42 : decode b_Mo_reachAll 42 = .ok (.if_icmp .ge 28, 3) := by decide +kernel
theorem d_Mo_reachAll_45 : decode b_Mo_reachAll 45 = .ok (.aload_n 0, 1) := by decide +kernel
theorem d_Mo_reachAll_46 : decode b_Mo_reachAll 46 = .ok (.getfield 20, 3) := by decide +kernel
theorem d_Mo_reachAll_49 : decode b_Mo_reachAll 49 = .ok (.iload_n 1, 1) := by decide +kernel
theorem d_Mo_reachAll_50 : decode b_Mo_reachAll 50 = .ok (.baload, 1) := by decide +kernel
theorem d_Mo_reachAll_51 : decode b_Mo_reachAll 51 = .ok (.ifCond .eq 13, 3) := by decide +kernel
theorem d_Mo_reachAll_54 : decode b_Mo_reachAll 54 = .ok (.aload_n 0, 1) := by decide +kernel
theorem d_Mo_reachAll_55 : decode b_Mo_reachAll 55 = .ok (.aload_n 0, 1) := by decide +kernel
theorem d_Mo_reachAll_56 : decode b_Mo_reachAll 56 = .ok (.getfield 13, 3) := by decide +kernel
theorem d_Mo_reachAll_59 : decode b_Mo_reachAll 59 = .ok (.iload_n 1, 1) := by decide +kernel
theorem d_Mo_reachAll_60 : decode b_Mo_reachAll 60 = .ok (.laload, 1) := by decide +kernel
theorem d_Mo_reachAll_61 : decode b_Mo_reachAll 61 = .ok (.invokevirtual 55, 3) := by decide +kernel
theorem d_Mo_reachAll_64 : decode b_Mo_reachAll 64 = .ok (.iinc 1 1, 3) := by decide +kernel
theorem d_Mo_reachAll_67 : decode b_Mo_reachAll 67 = .ok (.goto (-28), 3) := by decide +kernel
theorem d_Mo_reachAll_70 : decode b_Mo_reachAll 70 = .ok (.aload_n 0, 1) := by decide +kernel
theorem d_Mo_reachAll_71 : decode b_Mo_reachAll 71 = .ok (.getfield 52, 3) := by decide +kernel
theorem d_Mo_reachAll_74 : decode b_Mo_reachAll 74 = .ok (.ifCond .le 71, 3) := by decide +kernel
theorem d_Mo_reachAll_77 : decode b_Mo_reachAll 77 = .ok (.aload_n 0, 1) := by decide +kernel
theorem d_Mo_reachAll_78 : decode b_Mo_reachAll 78 = .ok (.dup, 1) := by decide +kernel
theorem d_Mo_reachAll_79 : decode b_Mo_reachAll 79 = .ok (.getfield 52, 3) := by decide +kernel
theorem d_Mo_reachAll_82 : decode b_Mo_reachAll 82 = .ok (.iconst 1, 1) := by decide +kernel
theorem d_Mo_reachAll_83 : decode b_Mo_reachAll 83 = .ok (.isub, 1) := by decide +kernel
theorem d_Mo_reachAll_84 : decode b_Mo_reachAll 84 = .ok (.putfield 52, 3) := by decide +kernel
theorem d_Mo_reachAll_87 : decode b_Mo_reachAll 87 = .ok (.aload_n 0, 1) := by decide +kernel
theorem d_Mo_reachAll_88 : decode b_Mo_reachAll 88 = .ok (.getfield 30, 3) := by decide +kernel
theorem d_Mo_reachAll_91 : decode b_Mo_reachAll 91 = .ok (.aload_n 0, 1) := by decide +kernel
theorem d_Mo_reachAll_92 : decode b_Mo_reachAll 92 = .ok (.getfield 52, 3) := by decide +kernel
theorem d_Mo_reachAll_95 : decode b_Mo_reachAll 95 = .ok (.iaload, 1) := by decide +kernel
theorem d_Mo_reachAll_96 : decode b_Mo_reachAll 96 = .ok (.istore_n 1, 1) := by decide +kernel
theorem d_Mo_reachAll_97 : decode b_Mo_reachAll 97 = .ok (.bipush 16, 2) := by decide +kernel
theorem d_Mo_reachAll_99 : decode b_Mo_reachAll 99 = .ok (.iload_n 1, 1) := by decide +kernel
theorem d_Mo_reachAll_100 : decode b_Mo_reachAll 100 = .ok (.imul, 1) := by decide +kernel
theorem d_Mo_reachAll_101 : decode b_Mo_reachAll 101 = .ok (.istore_n 2, 1) := by decide +kernel
theorem d_Mo_reachAll_102 : decode b_Mo_reachAll 102 = .ok (.iload_n 2, 1) := by decide +kernel
theorem d_Mo_reachAll_103 : decode b_Mo_reachAll 103 = .ok (.bipush 16, 2) := by decide +kernel
theorem d_Mo_reachAll_105 : decode b_Mo_reachAll 105 = .ok (.iload_n 1, 1) := by decide +kernel
theorem d_Mo_reachAll_106 : decode b_Mo_reachAll 106 = .ok (.imul, 1) := by decide +kernel
theorem d_Mo_reachAll_107 : decode b_Mo_reachAll 107 = .ok (.aload_n 0, 1) := by decide +kernel
theorem d_Mo_reachAll_108 : decode b_Mo_reachAll 108 = .ok (.getfield 26, 3) := by decide +kernel
theorem d_Mo_reachAll_111 : decode b_Mo_reachAll 111 = .ok (.iload_n 1, 1) := by decide +kernel
theorem d_Mo_reachAll_112 : decode b_Mo_reachAll 112 = .ok (.iaload, 1) := by decide +kernel
theorem d_Mo_reachAll_113 : decode b_Mo_reachAll 113 = .ok (.iadd, 1) := by decide +kernel
theorem d_Mo_reachAll_114 : decode b_Mo_reachAll 114 = .ok (.if_icmp .ge 28, 3) := by decide +kernel
theorem d_Mo_reachAll_117 : decode b_Mo_reachAll 117 = .ok (.aload_n 0, 1) := by decide +kernel
theorem d_Mo_reachAll_118 : decode b_Mo_reachAll 118 = .ok (.getfield 16, 3) := by decide +kernel
theorem d_Mo_reachAll_121 : decode b_Mo_reachAll 121 = .ok (.iload_n 2, 1) := by decide +kernel
theorem d_Mo_reachAll_122 : decode b_Mo_reachAll 122 = .ok (.baload, 1) := by decide +kernel
theorem d_Mo_reachAll_123 : decode b_Mo_reachAll 123 = .ok (.ifCond .eq 13, 3) := by decide +kernel
theorem d_Mo_reachAll_126 : decode b_Mo_reachAll 126 = .ok (.aload_n 0, 1) := by decide +kernel
theorem d_Mo_reachAll_127 : decode b_Mo_reachAll 127 = .ok (.aload_n 0, 1) := by decide +kernel
theorem d_Mo_reachAll_128 : decode b_Mo_reachAll 128 = .ok (.getfield 9, 3) := by decide +kernel
theorem d_Mo_reachAll_131 : decode b_Mo_reachAll 131 = .ok (.iload_n 2, 1) := by decide +kernel
theorem d_Mo_reachAll_132 : decode b_Mo_reachAll 132 = .ok (.laload, 1) := by decide +kernel
theorem d_Mo_reachAll_133 : decode b_Mo_reachAll 133 = .ok (.invokevirtual 55, 3) := by decide +kernel
theorem d_Mo_reachAll_136 : decode b_Mo_reachAll 136 = .ok (.iinc 2 1, 3) := by decide +kernel
theorem d_Mo_reachAll_139 : decode b_Mo_reachAll 139 = .ok (.goto (-37), 3) := by decide +kernel
theorem d_Mo_reachAll_142 : decode b_Mo_reachAll 142 = .ok (.goto (-72), 3) := by decide +kernel
theorem d_Mo_reachAll_145 : decode b_Mo_reachAll 145 = .ok (.return_, 1) := by decide +kernel
theorem d_Mo_tuple_0 : decode b_Mo_tuple 0 = .ok (.aload_n 0, 1) := by decide +kernel
theorem d_Mo_tuple_1 : decode b_Mo_tuple 1 = .ok (.iload_n 1, 1) := by decide +kernel
theorem d_Mo_tuple_2 : decode b_Mo_tuple 2 = .ok (.invokestatic 59, 3) := by decide +kernel
theorem d_Mo_tuple_5 : decode b_Mo_tuple 5 = .ok (.ifCond .ne 7, 3) := by decide +kernel
theorem d_Mo_tuple_8 : decode b_Mo_tuple 8 = .ok (.iconst 1, 1) := by decide +kernel
theorem d_Mo_tuple_9 : decode b_Mo_tuple 9 = .ok (.goto 18, 3) := by decide +kernel
theorem d_Mo_tuple_12 : decode b_Mo_tuple 12 = .ok (.iload_n 2, 1) := by decide +kernel
theorem d_Mo_tuple_13 : decode b_Mo_tuple 13 = .ok (.ifCond .lt 9, 3) := by decide +kernel
theorem d_Mo_tuple_16 : decode b_Mo_tuple 16 = .ok (.iload_n 2, 1) := by decide +kernel
theorem d_Mo_tuple_17 : decode b_Mo_tuple 17 = .ok (.bipush 16, 2) := by decide +kernel
theorem d_Mo_tuple_19 : decode b_Mo_tuple 19 = .ok (.if_icmp .le 7, 3) := by decide +kernel
theorem d_Mo_tuple_22 : decode b_Mo_tuple 22 = .ok (.iconst 2, 1) := by decide +kernel
theorem d_Mo_tuple_23 : decode b_Mo_tuple 23 = .ok (.goto 4, 3) := by decide +kernel
theorem d_Mo_tuple_26 : decode b_Mo_tuple 26 = .ok (.iconst 0, 1) := by decide +kernel
theorem d_Mo_tuple_27 : decode b_Mo_tuple 27 = .ok (.putfield 43, 3) := by decide +kernel
theorem d_Mo_tuple_30 : decode b_Mo_tuple 30 = .ok (.aload_n 0, 1) := by decide +kernel
theorem d_Mo_tuple_31 : decode b_Mo_tuple 31 = .ok (.getfield 43, 3) := by decide +kernel
theorem d_Mo_tuple_34 : decode b_Mo_tuple 34 = .ok (.ifCond .le 5, 3) := by decide +kernel
theorem d_Mo_tuple_37 : decode b_Mo_tuple 37 = .ok (.iconst 0, 1) := by decide +kernel
theorem d_Mo_tuple_38 : decode b_Mo_tuple 38 = .ok (.ireturn, 1) := by decide +kernel
theorem d_Mo_tuple_39 : decode b_Mo_tuple 39 = .ok (.aload_n 0, 1) := by decide +kernel
theorem d_Mo_tuple_40 : decode b_Mo_tuple 40 = .ok (.invokevirtual 63, 3) := by decide +kernel
theorem d_Mo_tuple_43 : decode b_Mo_tuple 43 = .ok (.aload_n 0, 1) := by decide +kernel
theorem d_Mo_tuple_44 : decode b_Mo_tuple 44 = .ok (.getfield 49, 3) := by decide +kernel
theorem d_Mo_tuple_47 : decode b_Mo_tuple 47 = .ok (.iload_n 2, 1) := by decide +kernel
theorem d_Mo_tuple_48 : decode b_Mo_tuple 48 = .ok (.iadd, 1) := by decide +kernel
theorem d_Mo_tuple_49 : decode b_Mo_tuple 49 = .ok (.iconst 2, 1) := by decide +kernel
theorem d_Mo_tuple_50 : decode b_Mo_tuple 50 = .ok (.iadd, 1) := by decide +kernel
theorem d_Mo_tuple_51 : decode b_Mo_tuple 51 = .ok (.sipush 1200, 3) := by decide +kernel
theorem d_Mo_tuple_54 : decode b_Mo_tuple 54 = .ok (.if_icmp .le 10, 3) := by decide +kernel
theorem d_Mo_tuple_57 : decode b_Mo_tuple 57 = .ok (.aload_n 0, 1) := by decide +kernel
theorem d_Mo_tuple_58 : decode b_Mo_tuple 58 = .ok (.iconst 3, 1) := by decide +kernel
theorem d_Mo_tuple_59 : decode b_Mo_tuple 59 = .ok (.putfield 43, 3) := by decide +kernel
theorem d_Mo_tuple_62 : decode b_Mo_tuple 62 = .ok (.iconst 0, 1) := by decide +kernel
theorem d_Mo_tuple_63 : decode b_Mo_tuple 63 = .ok (.ireturn, 1) := by decide +kernel
theorem d_Mo_tuple_64 : decode b_Mo_tuple 64 = .ok (.iconst 0, 1) := by decide +kernel
theorem d_Mo_tuple_65 : decode b_Mo_tuple 65 = .ok (.istore_n 3, 1) := by decide +kernel
theorem d_Mo_tuple_66 : decode b_Mo_tuple 66 = .ok (.aload_n 0, 1) := by decide +kernel
theorem d_Mo_tuple_67 : decode b_Mo_tuple 67 = .ok (.getfield 23, 3) := by decide +kernel
theorem d_Mo_tuple_70 : decode b_Mo_tuple 70 = .ok (.iload_n 3, 1) := by decide +kernel
theorem d_Mo_tuple_71 : decode b_Mo_tuple 71 = .ok (.baload, 1) := by decide +kernel
theorem d_Mo_tuple_72 : decode b_Mo_tuple 72 = .ok (.ifCond .eq 9, 3) := by decide +kernel
theorem d_Mo_tuple_75 : decode b_Mo_tuple 75 = .ok (.iinc 3 1, 3) := by decide +kernel
theorem d_Mo_tuple_78 : decode b_Mo_tuple 78 = .ok (.goto (-12), 3) := by decide +kernel
theorem d_Mo_tuple_81 : decode b_Mo_tuple 81 = .ok (.aload_n 0, 1) := by decide +kernel
theorem d_Mo_tuple_82 : decode b_Mo_tuple 82 = .ok (.getfield 26, 3) := by decide +kernel
theorem d_Mo_tuple_85 : decode b_Mo_tuple 85 = .ok (.iload_n 3, 1) := by decide +kernel
theorem d_Mo_tuple_86 : decode b_Mo_tuple 86 = .ok (.iload_n 2, 1) := by decide +kernel
theorem d_Mo_tuple_87 : decode b_Mo_tuple 87 = .ok (.iastore, 1) := by decide +kernel
theorem d_Mo_tuple_88 : decode b_Mo_tuple 88 = .ok (.bipush 16, 2) := by decide +kernel
theorem d_Mo_tuple_90 : decode b_Mo_tuple 90 = .ok (.iload_n 3, 1) := by decide +kernel
theorem d_Mo_tuple_91 : decode b_Mo_tuple 91 = .ok (.imul, 1) := by decide +kernel
theorem d_Mo_tuple_92 : decode b_Mo_tuple 92 = .ok (.istore 4, 2) := by decide +kernel
theorem d_Mo_tuple_94 : decode b_Mo_tuple 94 = .ok (.iload 4, 2) := by decide +kernel
theorem d_Mo_tuple_96 : decode b_Mo_tuple 96 = .ok (.bipush 16, 2) := by decide +kernel
theorem d_Mo_tuple_98 : decode b_Mo_tuple 98 = .ok (.iload_n 3, 1) := by decide +kernel
theorem d_Mo_tuple_99 : decode b_Mo_tuple 99 = .ok (.imul, 1) := by decide +kernel
theorem d_Mo_tuple_100 : decode b_Mo_tuple 100 = .ok (.bipush 16, 2) := by decide +kernel
theorem d_Mo_tuple_102 : decode b_Mo_tuple 102 = .ok (.iadd, 1) := by decide +kernel
theorem d_Mo_tuple_103 : decode b_Mo_tuple 103 = .ok (.if_icmp .ge 25, 3) := by decide +kernel
theorem d_Mo_tuple_106 : decode b_Mo_tuple 106 = .ok (.aload_n 0, 1) := by decide +kernel
theorem d_Mo_tuple_107 : decode b_Mo_tuple 107 = .ok (.getfield 9, 3) := by decide +kernel
theorem d_Mo_tuple_110 : decode b_Mo_tuple 110 = .ok (.iload 4, 2) := by decide +kernel
theorem d_Mo_tuple_112 : decode b_Mo_tuple 112 = .ok (.lconst 0, 1) := by decide +kernel
theorem d_Mo_tuple_113 : decode b_Mo_tuple 113 = .ok (.lastore, 1) := by decide +kernel
theorem d_Mo_tuple_114 : decode b_Mo_tuple 114 = .ok (.aload_n 0, 1) := by decide +kernel
theorem d_Mo_tuple_115 : decode b_Mo_tuple 115 = .ok (.getfield 16, 3) := by decide +kernel
theorem d_Mo_tuple_118 : decode b_Mo_tuple 118 = .ok (.iload 4, 2) := by decide +kernel
theorem d_Mo_tuple_120 : decode b_Mo_tuple 120 = .ok (.iconst 0, 1) := by decide +kernel
theorem d_Mo_tuple_121 : decode b_Mo_tuple 121 = .ok (.bastore, 1) := by decide +kernel
theorem d_Mo_tuple_122 : decode b_Mo_tuple 122 = .ok (.iinc 4 1, 3) := by decide +kernel
theorem d_Mo_tuple_125 : decode b_Mo_tuple 125 = .ok (.goto (-31), 3) := by decide +kernel
theorem d_Mo_tuple_128 : decode b_Mo_tuple 128 = .ok (.aload_n 0, 1) := by decide +kernel
theorem d_Mo_tuple_129 : decode b_Mo_tuple 129 = .ok (.getfield 13, 3) := by decide +kernel
theorem d_Mo_tuple_132 : decode b_Mo_tuple 132 = .ok (.iload_n 1, 1) := by decide +kernel
theorem d_Mo_tuple_133 : decode b_Mo_tuple 133 = .ok (.iload_n 3, 1) := by decide +kernel
theorem d_Mo_tuple_134 : decode b_Mo_tuple 134 = .ok (.i2l, 1) := by decide +kernel
theorem d_Mo_tuple_135 : decode b_Mo_tuple 135 = .ok (.lastore, 1) := by decide +kernel
theorem d_Mo_tuple_136 : decode b_Mo_tuple 136 = .ok (.aload_n 0, 1) := by decide +kernel
theorem d_Mo_tuple_137 : decode b_Mo_tuple 137 = .ok (.getfield 20, 3) := by decide +kernel
theorem d_Mo_tuple_140 : decode b_Mo_tuple 140 = .ok (.iload_n 1, 1) := by decide +kernel
theorem d_Mo_tuple_141 : decode b_Mo_tuple 141 = .ok (.iconst 1, 1) := by decide +kernel
theorem d_Mo_tuple_142 : decode b_Mo_tuple 142 = .ok (.bastore, 1) := by decide +kernel
theorem d_Mo_tuple_143 : decode b_Mo_tuple 143 = .ok (.aload_n 0, 1) := by decide +kernel
theorem d_Mo_tuple_144 : decode b_Mo_tuple 144 = .ok (.dup, 1) := by decide +kernel
theorem d_Mo_tuple_145 : decode b_Mo_tuple 145 = .ok (.getfield 66, 3) := by decide +kernel
theorem d_Mo_tuple_148 : decode b_Mo_tuple 148 = .ok (.iconst 1, 1) := by decide +kernel
theorem d_Mo_tuple_149 : decode b_Mo_tuple 149 = .ok (.iadd, 1) := by decide +kernel
theorem d_Mo_tuple_150 : decode b_Mo_tuple 150 = .ok (.putfield 66, 3) := by decide +kernel
theorem d_Mo_tuple_153 : decode b_Mo_tuple 153 = .ok (.aload_n 0, 1) := by decide +kernel
theorem d_Mo_tuple_154 : decode b_Mo_tuple 154 = .ok (.getfield 66, 3) := by decide +kernel
theorem d_Mo_tuple_157 : decode b_Mo_tuple 157 = .ok (.ireturn, 1) := by decide +kernel
theorem d_Mo_number_0 : decode b_Mo_number 0 = .ok (.aload_n 0, 1) := by decide +kernel
theorem d_Mo_number_1 : decode b_Mo_number 1 = .ok (.iload_n 1, 1) := by decide +kernel
theorem d_Mo_number_2 : decode b_Mo_number 2 = .ok (.invokestatic 59, 3) := by decide +kernel
theorem d_Mo_number_5 : decode b_Mo_number 5 = .ok (.ifCond .eq 7, 3) := by decide +kernel
theorem d_Mo_number_8 : decode b_Mo_number 8 = .ok (.iconst 0, 1) := by decide +kernel
theorem d_Mo_number_9 : decode b_Mo_number 9 = .ok (.goto 4, 3) := by decide +kernel
theorem d_Mo_number_12 : decode b_Mo_number 12 = .ok (.iconst 1, 1) := by decide +kernel
theorem d_Mo_number_13 : decode b_Mo_number 13 = .ok (.putfield 43, 3) := by decide +kernel
theorem d_Mo_number_16 : decode b_Mo_number 16 = .ok (.aload_n 0, 1) := by decide +kernel
theorem d_Mo_number_17 : decode b_Mo_number 17 = .ok (.getfield 43, 3) := by decide +kernel
theorem d_Mo_number_20 : decode b_Mo_number 20 = .ok (.ifCond .le 4, 3) := by decide +kernel
theorem d_Mo_number_23 : decode b_Mo_number 23 = .ok (.return_, 1) := by decide +kernel
theorem d_Mo_number_24 : decode b_Mo_number 24 = .ok (.aload_n 0, 1) := by decide +kernel
theorem d_Mo_number_25 : decode b_Mo_number 25 = .ok (.getfield 13, 3) := by decide +kernel
theorem d_Mo_number_28 : decode b_Mo_number 28 = .ok (.iload_n 1, 1) := by decide +kernel
theorem d_Mo_number_29 : decode b_Mo_number 29 = .ok (.lload_n 2, 1) := by decide +kernel
theorem d_Mo_number_30 : decode b_Mo_number 30 = .ok (.lastore, 1) := by decide +kernel
theorem d_Mo_number_31 : decode b_Mo_number 31 = .ok (.aload_n 0, 1) := by decide +kernel
theorem d_Mo_number_32 : decode b_Mo_number 32 = .ok (.getfield 20, 3) := by decide +kernel
theorem d_Mo_number_35 : decode b_Mo_number 35 = .ok (.iload_n 1, 1) := by decide +kernel
theorem d_Mo_number_36 : decode b_Mo_number 36 = .ok (.iconst 0, 1) := by decide +kernel
theorem d_Mo_number_37 : decode b_Mo_number 37 = .ok (.bastore, 1) := by decide +kernel
theorem d_Mo_number_38 : decode b_Mo_number 38 = .ok (.return_, 1) := by decide +kernel
theorem d_Mo_copy_0 : decode b_Mo_copy 0 = .ok (.aload_n 0, 1) := by decide +kernel
theorem d_Mo_copy_1 : decode b_Mo_copy 1 = .ok (.iload_n 1, 1) := by decide +kernel
theorem d_Mo_copy_2 : decode b_Mo_copy 2 = .ok (.invokestatic 59, 3) := by decide +kernel
theorem d_Mo_copy_5 : decode b_Mo_copy 5 = .ok (.ifCond .eq 14, 3) := by decide +kernel
theorem d_Mo_copy_8 : decode b_Mo_copy 8 = .ok (.iload_n 2, 1) := by decide +kernel
theorem d_Mo_copy_9 : decode b_Mo_copy 9 = .ok (.invokestatic 59, 3) := by decide +kernel
theorem d_Mo_copy_12 : decode b_Mo_copy 12 = .ok (.ifCond .eq 7, 3) := by decide +kernel
theorem d_Mo_copy_15 : decode b_Mo_copy 15 = .ok (.iconst 0, 1) := by decide +kernel
theorem d_Mo_copy_16 : decode b_Mo_copy 16 = .ok (.goto 4, 3) := by decide +kernel
theorem d_Mo_copy_19 : decode b_Mo_copy 19 = .ok (.iconst 1, 1) := by decide +kernel
theorem d_Mo_copy_20 : decode b_Mo_copy 20 = .ok (.putfield 43, 3) := by decide +kernel
theorem d_Mo_copy_23 : decode b_Mo_copy 23 = .ok (.aload_n 0, 1) := by decide +kernel
theorem d_Mo_copy_24 : decode b_Mo_copy 24 = .ok (.getfield 43, 3) := by decide +kernel
theorem d_Mo_copy_27 : decode b_Mo_copy 27 = .ok (.ifCond .le 4, 3) := by decide +kernel
theorem d_Mo_copy_30 : decode b_Mo_copy 30 = .ok (.return_, 1) := by decide +kernel
theorem d_Mo_copy_31 : decode b_Mo_copy 31 = .ok (.aload_n 0, 1) := by decide +kernel
theorem d_Mo_copy_32 : decode b_Mo_copy 32 = .ok (.getfield 13, 3) := by decide +kernel
theorem d_Mo_copy_35 : decode b_Mo_copy 35 = .ok (.iload_n 1, 1) := by decide +kernel
theorem d_Mo_copy_36 : decode b_Mo_copy 36 = .ok (.aload_n 0, 1) := by decide +kernel
theorem d_Mo_copy_37 : decode b_Mo_copy 37 = .ok (.getfield 13, 3) := by decide +kernel
theorem d_Mo_copy_40 : decode b_Mo_copy 40 = .ok (.iload_n 2, 1) := by decide +kernel
theorem d_Mo_copy_41 : decode b_Mo_copy 41 = .ok (.laload, 1) := by decide +kernel
theorem d_Mo_copy_42 : decode b_Mo_copy 42 = .ok (.lastore, 1) := by decide +kernel
theorem d_Mo_copy_43 : decode b_Mo_copy 43 = .ok (.aload_n 0, 1) := by decide +kernel
theorem d_Mo_copy_44 : decode b_Mo_copy 44 = .ok (.getfield 20, 3) := by decide +kernel
theorem d_Mo_copy_47 : decode b_Mo_copy 47 = .ok (.iload_n 1, 1) := by decide +kernel
theorem d_Mo_copy_48 : decode b_Mo_copy 48 = .ok (.aload_n 0, 1) := by decide +kernel
theorem d_Mo_copy_49 : decode b_Mo_copy 49 = .ok (.getfield 20, 3) := by decide +kernel
theorem d_Mo_copy_52 : decode b_Mo_copy 52 = .ok (.iload_n 2, 1) := by decide +kernel
theorem d_Mo_copy_53 : decode b_Mo_copy 53 = .ok (.baload, 1) := by decide +kernel
theorem d_Mo_copy_54 : decode b_Mo_copy 54 = .ok (.bastore, 1) := by decide +kernel
theorem d_Mo_copy_55 : decode b_Mo_copy 55 = .ok (.return_, 1) := by decide +kernel
theorem d_Mo_place_0 : decode b_Mo_place 0 = .ok (.aload_n 0, 1) := by decide +kernel
theorem d_Mo_place_1 : decode b_Mo_place 1 = .ok (.iload_n 1, 1) := by decide +kernel
theorem d_Mo_place_2 : decode b_Mo_place 2 = .ok (.invokestatic 59, 3) := by decide +kernel
theorem d_Mo_place_5 : decode b_Mo_place 5 = .ok (.ifCond .eq 10, 3) := by decide +kernel
theorem d_Mo_place_8 : decode b_Mo_place 8 = .ok (.iload_n 2, 1) := by decide +kernel
theorem d_Mo_place_9 : decode b_Mo_place 9 = .ok (.invokestatic 59, 3) := by decide +kernel
theorem d_Mo_place_12 : decode b_Mo_place 12 = .ok (.ifCond .ne 7, 3) := by decide +kernel
theorem d_Mo_place_15 : decode b_Mo_place 15 = .ok (.iconst 1, 1) := by decide +kernel
theorem d_Mo_place_16 : decode b_Mo_place 16 = .ok (.goto 37, 3) := by decide +kernel
end
section
theorem d_Mo_place_19 : decode b_Mo_place 19 = .ok (.aload_n 0, 1) := by decide +kernel
theorem d_Mo_place_20 : decode b_Mo_place 20 = .ok (.getfield 20, 3) := by decide +kernel
theorem d_Mo_place_23 : decode b_Mo_place 23 = .ok (.iload_n 2, 1) := by decide +kernel
theorem d_Mo_place_24 : decode b_Mo_place 24 = .ok (.baload, 1) := by decide +kernel
theorem d_Mo_place_25 : decode b_Mo_place 25 = .ok (.ifCond .eq 23, 3) := by decide +kernel
theorem d_Mo_place_28 : decode b_Mo_place 28 = .ok (.iload_n 3, 1) := by decide +kernel
theorem d_Mo_place_29 : decode b_Mo_place 29 = .ok (.ifCond .lt 19, 3) := by decide +kernel
theorem d_Mo_place_32 : decode b_Mo_place 32 = .ok (.iload_n 3, 1) := by decide +kernel
theorem d_Mo_place_33 : decode b_Mo_place 33 = .ok (.aload_n 0, 1) := by decide +kernel
theorem d_Mo_place_34 : decode b_Mo_place 34 = .ok (.getfield 26, 3) := by decide +kernel
theorem d_Mo_place_37 : decode b_Mo_place 37 = .ok (.aload_n 0, 1) := by decide +kernel
theorem d_Mo_place_38 : decode b_Mo_place 38 = .ok (.getfield 13, 3) := by decide +kernel
theorem d_Mo_place_41 : decode b_Mo_place 41 = .ok (.iload_n 2, 1) := by decide +kernel
theorem d_Mo_place_42 : decode b_Mo_place 42 = .ok (.laload, 1) := by decide +kernel
theorem d_Mo_place_43 : decode b_Mo_place 43 = .ok (.l2i, 1) := by decide +kernel
theorem d_Mo_place_44 : decode b_Mo_place 44 = .ok (.iaload, 1) := by decide +kernel
theorem d_Mo_place_45 : decode b_Mo_place 45 = .ok (.if_icmp .lt 7, 3) := by decide +kernel
theorem d_Mo_place_48 : decode b_Mo_place 48 = .ok (.iconst 2, 1) := by decide +kernel
theorem d_Mo_place_49 : decode b_Mo_place 49 = .ok (.goto 4, 3) := by decide +kernel
theorem d_Mo_place_52 : decode b_Mo_place 52 = .ok (.iconst 0, 1) := by decide +kernel
theorem d_Mo_place_53 : decode b_Mo_place 53 = .ok (.putfield 43, 3) := by decide +kernel
theorem d_Mo_place_56 : decode b_Mo_place 56 = .ok (.aload_n 0, 1) := by decide +kernel
theorem d_Mo_place_57 : decode b_Mo_place 57 = .ok (.getfield 43, 3) := by decide +kernel
theorem d_Mo_place_60 : decode b_Mo_place 60 = .ok (.ifCond .le 7, 3) := by decide +kernel
theorem d_Mo_place_63 : decode b_Mo_place 63 = .ok (.iconst (-1), 1) := by decide +kernel
theorem d_Mo_place_64 : decode b_Mo_place 64 = .ok (.goto 15, 3) := by decide +kernel
theorem d_Mo_place_67 : decode b_Mo_place 67 = .ok (.bipush 16, 2) := by decide +kernel
theorem d_Mo_place_69 : decode b_Mo_place 69 = .ok (.aload_n 0, 1) := by decide +kernel
theorem d_Mo_place_70 : decode b_Mo_place 70 = .ok (.getfield 13, 3) := by decide +kernel
theorem d_Mo_place_73 : decode b_Mo_place 73 = .ok (.iload_n 2, 1) := by decide +kernel
theorem d_Mo_place_74 : decode b_Mo_place 74 = .ok (.laload, 1) := by decide +kernel
theorem d_Mo_place_75 : decode b_Mo_place 75 = .ok (.l2i, 1) := by decide +kernel
theorem d_Mo_place_76 : decode b_Mo_place 76 = .ok (.imul, 1) := by decide +kernel
theorem d_Mo_place_77 : decode b_Mo_place 77 = .ok (.iload_n 3, 1) := by decide +kernel
theorem d_Mo_place_78 : decode b_Mo_place 78 = .ok (.iadd, 1) := by decide +kernel
theorem d_Mo_place_79 : decode b_Mo_place 79 = .ok (.ireturn, 1) := by decide +kernel
theorem d_Mo_get_0 : decode b_Mo_get 0 = .ok (.aload_n 0, 1) := by decide +kernel
theorem d_Mo_get_1 : decode b_Mo_get 1 = .ok (.iload_n 1, 1) := by decide +kernel
theorem d_Mo_get_2 : decode b_Mo_get 2 = .ok (.iload_n 2, 1) := by decide +kernel
theorem d_Mo_get_3 : decode b_Mo_get 3 = .ok (.iload_n 3, 1) := by decide +kernel
theorem d_Mo_get_4 : decode b_Mo_get 4 = .ok (.invokevirtual 69, 3) := by decide +kernel
theorem d_Mo_get_7 : decode b_Mo_get 7 = .ok (.istore 4, 2) := by decide +kernel
theorem d_Mo_get_9 : decode b_Mo_get 9 = .ok (.iload 4, 2) := by decide +kernel
theorem d_Mo_get_11 : decode b_Mo_get 11 = .ok (.ifCond .ge 4, 3) := by decide +kernel
theorem d_Mo_get_14 : decode b_Mo_get 14 = .ok (.return_, 1) := by decide +kernel
theorem d_Mo_get_15 : decode b_Mo_get 15 = .ok (.aload_n 0, 1) := by decide +kernel
theorem d_Mo_get_16 : decode b_Mo_get 16 = .ok (.getfield 13, 3) := by decide +kernel
theorem d_Mo_get_19 : decode b_Mo_get 19 = .ok (.iload_n 1, 1) := by decide +kernel
theorem d_Mo_get_20 : decode b_Mo_get 20 = .ok (.aload_n 0, 1) := by decide +kernel
theorem d_Mo_get_21 : decode b_Mo_get 21 = .ok (.getfield 9, 3) := by decide +kernel
theorem d_Mo_get_24 : decode b_Mo_get 24 = .ok (.iload 4, 2) := by decide +kernel
theorem d_Mo_get_26 : decode b_Mo_get 26 = .ok (.laload, 1) := by decide +kernel
theorem d_Mo_get_27 : decode b_Mo_get 27 = .ok (.lastore, 1) := by decide +kernel
theorem d_Mo_get_28 : decode b_Mo_get 28 = .ok (.aload_n 0, 1) := by decide +kernel
theorem d_Mo_get_29 : decode b_Mo_get 29 = .ok (.getfield 20, 3) := by decide +kernel
theorem d_Mo_get_32 : decode b_Mo_get 32 = .ok (.iload_n 1, 1) := by decide +kernel
theorem d_Mo_get_33 : decode b_Mo_get 33 = .ok (.aload_n 0, 1) := by decide +kernel
theorem d_Mo_get_34 : decode b_Mo_get 34 = .ok (.getfield 16, 3) := by decide +kernel
theorem d_Mo_get_37 : decode b_Mo_get 37 = .ok (.iload 4, 2) := by decide +kernel
theorem d_Mo_get_39 : decode b_Mo_get 39 = .ok (.baload, 1) := by decide +kernel
theorem d_Mo_get_40 : decode b_Mo_get 40 = .ok (.bastore, 1) := by decide +kernel
theorem d_Mo_get_41 : decode b_Mo_get 41 = .ok (.return_, 1) := by decide +kernel
theorem d_Mo_set_0 : decode b_Mo_set 0 = .ok (.aload_n 0, 1) := by decide +kernel
theorem d_Mo_set_1 : decode b_Mo_set 1 = .ok (.iload_n 3, 1) := by decide +kernel
theorem d_Mo_set_2 : decode b_Mo_set 2 = .ok (.iload_n 1, 1) := by decide +kernel
theorem d_Mo_set_3 : decode b_Mo_set 3 = .ok (.iload_n 2, 1) := by decide +kernel
theorem d_Mo_set_4 : decode b_Mo_set 4 = .ok (.invokevirtual 69, 3) := by decide +kernel
theorem d_Mo_set_7 : decode b_Mo_set 7 = .ok (.istore 4, 2) := by decide +kernel
theorem d_Mo_set_9 : decode b_Mo_set 9 = .ok (.iload 4, 2) := by decide +kernel
theorem d_Mo_set_11 : decode b_Mo_set 11 = .ok (.ifCond .ge 4, 3) := by decide +kernel
theorem d_Mo_set_14 : decode b_Mo_set 14 = .ok (.return_, 1) := by decide +kernel
theorem d_Mo_set_15 : decode b_Mo_set 15 = .ok (.aload_n 0, 1) := by decide +kernel
theorem d_Mo_set_16 : decode b_Mo_set 16 = .ok (.getfield 9, 3) := by decide +kernel
theorem d_Mo_set_19 : decode b_Mo_set 19 = .ok (.iload 4, 2) := by decide +kernel
theorem d_Mo_set_21 : decode b_Mo_set 21 = .ok (.aload_n 0, 1) := by decide +kernel
theorem d_Mo_set_22 : decode b_Mo_set 22 = .ok (.getfield 13, 3) := by decide +kernel
theorem d_Mo_set_25 : decode b_Mo_set 25 = .ok (.iload_n 3, 1) := by decide +kernel
theorem d_Mo_set_26 : decode b_Mo_set 26 = .ok (.laload, 1) := by decide +kernel
theorem d_Mo_set_27 : decode b_Mo_set 27 = .ok (.lastore, 1) := by decide +kernel
theorem d_Mo_set_28 : decode b_Mo_set 28 = .ok (.aload_n 0, 1) := by decide +kernel
theorem d_Mo_set_29 : decode b_Mo_set 29 = .ok (.getfield 16, 3) := by decide +kernel
theorem d_Mo_set_32 : decode b_Mo_set 32 = .ok (.iload 4, 2) := by decide +kernel
theorem d_Mo_set_34 : decode b_Mo_set 34 = .ok (.aload_n 0, 1) := by decide +kernel
theorem d_Mo_set_35 : decode b_Mo_set 35 = .ok (.getfield 20, 3) := by decide +kernel
theorem d_Mo_set_38 : decode b_Mo_set 38 = .ok (.iload_n 3, 1) := by decide +kernel
theorem d_Mo_set_39 : decode b_Mo_set 39 = .ok (.baload, 1) := by decide +kernel
theorem d_Mo_set_40 : decode b_Mo_set 40 = .ok (.bastore, 1) := by decide +kernel
theorem d_Mo_set_41 : decode b_Mo_set 41 = .ok (.return_, 1) := by decide +kernel
theorem d_Mo_step_0 : decode b_Mo_step 0 = .ok (.aload_n 0, 1) := by decide +kernel
theorem d_Mo_step_1 : decode b_Mo_step 1 = .ok (.iload_n 1, 1) := by decide +kernel
theorem d_Mo_step_2 : decode b_Mo_step 2 = .ok (.iconst 1, 1) := by decide +kernel
theorem d_Mo_step_3 : decode b_Mo_step 3 = .ok (.if_icmp .lt 10, 3) := by decide +kernel
theorem d_Mo_step_6 : decode b_Mo_step 6 = .ok (.iload_n 1, 1) := by decide +kernel
theorem d_Mo_step_7 : decode b_Mo_step 7 = .ok (.sipush 1000, 3) := by decide +kernel
theorem d_Mo_step_10 : decode b_Mo_step 10 = .ok (.if_icmp .le 7, 3) := by decide +kernel
theorem d_Mo_step_13 : decode b_Mo_step 13 = .ok (.iconst 1, 1) := by decide +kernel
theorem d_Mo_step_14 : decode b_Mo_step 14 = .ok (.goto 4, 3) := by decide +kernel
theorem d_Mo_step_17 : decode b_Mo_step 17 = .ok (.iconst 0, 1) := by decide +kernel
theorem d_Mo_step_18 : decode b_Mo_step 18 = .ok (.putfield 43, 3) := by decide +kernel
theorem d_Mo_step_21 : decode b_Mo_step 21 = .ok (.return_, 1) := by decide +kernel
theorem d_Mo_pace_0 : decode b_Mo_pace 0 = .ok (.aload_n 0, 1) := by decide +kernel
theorem d_Mo_pace_1 : decode b_Mo_pace 1 = .ok (.iload_n 1, 1) := by decide +kernel
theorem d_Mo_pace_2 : decode b_Mo_pace 2 = .ok (.ifCond .lt 9, 3) := by decide +kernel
theorem d_Mo_pace_5 : decode b_Mo_pace 5 = .ok (.iload_n 1, 1) := by decide +kernel
theorem d_Mo_pace_6 : decode b_Mo_pace 6 = .ok (.bipush 50, 2) := by decide +kernel
theorem d_Mo_pace_8 : decode b_Mo_pace 8 = .ok (.if_icmp .le 7, 3) := by decide +kernel
theorem d_Mo_pace_11 : decode b_Mo_pace 11 = .ok (.iconst 1, 1) := by decide +kernel
theorem d_Mo_pace_12 : decode b_Mo_pace 12 = .ok (.goto 4, 3) := by decide +kernel
theorem d_Mo_pace_15 : decode b_Mo_pace 15 = .ok (.iconst 0, 1) := by decide +kernel
theorem d_Mo_pace_16 : decode b_Mo_pace 16 = .ok (.putfield 43, 3) := by decide +kernel
theorem d_Mo_pace_19 : decode b_Mo_pace 19 = .ok (.aload_n 0, 1) := by decide +kernel
theorem d_Mo_pace_20 : decode b_Mo_pace 20 = .ok (.getfield 43, 3) := by decide +kernel
theorem d_Mo_pace_23 : decode b_Mo_pace 23 = .ok (.ifCond .le 5, 3) := by decide +kernel
theorem d_Mo_pace_26 : decode b_Mo_pace 26 = .ok (.iconst 0, 1) := by decide +kernel
theorem d_Mo_pace_27 : decode b_Mo_pace 27 = .ok (.ireturn, 1) := by decide +kernel
theorem d_Mo_pace_28 : decode b_Mo_pace 28 = .ok (.aload_n 0, 1) := by decide +kernel
theorem d_Mo_pace_29 : decode b_Mo_pace 29 = .ok (.getfield 39, 3) := by decide +kernel
theorem d_Mo_pace_32 : decode b_Mo_pace 32 = .ok (.istore_n 2, 1) := by decide +kernel
theorem d_Mo_pace_33 : decode b_Mo_pace 33 = .ok (.aload_n 0, 1) := by decide +kernel
theorem d_Mo_pace_34 : decode b_Mo_pace 34 = .ok (.iload_n 1, 1) := by decide +kernel
theorem d_Mo_pace_35 : decode b_Mo_pace 35 = .ok (.putfield 39, 3) := by decide +kernel
theorem d_Mo_pace_38 : decode b_Mo_pace 38 = .ok (.iload_n 2, 1) := by decide +kernel
theorem d_Mo_pace_39 : decode b_Mo_pace 39 = .ok (.ireturn, 1) := by decide +kernel
theorem d_Mo_size_0 : decode b_Mo_size 0 = .ok (.aload_n 0, 1) := by decide +kernel
theorem d_Mo_size_1 : decode b_Mo_size 1 = .ok (.iload_n 1, 1) := by decide +kernel
theorem d_Mo_size_2 : decode b_Mo_size 2 = .ok (.invokestatic 59, 3) := by decide +kernel
theorem d_Mo_size_5 : decode b_Mo_size 5 = .ok (.ifCond .eq 7, 3) := by decide +kernel
theorem d_Mo_size_8 : decode b_Mo_size 8 = .ok (.iconst 0, 1) := by decide +kernel
theorem d_Mo_size_9 : decode b_Mo_size 9 = .ok (.goto 4, 3) := by decide +kernel
theorem d_Mo_size_12 : decode b_Mo_size 12 = .ok (.iconst 1, 1) := by decide +kernel
theorem d_Mo_size_13 : decode b_Mo_size 13 = .ok (.putfield 43, 3) := by decide +kernel
theorem d_Mo_size_16 : decode b_Mo_size 16 = .ok (.aload_n 0, 1) := by decide +kernel
theorem d_Mo_size_17 : decode b_Mo_size 17 = .ok (.getfield 43, 3) := by decide +kernel
theorem d_Mo_size_20 : decode b_Mo_size 20 = .ok (.ifCond .le 5, 3) := by decide +kernel
theorem d_Mo_size_23 : decode b_Mo_size 23 = .ok (.iconst 0, 1) := by decide +kernel
theorem d_Mo_size_24 : decode b_Mo_size 24 = .ok (.ireturn, 1) := by decide +kernel
theorem d_Mo_size_25 : decode b_Mo_size 25 = .ok (.aload_n 0, 1) := by decide +kernel
theorem d_Mo_size_26 : decode b_Mo_size 26 = .ok (.getfield 20, 3) := by decide +kernel
theorem d_Mo_size_29 : decode b_Mo_size 29 = .ok (.iload_n 1, 1) := by decide +kernel
theorem d_Mo_size_30 : decode b_Mo_size 30 = .ok (.baload, 1) := by decide +kernel
theorem d_Mo_size_31 : decode b_Mo_size 31 = .ok (.ifCond .eq 18, 3) := by decide +kernel
theorem d_Mo_size_34 : decode b_Mo_size 34 = .ok (.aload_n 0, 1) := by decide +kernel
theorem d_Mo_size_35 : decode b_Mo_size 35 = .ok (.getfield 26, 3) := by decide +kernel
theorem d_Mo_size_38 : decode b_Mo_size 38 = .ok (.aload_n 0, 1) := by decide +kernel
theorem d_Mo_size_39 : decode b_Mo_size 39 = .ok (.getfield 13, 3) := by decide +kernel
theorem d_Mo_size_42 : decode b_Mo_size 42 = .ok (.iload_n 1, 1) := by decide +kernel
theorem d_Mo_size_43 : decode b_Mo_size 43 = .ok (.laload, 1) := by decide +kernel
theorem d_Mo_size_44 : decode b_Mo_size 44 = .ok (.l2i, 1) := by decide +kernel
theorem d_Mo_size_45 : decode b_Mo_size 45 = .ok (.iaload, 1) := by decide +kernel
theorem d_Mo_size_46 : decode b_Mo_size 46 = .ok (.goto 4, 3) := by decide +kernel
theorem d_Mo_size_49 : decode b_Mo_size 49 = .ok (.iconst (-1), 1) := by decide +kernel
theorem d_Mo_size_50 : decode b_Mo_size 50 = .ok (.ireturn, 1) := by decide +kernel
theorem d_Mo_value_0 : decode b_Mo_value 0 = .ok (.aload_n 0, 1) := by decide +kernel
theorem d_Mo_value_1 : decode b_Mo_value 1 = .ok (.iload_n 1, 1) := by decide +kernel
theorem d_Mo_value_2 : decode b_Mo_value 2 = .ok (.invokestatic 59, 3) := by decide +kernel
theorem d_Mo_value_5 : decode b_Mo_value 5 = .ok (.ifCond .eq 7, 3) := by decide +kernel
theorem d_Mo_value_8 : decode b_Mo_value 8 = .ok (.iconst 0, 1) := by decide +kernel
theorem d_Mo_value_9 : decode b_Mo_value 9 = .ok (.goto 4, 3) := by decide +kernel
theorem d_Mo_value_12 : decode b_Mo_value 12 = .ok (.iconst 1, 1) := by decide +kernel
theorem d_Mo_value_13 : decode b_Mo_value 13 = .ok (.putfield 43, 3) := by decide +kernel
theorem d_Mo_value_16 : decode b_Mo_value 16 = .ok (.aload_n 0, 1) := by decide +kernel
theorem d_Mo_value_17 : decode b_Mo_value 17 = .ok (.getfield 43, 3) := by decide +kernel
theorem d_Mo_value_20 : decode b_Mo_value 20 = .ok (.ifCond .gt 12, 3) := by decide +kernel
theorem d_Mo_value_23 : decode b_Mo_value 23 = .ok (.aload_n 0, 1) := by decide +kernel
theorem d_Mo_value_24 : decode b_Mo_value 24 = .ok (.getfield 20, 3) := by decide +kernel
theorem d_Mo_value_27 : decode b_Mo_value 27 = .ok (.iload_n 1, 1) := by decide +kernel
theorem d_Mo_value_28 : decode b_Mo_value 28 = .ok (.baload, 1) := by decide +kernel
theorem d_Mo_value_29 : decode b_Mo_value 29 = .ok (.ifCond .eq 7, 3) := by decide +kernel
theorem d_Mo_value_32 : decode b_Mo_value 32 = .ok (.lconst 0, 1) := by decide +kernel
theorem d_Mo_value_33 : decode b_Mo_value 33 = .ok (.goto 9, 3) := by decide +kernel
theorem d_Mo_value_36 : decode b_Mo_value 36 = .ok (.aload_n 0, 1) := by decide +kernel
theorem d_Mo_value_37 : decode b_Mo_value 37 = .ok (.getfield 13, 3) := by decide +kernel
theorem d_Mo_value_40 : decode b_Mo_value 40 = .ok (.iload_n 1, 1) := by decide +kernel
theorem d_Mo_value_41 : decode b_Mo_value 41 = .ok (.laload, 1) := by decide +kernel
theorem d_Mo_value_42 : decode b_Mo_value 42 = .ok (.lreturn, 1) := by decide +kernel
theorem d_Mo_same_0 : decode b_Mo_same 0 = .ok (.aload_n 0, 1) := by decide +kernel
theorem d_Mo_same_1 : decode b_Mo_same 1 = .ok (.iload_n 1, 1) := by decide +kernel
theorem d_Mo_same_2 : decode b_Mo_same 2 = .ok (.invokestatic 59, 3) := by decide +kernel
theorem d_Mo_same_5 : decode b_Mo_same 5 = .ok (.ifCond .eq 14, 3) := by decide +kernel
theorem d_Mo_same_8 : decode b_Mo_same 8 = .ok (.iload_n 2, 1) := by decide +kernel
theorem d_Mo_same_9 : decode b_Mo_same 9 = .ok (.invokestatic 59, 3) := by decide +kernel
theorem d_Mo_same_12 : decode b_Mo_same 12 = .ok (.ifCond .eq 7, 3) := by decide +kernel
theorem d_Mo_same_15 : decode b_Mo_same 15 = .ok (.iconst 0, 1) := by decide +kernel
theorem d_Mo_same_16 : decode b_Mo_same 16 = .ok (.goto 4, 3) := by decide +kernel
theorem d_Mo_same_19 : decode b_Mo_same 19 = .ok (.iconst 1, 1) := by decide +kernel
theorem d_Mo_same_20 : decode b_Mo_same 20 = .ok (.putfield 43, 3) := by decide +kernel
theorem d_Mo_same_23 : decode b_Mo_same 23 = .ok (.aload_n 0, 1) := by decide +kernel
theorem d_Mo_same_24 : decode b_Mo_same 24 = .ok (.getfield 43, 3) := by decide +kernel
theorem d_Mo_same_27 : decode b_Mo_same 27 = .ok (.ifCond .ne 38, 3) := by decide +kernel
theorem d_Mo_same_30 : decode b_Mo_same 30 = .ok (.aload_n 0, 1) := by decide +kernel
theorem d_Mo_same_31 : decode b_Mo_same 31 = .ok (.getfield 13, 3) := by decide +kernel
theorem d_Mo_same_34 : decode b_Mo_same 34 = .ok (.iload_n 1, 1) := by decide +kernel
theorem d_Mo_same_35 : decode b_Mo_same 35 = .ok (.laload, 1) := by decide +kernel
theorem d_Mo_same_36 : decode b_Mo_same 36 = .ok (.aload_n 0, 1) := by decide +kernel
theorem d_Mo_same_37 : decode b_Mo_same 37 = .ok (.getfield 13, 3) := by decide +kernel
theorem d_Mo_same_40 : decode b_Mo_same 40 = .ok (.iload_n 2, 1) := by decide +kernel
theorem d_Mo_same_41 : decode b_Mo_same 41 = .ok (.laload, 1) := by decide +kernel
theorem d_Mo_same_42 : decode b_Mo_same 42 = .ok (.lcmp, 1) := by decide +kernel
theorem d_Mo_same_43 : decode b_Mo_same 43 = .ok (.ifCond .ne 22, 3) := by decide +kernel
theorem d_Mo_same_46 : decode b_Mo_same 46 = .ok (.aload_n 0, 1) := by decide +kernel
theorem d_Mo_same_47 : decode b_Mo_same 47 = .ok (.getfield 20, 3) := by decide +kernel
theorem d_Mo_same_50 : decode b_Mo_same 50 = .ok (.iload_n 1, 1) := by decide +kernel
theorem d_Mo_same_51 : decode b_Mo_same 51 = .ok (.baload, 1) := by decide +kernel
theorem d_Mo_same_52 : decode b_Mo_same 52 = .ok (.aload_n 0, 1) := by decide +kernel
theorem d_Mo_same_53 : decode b_Mo_same 53 = .ok (.getfield 20, 3) := by decide +kernel
theorem d_Mo_same_56 : decode b_Mo_same 56 = .ok (.iload_n 2, 1) := by decide +kernel
theorem d_Mo_same_57 : decode b_Mo_same 57 = .ok (.baload, 1) := by decide +kernel
theorem d_Mo_same_58 : decode b_Mo_same 58 = .ok (.if_icmp .ne 7, 3) := by decide +kernel
theorem d_Mo_same_61 : decode b_Mo_same 61 = .ok (.iconst 1, 1) := by decide +kernel
theorem d_Mo_same_62 : decode b_Mo_same 62 = .ok (.goto 4, 3) := by decide +kernel
theorem d_Mo_same_65 : decode b_Mo_same 65 = .ok (.iconst 0, 1) := by decide +kernel
theorem d_Mo_same_66 : decode b_Mo_same 66 = .ok (.ireturn, 1) := by decide +kernel
theorem d_Mo_count_0 : decode b_Mo_count 0 = .ok (.aload_n 0, 1) := by decide +kernel
theorem d_Mo_count_1 : decode b_Mo_count 1 = .ok (.iload_n 1, 1) := by decide +kernel
theorem d_Mo_count_2 : decode b_Mo_count 2 = .ok (.ifCond .lt 8, 3) := by decide +kernel
theorem d_Mo_count_5 : decode b_Mo_count 5 = .ok (.iload_n 1, 1) := by decide +kernel
theorem d_Mo_count_6 : decode b_Mo_count 6 = .ok (.iconst 2, 1) := by decide +kernel
theorem d_Mo_count_7 : decode b_Mo_count 7 = .ok (.if_icmp .le 7, 3) := by decide +kernel
theorem d_Mo_count_10 : decode b_Mo_count 10 = .ok (.iconst 1, 1) := by decide +kernel
theorem d_Mo_count_11 : decode b_Mo_count 11 = .ok (.goto 4, 3) := by decide +kernel
theorem d_Mo_count_14 : decode b_Mo_count 14 = .ok (.iconst 0, 1) := by decide +kernel
theorem d_Mo_count_15 : decode b_Mo_count 15 = .ok (.putfield 43, 3) := by decide +kernel
theorem d_Mo_count_18 : decode b_Mo_count 18 = .ok (.aload_n 0, 1) := by decide +kernel
theorem d_Mo_count_19 : decode b_Mo_count 19 = .ok (.getfield 43, 3) := by decide +kernel
theorem d_Mo_count_22 : decode b_Mo_count 22 = .ok (.ifCond .le 5, 3) := by decide +kernel
theorem d_Mo_count_25 : decode b_Mo_count 25 = .ok (.iconst 0, 1) := by decide +kernel
theorem d_Mo_count_26 : decode b_Mo_count 26 = .ok (.ireturn, 1) := by decide +kernel
theorem d_Mo_count_27 : decode b_Mo_count 27 = .ok (.aload_n 0, 1) := by decide +kernel
theorem d_Mo_count_28 : decode b_Mo_count 28 = .ok (.invokevirtual 63, 3) := by decide +kernel
theorem d_Mo_count_31 : decode b_Mo_count 31 = .ok (.iload_n 1, 1) := by decide +kernel
theorem d_Mo_count_32 : decode b_Mo_count 32 = .ok (.ifCond .ne 10, 3) := by decide +kernel
theorem d_Mo_count_35 : decode b_Mo_count 35 = .ok (.aload_n 0, 1) := by decide +kernel
theorem d_Mo_count_36 : decode b_Mo_count 36 = .ok (.getfield 46, 3) := by decide +kernel
theorem d_Mo_count_39 : decode b_Mo_count 39 = .ok (.goto 19, 3) := by decide +kernel
theorem d_Mo_count_42 : decode b_Mo_count 42 = .ok (.iload_n 1, 1) := by decide +kernel
theorem d_Mo_count_43 : decode b_Mo_count 43 = .ok (.iconst 1, 1) := by decide +kernel
theorem d_Mo_count_44 : decode b_Mo_count 44 = .ok (.if_icmp .ne 10, 3) := by decide +kernel
theorem d_Mo_count_47 : decode b_Mo_count 47 = .ok (.aload_n 0, 1) := by decide +kernel
theorem d_Mo_count_48 : decode b_Mo_count 48 = .ok (.getfield 49, 3) := by decide +kernel
theorem d_Mo_count_51 : decode b_Mo_count 51 = .ok (.goto 7, 3) := by decide +kernel
theorem d_Mo_count_54 : decode b_Mo_count 54 = .ok (.aload_n 0, 1) := by decide +kernel
theorem d_Mo_count_55 : decode b_Mo_count 55 = .ok (.getfield 66, 3) := by decide +kernel
theorem d_Mo_count_58 : decode b_Mo_count 58 = .ok (.ireturn, 1) := by decide +kernel
theorem d_Mo_digest_0 : decode b_Mo_digest 0 = .ok (.aload_n 0, 1) := by decide +kernel
theorem d_Mo_digest_1 : decode b_Mo_digest 1 = .ok (.iconst 0, 1) := by decide +kernel
theorem d_Mo_digest_2 : decode b_Mo_digest 2 = .ok (.putfield 43, 3) := by decide +kernel
theorem d_Mo_digest_5 : decode b_Mo_digest 5 = .ok (.iconst 0, 1) := by decide +kernel
theorem d_Mo_digest_6 : decode b_Mo_digest 6 = .ok (.istore_n 1, 1) := by decide +kernel
theorem d_Mo_digest_7 : decode b_Mo_digest 7 = .ok (.iload_n 1, 1) := by decide +kernel
theorem d_Mo_digest_8 : decode b_Mo_digest 8 = .ok (.sipush 640, 3) := by decide +kernel
theorem d_Mo_digest_11 : decode b_Mo_digest 11 = .ok (.if_icmp .ge 16, 3) := by decide +kernel
theorem d_Mo_digest_14 : decode b_Mo_digest 14 = .ok (.aload_n 0, 1) := by decide +kernel
theorem d_Mo_digest_15 : decode b_Mo_digest 15 = .ok (.getfield 33, 3) := by decide +kernel
theorem d_Mo_digest_18 : decode b_Mo_digest 18 = .ok (.iload_n 1, 1) := by decide +kernel
theorem d_Mo_digest_19 : decode b_Mo_digest 19 = .ok (.iconst 0, 1) := by decide +kernel
theorem d_Mo_digest_20 : decode b_Mo_digest 20 = .ok (.iastore, 1) := by decide +kernel
theorem d_Mo_digest_21 : decode b_Mo_digest 21 = .ok (.iinc 1 1, 3) := by decide +kernel
theorem d_Mo_digest_24 : decode b_Mo_digest 24 = .ok (.goto (-17), 3) := by decide +kernel
theorem d_Mo_digest_27 : decode b_Mo_digest 27 = .ok (.ldc2_w 73, 3) := by decide +kernel
theorem d_Mo_digest_30 : decode b_Mo_digest 30 = .ok (.lstore_n 1, 1) := by decide +kernel
theorem d_Mo_digest_31 : decode b_Mo_digest 31 = .ok (.iconst 0, 1) := by decide +kernel
theorem d_Mo_digest_32 : decode b_Mo_digest 32 = .ok (.istore_n 3, 1) := by decide +kernel
theorem d_Mo_digest_33 : decode b_Mo_digest 33 = .ok (.iconst 0, 1) := by decide +kernel
theorem d_Mo_digest_34 : decode b_Mo_digest 34 = .ok (.istore 4, 2) := by decide +kernel
theorem d_Mo_digest_36 : decode b_Mo_digest 36 = .ok (.iconst 0, 1) := by decide +kernel
theorem d_Mo_digest_37 : decode b_Mo_digest 37 = .ok (.istore 5, 2) := by decide +kernel
theorem d_Mo_digest_39 : decode b_Mo_digest 39 = .ok (.iload 5, 2) := by decide +kernel
theorem d_Mo_digest_41 : decode b_Mo_digest 41 = .ok (.bipush 16, 2) := by decide +kernel
theorem d_Mo_digest_43 : decode b_Mo_digest 43 = .ok (.if_icmp .ge 238, 3) := by decide +kernel
theorem d_Mo_digest_46 : decode b_Mo_digest 46 = .ok (.aload_n 0, 1) := by decide +kernel
theorem d_Mo_digest_47 : decode b_Mo_digest 47 = .ok (.getfield 13, 3) := by decide +kernel
theorem d_Mo_digest_50 : decode b_Mo_digest 50 = .ok (.iload 5, 2) := by decide +kernel
theorem d_Mo_digest_52 : decode b_Mo_digest 52 = .ok (.laload, 1) := by decide +kernel
theorem d_Mo_digest_53 : decode b_Mo_digest 53 = .ok (.lstore 6, 2) := by decide +kernel
theorem d_Mo_digest_55 : decode b_Mo_digest 55 = .ok (.aload_n 0, 1) := by decide +kernel
theorem d_Mo_digest_56 : decode b_Mo_digest 56 = .ok (.getfield 20, 3) := by decide +kernel
theorem d_Mo_digest_59 : decode b_Mo_digest 59 = .ok (.iload 5, 2) := by decide +kernel
theorem d_Mo_digest_61 : decode b_Mo_digest 61 = .ok (.baload, 1) := by decide +kernel
theorem d_Mo_digest_62 : decode b_Mo_digest 62 = .ok (.istore 8, 2) := by decide +kernel
theorem d_Mo_digest_64 : decode b_Mo_digest 64 = .ok (.iload 8, 2) := by decide +kernel
theorem d_Mo_digest_66 : decode b_Mo_digest 66 = .ok (.ifCond .ne 15, 3) := by decide +kernel
theorem d_Mo_digest_69 : decode b_Mo_digest 69 = .ok (.ldc2_w 75, 3) := by decide +kernel
theorem d_Mo_digest_72 : decode b_Mo_digest 72 = .ok (.lload_n 1, 1) := by decide +kernel
theorem d_Mo_digest_73 : decode b_Mo_digest 73 = .ok (.lmul, 1) := by decide +kernel
theorem d_Mo_digest_74 : decode b_Mo_digest 74 = .ok (.lload 6, 2) := by decide +kernel
theorem d_Mo_digest_76 : decode b_Mo_digest 76 = .ok (.ladd, 1) := by decide +kernel
theorem d_Mo_digest_77 : decode b_Mo_digest 77 = .ok (.lstore_n 1, 1) := by decide +kernel
theorem d_Mo_digest_78 : decode b_Mo_digest 78 = .ok (.goto 94, 3) := by decide +kernel
theorem d_Mo_digest_81 : decode b_Mo_digest 81 = .ok (.aload_n 0, 1) := by decide +kernel
theorem d_Mo_digest_82 : decode b_Mo_digest 82 = .ok (.getfield 33, 3) := by decide +kernel
theorem d_Mo_digest_85 : decode b_Mo_digest 85 = .ok (.lload 6, 2) := by decide +kernel
theorem d_Mo_digest_87 : decode b_Mo_digest 87 = .ok (.l2i, 1) := by decide +kernel
theorem d_Mo_digest_88 : decode b_Mo_digest 88 = .ok (.iaload, 1) := by decide +kernel
theorem d_Mo_digest_89 : decode b_Mo_digest 89 = .ok (.ifCond .le 26, 3) := by decide +kernel
theorem d_Mo_digest_92 : decode b_Mo_digest 92 = .ok (.ldc2_w 75, 3) := by decide +kernel
theorem d_Mo_digest_95 : decode b_Mo_digest 95 = .ok (.lload_n 1, 1) := by decide +kernel
theorem d_Mo_digest_96 : decode b_Mo_digest 96 = .ok (.lmul, 1) := by decide +kernel
theorem d_Mo_digest_97 : decode b_Mo_digest 97 = .ok (.ldc2_w 77, 3) := by decide +kernel
theorem d_Mo_digest_100 : decode b_Mo_digest 100 = .ok (.ladd, 1) := by decide +kernel
theorem d_Mo_digest_101 : decode b_Mo_digest 101 = .ok (.aload_n 0, 1) := by decide +kernel
theorem d_Mo_digest_102 : decode b_Mo_digest 102 = .ok (.getfield 33, 3) := by decide +kernel
theorem d_Mo_digest_105 : decode b_Mo_digest 105 = .ok (.lload 6, 2) := by decide +kernel
theorem d_Mo_digest_107 : decode b_Mo_digest 107 = .ok (.l2i, 1) := by decide +kernel
theorem d_Mo_digest_108 : decode b_Mo_digest 108 = .ok (.iaload, 1) := by decide +kernel
theorem d_Mo_digest_109 : decode b_Mo_digest 109 = .ok (.i2l, 1) := by decide +kernel
theorem d_Mo_digest_110 : decode b_Mo_digest 110 = .ok (.ladd, 1) := by decide +kernel
theorem d_Mo_digest_111 : decode b_Mo_digest 111 = .ok (.lstore_n 1, 1) := by decide +kernel
theorem d_Mo_digest_112 : decode b_Mo_digest 112 = .ok (.goto 60, 3) := by decide +kernel
theorem d_Mo_digest_115 : decode b_Mo_digest 115 = .ok (.iinc 3 1, 3) := by decide +kernel
theorem d_Mo_digest_118 : decode b_Mo_digest 118 = .ok (.aload_n 0, 1) := by decide +kernel
theorem d_Mo_digest_119 : decode b_Mo_digest 119 = .ok (.getfield 33, 3) := by decide +kernel
theorem d_Mo_digest_122 : decode b_Mo_digest 122 = .ok (.lload 6, 2) := by decide +kernel
theorem d_Mo_digest_124 : decode b_Mo_digest 124 = .ok (.l2i, 1) := by decide +kernel
theorem d_Mo_digest_125 : decode b_Mo_digest 125 = .ok (.iload_n 3, 1) := by decide +kernel
theorem d_Mo_digest_126 : decode b_Mo_digest 126 = .ok (.iastore, 1) := by decide +kernel
theorem d_Mo_digest_127 : decode b_Mo_digest 127 = .ok (.ldc2_w 75, 3) := by decide +kernel
theorem d_Mo_digest_130 : decode b_Mo_digest 130 = .ok (.ldc2_w 75, 3) := by decide +kernel
theorem d_Mo_digest_133 : decode b_Mo_digest 133 = .ok (.lload_n 1, 1) := by decide +kernel
theorem d_Mo_digest_134 : decode b_Mo_digest 134 = .ok (.lmul, 1) := by decide +kernel
theorem d_Mo_digest_135 : decode b_Mo_digest 135 = .ok (.ldc2_w 79, 3) := by decide +kernel
theorem d_Mo_digest_138 : decode b_Mo_digest 138 = .ok (.ladd, 1) := by decide +kernel
theorem d_Mo_digest_139 : decode b_Mo_digest 139 = .ok (.lmul, 1) := by decide +kernel
theorem d_Mo_digest_140 : decode b_Mo_digest 140 = .ok (.aload_n 0, 1) := by decide +kernel
theorem d_Mo_digest_141 : decode b_Mo_digest 141 = .ok (.getfield 26, 3) := by decide +kernel
theorem d_Mo_digest_144 : decode b_Mo_digest 144 = .ok (.lload 6, 2) := by decide +kernel
theorem d_Mo_digest_146 : decode b_Mo_digest 146 = .ok (.l2i, 1) := by decide +kernel
theorem d_Mo_digest_147 : decode b_Mo_digest 147 = .ok (.iaload, 1) := by decide +kernel
theorem d_Mo_digest_148 : decode b_Mo_digest 148 = .ok (.i2l, 1) := by decide +kernel
theorem d_Mo_digest_149 : decode b_Mo_digest 149 = .ok (.ladd, 1) := by decide +kernel
theorem d_Mo_digest_150 : decode b_Mo_digest 150 = .ok (.lstore_n 1, 1) := by decide +kernel
theorem d_Mo_digest_151 : decode b_Mo_digest 151 = .ok (.aload_n 0, 1) := by decide +kernel
theorem d_Mo_digest_152 : decode b_Mo_digest 152 = .ok (.getfield 30, 3) := by decide +kernel
theorem d_Mo_digest_155 : decode b_Mo_digest 155 = .ok (.iload 4, 2) := by decide +kernel
theorem d_Mo_digest_157 : decode b_Mo_digest 157 = .ok (.lload 6, 2) := by decide +kernel
theorem d_Mo_digest_159 : decode b_Mo_digest 159 = .ok (.l2i, 1) := by decide +kernel
theorem d_Mo_digest_160 : decode b_Mo_digest 160 = .ok (.iastore, 1) := by decide +kernel
theorem d_Mo_digest_161 : decode b_Mo_digest 161 = .ok (.aload_n 0, 1) := by decide +kernel
theorem d_Mo_digest_162 : decode b_Mo_digest 162 = .ok (.getfield 36, 3) := by decide +kernel
theorem d_Mo_digest_165 : decode b_Mo_digest 165 = .ok (.iload 4, 2) := by decide +kernel
theorem d_Mo_digest_167 : decode b_Mo_digest 167 = .ok (.iconst 0, 1) := by decide +kernel
theorem d_Mo_digest_168 : decode b_Mo_digest 168 = .ok (.iastore, 1) := by decide +kernel
theorem d_Mo_digest_169 : decode b_Mo_digest 169 = .ok (.iinc 4 1, 3) := by decide +kernel
theorem d_Mo_digest_172 : decode b_Mo_digest 172 = .ok (.iload 4, 2) := by decide +kernel
theorem d_Mo_digest_174 : decode b_Mo_digest 174 = .ok (.ifCond .le 35, 3) := by decide +kernel
theorem d_Mo_digest_177 : decode b_Mo_digest 177 = .ok (.aload_n 0, 1) := by decide +kernel
theorem d_Mo_digest_178 : decode b_Mo_digest 178 = .ok (.getfield 36, 3) := by decide +kernel
theorem d_Mo_digest_181 : decode b_Mo_digest 181 = .ok (.iload 4, 2) := by decide +kernel
theorem d_Mo_digest_183 : decode b_Mo_digest 183 = .ok (.iconst 1, 1) := by decide +kernel
theorem d_Mo_digest_184 : decode b_Mo_digest 184 = .ok (.isub, 1) := by decide +kernel
theorem d_Mo_digest_185 : decode b_Mo_digest 185 = .ok (.iaload, 1) := by decide +kernel
theorem d_Mo_digest_186 : decode b_Mo_digest 186 = .ok (.aload_n 0, 1) := by decide +kernel
theorem d_Mo_digest_187 : decode b_Mo_digest 187 = .ok (.getfield 26, 3) := by decide +kernel
theorem d_Mo_digest_190 : decode b_Mo_digest 190 = .ok (.aload_n 0, 1) := by decide +kernel
theorem d_Mo_digest_191 : decode b_Mo_digest 191 = .ok (.getfield 30, 3) := by decide +kernel
theorem d_Mo_digest_194 : decode b_Mo_digest 194 = .ok (.iload 4, 2) := by decide +kernel
theorem d_Mo_digest_196 : decode b_Mo_digest 196 = .ok (.iconst 1, 1) := by decide +kernel
theorem d_Mo_digest_197 : decode b_Mo_digest 197 = .ok (.isub, 1) := by decide +kernel
theorem d_Mo_digest_198 : decode b_Mo_digest 198 = .ok (.iaload, 1) := by decide +kernel
theorem d_Mo_digest_199 : decode b_Mo_digest 199 = .ok (.iaload, 1) := by decide +kernel
theorem d_Mo_digest_200 : decode b_Mo_digest 200 = .ok (.if_icmp .ne 9, 3) := by decide +kernel
theorem d_Mo_digest_203 : decode b_Mo_digest 203 = .ok (.iinc 4 (-1), 3) := by decide +kernel
theorem d_Mo_digest_206 : decode b_Mo_digest 206 = .ok (.goto (-34), 3) := by decide +kernel
theorem d_Mo_digest_209 : decode b_Mo_digest 209 = .ok (.iload 4, 2) := by decide +kernel
theorem d_Mo_digest_211 : decode b_Mo_digest 211 = .ok (.ifCond .ne 6, 3) := by decide +kernel
theorem d_Mo_digest_214 : decode b_Mo_digest 214 = .ok (.goto 61, 3) := by decide +kernel
theorem d_Mo_digest_217 : decode b_Mo_digest 217 = .ok (.bipush 16, 2) := by decide +kernel
theorem d_Mo_digest_219 : decode b_Mo_digest 219 = .ok (.aload_n 0, 1) := by decide +kernel
theorem d_Mo_digest_220 : decode b_Mo_digest 220 = .ok (.getfield 30, 3) := by decide +kernel
theorem d_Mo_digest_223 : decode b_Mo_digest 223 = .ok (.iload 4, 2) := by decide +kernel
theorem d_Mo_digest_225 : decode b_Mo_digest 225 = .ok (.iconst 1, 1) := by decide +kernel
theorem d_Mo_digest_226 : decode b_Mo_digest 226 = .ok (.isub, 1) := by decide +kernel
theorem d_Mo_digest_227 : decode b_Mo_digest 227 = .ok (.iaload, 1) := by decide +kernel
theorem d_Mo_digest_228 : decode b_Mo_digest 228 = .ok (.imul, 1) := by decide +kernel
theorem d_Mo_digest_229 : decode b_Mo_digest 229 = .ok (.aload_n 0, 1) := by decide +kernel
theorem d_Mo_digest_230 : decode b_Mo_digest 230 = .ok (.getfield 36, 3) := by decide +kernel
theorem d_Mo_digest_233 : decode b_Mo_digest 233 = .ok (.iload 4, 2) := by decide +kernel
theorem d_Mo_digest_235 : decode b_Mo_digest 235 = .ok (.iconst 1, 1) := by decide +kernel
theorem d_Mo_digest_236 : decode b_Mo_digest 236 = .ok (.isub, 1) := by decide +kernel
theorem d_Mo_digest_237 : decode b_Mo_digest 237 = .ok (.iaload, 1) := by decide +kernel
theorem d_Mo_digest_238 : decode b_Mo_digest 238 = .ok (.iadd, 1) := by decide +kernel
theorem d_Mo_digest_239 : decode b_Mo_digest 239 = .ok (.istore 9, 2) := by decide +kernel
theorem d_Mo_digest_241 : decode b_Mo_digest 241 = .ok (.aload_n 0, 1) := by decide +kernel
theorem d_Mo_digest_242 : decode b_Mo_digest 242 = .ok (.getfield 36, 3) := by decide +kernel
theorem d_Mo_digest_245 : decode b_Mo_digest 245 = .ok (.iload 4, 2) := by decide +kernel
theorem d_Mo_digest_247 : decode b_Mo_digest 247 = .ok (.iconst 1, 1) := by decide +kernel
theorem d_Mo_digest_248 : decode b_Mo_digest 248 = .ok (.isub, 1) := by decide +kernel
theorem d_Mo_digest_249 : decode b_Mo_digest 249 = .ok (.dup2, 1) := by decide +kernel
theorem d_Mo_digest_250 : decode b_Mo_digest 250 = .ok (.iaload, 1) := by decide +kernel
theorem d_Mo_digest_251 : decode b_Mo_digest 251 = .ok (.iconst 1, 1) := by decide +kernel
theorem d_Mo_digest_252 : decode b_Mo_digest 252 = .ok (.iadd, 1) := by decide +kernel
theorem d_Mo_digest_253 : decode b_Mo_digest 253 = .ok (.iastore, 1) := by decide +kernel
theorem d_Mo_digest_254 : decode b_Mo_digest 254 = .ok (.aload_n 0, 1) := by decide +kernel
theorem d_Mo_digest_255 : decode b_Mo_digest 255 = .ok (.getfield 9, 3) := by decide +kernel
theorem d_Mo_digest_258 : decode b_Mo_digest 258 = .ok (.iload 9, 2) := by decide +kernel
theorem d_Mo_digest_260 : decode b_Mo_digest 260 = .ok (.laload, 1) := by decide +kernel
theorem d_Mo_digest_261 : decode b_Mo_digest 261 = .ok (.lstore 6, 2) := by decide +kernel
theorem d_Mo_digest_263 : decode b_Mo_digest 263 = .ok (.aload_n 0, 1) := by decide +kernel
theorem d_Mo_digest_264 : decode b_Mo_digest 264 = .ok (.getfield 16, 3) := by decide +kernel
theorem d_Mo_digest_267 : decode b_Mo_digest 267 = .ok (.iload 9, 2) := by decide +kernel
theorem d_Mo_digest_269 : decode b_Mo_digest 269 = .ok (.baload, 1) := by decide +kernel
theorem d_Mo_digest_270 : decode b_Mo_digest 270 = .ok (.istore 8, 2) := by decide +kernel
theorem d_Mo_digest_272 : decode b_Mo_digest 272 = .ok (.goto (-208), 3) := by decide +kernel
theorem d_Mo_digest_275 : decode b_Mo_digest 275 = .ok (.iinc 5 1, 3) := by decide +kernel
theorem d_Mo_digest_278 : decode b_Mo_digest 278 = .ok (.goto (-239), 3) := by decide +kernel
theorem d_Mo_digest_281 : decode b_Mo_digest 281 = .ok (.lload_n 1, 1) := by decide +kernel
theorem d_Mo_digest_282 : decode b_Mo_digest 282 = .ok (.lreturn, 1) := by decide +kernel
theorem d_Mo_collect_0 : decode b_Mo_collect 0 = .ok (.aload_n 0, 1) := by decide +kernel
theorem d_Mo_collect_1 : decode b_Mo_collect 1 = .ok (.iconst 0, 1) := by decide +kernel
theorem d_Mo_collect_2 : decode b_Mo_collect 2 = .ok (.putfield 43, 3) := by decide +kernel
theorem d_Mo_collect_5 : decode b_Mo_collect 5 = .ok (.aload_n 0, 1) := by decide +kernel
theorem d_Mo_collect_6 : decode b_Mo_collect 6 = .ok (.invokevirtual 63, 3) := by decide +kernel
theorem d_Mo_collect_9 : decode b_Mo_collect 9 = .ok (.aload_n 0, 1) := by decide +kernel
theorem d_Mo_collect_10 : decode b_Mo_collect 10 = .ok (.getfield 46, 3) := by decide +kernel
theorem d_Mo_collect_13 : decode b_Mo_collect 13 = .ok (.ireturn, 1) := by decide +kernel
theorem d_Mo_check_0 : decode b_Mo_check 0 = .ok (.aload_n 0, 1) := by decide +kernel
theorem d_Mo_check_1 : decode b_Mo_check 1 = .ok (.iconst 0, 1) := by decide +kernel
theorem d_Mo_check_2 : decode b_Mo_check 2 = .ok (.putfield 43, 3) := by decide +kernel
theorem d_Mo_check_5 : decode b_Mo_check 5 = .ok (.iconst 0, 1) := by decide +kernel
theorem d_Mo_check_6 : decode b_Mo_check 6 = .ok (.ireturn, 1) := by decide +kernel
theorem d_Au_init_0 : decode b_Au_init 0 = .ok (.aload_n 0, 1) := by decide +kernel
theorem d_Au_init_1 : decode b_Au_init 1 = .ok (.invokespecial 3, 3) := by decide +kernel
theorem d_Au_init_4 : decode b_Au_init 4 = .ok (.aload_n 0, 1) := by decide +kernel
theorem d_Au_init_5 : decode b_Au_init 5 = .ok (.aload_n 1, 1) := by decide +kernel
theorem d_Au_init_6 : decode b_Au_init 6 = .ok (.putfield 9, 3) := by decide +kernel
theorem d_Au_init_9 : decode b_Au_init 9 = .ok (.aload_n 0, 1) := by decide +kernel
theorem d_Au_init_10 : decode b_Au_init 10 = .ok (.aload_n 2, 1) := by decide +kernel
theorem d_Au_init_11 : decode b_Au_init 11 = .ok (.putfield 15, 3) := by decide +kernel
theorem d_Au_init_14 : decode b_Au_init 14 = .ok (.aload_n 0, 1) := by decide +kernel
theorem d_Au_init_15 : decode b_Au_init 15 = .ok (.aload_n 3, 1) := by decide +kernel
theorem d_Au_init_16 : decode b_Au_init 16 = .ok (.putfield 19, 3) := by decide +kernel
theorem d_Au_init_19 : decode b_Au_init 19 = .ok (.aload_n 0, 1) := by decide +kernel
theorem d_Au_init_20 : decode b_Au_init 20 = .ok (.new 23, 3) := by decide +kernel
theorem d_Au_init_23 : decode b_Au_init 23 = .ok (.dup, 1) := by decide +kernel
theorem d_Au_init_24 : decode b_Au_init 24 = .ok (.aload_n 1, 1) := by decide +kernel
theorem d_Au_init_25 : decode b_Au_init 25 = .ok (.invokespecial 25, 3) := by decide +kernel
theorem d_Au_init_28 : decode b_Au_init 28 = .ok (.putfield 28, 3) := by decide +kernel
theorem d_Au_init_31 : decode b_Au_init 31 = .ok (.aload_n 0, 1) := by decide +kernel
theorem d_Au_init_32 : decode b_Au_init 32 = .ok (.sipush 601, 3) := by decide +kernel
theorem d_Au_init_35 : decode b_Au_init 35 = .ok (.newarray .int, 2) := by decide +kernel
theorem d_Au_init_37 : decode b_Au_init 37 = .ok (.putfield 32, 3) := by decide +kernel
theorem d_Au_init_40 : decode b_Au_init 40 = .ok (.return_, 1) := by decide +kernel
theorem d_Au_faults_0 : decode b_Au_faults 0 = .ok (.aload_n 0, 1) := by decide +kernel
theorem d_Au_faults_1 : decode b_Au_faults 1 = .ok (.getfield 19, 3) := by decide +kernel
theorem d_Au_faults_4 : decode b_Au_faults 4 = .ok (.invokevirtual 36, 3) := by decide +kernel
theorem d_Au_faults_7 : decode b_Au_faults 7 = .ok (.aload_n 0, 1) := by decide +kernel
theorem d_Au_faults_8 : decode b_Au_faults 8 = .ok (.getfield 9, 3) := by decide +kernel
theorem d_Au_faults_11 : decode b_Au_faults 11 = .ok (.aload_n 0, 1) := by decide +kernel
theorem d_Au_faults_12 : decode b_Au_faults 12 = .ok (.getfield 32, 3) := by decide +kernel
theorem d_Au_faults_15 : decode b_Au_faults 15 = .ok (.invokevirtual 41, 3) := by decide +kernel
theorem d_Au_faults_18 : decode b_Au_faults 18 = .ok (.aload_n 0, 1) := by decide +kernel
theorem d_Au_faults_19 : decode b_Au_faults 19 = .ok (.invokevirtual 47, 3) := by decide +kernel
theorem d_Au_faults_22 : decode b_Au_faults 22 = .ok (.iconst 0, 1) := by decide +kernel
theorem d_Au_faults_23 : decode b_Au_faults 23 = .ok (.istore_n 1, 1) := by decide +kernel
theorem d_Au_faults_24 : decode b_Au_faults 24 = .ok (.aload_n 0, 1) := by decide +kernel
theorem d_Au_faults_25 : decode b_Au_faults 25 = .ok (.getfield 9, 3) := by decide +kernel
theorem d_Au_faults_28 : decode b_Au_faults 28 = .ok (.invokevirtual 50, 3) := by decide +kernel
theorem d_Au_faults_31 : decode b_Au_faults 31 = .ok (.istore_n 2, 1) := by decide +kernel
theorem d_Au_faults_32 : decode b_Au_faults 32 = .ok (.iconst 1, 1) := by decide +kernel
theorem d_Au_faults_33 : decode b_Au_faults 33 = .ok (.istore_n 3, 1) := by decide +kernel
theorem d_Au_faults_34 : decode b_Au_faults 34 = .ok (.iload_n 3, 1) := by decide +kernel
theorem d_Au_faults_35 : decode b_Au_faults 35 = .ok (.iload_n 2, 1) := by decide +kernel
theorem d_Au_faults_36 : decode b_Au_faults 36 = .ok (.if_icmp .gt 82, 3) := by decide +kernel
theorem d_Au_faults_39 : decode b_Au_faults 39 = .ok (.iload_n 3, 1) := by decide +kernel
theorem d_Au_faults_40 : decode b_Au_faults 40 = .ok (.aload_n 0, 1) := by decide +kernel
theorem d_Au_faults_41 : decode b_Au_faults 41 = .ok (.getfield 32, 3) := by decide +kernel
theorem d_Au_faults_44 : decode b_Au_faults 44 = .ok (.arraylength, 1) := by decide +kernel
theorem d_Au_faults_45 : decode b_Au_faults 45 = .ok (.if_icmp .ge 73, 3) := by decide +kernel
theorem d_Au_faults_48 : decode b_Au_faults 48 = .ok (.iload_n 1, 1) := by decide +kernel
theorem d_Au_faults_49 : decode b_Au_faults 49 = .ok (.aload_n 0, 1) := by decide +kernel
theorem d_Au_faults_50 : decode b_Au_faults 50 = .ok (.getfield 19, 3) := by decide +kernel
theorem d_Au_faults_53 : decode b_Au_faults 53 = .ok (.iload_n 3, 1) := by decide +kernel
theorem d_Au_faults_54 : decode b_Au_faults 54 = .ok (.invokevirtual 54, 3) := by decide +kernel
theorem d_Au_faults_57 : decode b_Au_faults 57 = .ok (.ifCond .eq 18, 3) := by decide +kernel
theorem d_Au_faults_60 : decode b_Au_faults 60 = .ok (.aload_n 0, 1) := by decide +kernel
theorem d_Au_faults_61 : decode b_Au_faults 61 = .ok (.getfield 9, 3) := by decide +kernel
theorem d_Au_faults_64 : decode b_Au_faults 64 = .ok (.iload_n 3, 1) := by decide +kernel
theorem d_Au_faults_65 : decode b_Au_faults 65 = .ok (.invokevirtual 58, 3) := by decide +kernel
theorem d_Au_faults_68 : decode b_Au_faults 68 = .ok (.ifCond .eq 7, 3) := by decide +kernel
theorem d_Au_faults_71 : decode b_Au_faults 71 = .ok (.iconst 1, 1) := by decide +kernel
theorem d_Au_faults_72 : decode b_Au_faults 72 = .ok (.goto 4, 3) := by decide +kernel
theorem d_Au_faults_75 : decode b_Au_faults 75 = .ok (.iconst 0, 1) := by decide +kernel
theorem d_Au_faults_76 : decode b_Au_faults 76 = .ok (.iadd, 1) := by decide +kernel
theorem d_Au_faults_77 : decode b_Au_faults 77 = .ok (.istore_n 1, 1) := by decide +kernel
theorem d_Au_faults_78 : decode b_Au_faults 78 = .ok (.iload_n 1, 1) := by decide +kernel
theorem d_Au_faults_79 : decode b_Au_faults 79 = .ok (.aload_n 0, 1) := by decide +kernel
theorem d_Au_faults_80 : decode b_Au_faults 80 = .ok (.getfield 32, 3) := by decide +kernel
theorem d_Au_faults_83 : decode b_Au_faults 83 = .ok (.iload_n 3, 1) := by decide +kernel
theorem d_Au_faults_84 : decode b_Au_faults 84 = .ok (.iaload, 1) := by decide +kernel
theorem d_Au_faults_85 : decode b_Au_faults 85 = .ok (.iconst 1, 1) := by decide +kernel
theorem d_Au_faults_86 : decode b_Au_faults 86 = .ok (.if_icmp .ne 7, 3) := by decide +kernel
theorem d_Au_faults_89 : decode b_Au_faults 89 = .ok (.iconst 0, 1) := by decide +kernel
theorem d_Au_faults_90 : decode b_Au_faults 90 = .ok (.goto 4, 3) := by decide +kernel
theorem d_Au_faults_93 : decode b_Au_faults 93 = .ok (.iconst 1, 1) := by decide +kernel
theorem d_Au_faults_94 : decode b_Au_faults 94 = .ok (.iadd, 1) := by decide +kernel
theorem d_Au_faults_95 : decode b_Au_faults 95 = .ok (.istore_n 1, 1) := by decide +kernel
theorem d_Au_faults_96 : decode b_Au_faults 96 = .ok (.iload_n 1, 1) := by decide +kernel
theorem d_Au_faults_97 : decode b_Au_faults 97 = .ok (.aload_n 0, 1) := by decide +kernel
theorem d_Au_faults_98 : decode b_Au_faults 98 = .ok (.iload_n 3, 1) := by decide +kernel
theorem d_Au_faults_99 : decode b_Au_faults 99 = .ok (.invokevirtual 61, 3) := by decide +kernel
theorem d_Au_faults_102 : decode b_Au_faults 102 = .ok (.ifCond .eq 7, 3) := by decide +kernel
theorem d_Au_faults_105 : decode b_Au_faults 105 = .ok (.iconst 1, 1) := by decide +kernel
theorem d_Au_faults_106 : decode b_Au_faults 106 = .ok (.goto 4, 3) := by decide +kernel
theorem d_Au_faults_109 : decode b_Au_faults 109 = .ok (.iconst 0, 1) := by decide +kernel
theorem d_Au_faults_110 : decode b_Au_faults 110 = .ok (.iadd, 1) := by decide +kernel
theorem d_Au_faults_111 : decode b_Au_faults 111 = .ok (.istore_n 1, 1) := by decide +kernel
theorem d_Au_faults_112 : decode b_Au_faults 112 = .ok (.iinc 3 1, 3) := by decide +kernel
theorem d_Au_faults_115 : decode b_Au_faults 115 = .ok (.goto (-81), 3) := by decide +kernel
theorem d_Au_faults_118 : decode b_Au_faults 118 = .ok (.iload_n 1, 1) := by decide +kernel
theorem d_Au_faults_119 : decode b_Au_faults 119 = .ok (.ireturn, 1) := by decide +kernel
theorem d_Au_markToTheEnd_0 : decode b_Au_markToTheEnd 0 = .ok (.aload_n 0, 1) := by decide +kernel
theorem d_Au_markToTheEnd_1 : decode b_Au_markToTheEnd 1 = .ok (.getfield 28, 3) := by decide +kernel
theorem d_Au_markToTheEnd_4 : decode b_Au_markToTheEnd 4 = .ok (.aload_n 0, 1) := by decide +kernel
theorem d_Au_markToTheEnd_5 : decode b_Au_markToTheEnd 5 = .ok (.getfield 15, 3) := by decide +kernel
theorem d_Au_markToTheEnd_8 : decode b_Au_markToTheEnd 8 = .ok (.invokevirtual 64, 3) := by decide +kernel
theorem d_Au_markToTheEnd_11 : decode b_Au_markToTheEnd 11 = .ok (.invokevirtual 70, 3) := by decide +kernel
theorem d_Au_markToTheEnd_14 : decode b_Au_markToTheEnd 14 = .ok (.aload_n 0, 1) := by decide +kernel
theorem d_Au_markToTheEnd_15 : decode b_Au_markToTheEnd 15 = .ok (.getfield 15, 3) := by decide +kernel
theorem d_Au_markToTheEnd_18 : decode b_Au_markToTheEnd 18 = .ok (.invokevirtual 74, 3) := by decide +kernel
theorem d_Au_markToTheEnd_21 : decode b_Au_markToTheEnd 21 = .ok (.getstatic 78, 3) := by decide +kernel
theorem d_Au_markToTheEnd_24 : decode b_Au_markToTheEnd 24 = .ok (.if_acmp .ne 7, 3) := by decide +kernel
theorem d_Au_markToTheEnd_27 : decode b_Au_markToTheEnd 27 = .ok (.iconst 1, 1) := by decide +kernel
theorem d_Au_markToTheEnd_28 : decode b_Au_markToTheEnd 28 = .ok (.goto 4, 3) := by decide +kernel
theorem d_Au_markToTheEnd_31 : decode b_Au_markToTheEnd 31 = .ok (.iconst 0, 1) := by decide +kernel
theorem d_Au_markToTheEnd_32 : decode b_Au_markToTheEnd 32 = .ok (.istore_n 1, 1) := by decide +kernel
theorem d_Au_markToTheEnd_33 : decode b_Au_markToTheEnd 33 = .ok (.iconst 0, 1) := by decide +kernel
theorem d_Au_markToTheEnd_34 : decode b_Au_markToTheEnd 34 = .ok (.istore_n 2, 1) := by decide +kernel
theorem d_Au_markToTheEnd_35 : decode b_Au_markToTheEnd 35 = .ok (.iload_n 1, 1) := by decide +kernel
theorem d_Au_markToTheEnd_36 : decode b_Au_markToTheEnd 36 = .ok (.ifCond .eq 33, 3) := by decide +kernel
theorem d_Au_markToTheEnd_39 : decode b_Au_markToTheEnd 39 = .ok (.iload_n 2, 1) := by decide +kernel
theorem d_Au_markToTheEnd_40 : decode b_Au_markToTheEnd 40 = .ok (.sipush 600, 3) := by decide +kernel
theorem d_Au_markToTheEnd_43 : decode b_Au_markToTheEnd 43 = .ok (.if_icmp .ge 26, 3) := by decide +kernel
theorem d_Au_markToTheEnd_46 : decode b_Au_markToTheEnd 46 = .ok (.aload_n 0, 1) := by decide +kernel
theorem d_Au_markToTheEnd_47 : decode b_Au_markToTheEnd 47 = .ok (.getfield 28, 3) := by decide +kernel
theorem d_Au_markToTheEnd_50 : decode b_Au_markToTheEnd 50 = .ok (.invokevirtual 84, 3) := by decide +kernel
theorem d_Au_markToTheEnd_53 : decode b_Au_markToTheEnd 53 = .ok (.ifCond .ne 16, 3) := by decide +kernel
theorem d_Au_markToTheEnd_56 : decode b_Au_markToTheEnd 56 = .ok (.aload_n 0, 1) := by decide +kernel
theorem d_Au_markToTheEnd_57 : decode b_Au_markToTheEnd 57 = .ok (.getfield 28, 3) := by decide +kernel
theorem d_Au_markToTheEnd_60 : decode b_Au_markToTheEnd 60 = .ok (.invokevirtual 88, 3) := by decide +kernel
theorem d_Au_markToTheEnd_63 : decode b_Au_markToTheEnd 63 = .ok (.iinc 2 1, 3) := by decide +kernel
theorem d_Au_markToTheEnd_66 : decode b_Au_markToTheEnd 66 = .ok (.goto (-31), 3) := by decide +kernel
theorem d_Au_markToTheEnd_69 : decode b_Au_markToTheEnd 69 = .ok (.return_, 1) := by decide +kernel
theorem d_Au_isMarkWrong_0 : decode b_Au_isMarkWrong 0 = .ok (.aload_n 0, 1) := by decide +kernel
theorem d_Au_isMarkWrong_1 : decode b_Au_isMarkWrong 1 = .ok (.getfield 9, 3) := by decide +kernel
theorem d_Au_isMarkWrong_4 : decode b_Au_isMarkWrong 4 = .ok (.iload_n 1, 1) := by decide +kernel
theorem d_Au_isMarkWrong_5 : decode b_Au_isMarkWrong 5 = .ok (.invokevirtual 58, 3) := by decide +kernel
theorem d_Au_isMarkWrong_8 : decode b_Au_isMarkWrong 8 = .ok (.ifCond .ne 11, 3) := by decide +kernel
theorem d_Au_isMarkWrong_11 : decode b_Au_isMarkWrong 11 = .ok (.aload_n 0, 1) := by decide +kernel
theorem d_Au_isMarkWrong_12 : decode b_Au_isMarkWrong 12 = .ok (.iload_n 1, 1) := by decide +kernel
theorem d_Au_isMarkWrong_13 : decode b_Au_isMarkWrong 13 = .ok (.invokevirtual 91, 3) := by decide +kernel
theorem d_Au_isMarkWrong_16 : decode b_Au_isMarkWrong 16 = .ok (.ifCond .ne 23, 3) := by decide +kernel
theorem d_Au_isMarkWrong_19 : decode b_Au_isMarkWrong 19 = .ok (.aload_n 0, 1) := by decide +kernel
theorem d_Au_isMarkWrong_20 : decode b_Au_isMarkWrong 20 = .ok (.getfield 15, 3) := by decide +kernel
theorem d_Au_isMarkWrong_23 : decode b_Au_isMarkWrong 23 = .ok (.invokevirtual 64, 3) := by decide +kernel
theorem d_Au_isMarkWrong_26 : decode b_Au_isMarkWrong 26 = .ok (.iload_n 1, 1) := by decide +kernel
theorem d_Au_isMarkWrong_27 : decode b_Au_isMarkWrong 27 = .ok (.invokevirtual 94, 3) := by decide +kernel
theorem d_Au_isMarkWrong_30 : decode b_Au_isMarkWrong 30 = .ok (.ifCond .ne 7, 3) := by decide +kernel
theorem d_Au_isMarkWrong_33 : decode b_Au_isMarkWrong 33 = .ok (.iconst 1, 1) := by decide +kernel
theorem d_Au_isMarkWrong_34 : decode b_Au_isMarkWrong 34 = .ok (.goto 4, 3) := by decide +kernel
theorem d_Au_isMarkWrong_37 : decode b_Au_isMarkWrong 37 = .ok (.iconst 0, 1) := by decide +kernel
theorem d_Au_isMarkWrong_38 : decode b_Au_isMarkWrong 38 = .ok (.ireturn, 1) := by decide +kernel
theorem d_Au_isMarkWrong_39 : decode b_Au_isMarkWrong 39 = .ok (.aload_n 0, 1) := by decide +kernel
theorem d_Au_isMarkWrong_40 : decode b_Au_isMarkWrong 40 = .ok (.getfield 28, 3) := by decide +kernel
theorem d_Au_isMarkWrong_43 : decode b_Au_isMarkWrong 43 = .ok (.iload_n 1, 1) := by decide +kernel
theorem d_Au_isMarkWrong_44 : decode b_Au_isMarkWrong 44 = .ok (.invokevirtual 97, 3) := by decide +kernel
theorem d_Au_isMarkWrong_47 : decode b_Au_isMarkWrong 47 = .ok (.ifCond .ne 25, 3) := by decide +kernel
theorem d_Au_isMarkWrong_50 : decode b_Au_isMarkWrong 50 = .ok (.aload_n 0, 1) := by decide +kernel
theorem d_Au_isMarkWrong_51 : decode b_Au_isMarkWrong 51 = .ok (.getfield 19, 3) := by decide +kernel
theorem d_Au_isMarkWrong_54 : decode b_Au_isMarkWrong 54 = .ok (.iload_n 1, 1) := by decide +kernel
theorem d_Au_isMarkWrong_55 : decode b_Au_isMarkWrong 55 = .ok (.invokevirtual 54, 3) := by decide +kernel
theorem d_Au_isMarkWrong_58 : decode b_Au_isMarkWrong 58 = .ok (.ifCond .eq 18, 3) := by decide +kernel
theorem d_Au_isMarkWrong_61 : decode b_Au_isMarkWrong 61 = .ok (.aload_n 0, 1) := by decide +kernel
theorem d_Au_isMarkWrong_62 : decode b_Au_isMarkWrong 62 = .ok (.getfield 28, 3) := by decide +kernel
theorem d_Au_isMarkWrong_65 : decode b_Au_isMarkWrong 65 = .ok (.iload_n 1, 1) := by decide +kernel
theorem d_Au_isMarkWrong_66 : decode b_Au_isMarkWrong 66 = .ok (.invokevirtual 100, 3) := by decide +kernel
theorem d_Au_isMarkWrong_69 : decode b_Au_isMarkWrong 69 = .ok (.ifCond .ne 7, 3) := by decide +kernel
theorem d_Au_isMarkWrong_72 : decode b_Au_isMarkWrong 72 = .ok (.iconst 1, 1) := by decide +kernel
theorem d_Au_isMarkWrong_73 : decode b_Au_isMarkWrong 73 = .ok (.goto 4, 3) := by decide +kernel
theorem d_Au_isMarkWrong_76 : decode b_Au_isMarkWrong 76 = .ok (.iconst 0, 1) := by decide +kernel
theorem d_Au_isMarkWrong_77 : decode b_Au_isMarkWrong 77 = .ok (.ireturn, 1) := by decide +kernel
theorem d_Au_isMarkInUse_0 : decode b_Au_isMarkInUse 0 = .ok (.aload_n 0, 1) := by decide +kernel
theorem d_Au_isMarkInUse_1 : decode b_Au_isMarkInUse 1 = .ok (.getfield 15, 3) := by decide +kernel
theorem d_Au_isMarkInUse_4 : decode b_Au_isMarkInUse 4 = .ok (.invokevirtual 74, 3) := by decide +kernel
theorem d_Au_isMarkInUse_7 : decode b_Au_isMarkInUse 7 = .ok (.getstatic 78, 3) := by decide +kernel
theorem d_Au_isMarkInUse_10 : decode b_Au_isMarkInUse 10 = .ok (.if_acmp .eq 14, 3) := by decide +kernel
theorem d_Au_isMarkInUse_13 : decode b_Au_isMarkInUse 13 = .ok (.aload_n 0, 1) := by decide +kernel
theorem d_Au_isMarkInUse_14 : decode b_Au_isMarkInUse 14 = .ok (.getfield 15, 3) := by decide +kernel
theorem d_Au_isMarkInUse_17 : decode b_Au_isMarkInUse 17 = .ok (.iload_n 1, 1) := by decide +kernel
theorem d_Au_isMarkInUse_18 : decode b_Au_isMarkInUse 18 = .ok (.invokevirtual 103, 3) := by decide +kernel
theorem d_Au_isMarkInUse_21 : decode b_Au_isMarkInUse 21 = .ok (.ifCond .eq 7, 3) := by decide +kernel
theorem d_Au_isMarkInUse_24 : decode b_Au_isMarkInUse 24 = .ok (.iconst 1, 1) := by decide +kernel
theorem d_Au_isMarkInUse_25 : decode b_Au_isMarkInUse 25 = .ok (.goto 4, 3) := by decide +kernel
theorem d_Au_isMarkInUse_28 : decode b_Au_isMarkInUse 28 = .ok (.iconst 0, 1) := by decide +kernel
theorem d_Au_isMarkInUse_29 : decode b_Au_isMarkInUse 29 = .ok (.ireturn, 1) := by decide +kernel
theorem d_Co_init_0 : decode b_Co_init 0 = .ok (.aload_n 0, 1) := by decide +kernel
theorem d_Co_init_1 : decode b_Co_init 1 = .ok (.invokespecial 3, 3) := by decide +kernel
theorem d_Co_init_4 : decode b_Co_init 4 = .ok (.aload_n 0, 1) := by decide +kernel
theorem d_Co_init_5 : decode b_Co_init 5 = .ok (.aload_n 1, 1) := by decide +kernel
theorem d_Co_init_6 : decode b_Co_init 6 = .ok (.putfield 9, 3) := by decide +kernel
theorem d_Co_init_9 : decode b_Co_init 9 = .ok (.aload_n 0, 1) := by decide +kernel
theorem d_Co_init_10 : decode b_Co_init 10 = .ok (.new 15, 3) := by decide +kernel
theorem d_Co_init_13 : decode b_Co_init 13 = .ok (.dup, 1) := by decide +kernel
theorem d_Co_init_14 : decode b_Co_init 14 = .ok (.aload_n 1, 1) := by decide +kernel
theorem d_Co_init_15 : decode b_Co_init 15 = .ok (.invokespecial 17, 3) := by decide +kernel
theorem d_Co_init_18 : decode b_Co_init 18 = .ok (.putfield 20, 3) := by decide +kernel
theorem d_Co_init_21 : decode b_Co_init 21 = .ok (.aload_n 0, 1) := by decide +kernel
theorem d_Co_init_22 : decode b_Co_init 22 = .ok (.getstatic 24, 3) := by decide +kernel
theorem d_Co_init_25 : decode b_Co_init 25 = .ok (.putfield 30, 3) := by decide +kernel
theorem d_Co_init_28 : decode b_Co_init 28 = .ok (.aload_n 0, 1) := by decide +kernel
theorem d_Co_init_29 : decode b_Co_init 29 = .ok (.iconst 1, 1) := by decide +kernel
theorem d_Co_init_30 : decode b_Co_init 30 = .ok (.putfield 33, 3) := by decide +kernel
theorem d_Co_init_33 : decode b_Co_init 33 = .ok (.return_, 1) := by decide +kernel
theorem d_Co_phase_0 : decode b_Co_phase 0 = .ok (.aload_n 0, 1) := by decide +kernel
theorem d_Co_phase_1 : decode b_Co_phase 1 = .ok (.getfield 30, 3) := by decide +kernel
theorem d_Co_phase_4 : decode b_Co_phase 4 = .ok (.areturn, 1) := by decide +kernel
theorem d_Co_marking_0 : decode b_Co_marking 0 = .ok (.aload_n 0, 1) := by decide +kernel
theorem d_Co_marking_1 : decode b_Co_marking 1 = .ok (.getfield 20, 3) := by decide +kernel
theorem d_Co_marking_4 : decode b_Co_marking 4 = .ok (.areturn, 1) := by decide +kernel
theorem d_Co_work_0 : decode b_Co_work 0 = .ok (.iconst 0, 1) := by decide +kernel
theorem d_Co_work_1 : decode b_Co_work 1 = .ok (.istore_n 2, 1) := by decide +kernel
theorem d_Co_work_2 : decode b_Co_work 2 = .ok (.iload_n 2, 1) := by decide +kernel
theorem d_Co_work_3 : decode b_Co_work 3 = .ok (.iload_n 1, 1) := by decide +kernel
theorem d_Co_work_4 : decode b_Co_work 4 = .ok (.if_icmp .ge 13, 3) := by decide +kernel
theorem d_Co_work_7 : decode b_Co_work 7 = .ok (.aload_n 0, 1) := by decide +kernel
theorem d_Co_work_8 : decode b_Co_work 8 = .ok (.invokevirtual 37, 3) := by decide +kernel
theorem d_Co_work_11 : decode b_Co_work 11 = .ok (.iinc 2 1, 3) := by decide +kernel
theorem d_Co_work_14 : decode b_Co_work 14 = .ok (.goto (-12), 3) := by decide +kernel
theorem d_Co_work_17 : decode b_Co_work 17 = .ok (.return_, 1) := by decide +kernel
theorem d_Co_collectWhole_0 : decode b_Co_collectWhole 0 = .ok (.aload_n 0, 1) := by decide +kernel
theorem d_Co_collectWhole_1 : decode b_Co_collectWhole 1 = .ok (.getfield 20, 3) := by decide +kernel
theorem d_Co_collectWhole_4 : decode b_Co_collectWhole 4 = .ok (.invokevirtual 40, 3) := by decide +kernel
theorem d_Co_collectWhole_7 : decode b_Co_collectWhole 7 = .ok (.aload_n 0, 1) := by decide +kernel
theorem d_Co_collectWhole_8 : decode b_Co_collectWhole 8 = .ok (.invokevirtual 43, 3) := by decide +kernel
theorem d_Co_collectWhole_11 : decode b_Co_collectWhole 11 = .ok (.iconst 0, 1) := by decide +kernel
theorem d_Co_collectWhole_12 : decode b_Co_collectWhole 12 = .ok (.istore_n 1, 1) := by decide +kernel
theorem d_Co_collectWhole_13 : decode b_Co_collectWhole 13 = .ok (.iload_n 1, 1) := by decide +kernel
theorem d_Co_collectWhole_14 : decode b_Co_collectWhole 14 = .ok (.sipush 1200, 3) := by decide +kernel
theorem d_Co_collectWhole_17 : decode b_Co_collectWhole 17 = .ok (.if_icmp .ge 23, 3) := by decide +kernel
theorem d_Co_collectWhole_20 : decode b_Co_collectWhole 20 = .ok (.aload_n 0, 1) := by decide +kernel
theorem d_Co_collectWhole_21 : decode b_Co_collectWhole 21 = .ok (.getfield 30, 3) := by decide +kernel
theorem d_Co_collectWhole_24 : decode b_Co_collectWhole 24 = .ok (.getstatic 24, 3) := by decide +kernel
theorem d_Co_collectWhole_27 : decode b_Co_collectWhole 27 = .ok (.if_acmp .eq 13, 3) := by decide +kernel
theorem d_Co_collectWhole_30 : decode b_Co_collectWhole 30 = .ok (.aload_n 0, 1) := by decide +kernel
theorem d_Co_collectWhole_31 : decode b_Co_collectWhole 31 = .ok (.invokevirtual 37, 3) := by decide +kernel
theorem d_Co_collectWhole_34 : decode b_Co_collectWhole 34 = .ok (.iinc 1 1, 3) := by decide +kernel
theorem d_Co_collectWhole_37 : decode b_Co_collectWhole 37 = .ok (.goto (-24), 3) := by decide +kernel
theorem d_Co_collectWhole_40 : decode b_Co_collectWhole 40 = .ok (.return_, 1) := by decide +kernel
theorem d_Co_allocate_0 : decode b_Co_allocate 0 = .ok (.aload_n 0, 1) := by decide +kernel
theorem d_Co_allocate_1 : decode b_Co_allocate 1 = .ok (.getfield 9, 3) := by decide +kernel
theorem d_Co_allocate_4 : decode b_Co_allocate 4 = .ok (.iload_n 1, 1) := by decide +kernel
theorem d_Co_allocate_5 : decode b_Co_allocate 5 = .ok (.invokevirtual 46, 3) := by decide +kernel
theorem d_Co_allocate_8 : decode b_Co_allocate 8 = .ok (.istore_n 2, 1) := by decide +kernel
theorem d_Co_allocate_9 : decode b_Co_allocate 9 = .ok (.aload_n 0, 1) := by decide +kernel
theorem d_Co_allocate_10 : decode b_Co_allocate 10 = .ok (.getfield 30, 3) := by decide +kernel
theorem d_Co_allocate_13 : decode b_Co_allocate 13 = .ok (.getstatic 52, 3) := by decide +kernel
theorem d_Co_allocate_16 : decode b_Co_allocate 16 = .ok (.if_acmp .eq 11, 3) := by decide +kernel
theorem d_Co_allocate_19 : decode b_Co_allocate 19 = .ok (.aload_n 0, 1) := by decide +kernel
theorem d_Co_allocate_20 : decode b_Co_allocate 20 = .ok (.iload_n 2, 1) := by decide +kernel
theorem d_Co_allocate_21 : decode b_Co_allocate 21 = .ok (.invokevirtual 55, 3) := by decide +kernel
theorem d_Co_allocate_24 : decode b_Co_allocate 24 = .ok (.ifCond .eq 11, 3) := by decide +kernel
theorem d_Co_allocate_27 : decode b_Co_allocate 27 = .ok (.aload_n 0, 1) := by decide +kernel
theorem d_Co_allocate_28 : decode b_Co_allocate 28 = .ok (.getfield 20, 3) := by decide +kernel
theorem d_Co_allocate_31 : decode b_Co_allocate 31 = .ok (.iload_n 2, 1) := by decide +kernel
theorem d_Co_allocate_32 : decode b_Co_allocate 32 = .ok (.invokevirtual 59, 3) := by decide +kernel
theorem d_Co_allocate_35 : decode b_Co_allocate 35 = .ok (.iload_n 2, 1) := by decide +kernel
theorem d_Co_allocate_36 : decode b_Co_allocate 36 = .ok (.ireturn, 1) := by decide +kernel
theorem d_Co_beforeOverwrite_0 : decode b_Co_beforeOverwrite 0 = .ok (.aload_n 0, 1) := by decide +kernel
theorem d_Co_beforeOverwrite_1 : decode b_Co_beforeOverwrite 1 = .ok (.getfield 30, 3) := by decide +kernel
theorem d_Co_beforeOverwrite_4 : decode b_Co_beforeOverwrite 4 = .ok (.getstatic 52, 3) := by decide +kernel
theorem d_Co_beforeOverwrite_7 : decode b_Co_beforeOverwrite 7 = .ok (.if_acmp .ne 18, 3) := by decide +kernel
theorem d_Co_beforeOverwrite_10 : decode b_Co_beforeOverwrite 10 = .ok (.aload_n 0, 1) := by decide +kernel
theorem d_Co_beforeOverwrite_11 : decode b_Co_beforeOverwrite 11 = .ok (.getfield 20, 3) := by decide +kernel
theorem d_Co_beforeOverwrite_14 : decode b_Co_beforeOverwrite 14 = .ok (.aload_n 0, 1) := by decide +kernel
theorem d_Co_beforeOverwrite_15 : decode b_Co_beforeOverwrite 15 = .ok (.getfield 9, 3) := by decide +kernel
theorem d_Co_beforeOverwrite_18 : decode b_Co_beforeOverwrite 18 = .ok (.iload_n 1, 1) := by decide +kernel
theorem d_Co_beforeOverwrite_19 : decode b_Co_beforeOverwrite 19 = .ok (.invokevirtual 63, 3) := by decide +kernel
theorem d_Co_beforeOverwrite_22 : decode b_Co_beforeOverwrite 22 = .ok (.invokevirtual 66, 3) := by decide +kernel
theorem d_Co_beforeOverwrite_25 : decode b_Co_beforeOverwrite 25 = .ok (.return_, 1) := by decide +kernel
theorem d_Co_isYetToBeSwept_0 : decode b_Co_isYetToBeSwept 0 = .ok (.aload_n 0, 1) := by decide +kernel
theorem d_Co_isYetToBeSwept_1 : decode b_Co_isYetToBeSwept 1 = .ok (.getfield 30, 3) := by decide +kernel
theorem d_Co_isYetToBeSwept_4 : decode b_Co_isYetToBeSwept 4 = .ok (.getstatic 69, 3) := by decide +kernel
theorem d_Co_isYetToBeSwept_7 : decode b_Co_isYetToBeSwept 7 = .ok (.if_acmp .ne 15, 3) := by decide +kernel
theorem d_Co_isYetToBeSwept_10 : decode b_Co_isYetToBeSwept 10 = .ok (.iload_n 1, 1) := by decide +kernel
theorem d_Co_isYetToBeSwept_11 : decode b_Co_isYetToBeSwept 11 = .ok (.aload_n 0, 1) := by decide +kernel
theorem d_Co_isYetToBeSwept_12 : decode b_Co_isYetToBeSwept 12 = .ok (.getfield 33, 3) := by decide +kernel
theorem d_Co_isYetToBeSwept_15 : decode b_Co_isYetToBeSwept 15 = .ok (.if_icmp .lt 7, 3) := by decide +kernel
theorem d_Co_isYetToBeSwept_18 : decode b_Co_isYetToBeSwept 18 = .ok (.iconst 1, 1) := by decide +kernel
theorem d_Co_isYetToBeSwept_19 : decode b_Co_isYetToBeSwept 19 = .ok (.goto 4, 3) := by decide +kernel
theorem d_Co_isYetToBeSwept_22 : decode b_Co_isYetToBeSwept 22 = .ok (.iconst 0, 1) := by decide +kernel
theorem d_Co_isYetToBeSwept_23 : decode b_Co_isYetToBeSwept 23 = .ok (.ireturn, 1) := by decide +kernel
theorem d_Co_advance_0 : decode b_Co_advance 0 = .ok (.aload_n 0, 1) := by decide +kernel
theorem d_Co_advance_1 : decode b_Co_advance 1 = .ok (.getfield 30, 3) := by decide +kernel
theorem d_Co_advance_4 : decode b_Co_advance 4 = .ok (.getstatic 24, 3) := by decide +kernel
theorem d_Co_advance_7 : decode b_Co_advance 7 = .ok (.if_acmp .ne 7, 3) := by decide +kernel
theorem d_Co_advance_10 : decode b_Co_advance 10 = .ok (.aload_n 0, 1) := by decide +kernel
theorem d_Co_advance_11 : decode b_Co_advance 11 = .ok (.invokevirtual 43, 3) := by decide +kernel
theorem d_Co_advance_14 : decode b_Co_advance 14 = .ok (.aload_n 0, 1) := by decide +kernel
theorem d_Co_advance_15 : decode b_Co_advance 15 = .ok (.getfield 30, 3) := by decide +kernel
theorem d_Co_advance_18 : decode b_Co_advance 18 = .ok (.getstatic 52, 3) := by decide +kernel
theorem d_Co_advance_21 : decode b_Co_advance 21 = .ok (.if_acmp .ne 25, 3) := by decide +kernel
theorem d_Co_advance_24 : decode b_Co_advance 24 = .ok (.aload_n 0, 1) := by decide +kernel
end
section
theorem d_Co_advance_25 : decode b_Co_advance 25 = .ok (.getfield 20, 3) := by decide +kernel
theorem d_Co_advance_28 : decode b_Co_advance 28 = .ok (.invokevirtual 72, 3) := by decide +kernel
theorem d_Co_advance_31 : decode b_Co_advance 31 = .ok (.ifCond .eq 15, 3) := by decide +kernel
theorem d_Co_advance_34 : decode b_Co_advance 34 = .ok (.aload_n 0, 1) := by decide +kernel
theorem d_Co_advance_35 : decode b_Co_advance 35 = .ok (.getstatic 69, 3) := by decide +kernel
theorem d_Co_advance_38 : decode b_Co_advance 38 = .ok (.putfield 30, 3) := by decide +kernel
theorem d_Co_advance_41 : decode b_Co_advance 41 = .ok (.aload_n 0, 1) := by decide +kernel
theorem d_Co_advance_42 : decode b_Co_advance 42 = .ok (.iconst 1, 1) := by decide +kernel
theorem d_Co_advance_43 : decode b_Co_advance 43 = .ok (.putfield 33, 3) := by decide +kernel
theorem d_Co_advance_46 : decode b_Co_advance 46 = .ok (.aload_n 0, 1) := by decide +kernel
theorem d_Co_advance_47 : decode b_Co_advance 47 = .ok (.getfield 30, 3) := by decide +kernel
theorem d_Co_advance_50 : decode b_Co_advance 50 = .ok (.getstatic 52, 3) := by decide +kernel
theorem d_Co_advance_53 : decode b_Co_advance 53 = .ok (.if_acmp .ne 13, 3) := by decide +kernel
theorem d_Co_advance_56 : decode b_Co_advance 56 = .ok (.aload_n 0, 1) := by decide +kernel
theorem d_Co_advance_57 : decode b_Co_advance 57 = .ok (.getfield 20, 3) := by decide +kernel
theorem d_Co_advance_60 : decode b_Co_advance 60 = .ok (.invokevirtual 76, 3) := by decide +kernel
theorem d_Co_advance_63 : decode b_Co_advance 63 = .ok (.goto 7, 3) := by decide +kernel
theorem d_Co_advance_66 : decode b_Co_advance 66 = .ok (.aload_n 0, 1) := by decide +kernel
theorem d_Co_advance_67 : decode b_Co_advance 67 = .ok (.invokevirtual 79, 3) := by decide +kernel
theorem d_Co_advance_70 : decode b_Co_advance 70 = .ok (.return_, 1) := by decide +kernel
theorem d_Co_begin_0 : decode b_Co_begin 0 = .ok (.aload_n 0, 1) := by decide +kernel
theorem d_Co_begin_1 : decode b_Co_begin 1 = .ok (.getstatic 52, 3) := by decide +kernel
theorem d_Co_begin_4 : decode b_Co_begin 4 = .ok (.putfield 30, 3) := by decide +kernel
theorem d_Co_begin_7 : decode b_Co_begin 7 = .ok (.aload_n 0, 1) := by decide +kernel
theorem d_Co_begin_8 : decode b_Co_begin 8 = .ok (.getfield 20, 3) := by decide +kernel
theorem d_Co_begin_11 : decode b_Co_begin 11 = .ok (.iconst 0, 1) := by decide +kernel
theorem d_Co_begin_12 : decode b_Co_begin 12 = .ok (.invokevirtual 82, 3) := by decide +kernel
theorem d_Co_begin_15 : decode b_Co_begin 15 = .ok (.return_, 1) := by decide +kernel
theorem d_Co_sweepOne_0 : decode b_Co_sweepOne 0 = .ok (.aload_n 0, 1) := by decide +kernel
theorem d_Co_sweepOne_1 : decode b_Co_sweepOne 1 = .ok (.getfield 20, 3) := by decide +kernel
theorem d_Co_sweepOne_4 : decode b_Co_sweepOne 4 = .ok (.aload_n 0, 1) := by decide +kernel
theorem d_Co_sweepOne_5 : decode b_Co_sweepOne 5 = .ok (.getfield 33, 3) := by decide +kernel
theorem d_Co_sweepOne_8 : decode b_Co_sweepOne 8 = .ok (.invokevirtual 85, 3) := by decide +kernel
theorem d_Co_sweepOne_11 : decode b_Co_sweepOne 11 = .ok (.ifCond .eq 17, 3) := by decide +kernel
theorem d_Co_sweepOne_14 : decode b_Co_sweepOne 14 = .ok (.aload_n 0, 1) := by decide +kernel
theorem d_Co_sweepOne_15 : decode b_Co_sweepOne 15 = .ok (.getfield 20, 3) := by decide +kernel
theorem d_Co_sweepOne_18 : decode b_Co_sweepOne 18 = .ok (.aload_n 0, 1) := by decide +kernel
theorem d_Co_sweepOne_19 : decode b_Co_sweepOne 19 = .ok (.getfield 33, 3) := by decide +kernel
theorem d_Co_sweepOne_22 : decode b_Co_sweepOne 22 = .ok (.invokevirtual 88, 3) := by decide +kernel
theorem d_Co_sweepOne_25 : decode b_Co_sweepOne 25 = .ok (.goto 28, 3) := by decide +kernel
theorem d_Co_sweepOne_28 : decode b_Co_sweepOne 28 = .ok (.aload_n 0, 1) := by decide +kernel
theorem d_Co_sweepOne_29 : decode b_Co_sweepOne 29 = .ok (.getfield 9, 3) := by decide +kernel
theorem d_Co_sweepOne_32 : decode b_Co_sweepOne 32 = .ok (.aload_n 0, 1) := by decide +kernel
theorem d_Co_sweepOne_33 : decode b_Co_sweepOne 33 = .ok (.getfield 33, 3) := by decide +kernel
theorem d_Co_sweepOne_36 : decode b_Co_sweepOne 36 = .ok (.invokevirtual 91, 3) := by decide +kernel
theorem d_Co_sweepOne_39 : decode b_Co_sweepOne 39 = .ok (.ifCond .ne 14, 3) := by decide +kernel
theorem d_Co_sweepOne_42 : decode b_Co_sweepOne 42 = .ok (.aload_n 0, 1) := by decide +kernel
theorem d_Co_sweepOne_43 : decode b_Co_sweepOne 43 = .ok (.getfield 9, 3) := by decide +kernel
theorem d_Co_sweepOne_46 : decode b_Co_sweepOne 46 = .ok (.aload_n 0, 1) := by decide +kernel
theorem d_Co_sweepOne_47 : decode b_Co_sweepOne 47 = .ok (.getfield 33, 3) := by decide +kernel
theorem d_Co_sweepOne_50 : decode b_Co_sweepOne 50 = .ok (.invokevirtual 94, 3) := by decide +kernel
theorem d_Co_sweepOne_53 : decode b_Co_sweepOne 53 = .ok (.aload_n 0, 1) := by decide +kernel
theorem d_Co_sweepOne_54 : decode b_Co_sweepOne 54 = .ok (.dup, 1) := by decide +kernel
theorem d_Co_sweepOne_55 : decode b_Co_sweepOne 55 = .ok (.getfield 33, 3) := by decide +kernel
theorem d_Co_sweepOne_58 : decode b_Co_sweepOne 58 = .ok (.iconst 1, 1) := by decide +kernel
theorem d_Co_sweepOne_59 : decode b_Co_sweepOne 59 = .ok (.iadd, 1) := by decide +kernel
theorem d_Co_sweepOne_60 : decode b_Co_sweepOne 60 = .ok (.putfield 33, 3) := by decide +kernel
theorem d_Co_sweepOne_63 : decode b_Co_sweepOne 63 = .ok (.aload_n 0, 1) := by decide +kernel
theorem d_Co_sweepOne_64 : decode b_Co_sweepOne 64 = .ok (.getfield 33, 3) := by decide +kernel
theorem d_Co_sweepOne_67 : decode b_Co_sweepOne 67 = .ok (.aload_n 0, 1) := by decide +kernel
theorem d_Co_sweepOne_68 : decode b_Co_sweepOne 68 = .ok (.getfield 9, 3) := by decide +kernel
theorem d_Co_sweepOne_71 : decode b_Co_sweepOne 71 = .ok (.invokevirtual 97, 3) := by decide +kernel
theorem d_Co_sweepOne_74 : decode b_Co_sweepOne 74 = .ok (.if_icmp .le 10, 3) := by decide +kernel
theorem d_Co_sweepOne_77 : decode b_Co_sweepOne 77 = .ok (.aload_n 0, 1) := by decide +kernel
theorem d_Co_sweepOne_78 : decode b_Co_sweepOne 78 = .ok (.getstatic 24, 3) := by decide +kernel
theorem d_Co_sweepOne_81 : decode b_Co_sweepOne 81 = .ok (.putfield 30, 3) := by decide +kernel
theorem d_Co_sweepOne_84 : decode b_Co_sweepOne 84 = .ok (.return_, 1) := by decide +kernel
theorem d_Ma_init_0 : decode b_Ma_init 0 = .ok (.aload_n 0, 1) := by decide +kernel
theorem d_Ma_init_1 : decode b_Ma_init 1 = .ok (.invokespecial 3, 3) := by decide +kernel
theorem d_Ma_init_4 : decode b_Ma_init 4 = .ok (.aload_n 0, 1) := by decide +kernel
theorem d_Ma_init_5 : decode b_Ma_init 5 = .ok (.aload_n 1, 1) := by decide +kernel
theorem d_Ma_init_6 : decode b_Ma_init 6 = .ok (.putfield 9, 3) := by decide +kernel
theorem d_Ma_init_9 : decode b_Ma_init 9 = .ok (.aload_n 0, 1) := by decide +kernel
theorem d_Ma_init_10 : decode b_Ma_init 10 = .ok (.sipush 601, 3) := by decide +kernel
theorem d_Ma_init_13 : decode b_Ma_init 13 = .ok (.newarray .int, 2) := by decide +kernel
theorem d_Ma_init_15 : decode b_Ma_init 15 = .ok (.putfield 15, 3) := by decide +kernel
theorem d_Ma_init_18 : decode b_Ma_init 18 = .ok (.aload_n 0, 1) := by decide +kernel
theorem d_Ma_init_19 : decode b_Ma_init 19 = .ok (.sipush 600, 3) := by decide +kernel
theorem d_Ma_init_22 : decode b_Ma_init 22 = .ok (.newarray .int, 2) := by decide +kernel
theorem d_Ma_init_24 : decode b_Ma_init 24 = .ok (.putfield 19, 3) := by decide +kernel
theorem d_Ma_init_27 : decode b_Ma_init 27 = .ok (.aload_n 0, 1) := by decide +kernel
theorem d_Ma_init_28 : decode b_Ma_init 28 = .ok (.iconst 0, 1) := by decide +kernel
theorem d_Ma_init_29 : decode b_Ma_init 29 = .ok (.putfield 22, 3) := by decide +kernel
theorem d_Ma_init_32 : decode b_Ma_init 32 = .ok (.return_, 1) := by decide +kernel
theorem d_Ma_reset_0 : decode b_Ma_reset 0 = .ok (.aload_n 0, 1) := by decide +kernel
theorem d_Ma_reset_1 : decode b_Ma_reset 1 = .ok (.getfield 15, 3) := by decide +kernel
theorem d_Ma_reset_4 : decode b_Ma_reset 4 = .ok (.iconst 0, 1) := by decide +kernel
theorem d_Ma_reset_5 : decode b_Ma_reset 5 = .ok (.invokestatic 26, 3) := by decide +kernel
theorem d_Ma_reset_8 : decode b_Ma_reset 8 = .ok (.aload_n 0, 1) := by decide +kernel
theorem d_Ma_reset_9 : decode b_Ma_reset 9 = .ok (.iconst 0, 1) := by decide +kernel
theorem d_Ma_reset_10 : decode b_Ma_reset 10 = .ok (.putfield 22, 3) := by decide +kernel
theorem d_Ma_reset_13 : decode b_Ma_reset 13 = .ok (.return_, 1) := by decide +kernel
theorem d_Ma_imitate_0 : decode b_Ma_imitate 0 = .ok (.aload_n 1, 1) := by decide +kernel
theorem d_Ma_imitate_1 : decode b_Ma_imitate 1 = .ok (.getfield 15, 3) := by decide +kernel
theorem d_Ma_imitate_4 : decode b_Ma_imitate 4 = .ok (.iconst 0, 1) := by decide +kernel
theorem d_Ma_imitate_5 : decode b_Ma_imitate 5 = .ok (.aload_n 0, 1) := by decide +kernel
theorem d_Ma_imitate_6 : decode b_Ma_imitate 6 = .ok (.getfield 15, 3) := by decide +kernel
theorem d_Ma_imitate_9 : decode b_Ma_imitate 9 = .ok (.iconst 0, 1) := by decide +kernel
theorem d_Ma_imitate_10 : decode b_Ma_imitate 10 = .ok (.aload_n 0, 1) := by decide +kernel
theorem d_Ma_imitate_11 : decode b_Ma_imitate 11 = .ok (.getfield 15, 3) := by decide +kernel
theorem d_Ma_imitate_14 : decode b_Ma_imitate 14 = .ok (.arraylength, 1) := by decide +kernel
theorem d_Ma_imitate_15 : decode b_Ma_imitate 15 = .ok (.invokestatic 32, 3) := by decide +kernel
theorem d_Ma_imitate_18 : decode b_Ma_imitate 18 = .ok (.aload_n 1, 1) := by decide +kernel
theorem d_Ma_imitate_19 : decode b_Ma_imitate 19 = .ok (.getfield 19, 3) := by decide +kernel
theorem d_Ma_imitate_22 : decode b_Ma_imitate 22 = .ok (.iconst 0, 1) := by decide +kernel
theorem d_Ma_imitate_23 : decode b_Ma_imitate 23 = .ok (.aload_n 0, 1) := by decide +kernel
theorem d_Ma_imitate_24 : decode b_Ma_imitate 24 = .ok (.getfield 19, 3) := by decide +kernel
theorem d_Ma_imitate_27 : decode b_Ma_imitate 27 = .ok (.iconst 0, 1) := by decide +kernel
theorem d_Ma_imitate_28 : decode b_Ma_imitate 28 = .ok (.aload_n 0, 1) := by decide +kernel
theorem d_Ma_imitate_29 : decode b_Ma_imitate 29 = .ok (.getfield 19, 3) := by decide +kernel
theorem d_Ma_imitate_32 : decode b_Ma_imitate 32 = .ok (.arraylength, 1) := by decide +kernel
theorem d_Ma_imitate_33 : decode b_Ma_imitate 33 = .ok (.invokestatic 32, 3) := by decide +kernel
theorem d_Ma_imitate_36 : decode b_Ma_imitate 36 = .ok (.aload_n 0, 1) := by decide +kernel
theorem d_Ma_imitate_37 : decode b_Ma_imitate 37 = .ok (.aload_n 1, 1) := by decide +kernel
theorem d_Ma_imitate_38 : decode b_Ma_imitate 38 = .ok (.getfield 22, 3) := by decide +kernel
theorem d_Ma_imitate_41 : decode b_Ma_imitate 41 = .ok (.putfield 22, 3) := by decide +kernel
theorem d_Ma_imitate_44 : decode b_Ma_imitate 44 = .ok (.return_, 1) := by decide +kernel
theorem d_Ma_isDone_0 : decode b_Ma_isDone 0 = .ok (.aload_n 0, 1) := by decide +kernel
theorem d_Ma_isDone_1 : decode b_Ma_isDone 1 = .ok (.getfield 22, 3) := by decide +kernel
theorem d_Ma_isDone_4 : decode b_Ma_isDone 4 = .ok (.ifCond .ne 7, 3) := by decide +kernel
theorem d_Ma_isDone_7 : decode b_Ma_isDone 7 = .ok (.iconst 1, 1) := by decide +kernel
theorem d_Ma_isDone_8 : decode b_Ma_isDone 8 = .ok (.goto 4, 3) := by decide +kernel
theorem d_Ma_isDone_11 : decode b_Ma_isDone 11 = .ok (.iconst 0, 1) := by decide +kernel
theorem d_Ma_isDone_12 : decode b_Ma_isDone 12 = .ok (.ireturn, 1) := by decide +kernel
theorem d_Ma_isWhite_0 : decode b_Ma_isWhite 0 = .ok (.aload_n 0, 1) := by decide +kernel
theorem d_Ma_isWhite_1 : decode b_Ma_isWhite 1 = .ok (.getfield 9, 3) := by decide +kernel
theorem d_Ma_isWhite_4 : decode b_Ma_isWhite 4 = .ok (.iload_n 1, 1) := by decide +kernel
theorem d_Ma_isWhite_5 : decode b_Ma_isWhite 5 = .ok (.invokevirtual 38, 3) := by decide +kernel
theorem d_Ma_isWhite_8 : decode b_Ma_isWhite 8 = .ok (.ifCond .eq 16, 3) := by decide +kernel
theorem d_Ma_isWhite_11 : decode b_Ma_isWhite 11 = .ok (.aload_n 0, 1) := by decide +kernel
theorem d_Ma_isWhite_12 : decode b_Ma_isWhite 12 = .ok (.getfield 15, 3) := by decide +kernel
theorem d_Ma_isWhite_15 : decode b_Ma_isWhite 15 = .ok (.iload_n 1, 1) := by decide +kernel
theorem d_Ma_isWhite_16 : decode b_Ma_isWhite 16 = .ok (.iaload, 1) := by decide +kernel
theorem d_Ma_isWhite_17 : decode b_Ma_isWhite 17 = .ok (.ifCond .ne 7, 3) := by decide +kernel
theorem d_Ma_isWhite_20 : decode b_Ma_isWhite 20 = .ok (.iconst 1, 1) := by decide +kernel
theorem d_Ma_isWhite_21 : decode b_Ma_isWhite 21 = .ok (.goto 4, 3) := by decide +kernel
theorem d_Ma_isWhite_24 : decode b_Ma_isWhite 24 = .ok (.iconst 0, 1) := by decide +kernel
theorem d_Ma_isWhite_25 : decode b_Ma_isWhite 25 = .ok (.ireturn, 1) := by decide +kernel
theorem d_Ma_isGrey_0 : decode b_Ma_isGrey 0 = .ok (.aload_n 0, 1) := by decide +kernel
theorem d_Ma_isGrey_1 : decode b_Ma_isGrey 1 = .ok (.getfield 9, 3) := by decide +kernel
theorem d_Ma_isGrey_4 : decode b_Ma_isGrey 4 = .ok (.iload_n 1, 1) := by decide +kernel
theorem d_Ma_isGrey_5 : decode b_Ma_isGrey 5 = .ok (.invokevirtual 38, 3) := by decide +kernel
theorem d_Ma_isGrey_8 : decode b_Ma_isGrey 8 = .ok (.ifCond .eq 17, 3) := by decide +kernel
theorem d_Ma_isGrey_11 : decode b_Ma_isGrey 11 = .ok (.aload_n 0, 1) := by decide +kernel
theorem d_Ma_isGrey_12 : decode b_Ma_isGrey 12 = .ok (.getfield 15, 3) := by decide +kernel
theorem d_Ma_isGrey_15 : decode b_Ma_isGrey 15 = .ok (.iload_n 1, 1) := by decide +kernel
theorem d_Ma_isGrey_16 : decode b_Ma_isGrey 16 = .ok (.iaload, 1) := by decide +kernel
theorem d_Ma_isGrey_17 : decode b_Ma_isGrey 17 = .ok (.iconst 1, 1) := by decide +kernel
theorem d_Ma_isGrey_18 : decode b_Ma_isGrey 18 = .ok (.if_icmp .ne 7, 3) := by decide +kernel
theorem d_Ma_isGrey_21 : decode b_Ma_isGrey 21 = .ok (.iconst 1, 1) := by decide +kernel
theorem d_Ma_isGrey_22 : decode b_Ma_isGrey 22 = .ok (.goto 4, 3) := by decide +kernel
theorem d_Ma_isGrey_25 : decode b_Ma_isGrey 25 = .ok (.iconst 0, 1) := by decide +kernel
theorem d_Ma_isGrey_26 : decode b_Ma_isGrey 26 = .ok (.ireturn, 1) := by decide +kernel
theorem d_Ma_isBlack_0 : decode b_Ma_isBlack 0 = .ok (.aload_n 0, 1) := by decide +kernel
theorem d_Ma_isBlack_1 : decode b_Ma_isBlack 1 = .ok (.getfield 9, 3) := by decide +kernel
theorem d_Ma_isBlack_4 : decode b_Ma_isBlack 4 = .ok (.iload_n 1, 1) := by decide +kernel
theorem d_Ma_isBlack_5 : decode b_Ma_isBlack 5 = .ok (.invokevirtual 38, 3) := by decide +kernel
theorem d_Ma_isBlack_8 : decode b_Ma_isBlack 8 = .ok (.ifCond .eq 17, 3) := by decide +kernel
theorem d_Ma_isBlack_11 : decode b_Ma_isBlack 11 = .ok (.aload_n 0, 1) := by decide +kernel
theorem d_Ma_isBlack_12 : decode b_Ma_isBlack 12 = .ok (.getfield 15, 3) := by decide +kernel
theorem d_Ma_isBlack_15 : decode b_Ma_isBlack 15 = .ok (.iload_n 1, 1) := by decide +kernel
theorem d_Ma_isBlack_16 : decode b_Ma_isBlack 16 = .ok (.iaload, 1) := by decide +kernel
theorem d_Ma_isBlack_17 : decode b_Ma_isBlack 17 = .ok (.iconst 2, 1) := by decide +kernel
theorem d_Ma_isBlack_18 : decode b_Ma_isBlack 18 = .ok (.if_icmp .ne 7, 3) := by decide +kernel
theorem d_Ma_isBlack_21 : decode b_Ma_isBlack 21 = .ok (.iconst 1, 1) := by decide +kernel
theorem d_Ma_isBlack_22 : decode b_Ma_isBlack 22 = .ok (.goto 4, 3) := by decide +kernel
theorem d_Ma_isBlack_25 : decode b_Ma_isBlack 25 = .ok (.iconst 0, 1) := by decide +kernel
theorem d_Ma_isBlack_26 : decode b_Ma_isBlack 26 = .ok (.ireturn, 1) := by decide +kernel
theorem d_Ma_whiten_0 : decode b_Ma_whiten 0 = .ok (.aload_n 0, 1) := by decide +kernel
theorem d_Ma_whiten_1 : decode b_Ma_whiten 1 = .ok (.getfield 9, 3) := by decide +kernel
theorem d_Ma_whiten_4 : decode b_Ma_whiten 4 = .ok (.iload_n 1, 1) := by decide +kernel
theorem d_Ma_whiten_5 : decode b_Ma_whiten 5 = .ok (.invokevirtual 38, 3) := by decide +kernel
theorem d_Ma_whiten_8 : decode b_Ma_whiten 8 = .ok (.ifCond .eq 10, 3) := by decide +kernel
theorem d_Ma_whiten_11 : decode b_Ma_whiten 11 = .ok (.aload_n 0, 1) := by decide +kernel
theorem d_Ma_whiten_12 : decode b_Ma_whiten 12 = .ok (.getfield 15, 3) := by decide +kernel
theorem d_Ma_whiten_15 : decode b_Ma_whiten 15 = .ok (.iload_n 1, 1) := by decide +kernel
theorem d_Ma_whiten_16 : decode b_Ma_whiten 16 = .ok (.iconst 0, 1) := by decide +kernel
theorem d_Ma_whiten_17 : decode b_Ma_whiten 17 = .ok (.iastore, 1) := by decide +kernel
theorem d_Ma_whiten_18 : decode b_Ma_whiten 18 = .ok (.return_, 1) := by decide +kernel
theorem d_Ma_blacken_0 : decode b_Ma_blacken 0 = .ok (.aload_n 0, 1) := by decide +kernel
theorem d_Ma_blacken_1 : decode b_Ma_blacken 1 = .ok (.getfield 9, 3) := by decide +kernel
theorem d_Ma_blacken_4 : decode b_Ma_blacken 4 = .ok (.iload_n 1, 1) := by decide +kernel
theorem d_Ma_blacken_5 : decode b_Ma_blacken 5 = .ok (.invokevirtual 38, 3) := by decide +kernel
theorem d_Ma_blacken_8 : decode b_Ma_blacken 8 = .ok (.ifCond .eq 10, 3) := by decide +kernel
theorem d_Ma_blacken_11 : decode b_Ma_blacken 11 = .ok (.aload_n 0, 1) := by decide +kernel
theorem d_Ma_blacken_12 : decode b_Ma_blacken 12 = .ok (.getfield 15, 3) := by decide +kernel
theorem d_Ma_blacken_15 : decode b_Ma_blacken 15 = .ok (.iload_n 1, 1) := by decide +kernel
theorem d_Ma_blacken_16 : decode b_Ma_blacken 16 = .ok (.iconst 2, 1) := by decide +kernel
theorem d_Ma_blacken_17 : decode b_Ma_blacken 17 = .ok (.iastore, 1) := by decide +kernel
theorem d_Ma_blacken_18 : decode b_Ma_blacken 18 = .ok (.return_, 1) := by decide +kernel
theorem d_Ma_shade_0 : decode b_Ma_shade 0 = .ok (.aload_n 0, 1) := by decide +kernel
theorem d_Ma_shade_1 : decode b_Ma_shade 1 = .ok (.getfield 9, 3) := by decide +kernel
theorem d_Ma_shade_4 : decode b_Ma_shade 4 = .ok (.iload_n 1, 1) := by decide +kernel
theorem d_Ma_shade_5 : decode b_Ma_shade 5 = .ok (.invokevirtual 38, 3) := by decide +kernel
theorem d_Ma_shade_8 : decode b_Ma_shade 8 = .ok (.ifCond .eq 51, 3) := by decide +kernel
theorem d_Ma_shade_11 : decode b_Ma_shade 11 = .ok (.aload_n 0, 1) := by decide +kernel
theorem d_Ma_shade_12 : decode b_Ma_shade 12 = .ok (.getfield 15, 3) := by decide +kernel
theorem d_Ma_shade_15 : decode b_Ma_shade 15 = .ok (.iload_n 1, 1) := by decide +kernel
theorem d_Ma_shade_16 : decode b_Ma_shade 16 = .ok (.iaload, 1) := by decide +kernel
theorem d_Ma_shade_17 : decode b_Ma_shade 17 = .ok (.ifCond .ne 42, 3) := by decide +kernel
theorem d_Ma_shade_20 : decode b_Ma_shade 20 = .ok (.aload_n 0, 1) := by decide +kernel
theorem d_Ma_shade_21 : decode b_Ma_shade 21 = .ok (.getfield 22, 3) := by decide +kernel
theorem d_Ma_shade_24 : decode b_Ma_shade 24 = .ok (.aload_n 0, 1) := by decide +kernel
theorem d_Ma_shade_25 : decode b_Ma_shade 25 = .ok (.getfield 19, 3) := by decide +kernel
theorem d_Ma_shade_28 : decode b_Ma_shade 28 = .ok (.arraylength, 1) := by decide +kernel
theorem d_Ma_shade_29 : decode b_Ma_shade 29 = .ok (.if_icmp .ge 30, 3) := by decide +kernel
theorem d_Ma_shade_32 : decode b_Ma_shade 32 = .ok (.aload_n 0, 1) := by decide +kernel
theorem d_Ma_shade_33 : decode b_Ma_shade 33 = .ok (.getfield 15, 3) := by decide +kernel
theorem d_Ma_shade_36 : decode b_Ma_shade 36 = .ok (.iload_n 1, 1) := by decide +kernel
theorem d_Ma_shade_37 : decode b_Ma_shade 37 = .ok (.iconst 1, 1) := by decide +kernel
theorem d_Ma_shade_38 : decode b_Ma_shade 38 = .ok (.iastore, 1) := by decide +kernel
theorem d_Ma_shade_39 : decode b_Ma_shade 39 = .ok (.aload_n 0, 1) := by decide +kernel
theorem d_Ma_shade_40 : decode b_Ma_shade 40 = .ok (.getfield 19, 3) := by decide +kernel
theorem d_Ma_shade_43 : decode b_Ma_shade 43 = .ok (.aload_n 0, 1) := by decide +kernel
theorem d_Ma_shade_44 : decode b_Ma_shade 44 = .ok (.getfield 22, 3) := by decide +kernel
theorem d_Ma_shade_47 : decode b_Ma_shade 47 = .ok (.iload_n 1, 1) := by decide +kernel
theorem d_Ma_shade_48 : decode b_Ma_shade 48 = .ok (.iastore, 1) := by decide +kernel
theorem d_Ma_shade_49 : decode b_Ma_shade 49 = .ok (.aload_n 0, 1) := by decide +kernel
theorem d_Ma_shade_50 : decode b_Ma_shade 50 = .ok (.dup, 1) := by decide +kernel
theorem d_Ma_shade_51 : decode b_Ma_shade 51 = .ok (.getfield 22, 3) := by decide +kernel
theorem d_Ma_shade_54 : decode b_Ma_shade 54 = .ok (.iconst 1, 1) := by decide +kernel
theorem d_Ma_shade_55 : decode b_Ma_shade 55 = .ok (.iadd, 1) := by decide +kernel
theorem d_Ma_shade_56 : decode b_Ma_shade 56 = .ok (.putfield 22, 3) := by decide +kernel
theorem d_Ma_shade_59 : decode b_Ma_shade 59 = .ok (.return_, 1) := by decide +kernel
theorem d_Ma_shadeValuesOf_0 : decode b_Ma_shadeValuesOf 0 = .ok (.aload_n 0, 1) := by decide +kernel
theorem d_Ma_shadeValuesOf_1 : decode b_Ma_shadeValuesOf 1 = .ok (.getfield 9, 3) := by decide +kernel
theorem d_Ma_shadeValuesOf_4 : decode b_Ma_shadeValuesOf 4 = .ok (.iload_n 1, 1) := by decide +kernel
theorem d_Ma_shadeValuesOf_5 : decode b_Ma_shadeValuesOf 5 = .ok (.invokevirtual 44, 3) := by decide +kernel
theorem d_Ma_shadeValuesOf_8 : decode b_Ma_shadeValuesOf 8 = .ok (.istore_n 2, 1) := by decide +kernel
theorem d_Ma_shadeValuesOf_9 : decode b_Ma_shadeValuesOf 9 = .ok (.iconst 0, 1) := by decide +kernel
theorem d_Ma_shadeValuesOf_10 : decode b_Ma_shadeValuesOf 10 = .ok (.istore_n 3, 1) := by decide +kernel
theorem d_Ma_shadeValuesOf_11 : decode b_Ma_shadeValuesOf 11 = .ok (.iload_n 3, 1) := by decide +kernel
theorem d_Ma_shadeValuesOf_12 : decode b_Ma_shadeValuesOf 12 = .ok (.iload_n 2, 1) := by decide +kernel
theorem d_Ma_shadeValuesOf_13 : decode b_Ma_shadeValuesOf 13 = .ok (.if_icmp .ge 25, 3) := by decide +kernel
theorem d_Ma_shadeValuesOf_16 : decode b_Ma_shadeValuesOf 16 = .ok (.aload_n 0, 1) := by decide +kernel
theorem d_Ma_shadeValuesOf_17 : decode b_Ma_shadeValuesOf 17 = .ok (.aload_n 0, 1) := by decide +kernel
theorem d_Ma_shadeValuesOf_18 : decode b_Ma_shadeValuesOf 18 = .ok (.getfield 9, 3) := by decide +kernel
theorem d_Ma_shadeValuesOf_21 : decode b_Ma_shadeValuesOf 21 = .ok (.iload_n 1, 1) := by decide +kernel
theorem d_Ma_shadeValuesOf_22 : decode b_Ma_shadeValuesOf 22 = .ok (.iload_n 3, 1) := by decide +kernel
theorem d_Ma_shadeValuesOf_23 : decode b_Ma_shadeValuesOf 23 = .ok (.invokestatic 48, 3) := by decide +kernel
theorem d_Ma_shadeValuesOf_26 : decode b_Ma_shadeValuesOf 26 = .ok (.invokevirtual 52, 3) := by decide +kernel
theorem d_Ma_shadeValuesOf_29 : decode b_Ma_shadeValuesOf 29 = .ok (.invokevirtual 55, 3) := by decide +kernel
theorem d_Ma_shadeValuesOf_32 : decode b_Ma_shadeValuesOf 32 = .ok (.iinc 3 1, 3) := by decide +kernel
theorem d_Ma_shadeValuesOf_35 : decode b_Ma_shadeValuesOf 35 = .ok (.goto (-24), 3) := by decide +kernel
theorem d_Ma_shadeValuesOf_38 : decode b_Ma_shadeValuesOf 38 = .ok (.return_, 1) := by decide +kernel
theorem d_Ma_markOne_0 : decode b_Ma_markOne 0 = .ok (.aload_n 0, 1) := by decide +kernel
theorem d_Ma_markOne_1 : decode b_Ma_markOne 1 = .ok (.getfield 22, 3) := by decide +kernel
theorem d_Ma_markOne_4 : decode b_Ma_markOne 4 = .ok (.ifCond .le 33, 3) := by decide +kernel
theorem d_Ma_markOne_7 : decode b_Ma_markOne 7 = .ok (.aload_n 0, 1) := by decide +kernel
theorem d_Ma_markOne_8 : decode b_Ma_markOne 8 = .ok (.dup, 1) := by decide +kernel
theorem d_Ma_markOne_9 : decode b_Ma_markOne 9 = .ok (.getfield 22, 3) := by decide +kernel
theorem d_Ma_markOne_12 : decode b_Ma_markOne 12 = .ok (.iconst 1, 1) := by decide +kernel
theorem d_Ma_markOne_13 : decode b_Ma_markOne 13 = .ok (.isub, 1) := by decide +kernel
theorem d_Ma_markOne_14 : decode b_Ma_markOne 14 = .ok (.putfield 22, 3) := by decide +kernel
theorem d_Ma_markOne_17 : decode b_Ma_markOne 17 = .ok (.aload_n 0, 1) := by decide +kernel
theorem d_Ma_markOne_18 : decode b_Ma_markOne 18 = .ok (.getfield 19, 3) := by decide +kernel
theorem d_Ma_markOne_21 : decode b_Ma_markOne 21 = .ok (.aload_n 0, 1) := by decide +kernel
theorem d_Ma_markOne_22 : decode b_Ma_markOne 22 = .ok (.getfield 22, 3) := by decide +kernel
theorem d_Ma_markOne_25 : decode b_Ma_markOne 25 = .ok (.iaload, 1) := by decide +kernel
theorem d_Ma_markOne_26 : decode b_Ma_markOne 26 = .ok (.istore_n 1, 1) := by decide +kernel
theorem d_Ma_markOne_27 : decode b_Ma_markOne 27 = .ok (.aload_n 0, 1) := by decide +kernel
theorem d_Ma_markOne_28 : decode b_Ma_markOne 28 = .ok (.iload_n 1, 1) := by decide +kernel
theorem d_Ma_markOne_29 : decode b_Ma_markOne 29 = .ok (.invokevirtual 59, 3) := by decide +kernel
theorem d_Ma_markOne_32 : decode b_Ma_markOne 32 = .ok (.aload_n 0, 1) := by decide +kernel
theorem d_Ma_markOne_33 : decode b_Ma_markOne 33 = .ok (.iload_n 1, 1) := by decide +kernel
theorem d_Ma_markOne_34 : decode b_Ma_markOne 34 = .ok (.invokevirtual 62, 3) := by decide +kernel
theorem d_Ma_markOne_37 : decode b_Ma_markOne 37 = .ok (.return_, 1) := by decide +kernel
theorem d_St_init_0 : decode b_St_init 0 = .ok (.aload_n 0, 1) := by decide +kernel
theorem d_St_init_1 : decode b_St_init 1 = .ok (.invokespecial 3, 3) := by decide +kernel
theorem d_St_init_4 : decode b_St_init 4 = .ok (.aload_n 0, 1) := by decide +kernel
theorem d_St_init_5 : decode b_St_init 5 = .ok (.sipush 601, 3) := by decide +kernel
theorem d_St_init_8 : decode b_St_init 8 = .ok (.newarray .int, 2) := by decide +kernel
theorem d_St_init_10 : decode b_St_init 10 = .ok (.putfield 9, 3) := by decide +kernel
theorem d_St_init_13 : decode b_St_init 13 = .ok (.aload_n 0, 1) := by decide +kernel
theorem d_St_init_14 : decode b_St_init 14 = .ok (.sipush 9616, 3) := by decide +kernel
theorem d_St_init_17 : decode b_St_init 17 = .ok (.newarray .int, 2) := by decide +kernel
theorem d_St_init_19 : decode b_St_init 19 = .ok (.putfield 15, 3) := by decide +kernel
theorem d_St_init_22 : decode b_St_init 22 = .ok (.aload_n 0, 1) := by decide +kernel
theorem d_St_init_23 : decode b_St_init 23 = .ok (.sipush 9616, 3) := by decide +kernel
theorem d_St_init_26 : decode b_St_init 26 = .ok (.newarray .long, 2) := by decide +kernel
theorem d_St_init_28 : decode b_St_init 28 = .ok (.putfield 18, 3) := by decide +kernel
theorem d_St_init_31 : decode b_St_init 31 = .ok (.aload_n 0, 1) := by decide +kernel
theorem d_St_init_32 : decode b_St_init 32 = .ok (.sipush 600, 3) := by decide +kernel
theorem d_St_init_35 : decode b_St_init 35 = .ok (.newarray .int, 2) := by decide +kernel
theorem d_St_init_37 : decode b_St_init 37 = .ok (.putfield 22, 3) := by decide +kernel
theorem d_St_init_40 : decode b_St_init 40 = .ok (.aload_n 0, 1) := by decide +kernel
theorem d_St_init_41 : decode b_St_init 41 = .ok (.iconst 0, 1) := by decide +kernel
theorem d_St_init_42 : decode b_St_init 42 = .ok (.putfield 25, 3) := by decide +kernel
theorem d_St_init_45 : decode b_St_init 45 = .ok (.aload_n 0, 1) := by decide +kernel
theorem d_St_init_46 : decode b_St_init 46 = .ok (.iconst 0, 1) := by decide +kernel
theorem d_St_init_47 : decode b_St_init 47 = .ok (.putfield 29, 3) := by decide +kernel
theorem d_St_init_50 : decode b_St_init 50 = .ok (.aload_n 0, 1) := by decide +kernel
theorem d_St_init_51 : decode b_St_init 51 = .ok (.iconst 0, 1) := by decide +kernel
theorem d_St_init_52 : decode b_St_init 52 = .ok (.putfield 32, 3) := by decide +kernel
theorem d_St_init_55 : decode b_St_init 55 = .ok (.aload_n 0, 1) := by decide +kernel
theorem d_St_init_56 : decode b_St_init 56 = .ok (.getfield 9, 3) := by decide +kernel
theorem d_St_init_59 : decode b_St_init 59 = .ok (.iconst (-1), 1) := by decide +kernel
theorem d_St_init_60 : decode b_St_init 60 = .ok (.invokestatic 35, 3) := by decide +kernel
theorem d_St_init_63 : decode b_St_init 63 = .ok (.aload_n 0, 1) := by decide +kernel
theorem d_St_init_64 : decode b_St_init 64 = .ok (.getfield 9, 3) := by decide +kernel
theorem d_St_init_67 : decode b_St_init 67 = .ok (.iconst 0, 1) := by decide +kernel
theorem d_St_init_68 : decode b_St_init 68 = .ok (.bipush 16, 2) := by decide +kernel
theorem d_St_init_70 : decode b_St_init 70 = .ok (.iastore, 1) := by decide +kernel
theorem d_St_init_71 : decode b_St_init 71 = .ok (.return_, 1) := by decide +kernel
theorem d_St_isTuplePlace_0 : decode b_St_isTuplePlace 0 = .ok (.iload_n 1, 1) := by decide +kernel
theorem d_St_isTuplePlace_1 : decode b_St_isTuplePlace 1 = .ok (.ifCond .le 14, 3) := by decide +kernel
theorem d_St_isTuplePlace_4 : decode b_St_isTuplePlace 4 = .ok (.iload_n 1, 1) := by decide +kernel
theorem d_St_isTuplePlace_5 : decode b_St_isTuplePlace 5 = .ok (.sipush 600, 3) := by decide +kernel
theorem d_St_isTuplePlace_8 : decode b_St_isTuplePlace 8 = .ok (.if_icmp .gt 7, 3) := by decide +kernel
theorem d_St_isTuplePlace_11 : decode b_St_isTuplePlace 11 = .ok (.iconst 1, 1) := by decide +kernel
theorem d_St_isTuplePlace_12 : decode b_St_isTuplePlace 12 = .ok (.goto 4, 3) := by decide +kernel
theorem d_St_isTuplePlace_15 : decode b_St_isTuplePlace 15 = .ok (.iconst 0, 1) := by decide +kernel
theorem d_St_isTuplePlace_16 : decode b_St_isTuplePlace 16 = .ok (.ireturn, 1) := by decide +kernel
theorem d_St_isFree_0 : decode b_St_isFree 0 = .ok (.aload_n 0, 1) := by decide +kernel
theorem d_St_isFree_1 : decode b_St_isFree 1 = .ok (.iload_n 1, 1) := by decide +kernel
theorem d_St_isFree_2 : decode b_St_isFree 2 = .ok (.invokevirtual 41, 3) := by decide +kernel
theorem d_St_isFree_5 : decode b_St_isFree 5 = .ok (.ifCond .eq 17, 3) := by decide +kernel
theorem d_St_isFree_8 : decode b_St_isFree 8 = .ok (.aload_n 0, 1) := by decide +kernel
theorem d_St_isFree_9 : decode b_St_isFree 9 = .ok (.getfield 9, 3) := by decide +kernel
theorem d_St_isFree_12 : decode b_St_isFree 12 = .ok (.iload_n 1, 1) := by decide +kernel
theorem d_St_isFree_13 : decode b_St_isFree 13 = .ok (.iaload, 1) := by decide +kernel
theorem d_St_isFree_14 : decode b_St_isFree 14 = .ok (.iconst (-1), 1) := by decide +kernel
theorem d_St_isFree_15 : decode b_St_isFree 15 = .ok (.if_icmp .ne 7, 3) := by decide +kernel
theorem d_St_isFree_18 : decode b_St_isFree 18 = .ok (.iconst 1, 1) := by decide +kernel
theorem d_St_isFree_19 : decode b_St_isFree 19 = .ok (.goto 4, 3) := by decide +kernel
theorem d_St_isFree_22 : decode b_St_isFree 22 = .ok (.iconst 0, 1) := by decide +kernel
theorem d_St_isFree_23 : decode b_St_isFree 23 = .ok (.ireturn, 1) := by decide +kernel
theorem d_St_valuesOf_0 : decode b_St_valuesOf 0 = .ok (.iload_n 1, 1) := by decide +kernel
theorem d_St_valuesOf_1 : decode b_St_valuesOf 1 = .ok (.ifCond .lt 20, 3) := by decide +kernel
theorem d_St_valuesOf_4 : decode b_St_valuesOf 4 = .ok (.iload_n 1, 1) := by decide +kernel
theorem d_St_valuesOf_5 : decode b_St_valuesOf 5 = .ok (.sipush 600, 3) := by decide +kernel
theorem d_St_valuesOf_8 : decode b_St_valuesOf 8 = .ok (.if_icmp .gt 13, 3) := by decide +kernel
theorem d_St_valuesOf_11 : decode b_St_valuesOf 11 = .ok (.aload_n 0, 1) := by decide +kernel
theorem d_St_valuesOf_12 : decode b_St_valuesOf 12 = .ok (.getfield 9, 3) := by decide +kernel
theorem d_St_valuesOf_15 : decode b_St_valuesOf 15 = .ok (.iload_n 1, 1) := by decide +kernel
theorem d_St_valuesOf_16 : decode b_St_valuesOf 16 = .ok (.iaload, 1) := by decide +kernel
theorem d_St_valuesOf_17 : decode b_St_valuesOf 17 = .ok (.iconst (-1), 1) := by decide +kernel
theorem d_St_valuesOf_18 : decode b_St_valuesOf 18 = .ok (.if_icmp .ne 7, 3) := by decide +kernel
theorem d_St_valuesOf_21 : decode b_St_valuesOf 21 = .ok (.iconst 0, 1) := by decide +kernel
theorem d_St_valuesOf_22 : decode b_St_valuesOf 22 = .ok (.goto 9, 3) := by decide +kernel
theorem d_St_valuesOf_25 : decode b_St_valuesOf 25 = .ok (.aload_n 0, 1) := by decide +kernel
theorem d_St_valuesOf_26 : decode b_St_valuesOf 26 = .ok (.getfield 9, 3) := by decide +kernel
theorem d_St_valuesOf_29 : decode b_St_valuesOf 29 = .ok (.iload_n 1, 1) := by decide +kernel
theorem d_St_valuesOf_30 : decode b_St_valuesOf 30 = .ok (.iaload, 1) := by decide +kernel
theorem d_St_valuesOf_31 : decode b_St_valuesOf 31 = .ok (.ireturn, 1) := by decide +kernel
theorem d_St_cellsFor_0 : decode b_St_cellsFor 0 = .ok (.iload_n 0, 1) := by decide +kernel
theorem d_St_cellsFor_1 : decode b_St_cellsFor 1 = .ok (.iconst 2, 1) := by decide +kernel
theorem d_St_cellsFor_2 : decode b_St_cellsFor 2 = .ok (.iadd, 1) := by decide +kernel
theorem d_St_cellsFor_3 : decode b_St_cellsFor 3 = .ok (.ireturn, 1) := by decide +kernel
theorem d_St_top_0 : decode b_St_top 0 = .ok (.aload_n 0, 1) := by decide +kernel
theorem d_St_top_1 : decode b_St_top 1 = .ok (.getfield 29, 3) := by decide +kernel
theorem d_St_top_4 : decode b_St_top 4 = .ok (.ireturn, 1) := by decide +kernel
theorem d_St_tuples_0 : decode b_St_tuples 0 = .ok (.aload_n 0, 1) := by decide +kernel
theorem d_St_tuples_1 : decode b_St_tuples 1 = .ok (.getfield 29, 3) := by decide +kernel
theorem d_St_tuples_4 : decode b_St_tuples 4 = .ok (.aload_n 0, 1) := by decide +kernel
theorem d_St_tuples_5 : decode b_St_tuples 5 = .ok (.getfield 25, 3) := by decide +kernel
theorem d_St_tuples_8 : decode b_St_tuples 8 = .ok (.isub, 1) := by decide +kernel
theorem d_St_tuples_9 : decode b_St_tuples 9 = .ok (.ireturn, 1) := by decide +kernel
theorem d_St_hasRoomFor_0 : decode b_St_hasRoomFor 0 = .ok (.aload_n 0, 1) := by decide +kernel
theorem d_St_hasRoomFor_1 : decode b_St_hasRoomFor 1 = .ok (.getfield 32, 3) := by decide +kernel
theorem d_St_hasRoomFor_4 : decode b_St_hasRoomFor 4 = .ok (.iload_n 1, 1) := by decide +kernel
theorem d_St_hasRoomFor_5 : decode b_St_hasRoomFor 5 = .ok (.invokestatic 45, 3) := by decide +kernel
theorem d_St_hasRoomFor_8 : decode b_St_hasRoomFor 8 = .ok (.iadd, 1) := by decide +kernel
theorem d_St_hasRoomFor_9 : decode b_St_hasRoomFor 9 = .ok (.sipush 1200, 3) := by decide +kernel
theorem d_St_hasRoomFor_12 : decode b_St_hasRoomFor 12 = .ok (.if_icmp .gt 7, 3) := by decide +kernel
theorem d_St_hasRoomFor_15 : decode b_St_hasRoomFor 15 = .ok (.iconst 1, 1) := by decide +kernel
theorem d_St_hasRoomFor_16 : decode b_St_hasRoomFor 16 = .ok (.goto 4, 3) := by decide +kernel
theorem d_St_hasRoomFor_19 : decode b_St_hasRoomFor 19 = .ok (.iconst 0, 1) := by decide +kernel
theorem d_St_hasRoomFor_20 : decode b_St_hasRoomFor 20 = .ok (.ireturn, 1) := by decide +kernel
theorem d_St_take_0 : decode b_St_take 0 = .ok (.iload_n 1, 1) := by decide +kernel
theorem d_St_take_1 : decode b_St_take 1 = .ok (.ifCond .lt 17, 3) := by decide +kernel
theorem d_St_take_4 : decode b_St_take 4 = .ok (.iload_n 1, 1) := by decide +kernel
theorem d_St_take_5 : decode b_St_take 5 = .ok (.bipush 16, 2) := by decide +kernel
theorem d_St_take_7 : decode b_St_take 7 = .ok (.if_icmp .gt 11, 3) := by decide +kernel
theorem d_St_take_10 : decode b_St_take 10 = .ok (.aload_n 0, 1) := by decide +kernel
theorem d_St_take_11 : decode b_St_take 11 = .ok (.iload_n 1, 1) := by decide +kernel
theorem d_St_take_12 : decode b_St_take 12 = .ok (.invokevirtual 49, 3) := by decide +kernel
theorem d_St_take_15 : decode b_St_take 15 = .ok (.ifCond .ne 5, 3) := by decide +kernel
theorem d_St_take_18 : decode b_St_take 18 = .ok (.iconst 0, 1) := by decide +kernel
theorem d_St_take_19 : decode b_St_take 19 = .ok (.ireturn, 1) := by decide +kernel
theorem d_St_take_20 : decode b_St_take 20 = .ok (.aload_n 0, 1) := by decide +kernel
theorem d_St_take_21 : decode b_St_take 21 = .ok (.invokevirtual 52, 3) := by decide +kernel
theorem d_St_take_24 : decode b_St_take 24 = .ok (.istore_n 2, 1) := by decide +kernel
theorem d_St_take_25 : decode b_St_take 25 = .ok (.aload_n 0, 1) := by decide +kernel
theorem d_St_take_26 : decode b_St_take 26 = .ok (.iload_n 2, 1) := by decide +kernel
theorem d_St_take_27 : decode b_St_take 27 = .ok (.invokevirtual 56, 3) := by decide +kernel
theorem d_St_take_30 : decode b_St_take 30 = .ok (.ifCond .ne 5, 3) := by decide +kernel
theorem d_St_take_33 : decode b_St_take 33 = .ok (.iconst 0, 1) := by decide +kernel
theorem d_St_take_34 : decode b_St_take 34 = .ok (.ireturn, 1) := by decide +kernel
theorem d_St_take_35 : decode b_St_take 35 = .ok (.aload_n 0, 1) := by decide +kernel
theorem d_St_take_36 : decode b_St_take 36 = .ok (.getfield 9, 3) := by decide +kernel
theorem d_St_take_39 : decode b_St_take 39 = .ok (.iload_n 2, 1) := by decide +kernel
theorem d_St_take_40 : decode b_St_take 40 = .ok (.iload_n 1, 1) := by decide +kernel
theorem d_St_take_41 : decode b_St_take 41 = .ok (.iastore, 1) := by decide +kernel
theorem d_St_take_42 : decode b_St_take 42 = .ok (.aload_n 0, 1) := by decide +kernel
theorem d_St_take_43 : decode b_St_take 43 = .ok (.dup, 1) := by decide +kernel
theorem d_St_take_44 : decode b_St_take 44 = .ok (.getfield 32, 3) := by decide +kernel
theorem d_St_take_47 : decode b_St_take 47 = .ok (.iload_n 1, 1) := by decide +kernel
theorem d_St_take_48 : decode b_St_take 48 = .ok (.invokestatic 45, 3) := by decide +kernel
theorem d_St_take_51 : decode b_St_take 51 = .ok (.iadd, 1) := by decide +kernel
theorem d_St_take_52 : decode b_St_take 52 = .ok (.putfield 32, 3) := by decide +kernel
theorem d_St_take_55 : decode b_St_take 55 = .ok (.iconst 0, 1) := by decide +kernel
theorem d_St_take_56 : decode b_St_take 56 = .ok (.istore_n 3, 1) := by decide +kernel
theorem d_St_take_57 : decode b_St_take 57 = .ok (.iload_n 3, 1) := by decide +kernel
theorem d_St_take_58 : decode b_St_take 58 = .ok (.iload_n 1, 1) := by decide +kernel
theorem d_St_take_59 : decode b_St_take 59 = .ok (.if_icmp .ge 19, 3) := by decide +kernel
theorem d_St_take_62 : decode b_St_take 62 = .ok (.aload_n 0, 1) := by decide +kernel
theorem d_St_take_63 : decode b_St_take 63 = .ok (.iload_n 2, 1) := by decide +kernel
theorem d_St_take_64 : decode b_St_take 64 = .ok (.iload_n 3, 1) := by decide +kernel
theorem d_St_take_65 : decode b_St_take 65 = .ok (.invokestatic 59, 3) := by decide +kernel
theorem d_St_take_68 : decode b_St_take 68 = .ok (.lconst 0, 1) := by decide +kernel
theorem d_St_take_69 : decode b_St_take 69 = .ok (.invokevirtual 63, 3) := by decide +kernel
theorem d_St_take_72 : decode b_St_take 72 = .ok (.iinc 3 1, 3) := by decide +kernel
theorem d_St_take_75 : decode b_St_take 75 = .ok (.goto (-18), 3) := by decide +kernel
theorem d_St_take_78 : decode b_St_take 78 = .ok (.iload_n 2, 1) := by decide +kernel
theorem d_St_take_79 : decode b_St_take 79 = .ok (.ireturn, 1) := by decide +kernel
theorem d_St_takeFreePlace_0 : decode b_St_takeFreePlace 0 = .ok (.aload_n 0, 1) := by decide +kernel
theorem d_St_takeFreePlace_1 : decode b_St_takeFreePlace 1 = .ok (.getfield 25, 3) := by decide +kernel
theorem d_St_takeFreePlace_4 : decode b_St_takeFreePlace 4 = .ok (.ifCond .le 23, 3) := by decide +kernel
theorem d_St_takeFreePlace_7 : decode b_St_takeFreePlace 7 = .ok (.aload_n 0, 1) := by decide +kernel
theorem d_St_takeFreePlace_8 : decode b_St_takeFreePlace 8 = .ok (.dup, 1) := by decide +kernel
theorem d_St_takeFreePlace_9 : decode b_St_takeFreePlace 9 = .ok (.getfield 25, 3) := by decide +kernel
theorem d_St_takeFreePlace_12 : decode b_St_takeFreePlace 12 = .ok (.iconst 1, 1) := by decide +kernel
theorem d_St_takeFreePlace_13 : decode b_St_takeFreePlace 13 = .ok (.isub, 1) := by decide +kernel
theorem d_St_takeFreePlace_14 : decode b_St_takeFreePlace 14 = .ok (.putfield 25, 3) := by decide +kernel
theorem d_St_takeFreePlace_17 : decode b_St_takeFreePlace 17 = .ok (.aload_n 0, 1) := by decide +kernel
theorem d_St_takeFreePlace_18 : decode b_St_takeFreePlace 18 = .ok (.getfield 22, 3) := by decide +kernel
theorem d_St_takeFreePlace_21 : decode b_St_takeFreePlace 21 = .ok (.aload_n 0, 1) := by decide +kernel
theorem d_St_takeFreePlace_22 : decode b_St_takeFreePlace 22 = .ok (.getfield 25, 3) := by decide +kernel
theorem d_St_takeFreePlace_25 : decode b_St_takeFreePlace 25 = .ok (.iaload, 1) := by decide +kernel
theorem d_St_takeFreePlace_26 : decode b_St_takeFreePlace 26 = .ok (.ireturn, 1) := by decide +kernel
theorem d_St_takeFreePlace_27 : decode b_St_takeFreePlace 27 = .ok (.aload_n 0, 1) := by decide +kernel
theorem d_St_takeFreePlace_28 : decode b_St_takeFreePlace 28 = .ok (.getfield 29, 3) := by decide +kernel
theorem d_St_takeFreePlace_31 : decode b_St_takeFreePlace 31 = .ok (.sipush 600, 3) := by decide +kernel
theorem d_St_takeFreePlace_34 : decode b_St_takeFreePlace 34 = .ok (.if_icmp .ge 18, 3) := by decide +kernel
theorem d_St_takeFreePlace_37 : decode b_St_takeFreePlace 37 = .ok (.aload_n 0, 1) := by decide +kernel
theorem d_St_takeFreePlace_38 : decode b_St_takeFreePlace 38 = .ok (.dup, 1) := by decide +kernel
theorem d_St_takeFreePlace_39 : decode b_St_takeFreePlace 39 = .ok (.getfield 29, 3) := by decide +kernel
theorem d_St_takeFreePlace_42 : decode b_St_takeFreePlace 42 = .ok (.iconst 1, 1) := by decide +kernel
theorem d_St_takeFreePlace_43 : decode b_St_takeFreePlace 43 = .ok (.iadd, 1) := by decide +kernel
theorem d_St_takeFreePlace_44 : decode b_St_takeFreePlace 44 = .ok (.putfield 29, 3) := by decide +kernel
theorem d_St_takeFreePlace_47 : decode b_St_takeFreePlace 47 = .ok (.aload_n 0, 1) := by decide +kernel
theorem d_St_takeFreePlace_48 : decode b_St_takeFreePlace 48 = .ok (.getfield 29, 3) := by decide +kernel
theorem d_St_takeFreePlace_51 : decode b_St_takeFreePlace 51 = .ok (.ireturn, 1) := by decide +kernel
theorem d_St_takeFreePlace_52 : decode b_St_takeFreePlace 52 = .ok (.iconst 0, 1) := by decide +kernel
theorem d_St_takeFreePlace_53 : decode b_St_takeFreePlace 53 = .ok (.ireturn, 1) := by decide +kernel
theorem d_St_release_0 : decode b_St_release 0 = .ok (.aload_n 0, 1) := by decide +kernel
theorem d_St_release_1 : decode b_St_release 1 = .ok (.iload_n 1, 1) := by decide +kernel
theorem d_St_release_2 : decode b_St_release 2 = .ok (.invokevirtual 41, 3) := by decide +kernel
theorem d_St_release_5 : decode b_St_release 5 = .ok (.ifCond .eq 59, 3) := by decide +kernel
theorem d_St_release_8 : decode b_St_release 8 = .ok (.aload_n 0, 1) := by decide +kernel
theorem d_St_release_9 : decode b_St_release 9 = .ok (.getfield 25, 3) := by decide +kernel
theorem d_St_release_12 : decode b_St_release 12 = .ok (.aload_n 0, 1) := by decide +kernel
theorem d_St_release_13 : decode b_St_release 13 = .ok (.getfield 22, 3) := by decide +kernel
theorem d_St_release_16 : decode b_St_release 16 = .ok (.arraylength, 1) := by decide +kernel
theorem d_St_release_17 : decode b_St_release 17 = .ok (.if_icmp .ge 47, 3) := by decide +kernel
theorem d_St_release_20 : decode b_St_release 20 = .ok (.aload_n 0, 1) := by decide +kernel
theorem d_St_release_21 : decode b_St_release 21 = .ok (.dup, 1) := by decide +kernel
theorem d_St_release_22 : decode b_St_release 22 = .ok (.getfield 32, 3) := by decide +kernel
theorem d_St_release_25 : decode b_St_release 25 = .ok (.aload_n 0, 1) := by decide +kernel
theorem d_St_release_26 : decode b_St_release 26 = .ok (.iload_n 1, 1) := by decide +kernel
theorem d_St_release_27 : decode b_St_release 27 = .ok (.invokevirtual 67, 3) := by decide +kernel
theorem d_St_release_30 : decode b_St_release 30 = .ok (.invokestatic 45, 3) := by decide +kernel
theorem d_St_release_33 : decode b_St_release 33 = .ok (.isub, 1) := by decide +kernel
theorem d_St_release_34 : decode b_St_release 34 = .ok (.putfield 32, 3) := by decide +kernel
theorem d_St_release_37 : decode b_St_release 37 = .ok (.aload_n 0, 1) := by decide +kernel
theorem d_St_release_38 : decode b_St_release 38 = .ok (.getfield 9, 3) := by decide +kernel
theorem d_St_release_41 : decode b_St_release 41 = .ok (.iload_n 1, 1) := by decide +kernel
theorem d_St_release_42 : decode b_St_release 42 = .ok (.iconst (-1), 1) := by decide +kernel
theorem d_St_release_43 : decode b_St_release 43 = .ok (.iastore, 1) := by decide +kernel
theorem d_St_release_44 : decode b_St_release 44 = .ok (.aload_n 0, 1) := by decide +kernel
theorem d_St_release_45 : decode b_St_release 45 = .ok (.getfield 22, 3) := by decide +kernel
theorem d_St_release_48 : decode b_St_release 48 = .ok (.aload_n 0, 1) := by decide +kernel
theorem d_St_release_49 : decode b_St_release 49 = .ok (.getfield 25, 3) := by decide +kernel
theorem d_St_release_52 : decode b_St_release 52 = .ok (.iload_n 1, 1) := by decide +kernel
theorem d_St_release_53 : decode b_St_release 53 = .ok (.iastore, 1) := by decide +kernel
theorem d_St_release_54 : decode b_St_release 54 = .ok (.aload_n 0, 1) := by decide +kernel
theorem d_St_release_55 : decode b_St_release 55 = .ok (.dup, 1) := by decide +kernel
theorem d_St_release_56 : decode b_St_release 56 = .ok (.getfield 25, 3) := by decide +kernel
theorem d_St_release_59 : decode b_St_release 59 = .ok (.iconst 1, 1) := by decide +kernel
theorem d_St_release_60 : decode b_St_release 60 = .ok (.iadd, 1) := by decide +kernel
theorem d_St_release_61 : decode b_St_release 61 = .ok (.putfield 25, 3) := by decide +kernel
theorem d_St_release_64 : decode b_St_release 64 = .ok (.return_, 1) := by decide +kernel
theorem d_St_placeAt_0 : decode b_St_placeAt 0 = .ok (.aload_n 0, 1) := by decide +kernel
theorem d_St_placeAt_1 : decode b_St_placeAt 1 = .ok (.getfield 15, 3) := by decide +kernel
theorem d_St_placeAt_4 : decode b_St_placeAt 4 = .ok (.iload_n 1, 1) := by decide +kernel
theorem d_St_placeAt_5 : decode b_St_placeAt 5 = .ok (.iaload, 1) := by decide +kernel
theorem d_St_placeAt_6 : decode b_St_placeAt 6 = .ok (.ireturn, 1) := by decide +kernel
theorem d_St_numberAt_0 : decode b_St_numberAt 0 = .ok (.aload_n 0, 1) := by decide +kernel
theorem d_St_numberAt_1 : decode b_St_numberAt 1 = .ok (.getfield 18, 3) := by decide +kernel
theorem d_St_numberAt_4 : decode b_St_numberAt 4 = .ok (.iload_n 1, 1) := by decide +kernel
theorem d_St_numberAt_5 : decode b_St_numberAt 5 = .ok (.laload, 1) := by decide +kernel
theorem d_St_numberAt_6 : decode b_St_numberAt 6 = .ok (.lreturn, 1) := by decide +kernel
theorem d_St_putNumber_0 : decode b_St_putNumber 0 = .ok (.aload_n 0, 1) := by decide +kernel
theorem d_St_putNumber_1 : decode b_St_putNumber 1 = .ok (.getfield 15, 3) := by decide +kernel
theorem d_St_putNumber_4 : decode b_St_putNumber 4 = .ok (.iload_n 1, 1) := by decide +kernel
theorem d_St_putNumber_5 : decode b_St_putNumber 5 = .ok (.iconst 0, 1) := by decide +kernel
theorem d_St_putNumber_6 : decode b_St_putNumber 6 = .ok (.iastore, 1) := by decide +kernel
theorem d_St_putNumber_7 : decode b_St_putNumber 7 = .ok (.aload_n 0, 1) := by decide +kernel
theorem d_St_putNumber_8 : decode b_St_putNumber 8 = .ok (.getfield 18, 3) := by decide +kernel
theorem d_St_putNumber_11 : decode b_St_putNumber 11 = .ok (.iload_n 1, 1) := by decide +kernel
theorem d_St_putNumber_12 : decode b_St_putNumber 12 = .ok (.lload_n 2, 1) := by decide +kernel
theorem d_St_putNumber_13 : decode b_St_putNumber 13 = .ok (.lastore, 1) := by decide +kernel
theorem d_St_putNumber_14 : decode b_St_putNumber 14 = .ok (.return_, 1) := by decide +kernel
theorem d_St_putReference_0 : decode b_St_putReference 0 = .ok (.aload_n 0, 1) := by decide +kernel
theorem d_St_putReference_1 : decode b_St_putReference 1 = .ok (.getfield 15, 3) := by decide +kernel
theorem d_St_putReference_4 : decode b_St_putReference 4 = .ok (.iload_n 1, 1) := by decide +kernel
theorem d_St_putReference_5 : decode b_St_putReference 5 = .ok (.iload_n 2, 1) := by decide +kernel
theorem d_St_putReference_6 : decode b_St_putReference 6 = .ok (.iastore, 1) := by decide +kernel
theorem d_St_putReference_7 : decode b_St_putReference 7 = .ok (.aload_n 0, 1) := by decide +kernel
theorem d_St_putReference_8 : decode b_St_putReference 8 = .ok (.getfield 18, 3) := by decide +kernel
theorem d_St_putReference_11 : decode b_St_putReference 11 = .ok (.iload_n 1, 1) := by decide +kernel
theorem d_St_putReference_12 : decode b_St_putReference 12 = .ok (.lconst 0, 1) := by decide +kernel
theorem d_St_putReference_13 : decode b_St_putReference 13 = .ok (.lastore, 1) := by decide +kernel
theorem d_St_putReference_14 : decode b_St_putReference 14 = .ok (.return_, 1) := by decide +kernel
theorem d_St_move_0 : decode b_St_move 0 = .ok (.aload_n 0, 1) := by decide +kernel
theorem d_St_move_1 : decode b_St_move 1 = .ok (.getfield 15, 3) := by decide +kernel
theorem d_St_move_4 : decode b_St_move 4 = .ok (.iload_n 2, 1) := by decide +kernel
theorem d_St_move_5 : decode b_St_move 5 = .ok (.aload_n 0, 1) := by decide +kernel
theorem d_St_move_6 : decode b_St_move 6 = .ok (.getfield 15, 3) := by decide +kernel
theorem d_St_move_9 : decode b_St_move 9 = .ok (.iload_n 1, 1) := by decide +kernel
theorem d_St_move_10 : decode b_St_move 10 = .ok (.iaload, 1) := by decide +kernel
theorem d_St_move_11 : decode b_St_move 11 = .ok (.iastore, 1) := by decide +kernel
theorem d_St_move_12 : decode b_St_move 12 = .ok (.aload_n 0, 1) := by decide +kernel
theorem d_St_move_13 : decode b_St_move 13 = .ok (.getfield 18, 3) := by decide +kernel
theorem d_St_move_16 : decode b_St_move 16 = .ok (.iload_n 2, 1) := by decide +kernel
theorem d_St_move_17 : decode b_St_move 17 = .ok (.aload_n 0, 1) := by decide +kernel
theorem d_St_move_18 : decode b_St_move 18 = .ok (.getfield 18, 3) := by decide +kernel
theorem d_St_move_21 : decode b_St_move 21 = .ok (.iload_n 1, 1) := by decide +kernel
theorem d_St_move_22 : decode b_St_move 22 = .ok (.laload, 1) := by decide +kernel
theorem d_St_move_23 : decode b_St_move 23 = .ok (.lastore, 1) := by decide +kernel
theorem d_St_move_24 : decode b_St_move 24 = .ok (.return_, 1) := by decide +kernel
theorem d_St_alike_0 : decode b_St_alike 0 = .ok (.aload_n 0, 1) := by decide +kernel
theorem d_St_alike_1 : decode b_St_alike 1 = .ok (.getfield 15, 3) := by decide +kernel
theorem d_St_alike_4 : decode b_St_alike 4 = .ok (.iload_n 1, 1) := by decide +kernel
theorem d_St_alike_5 : decode b_St_alike 5 = .ok (.iaload, 1) := by decide +kernel
theorem d_St_alike_6 : decode b_St_alike 6 = .ok (.aload_n 0, 1) := by decide +kernel
theorem d_St_alike_7 : decode b_St_alike 7 = .ok (.getfield 15, 3) := by decide +kernel
theorem d_St_alike_10 : decode b_St_alike 10 = .ok (.iload_n 2, 1) := by decide +kernel
theorem d_St_alike_11 : decode b_St_alike 11 = .ok (.iaload, 1) := by decide +kernel
theorem d_St_alike_12 : decode b_St_alike 12 = .ok (.if_icmp .ne 23, 3) := by decide +kernel
theorem d_St_alike_15 : decode b_St_alike 15 = .ok (.aload_n 0, 1) := by decide +kernel
theorem d_St_alike_16 : decode b_St_alike 16 = .ok (.getfield 18, 3) := by decide +kernel
theorem d_St_alike_19 : decode b_St_alike 19 = .ok (.iload_n 1, 1) := by decide +kernel
theorem d_St_alike_20 : decode b_St_alike 20 = .ok (.laload, 1) := by decide +kernel
theorem d_St_alike_21 : decode b_St_alike 21 = .ok (.aload_n 0, 1) := by decide +kernel
theorem d_St_alike_22 : decode b_St_alike 22 = .ok (.getfield 18, 3) := by decide +kernel
theorem d_St_alike_25 : decode b_St_alike 25 = .ok (.iload_n 2, 1) := by decide +kernel
theorem d_St_alike_26 : decode b_St_alike 26 = .ok (.laload, 1) := by decide +kernel
theorem d_St_alike_27 : decode b_St_alike 27 = .ok (.lcmp, 1) := by decide +kernel
theorem d_St_alike_28 : decode b_St_alike 28 = .ok (.ifCond .ne 7, 3) := by decide +kernel
theorem d_St_alike_31 : decode b_St_alike 31 = .ok (.iconst 1, 1) := by decide +kernel
theorem d_St_alike_32 : decode b_St_alike 32 = .ok (.goto 4, 3) := by decide +kernel
theorem d_St_alike_35 : decode b_St_alike 35 = .ok (.iconst 0, 1) := by decide +kernel
theorem d_St_alike_36 : decode b_St_alike 36 = .ok (.ireturn, 1) := by decide +kernel
theorem d_St_countHolders_0 : decode b_St_countHolders 0 = .ok (.iconst 1, 1) := by decide +kernel
theorem d_St_countHolders_1 : decode b_St_countHolders 1 = .ok (.istore_n 2, 1) := by decide +kernel
theorem d_St_countHolders_2 : decode b_St_countHolders 2 = .ok (.iload_n 2, 1) := by decide +kernel
theorem d_St_countHolders_3 : decode b_St_countHolders 3 = .ok (.aload_n 0, 1) := by decide +kernel
theorem d_St_countHolders_4 : decode b_St_countHolders 4 = .ok (.getfield 29, 3) := by decide +kernel
theorem d_St_countHolders_7 : decode b_St_countHolders 7 = .ok (.if_icmp .gt 31, 3) := by decide +kernel
theorem d_St_countHolders_10 : decode b_St_countHolders 10 = .ok (.iload_n 2, 1) := by decide +kernel
theorem d_St_countHolders_11 : decode b_St_countHolders 11 = .ok (.aload_n 1, 1) := by decide +kernel
theorem d_St_countHolders_12 : decode b_St_countHolders 12 = .ok (.arraylength, 1) := by decide +kernel
theorem d_St_countHolders_13 : decode b_St_countHolders 13 = .ok (.if_icmp .ge 25, 3) := by decide +kernel
theorem d_St_countHolders_16 : decode b_St_countHolders 16 = .ok (.aload_n 1, 1) := by decide +kernel
theorem d_St_countHolders_17 : decode b_St_countHolders 17 = .ok (.iload_n 2, 1) := by decide +kernel
theorem d_St_countHolders_18 : decode b_St_countHolders 18 = .ok (.aload_n 0, 1) := by decide +kernel
theorem d_St_countHolders_19 : decode b_St_countHolders 19 = .ok (.iload_n 2, 1) := by decide +kernel
theorem d_St_countHolders_20 : decode b_St_countHolders 20 = .ok (.invokevirtual 56, 3) := by decide +kernel
theorem d_St_countHolders_23 : decode b_St_countHolders 23 = .ok (.ifCond .eq 7, 3) := by decide +kernel
theorem d_St_countHolders_26 : decode b_St_countHolders 26 = .ok (.iconst 0, 1) := by decide +kernel
theorem d_St_countHolders_27 : decode b_St_countHolders 27 = .ok (.goto 4, 3) := by decide +kernel
theorem d_St_countHolders_30 : decode b_St_countHolders 30 = .ok (.iconst 1, 1) := by decide +kernel
theorem d_St_countHolders_31 : decode b_St_countHolders 31 = .ok (.iastore, 1) := by decide +kernel
theorem d_St_countHolders_32 : decode b_St_countHolders 32 = .ok (.iinc 2 1, 3) := by decide +kernel
theorem d_St_countHolders_35 : decode b_St_countHolders 35 = .ok (.goto (-33), 3) := by decide +kernel
theorem d_St_countHolders_38 : decode b_St_countHolders 38 = .ok (.iconst 0, 1) := by decide +kernel
theorem d_St_countHolders_39 : decode b_St_countHolders 39 = .ok (.istore_n 2, 1) := by decide +kernel
theorem d_St_countHolders_40 : decode b_St_countHolders 40 = .ok (.iload_n 2, 1) := by decide +kernel
theorem d_St_countHolders_41 : decode b_St_countHolders 41 = .ok (.aload_n 0, 1) := by decide +kernel
theorem d_St_countHolders_42 : decode b_St_countHolders 42 = .ok (.getfield 25, 3) := by decide +kernel
theorem d_St_countHolders_45 : decode b_St_countHolders 45 = .ok (.if_icmp .ge 32, 3) := by decide +kernel
theorem d_St_countHolders_48 : decode b_St_countHolders 48 = .ok (.aload_n 0, 1) := by decide +kernel
theorem d_St_countHolders_49 : decode b_St_countHolders 49 = .ok (.getfield 22, 3) := by decide +kernel
theorem d_St_countHolders_52 : decode b_St_countHolders 52 = .ok (.iload_n 2, 1) := by decide +kernel
theorem d_St_countHolders_53 : decode b_St_countHolders 53 = .ok (.iaload, 1) := by decide +kernel
theorem d_St_countHolders_54 : decode b_St_countHolders 54 = .ok (.aload_n 1, 1) := by decide +kernel
theorem d_St_countHolders_55 : decode b_St_countHolders 55 = .ok (.arraylength, 1) := by decide +kernel
theorem d_St_countHolders_56 : decode b_St_countHolders 56 = .ok (.if_icmp .ge 15, 3) := by decide +kernel
theorem d_St_countHolders_59 : decode b_St_countHolders 59 = .ok (.aload_n 1, 1) := by decide +kernel
theorem d_St_countHolders_60 : decode b_St_countHolders 60 = .ok (.aload_n 0, 1) := by decide +kernel
theorem d_St_countHolders_61 : decode b_St_countHolders 61 = .ok (.getfield 22, 3) := by decide +kernel
theorem d_St_countHolders_64 : decode b_St_countHolders 64 = .ok (.iload_n 2, 1) := by decide +kernel
theorem d_St_countHolders_65 : decode b_St_countHolders 65 = .ok (.iaload, 1) := by decide +kernel
theorem d_St_countHolders_66 : decode b_St_countHolders 66 = .ok (.dup2, 1) := by decide +kernel
theorem d_St_countHolders_67 : decode b_St_countHolders 67 = .ok (.iaload, 1) := by decide +kernel
theorem d_St_countHolders_68 : decode b_St_countHolders 68 = .ok (.iconst 1, 1) := by decide +kernel
theorem d_St_countHolders_69 : decode b_St_countHolders 69 = .ok (.iadd, 1) := by decide +kernel
theorem d_St_countHolders_70 : decode b_St_countHolders 70 = .ok (.iastore, 1) := by decide +kernel
theorem d_St_countHolders_71 : decode b_St_countHolders 71 = .ok (.iinc 2 1, 3) := by decide +kernel
theorem d_St_countHolders_74 : decode b_St_countHolders 74 = .ok (.goto (-34), 3) := by decide +kernel
theorem d_St_countHolders_77 : decode b_St_countHolders 77 = .ok (.return_, 1) := by decide +kernel
theorem d_Wa_init_0 : decode b_Wa_init 0 = .ok (.aload_n 0, 1) := by decide +kernel
theorem d_Wa_init_1 : decode b_Wa_init 1 = .ok (.invokespecial 3, 3) := by decide +kernel
theorem d_Wa_init_4 : decode b_Wa_init 4 = .ok (.aload_n 0, 1) := by decide +kernel
theorem d_Wa_init_5 : decode b_Wa_init 5 = .ok (.aload_n 1, 1) := by decide +kernel
theorem d_Wa_init_6 : decode b_Wa_init 6 = .ok (.putfield 9, 3) := by decide +kernel
theorem d_Wa_init_9 : decode b_Wa_init 9 = .ok (.aload_n 0, 1) := by decide +kernel
theorem d_Wa_init_10 : decode b_Wa_init 10 = .ok (.sipush 601, 3) := by decide +kernel
theorem d_Wa_init_13 : decode b_Wa_init 13 = .ok (.newarray .int, 2) := by decide +kernel
theorem d_Wa_init_15 : decode b_Wa_init 15 = .ok (.putfield 15, 3) := by decide +kernel
theorem d_Wa_init_18 : decode b_Wa_init 18 = .ok (.aload_n 0, 1) := by decide +kernel
theorem d_Wa_init_19 : decode b_Wa_init 19 = .ok (.sipush 601, 3) := by decide +kernel
theorem d_Wa_init_22 : decode b_Wa_init 22 = .ok (.newarray .int, 2) := by decide +kernel
theorem d_Wa_init_24 : decode b_Wa_init 24 = .ok (.putfield 19, 3) := by decide +kernel
theorem d_Wa_init_27 : decode b_Wa_init 27 = .ok (.aload_n 0, 1) := by decide +kernel
theorem d_Wa_init_28 : decode b_Wa_init 28 = .ok (.sipush 601, 3) := by decide +kernel
theorem d_Wa_init_31 : decode b_Wa_init 31 = .ok (.newarray .int, 2) := by decide +kernel
theorem d_Wa_init_33 : decode b_Wa_init 33 = .ok (.putfield 22, 3) := by decide +kernel
theorem d_Wa_init_36 : decode b_Wa_init 36 = .ok (.return_, 1) := by decide +kernel
theorem d_Wa_tuples_0 : decode b_Wa_tuples 0 = .ok (.aload_n 0, 1) := by decide +kernel
theorem d_Wa_tuples_1 : decode b_Wa_tuples 1 = .ok (.getfield 25, 3) := by decide +kernel
theorem d_Wa_tuples_4 : decode b_Wa_tuples 4 = .ok (.ireturn, 1) := by decide +kernel
theorem d_Wa_cells_0 : decode b_Wa_cells 0 = .ok (.aload_n 0, 1) := by decide +kernel
theorem d_Wa_cells_1 : decode b_Wa_cells 1 = .ok (.getfield 29, 3) := by decide +kernel
theorem d_Wa_cells_4 : decode b_Wa_cells 4 = .ok (.ireturn, 1) := by decide +kernel
theorem d_Wa_hash_0 : decode b_Wa_hash 0 = .ok (.aload_n 0, 1) := by decide +kernel
theorem d_Wa_hash_1 : decode b_Wa_hash 1 = .ok (.getfield 32, 3) := by decide +kernel
theorem d_Wa_hash_4 : decode b_Wa_hash 4 = .ok (.lreturn, 1) := by decide +kernel
theorem d_Wa_hasMet_0 : decode b_Wa_hasMet 0 = .ok (.aload_n 0, 1) := by decide +kernel
theorem d_Wa_hasMet_1 : decode b_Wa_hasMet 1 = .ok (.getfield 9, 3) := by decide +kernel
theorem d_Wa_hasMet_4 : decode b_Wa_hasMet 4 = .ok (.iload_n 1, 1) := by decide +kernel
theorem d_Wa_hasMet_5 : decode b_Wa_hasMet 5 = .ok (.invokevirtual 36, 3) := by decide +kernel
theorem d_Wa_hasMet_8 : decode b_Wa_hasMet 8 = .ok (.ifCond .eq 16, 3) := by decide +kernel
theorem d_Wa_hasMet_11 : decode b_Wa_hasMet 11 = .ok (.aload_n 0, 1) := by decide +kernel
theorem d_Wa_hasMet_12 : decode b_Wa_hasMet 12 = .ok (.getfield 15, 3) := by decide +kernel
theorem d_Wa_hasMet_15 : decode b_Wa_hasMet 15 = .ok (.iload_n 1, 1) := by decide +kernel
theorem d_Wa_hasMet_16 : decode b_Wa_hasMet 16 = .ok (.iaload, 1) := by decide +kernel
theorem d_Wa_hasMet_17 : decode b_Wa_hasMet 17 = .ok (.ifCond .le 7, 3) := by decide +kernel
theorem d_Wa_hasMet_20 : decode b_Wa_hasMet 20 = .ok (.iconst 1, 1) := by decide +kernel
theorem d_Wa_hasMet_21 : decode b_Wa_hasMet 21 = .ok (.goto 4, 3) := by decide +kernel
theorem d_Wa_hasMet_24 : decode b_Wa_hasMet 24 = .ok (.iconst 0, 1) := by decide +kernel
theorem d_Wa_hasMet_25 : decode b_Wa_hasMet 25 = .ok (.ireturn, 1) := by decide +kernel
theorem d_Wa_run_0 : decode b_Wa_run 0 = .ok (.aload_n 0, 1) := by decide +kernel
theorem d_Wa_run_1 : decode b_Wa_run 1 = .ok (.getfield 15, 3) := by decide +kernel
theorem d_Wa_run_4 : decode b_Wa_run 4 = .ok (.iconst 0, 1) := by decide +kernel
theorem d_Wa_run_5 : decode b_Wa_run 5 = .ok (.invokestatic 42, 3) := by decide +kernel
theorem d_Wa_run_8 : decode b_Wa_run 8 = .ok (.aload_n 0, 1) := by decide +kernel
theorem d_Wa_run_9 : decode b_Wa_run 9 = .ok (.iconst 0, 1) := by decide +kernel
theorem d_Wa_run_10 : decode b_Wa_run 10 = .ok (.putfield 25, 3) := by decide +kernel
theorem d_Wa_run_13 : decode b_Wa_run 13 = .ok (.aload_n 0, 1) := by decide +kernel
theorem d_Wa_run_14 : decode b_Wa_run 14 = .ok (.iconst 0, 1) := by decide +kernel
theorem d_Wa_run_15 : decode b_Wa_run 15 = .ok (.putfield 29, 3) := by decide +kernel
theorem d_Wa_run_18 : decode b_Wa_run 18 = .ok (.aload_n 0, 1) := by decide +kernel
theorem d_Wa_run_19 : decode b_Wa_run 19 = .ok (.ldc2_w 48, 3) := by decide +kernel
theorem d_Wa_run_22 : decode b_Wa_run 22 = .ok (.putfield 32, 3) := by decide +kernel
theorem d_Wa_run_25 : decode b_Wa_run 25 = .ok (.aload_n 0, 1) := by decide +kernel
theorem d_Wa_run_26 : decode b_Wa_run 26 = .ok (.iconst 0, 1) := by decide +kernel
theorem d_Wa_run_27 : decode b_Wa_run 27 = .ok (.putfield 50, 3) := by decide +kernel
theorem d_Wa_run_30 : decode b_Wa_run 30 = .ok (.aload_n 0, 1) := by decide +kernel
theorem d_Wa_run_31 : decode b_Wa_run 31 = .ok (.iconst 0, 1) := by decide +kernel
theorem d_Wa_run_32 : decode b_Wa_run 32 = .ok (.invokevirtual 53, 3) := by decide +kernel
theorem d_Wa_run_35 : decode b_Wa_run 35 = .ok (.iconst 0, 1) := by decide +kernel
theorem d_Wa_run_36 : decode b_Wa_run 36 = .ok (.istore_n 1, 1) := by decide +kernel
theorem d_Wa_run_37 : decode b_Wa_run 37 = .ok (.iload_n 1, 1) := by decide +kernel
theorem d_Wa_run_38 : decode b_Wa_run 38 = .ok (.sipush 10217, 3) := by decide +kernel
theorem d_Wa_run_41 : decode b_Wa_run 41 = .ok (.if_icmp .ge 20, 3) := by decide +kernel
theorem d_Wa_run_44 : decode b_Wa_run 44 = .ok (.aload_n 0, 1) := by decide +kernel
theorem d_Wa_run_45 : decode b_Wa_run 45 = .ok (.getfield 50, 3) := by decide +kernel
theorem d_Wa_run_48 : decode b_Wa_run 48 = .ok (.ifCond .le 13, 3) := by decide +kernel
theorem d_Wa_run_51 : decode b_Wa_run 51 = .ok (.aload_n 0, 1) := by decide +kernel
theorem d_Wa_run_52 : decode b_Wa_run 52 = .ok (.invokevirtual 57, 3) := by decide +kernel
theorem d_Wa_run_55 : decode b_Wa_run 55 = .ok (.iinc 1 1, 3) := by decide +kernel
theorem d_Wa_run_58 : decode b_Wa_run 58 = .ok (.goto (-21), 3) := by decide +kernel
theorem d_Wa_run_61 : decode b_Wa_run 61 = .ok (.return_, 1) := by decide +kernel
theorem d_Wa_goOn_0 : decode b_Wa_goOn 0 = .ok (.aload_n 0, 1) := by decide +kernel
theorem d_Wa_goOn_1 : decode b_Wa_goOn 1 = .ok (.getfield 19, 3) := by decide +kernel
theorem d_Wa_goOn_4 : decode b_Wa_goOn 4 = .ok (.aload_n 0, 1) := by decide +kernel
theorem d_Wa_goOn_5 : decode b_Wa_goOn 5 = .ok (.getfield 50, 3) := by decide +kernel
theorem d_Wa_goOn_8 : decode b_Wa_goOn 8 = .ok (.iconst 1, 1) := by decide +kernel
theorem d_Wa_goOn_9 : decode b_Wa_goOn 9 = .ok (.isub, 1) := by decide +kernel
theorem d_Wa_goOn_10 : decode b_Wa_goOn 10 = .ok (.iaload, 1) := by decide +kernel
theorem d_Wa_goOn_11 : decode b_Wa_goOn 11 = .ok (.istore_n 1, 1) := by decide +kernel
theorem d_Wa_goOn_12 : decode b_Wa_goOn 12 = .ok (.aload_n 0, 1) := by decide +kernel
theorem d_Wa_goOn_13 : decode b_Wa_goOn 13 = .ok (.getfield 22, 3) := by decide +kernel
theorem d_Wa_goOn_16 : decode b_Wa_goOn 16 = .ok (.aload_n 0, 1) := by decide +kernel
theorem d_Wa_goOn_17 : decode b_Wa_goOn 17 = .ok (.getfield 50, 3) := by decide +kernel
theorem d_Wa_goOn_20 : decode b_Wa_goOn 20 = .ok (.iconst 1, 1) := by decide +kernel
theorem d_Wa_goOn_21 : decode b_Wa_goOn 21 = .ok (.isub, 1) := by decide +kernel
theorem d_Wa_goOn_22 : decode b_Wa_goOn 22 = .ok (.iaload, 1) := by decide +kernel
theorem d_Wa_goOn_23 : decode b_Wa_goOn 23 = .ok (.istore_n 2, 1) := by decide +kernel
theorem d_Wa_goOn_24 : decode b_Wa_goOn 24 = .ok (.iload_n 2, 1) := by decide +kernel
theorem d_Wa_goOn_25 : decode b_Wa_goOn 25 = .ok (.aload_n 0, 1) := by decide +kernel
theorem d_Wa_goOn_26 : decode b_Wa_goOn 26 = .ok (.getfield 9, 3) := by decide +kernel
theorem d_Wa_goOn_29 : decode b_Wa_goOn 29 = .ok (.iload_n 1, 1) := by decide +kernel
theorem d_Wa_goOn_30 : decode b_Wa_goOn 30 = .ok (.invokevirtual 60, 3) := by decide +kernel
theorem d_Wa_goOn_33 : decode b_Wa_goOn 33 = .ok (.if_icmp .ge 29, 3) := by decide +kernel
theorem d_Wa_goOn_36 : decode b_Wa_goOn 36 = .ok (.aload_n 0, 1) := by decide +kernel
theorem d_Wa_goOn_37 : decode b_Wa_goOn 37 = .ok (.getfield 22, 3) := by decide +kernel
end
section
theorem d_Wa_goOn_40 : decode b_Wa_goOn 40 = .ok (.aload_n 0, 1) := by decide +kernel
theorem d_Wa_goOn_41 : decode b_Wa_goOn 41 = .ok (.getfield 50, 3) := by decide +kernel
theorem d_Wa_goOn_44 : decode b_Wa_goOn 44 = .ok (.iconst 1, 1) := by decide +kernel
theorem d_Wa_goOn_45 : decode b_Wa_goOn 45 = .ok (.isub, 1) := by decide +kernel
theorem d_Wa_goOn_46 : decode b_Wa_goOn 46 = .ok (.iload_n 2, 1) := by decide +kernel
theorem d_Wa_goOn_47 : decode b_Wa_goOn 47 = .ok (.iconst 1, 1) := by decide +kernel
theorem d_Wa_goOn_48 : decode b_Wa_goOn 48 = .ok (.iadd, 1) := by decide +kernel
theorem d_Wa_goOn_49 : decode b_Wa_goOn 49 = .ok (.iastore, 1) := by decide +kernel
theorem d_Wa_goOn_50 : decode b_Wa_goOn 50 = .ok (.aload_n 0, 1) := by decide +kernel
theorem d_Wa_goOn_51 : decode b_Wa_goOn 51 = .ok (.iload_n 1, 1) := by decide +kernel
theorem d_Wa_goOn_52 : decode b_Wa_goOn 52 = .ok (.iload_n 2, 1) := by decide +kernel
theorem d_Wa_goOn_53 : decode b_Wa_goOn 53 = .ok (.invokestatic 64, 3) := by decide +kernel
theorem d_Wa_goOn_56 : decode b_Wa_goOn 56 = .ok (.invokevirtual 68, 3) := by decide +kernel
theorem d_Wa_goOn_59 : decode b_Wa_goOn 59 = .ok (.goto 13, 3) := by decide +kernel
theorem d_Wa_goOn_62 : decode b_Wa_goOn 62 = .ok (.aload_n 0, 1) := by decide +kernel
theorem d_Wa_goOn_63 : decode b_Wa_goOn 63 = .ok (.dup, 1) := by decide +kernel
theorem d_Wa_goOn_64 : decode b_Wa_goOn 64 = .ok (.getfield 50, 3) := by decide +kernel
theorem d_Wa_goOn_67 : decode b_Wa_goOn 67 = .ok (.iconst 1, 1) := by decide +kernel
theorem d_Wa_goOn_68 : decode b_Wa_goOn 68 = .ok (.isub, 1) := by decide +kernel
theorem d_Wa_goOn_69 : decode b_Wa_goOn 69 = .ok (.putfield 50, 3) := by decide +kernel
theorem d_Wa_goOn_72 : decode b_Wa_goOn 72 = .ok (.return_, 1) := by decide +kernel
theorem d_Wa_meet_0 : decode b_Wa_meet 0 = .ok (.aload_n 0, 1) := by decide +kernel
theorem d_Wa_meet_1 : decode b_Wa_meet 1 = .ok (.getfield 9, 3) := by decide +kernel
theorem d_Wa_meet_4 : decode b_Wa_meet 4 = .ok (.iload_n 1, 1) := by decide +kernel
theorem d_Wa_meet_5 : decode b_Wa_meet 5 = .ok (.invokevirtual 71, 3) := by decide +kernel
theorem d_Wa_meet_8 : decode b_Wa_meet 8 = .ok (.istore_n 2, 1) := by decide +kernel
theorem d_Wa_meet_9 : decode b_Wa_meet 9 = .ok (.aload_n 0, 1) := by decide +kernel
theorem d_Wa_meet_10 : decode b_Wa_meet 10 = .ok (.getfield 9, 3) := by decide +kernel
theorem d_Wa_meet_13 : decode b_Wa_meet 13 = .ok (.iload_n 2, 1) := by decide +kernel
theorem d_Wa_meet_14 : decode b_Wa_meet 14 = .ok (.invokevirtual 36, 3) := by decide +kernel
theorem d_Wa_meet_17 : decode b_Wa_meet 17 = .ok (.ifCond .ne 18, 3) := by decide +kernel
theorem d_Wa_meet_20 : decode b_Wa_meet 20 = .ok (.aload_n 0, 1) := by decide +kernel
theorem d_Wa_meet_21 : decode b_Wa_meet 21 = .ok (.aload_n 0, 1) := by decide +kernel
theorem d_Wa_meet_22 : decode b_Wa_meet 22 = .ok (.getfield 9, 3) := by decide +kernel
theorem d_Wa_meet_25 : decode b_Wa_meet 25 = .ok (.iload_n 1, 1) := by decide +kernel
theorem d_Wa_meet_26 : decode b_Wa_meet 26 = .ok (.invokevirtual 74, 3) := by decide +kernel
theorem d_Wa_meet_29 : decode b_Wa_meet 29 = .ok (.invokevirtual 78, 3) := by decide +kernel
theorem d_Wa_meet_32 : decode b_Wa_meet 32 = .ok (.goto 34, 3) := by decide +kernel
theorem d_Wa_meet_35 : decode b_Wa_meet 35 = .ok (.aload_n 0, 1) := by decide +kernel
theorem d_Wa_meet_36 : decode b_Wa_meet 36 = .ok (.iload_n 2, 1) := by decide +kernel
theorem d_Wa_meet_37 : decode b_Wa_meet 37 = .ok (.invokevirtual 82, 3) := by decide +kernel
theorem d_Wa_meet_40 : decode b_Wa_meet 40 = .ok (.ifCond .eq 21, 3) := by decide +kernel
theorem d_Wa_meet_43 : decode b_Wa_meet 43 = .ok (.aload_n 0, 1) := by decide +kernel
theorem d_Wa_meet_44 : decode b_Wa_meet 44 = .ok (.ldc2_w 85, 3) := by decide +kernel
theorem d_Wa_meet_47 : decode b_Wa_meet 47 = .ok (.aload_n 0, 1) := by decide +kernel
theorem d_Wa_meet_48 : decode b_Wa_meet 48 = .ok (.getfield 15, 3) := by decide +kernel
theorem d_Wa_meet_51 : decode b_Wa_meet 51 = .ok (.iload_n 2, 1) := by decide +kernel
theorem d_Wa_meet_52 : decode b_Wa_meet 52 = .ok (.iaload, 1) := by decide +kernel
theorem d_Wa_meet_53 : decode b_Wa_meet 53 = .ok (.i2l, 1) := by decide +kernel
theorem d_Wa_meet_54 : decode b_Wa_meet 54 = .ok (.ladd, 1) := by decide +kernel
theorem d_Wa_meet_55 : decode b_Wa_meet 55 = .ok (.invokevirtual 78, 3) := by decide +kernel
theorem d_Wa_meet_58 : decode b_Wa_meet 58 = .ok (.goto 8, 3) := by decide +kernel
theorem d_Wa_meet_61 : decode b_Wa_meet 61 = .ok (.aload_n 0, 1) := by decide +kernel
theorem d_Wa_meet_62 : decode b_Wa_meet 62 = .ok (.iload_n 2, 1) := by decide +kernel
theorem d_Wa_meet_63 : decode b_Wa_meet 63 = .ok (.invokevirtual 87, 3) := by decide +kernel
theorem d_Wa_meet_66 : decode b_Wa_meet 66 = .ok (.return_, 1) := by decide +kernel
theorem d_Wa_meetFirst_0 : decode b_Wa_meetFirst 0 = .ok (.aload_n 0, 1) := by decide +kernel
theorem d_Wa_meetFirst_1 : decode b_Wa_meetFirst 1 = .ok (.getfield 9, 3) := by decide +kernel
theorem d_Wa_meetFirst_4 : decode b_Wa_meetFirst 4 = .ok (.iload_n 1, 1) := by decide +kernel
theorem d_Wa_meetFirst_5 : decode b_Wa_meetFirst 5 = .ok (.invokevirtual 60, 3) := by decide +kernel
theorem d_Wa_meetFirst_8 : decode b_Wa_meetFirst 8 = .ok (.istore_n 2, 1) := by decide +kernel
theorem d_Wa_meetFirst_9 : decode b_Wa_meetFirst 9 = .ok (.aload_n 0, 1) := by decide +kernel
theorem d_Wa_meetFirst_10 : decode b_Wa_meetFirst 10 = .ok (.dup, 1) := by decide +kernel
theorem d_Wa_meetFirst_11 : decode b_Wa_meetFirst 11 = .ok (.getfield 25, 3) := by decide +kernel
theorem d_Wa_meetFirst_14 : decode b_Wa_meetFirst 14 = .ok (.iconst 1, 1) := by decide +kernel
theorem d_Wa_meetFirst_15 : decode b_Wa_meetFirst 15 = .ok (.iadd, 1) := by decide +kernel
theorem d_Wa_meetFirst_16 : decode b_Wa_meetFirst 16 = .ok (.putfield 25, 3) := by decide +kernel
theorem d_Wa_meetFirst_19 : decode b_Wa_meetFirst 19 = .ok (.aload_n 0, 1) := by decide +kernel
theorem d_Wa_meetFirst_20 : decode b_Wa_meetFirst 20 = .ok (.getfield 15, 3) := by decide +kernel
theorem d_Wa_meetFirst_23 : decode b_Wa_meetFirst 23 = .ok (.iload_n 1, 1) := by decide +kernel
theorem d_Wa_meetFirst_24 : decode b_Wa_meetFirst 24 = .ok (.aload_n 0, 1) := by decide +kernel
theorem d_Wa_meetFirst_25 : decode b_Wa_meetFirst 25 = .ok (.getfield 25, 3) := by decide +kernel
theorem d_Wa_meetFirst_28 : decode b_Wa_meetFirst 28 = .ok (.iastore, 1) := by decide +kernel
theorem d_Wa_meetFirst_29 : decode b_Wa_meetFirst 29 = .ok (.aload_n 0, 1) := by decide +kernel
theorem d_Wa_meetFirst_30 : decode b_Wa_meetFirst 30 = .ok (.dup, 1) := by decide +kernel
theorem d_Wa_meetFirst_31 : decode b_Wa_meetFirst 31 = .ok (.getfield 29, 3) := by decide +kernel
theorem d_Wa_meetFirst_34 : decode b_Wa_meetFirst 34 = .ok (.iload_n 2, 1) := by decide +kernel
theorem d_Wa_meetFirst_35 : decode b_Wa_meetFirst 35 = .ok (.invokestatic 90, 3) := by decide +kernel
theorem d_Wa_meetFirst_38 : decode b_Wa_meetFirst 38 = .ok (.iadd, 1) := by decide +kernel
theorem d_Wa_meetFirst_39 : decode b_Wa_meetFirst 39 = .ok (.putfield 29, 3) := by decide +kernel
theorem d_Wa_meetFirst_42 : decode b_Wa_meetFirst 42 = .ok (.aload_n 0, 1) := by decide +kernel
theorem d_Wa_meetFirst_43 : decode b_Wa_meetFirst 43 = .ok (.ldc2_w 93, 3) := by decide +kernel
theorem d_Wa_meetFirst_46 : decode b_Wa_meetFirst 46 = .ok (.invokevirtual 78, 3) := by decide +kernel
theorem d_Wa_meetFirst_49 : decode b_Wa_meetFirst 49 = .ok (.aload_n 0, 1) := by decide +kernel
theorem d_Wa_meetFirst_50 : decode b_Wa_meetFirst 50 = .ok (.iload_n 2, 1) := by decide +kernel
theorem d_Wa_meetFirst_51 : decode b_Wa_meetFirst 51 = .ok (.i2l, 1) := by decide +kernel
theorem d_Wa_meetFirst_52 : decode b_Wa_meetFirst 52 = .ok (.invokevirtual 78, 3) := by decide +kernel
theorem d_Wa_meetFirst_55 : decode b_Wa_meetFirst 55 = .ok (.aload_n 0, 1) := by decide +kernel
theorem d_Wa_meetFirst_56 : decode b_Wa_meetFirst 56 = .ok (.iload_n 1, 1) := by decide +kernel
theorem d_Wa_meetFirst_57 : decode b_Wa_meetFirst 57 = .ok (.invokevirtual 53, 3) := by decide +kernel
theorem d_Wa_meetFirst_60 : decode b_Wa_meetFirst 60 = .ok (.return_, 1) := by decide +kernel
theorem d_Wa_goInto_0 : decode b_Wa_goInto 0 = .ok (.aload_n 0, 1) := by decide +kernel
theorem d_Wa_goInto_1 : decode b_Wa_goInto 1 = .ok (.getfield 50, 3) := by decide +kernel
theorem d_Wa_goInto_4 : decode b_Wa_goInto 4 = .ok (.aload_n 0, 1) := by decide +kernel
theorem d_Wa_goInto_5 : decode b_Wa_goInto 5 = .ok (.getfield 19, 3) := by decide +kernel
theorem d_Wa_goInto_8 : decode b_Wa_goInto 8 = .ok (.arraylength, 1) := by decide +kernel
theorem d_Wa_goInto_9 : decode b_Wa_goInto 9 = .ok (.if_icmp .ge 33, 3) := by decide +kernel
theorem d_Wa_goInto_12 : decode b_Wa_goInto 12 = .ok (.aload_n 0, 1) := by decide +kernel
theorem d_Wa_goInto_13 : decode b_Wa_goInto 13 = .ok (.getfield 19, 3) := by decide +kernel
theorem d_Wa_goInto_16 : decode b_Wa_goInto 16 = .ok (.aload_n 0, 1) := by decide +kernel
theorem d_Wa_goInto_17 : decode b_Wa_goInto 17 = .ok (.getfield 50, 3) := by decide +kernel
theorem d_Wa_goInto_20 : decode b_Wa_goInto 20 = .ok (.iload_n 1, 1) := by decide +kernel
theorem d_Wa_goInto_21 : decode b_Wa_goInto 21 = .ok (.iastore, 1) := by decide +kernel
theorem d_Wa_goInto_22 : decode b_Wa_goInto 22 = .ok (.aload_n 0, 1) := by decide +kernel
theorem d_Wa_goInto_23 : decode b_Wa_goInto 23 = .ok (.getfield 22, 3) := by decide +kernel
theorem d_Wa_goInto_26 : decode b_Wa_goInto 26 = .ok (.aload_n 0, 1) := by decide +kernel
theorem d_Wa_goInto_27 : decode b_Wa_goInto 27 = .ok (.getfield 50, 3) := by decide +kernel
theorem d_Wa_goInto_30 : decode b_Wa_goInto 30 = .ok (.iconst 0, 1) := by decide +kernel
theorem d_Wa_goInto_31 : decode b_Wa_goInto 31 = .ok (.iastore, 1) := by decide +kernel
theorem d_Wa_goInto_32 : decode b_Wa_goInto 32 = .ok (.aload_n 0, 1) := by decide +kernel
theorem d_Wa_goInto_33 : decode b_Wa_goInto 33 = .ok (.dup, 1) := by decide +kernel
theorem d_Wa_goInto_34 : decode b_Wa_goInto 34 = .ok (.getfield 50, 3) := by decide +kernel
theorem d_Wa_goInto_37 : decode b_Wa_goInto 37 = .ok (.iconst 1, 1) := by decide +kernel
theorem d_Wa_goInto_38 : decode b_Wa_goInto 38 = .ok (.iadd, 1) := by decide +kernel
theorem d_Wa_goInto_39 : decode b_Wa_goInto 39 = .ok (.putfield 50, 3) := by decide +kernel
theorem d_Wa_goInto_42 : decode b_Wa_goInto 42 = .ok (.return_, 1) := by decide +kernel
theorem d_Wa_mix_0 : decode b_Wa_mix 0 = .ok (.aload_n 0, 1) := by decide +kernel
theorem d_Wa_mix_1 : decode b_Wa_mix 1 = .ok (.ldc2_w 95, 3) := by decide +kernel
theorem d_Wa_mix_4 : decode b_Wa_mix 4 = .ok (.aload_n 0, 1) := by decide +kernel
theorem d_Wa_mix_5 : decode b_Wa_mix 5 = .ok (.getfield 32, 3) := by decide +kernel
theorem d_Wa_mix_8 : decode b_Wa_mix 8 = .ok (.lmul, 1) := by decide +kernel
theorem d_Wa_mix_9 : decode b_Wa_mix 9 = .ok (.lload_n 1, 1) := by decide +kernel
theorem d_Wa_mix_10 : decode b_Wa_mix 10 = .ok (.ladd, 1) := by decide +kernel
theorem d_Wa_mix_11 : decode b_Wa_mix 11 = .ok (.putfield 32, 3) := by decide +kernel
theorem d_Wa_mix_14 : decode b_Wa_mix 14 = .ok (.return_, 1) := by decide +kernel
theorem d_La_tuple_0 : decode b_La_tuple 0 = .ok (.aload_n 3, 1) := by decide +kernel
theorem d_La_tuple_1 : decode b_La_tuple 1 = .ok (.iconst 0, 1) := by decide +kernel
theorem d_La_tuple_2 : decode b_La_tuple 2 = .ok (.aload_n 0, 1) := by decide +kernel
theorem d_La_tuple_3 : decode b_La_tuple 3 = .ok (.iload_n 1, 1) := by decide +kernel
theorem d_La_tuple_4 : decode b_La_tuple 4 = .ok (.iload_n 2, 1) := by decide +kernel
theorem d_La_tuple_5 : decode b_La_tuple 5 = .ok (.invokevirtual 7, 3) := by decide +kernel
theorem d_La_tuple_8 : decode b_La_tuple 8 = .ok (.i2l, 1) := by decide +kernel
theorem d_La_tuple_9 : decode b_La_tuple 9 = .ok (.lastore, 1) := by decide +kernel
theorem d_La_tuple_10 : decode b_La_tuple 10 = .ok (.goto 15, 3) := by decide +kernel
theorem d_La_tuple_13 : decode b_La_tuple 13 = .ok (.astore 4, 2) := by decide +kernel
theorem d_La_tuple_15 : decode b_La_tuple 15 = .ok (.iconst 1, 1) := by decide +kernel
theorem d_La_tuple_16 : decode b_La_tuple 16 = .ok (.ireturn, 1) := by decide +kernel
theorem d_La_tuple_17 : decode b_La_tuple 17 = .ok (.astore 4, 2) := by decide +kernel
theorem d_La_tuple_19 : decode b_La_tuple 19 = .ok (.iconst 2, 1) := by decide +kernel
theorem d_La_tuple_20 : decode b_La_tuple 20 = .ok (.ireturn, 1) := by decide +kernel
theorem d_La_tuple_21 : decode b_La_tuple 21 = .ok (.astore 4, 2) := by decide +kernel
theorem d_La_tuple_23 : decode b_La_tuple 23 = .ok (.iconst 3, 1) := by decide +kernel
theorem d_La_tuple_24 : decode b_La_tuple 24 = .ok (.ireturn, 1) := by decide +kernel
theorem d_La_tuple_25 : decode b_La_tuple 25 = .ok (.iconst 0, 1) := by decide +kernel
theorem d_La_tuple_26 : decode b_La_tuple 26 = .ok (.ireturn, 1) := by decide +kernel
theorem d_La_number_0 : decode b_La_number 0 = .ok (.aload_n 0, 1) := by decide +kernel
theorem d_La_number_1 : decode b_La_number 1 = .ok (.iload_n 1, 1) := by decide +kernel
theorem d_La_number_2 : decode b_La_number 2 = .ok (.lload_n 2, 1) := by decide +kernel
theorem d_La_number_3 : decode b_La_number 3 = .ok (.invokevirtual 19, 3) := by decide +kernel
theorem d_La_number_6 : decode b_La_number 6 = .ok (.goto 7, 3) := by decide +kernel
theorem d_La_number_9 : decode b_La_number 9 = .ok (.astore 4, 2) := by decide +kernel
theorem d_La_number_11 : decode b_La_number 11 = .ok (.iconst 1, 1) := by decide +kernel
theorem d_La_number_12 : decode b_La_number 12 = .ok (.ireturn, 1) := by decide +kernel
theorem d_La_number_13 : decode b_La_number 13 = .ok (.iconst 0, 1) := by decide +kernel
theorem d_La_number_14 : decode b_La_number 14 = .ok (.ireturn, 1) := by decide +kernel
theorem d_La_copy_0 : decode b_La_copy 0 = .ok (.aload_n 0, 1) := by decide +kernel
theorem d_La_copy_1 : decode b_La_copy 1 = .ok (.iload_n 1, 1) := by decide +kernel
theorem d_La_copy_2 : decode b_La_copy 2 = .ok (.iload_n 2, 1) := by decide +kernel
theorem d_La_copy_3 : decode b_La_copy 3 = .ok (.invokevirtual 23, 3) := by decide +kernel
theorem d_La_copy_6 : decode b_La_copy 6 = .ok (.goto 6, 3) := by decide +kernel
theorem d_La_copy_9 : decode b_La_copy 9 = .ok (.astore_n 3, 1) := by decide +kernel
theorem d_La_copy_10 : decode b_La_copy 10 = .ok (.iconst 1, 1) := by decide +kernel
theorem d_La_copy_11 : decode b_La_copy 11 = .ok (.ireturn, 1) := by decide +kernel
theorem d_La_copy_12 : decode b_La_copy 12 = .ok (.iconst 0, 1) := by decide +kernel
theorem d_La_copy_13 : decode b_La_copy 13 = .ok (.ireturn, 1) := by decide +kernel
theorem d_La_get_0 : decode b_La_get 0 = .ok (.aload_n 0, 1) := by decide +kernel
theorem d_La_get_1 : decode b_La_get 1 = .ok (.iload_n 1, 1) := by decide +kernel
theorem d_La_get_2 : decode b_La_get 2 = .ok (.iload_n 2, 1) := by decide +kernel
theorem d_La_get_3 : decode b_La_get 3 = .ok (.iload_n 3, 1) := by decide +kernel
theorem d_La_get_4 : decode b_La_get 4 = .ok (.invokevirtual 27, 3) := by decide +kernel
theorem d_La_get_7 : decode b_La_get 7 = .ok (.goto 11, 3) := by decide +kernel
theorem d_La_get_10 : decode b_La_get 10 = .ok (.astore 4, 2) := by decide +kernel
theorem d_La_get_12 : decode b_La_get 12 = .ok (.iconst 1, 1) := by decide +kernel
theorem d_La_get_13 : decode b_La_get 13 = .ok (.ireturn, 1) := by decide +kernel
theorem d_La_get_14 : decode b_La_get 14 = .ok (.astore 4, 2) := by decide +kernel
theorem d_La_get_16 : decode b_La_get 16 = .ok (.iconst 2, 1) := by decide +kernel
theorem d_La_get_17 : decode b_La_get 17 = .ok (.ireturn, 1) := by decide +kernel
theorem d_La_get_18 : decode b_La_get 18 = .ok (.iconst 0, 1) := by decide +kernel
theorem d_La_get_19 : decode b_La_get 19 = .ok (.ireturn, 1) := by decide +kernel
theorem d_La_set_0 : decode b_La_set 0 = .ok (.aload_n 0, 1) := by decide +kernel
theorem d_La_set_1 : decode b_La_set 1 = .ok (.iload_n 1, 1) := by decide +kernel
theorem d_La_set_2 : decode b_La_set 2 = .ok (.iload_n 2, 1) := by decide +kernel
theorem d_La_set_3 : decode b_La_set 3 = .ok (.iload_n 3, 1) := by decide +kernel
theorem d_La_set_4 : decode b_La_set 4 = .ok (.invokevirtual 33, 3) := by decide +kernel
theorem d_La_set_7 : decode b_La_set 7 = .ok (.goto 11, 3) := by decide +kernel
theorem d_La_set_10 : decode b_La_set 10 = .ok (.astore 4, 2) := by decide +kernel
theorem d_La_set_12 : decode b_La_set 12 = .ok (.iconst 1, 1) := by decide +kernel
theorem d_La_set_13 : decode b_La_set 13 = .ok (.ireturn, 1) := by decide +kernel
theorem d_La_set_14 : decode b_La_set 14 = .ok (.astore 4, 2) := by decide +kernel
theorem d_La_set_16 : decode b_La_set 16 = .ok (.iconst 2, 1) := by decide +kernel
theorem d_La_set_17 : decode b_La_set 17 = .ok (.ireturn, 1) := by decide +kernel
theorem d_La_set_18 : decode b_La_set 18 = .ok (.iconst 0, 1) := by decide +kernel
theorem d_La_set_19 : decode b_La_set 19 = .ok (.ireturn, 1) := by decide +kernel
theorem d_La_step_0 : decode b_La_step 0 = .ok (.aload_n 0, 1) := by decide +kernel
theorem d_La_step_1 : decode b_La_step 1 = .ok (.iload_n 1, 1) := by decide +kernel
theorem d_La_step_2 : decode b_La_step 2 = .ok (.invokevirtual 36, 3) := by decide +kernel
theorem d_La_step_5 : decode b_La_step 5 = .ok (.goto 6, 3) := by decide +kernel
theorem d_La_step_8 : decode b_La_step 8 = .ok (.astore_n 2, 1) := by decide +kernel
theorem d_La_step_9 : decode b_La_step 9 = .ok (.iconst 1, 1) := by decide +kernel
theorem d_La_step_10 : decode b_La_step 10 = .ok (.ireturn, 1) := by decide +kernel
theorem d_La_step_11 : decode b_La_step 11 = .ok (.iconst 0, 1) := by decide +kernel
theorem d_La_step_12 : decode b_La_step 12 = .ok (.ireturn, 1) := by decide +kernel
theorem d_La_pace_0 : decode b_La_pace 0 = .ok (.aload_n 2, 1) := by decide +kernel
theorem d_La_pace_1 : decode b_La_pace 1 = .ok (.iconst 0, 1) := by decide +kernel
theorem d_La_pace_2 : decode b_La_pace 2 = .ok (.aload_n 0, 1) := by decide +kernel
theorem d_La_pace_3 : decode b_La_pace 3 = .ok (.iload_n 1, 1) := by decide +kernel
theorem d_La_pace_4 : decode b_La_pace 4 = .ok (.invokevirtual 40, 3) := by decide +kernel
theorem d_La_pace_7 : decode b_La_pace 7 = .ok (.i2l, 1) := by decide +kernel
theorem d_La_pace_8 : decode b_La_pace 8 = .ok (.lastore, 1) := by decide +kernel
theorem d_La_pace_9 : decode b_La_pace 9 = .ok (.goto 6, 3) := by decide +kernel
theorem d_La_pace_12 : decode b_La_pace 12 = .ok (.astore_n 3, 1) := by decide +kernel
theorem d_La_pace_13 : decode b_La_pace 13 = .ok (.iconst 1, 1) := by decide +kernel
theorem d_La_pace_14 : decode b_La_pace 14 = .ok (.ireturn, 1) := by decide +kernel
theorem d_La_pace_15 : decode b_La_pace 15 = .ok (.iconst 0, 1) := by decide +kernel
theorem d_La_pace_16 : decode b_La_pace 16 = .ok (.ireturn, 1) := by decide +kernel
theorem d_La_size_0 : decode b_La_size 0 = .ok (.aload_n 2, 1) := by decide +kernel
theorem d_La_size_1 : decode b_La_size 1 = .ok (.iconst 0, 1) := by decide +kernel
theorem d_La_size_2 : decode b_La_size 2 = .ok (.aload_n 0, 1) := by decide +kernel
theorem d_La_size_3 : decode b_La_size 3 = .ok (.iload_n 1, 1) := by decide +kernel
theorem d_La_size_4 : decode b_La_size 4 = .ok (.invokevirtual 44, 3) := by decide +kernel
theorem d_La_size_7 : decode b_La_size 7 = .ok (.i2l, 1) := by decide +kernel
theorem d_La_size_8 : decode b_La_size 8 = .ok (.lastore, 1) := by decide +kernel
theorem d_La_size_9 : decode b_La_size 9 = .ok (.goto 6, 3) := by decide +kernel
theorem d_La_size_12 : decode b_La_size 12 = .ok (.astore_n 3, 1) := by decide +kernel
theorem d_La_size_13 : decode b_La_size 13 = .ok (.iconst 1, 1) := by decide +kernel
theorem d_La_size_14 : decode b_La_size 14 = .ok (.ireturn, 1) := by decide +kernel
theorem d_La_size_15 : decode b_La_size 15 = .ok (.iconst 0, 1) := by decide +kernel
theorem d_La_size_16 : decode b_La_size 16 = .ok (.ireturn, 1) := by decide +kernel
theorem d_La_value_0 : decode b_La_value 0 = .ok (.aload_n 2, 1) := by decide +kernel
theorem d_La_value_1 : decode b_La_value 1 = .ok (.iconst 0, 1) := by decide +kernel
theorem d_La_value_2 : decode b_La_value 2 = .ok (.aload_n 0, 1) := by decide +kernel
theorem d_La_value_3 : decode b_La_value 3 = .ok (.iload_n 1, 1) := by decide +kernel
theorem d_La_value_4 : decode b_La_value 4 = .ok (.invokevirtual 47, 3) := by decide +kernel
theorem d_La_value_7 : decode b_La_value 7 = .ok (.lastore, 1) := by decide +kernel
theorem d_La_value_8 : decode b_La_value 8 = .ok (.goto 6, 3) := by decide +kernel
theorem d_La_value_11 : decode b_La_value 11 = .ok (.astore_n 3, 1) := by decide +kernel
theorem d_La_value_12 : decode b_La_value 12 = .ok (.iconst 1, 1) := by decide +kernel
theorem d_La_value_13 : decode b_La_value 13 = .ok (.ireturn, 1) := by decide +kernel
theorem d_La_value_14 : decode b_La_value 14 = .ok (.iconst 0, 1) := by decide +kernel
theorem d_La_value_15 : decode b_La_value 15 = .ok (.ireturn, 1) := by decide +kernel
theorem d_La_same_0 : decode b_La_same 0 = .ok (.aload_n 3, 1) := by decide +kernel
theorem d_La_same_1 : decode b_La_same 1 = .ok (.iconst 0, 1) := by decide +kernel
theorem d_La_same_2 : decode b_La_same 2 = .ok (.aload_n 0, 1) := by decide +kernel
theorem d_La_same_3 : decode b_La_same 3 = .ok (.iload_n 1, 1) := by decide +kernel
theorem d_La_same_4 : decode b_La_same 4 = .ok (.iload_n 2, 1) := by decide +kernel
theorem d_La_same_5 : decode b_La_same 5 = .ok (.invokevirtual 51, 3) := by decide +kernel
theorem d_La_same_8 : decode b_La_same 8 = .ok (.ifCond .eq 7, 3) := by decide +kernel
theorem d_La_same_11 : decode b_La_same 11 = .ok (.lconst 1, 1) := by decide +kernel
theorem d_La_same_12 : decode b_La_same 12 = .ok (.goto 4, 3) := by decide +kernel
theorem d_La_same_15 : decode b_La_same 15 = .ok (.lconst 0, 1) := by decide +kernel
theorem d_La_same_16 : decode b_La_same 16 = .ok (.lastore, 1) := by decide +kernel
theorem d_La_same_17 : decode b_La_same 17 = .ok (.goto 7, 3) := by decide +kernel
theorem d_La_same_20 : decode b_La_same 20 = .ok (.astore 4, 2) := by decide +kernel
theorem d_La_same_22 : decode b_La_same 22 = .ok (.iconst 1, 1) := by decide +kernel
theorem d_La_same_23 : decode b_La_same 23 = .ok (.ireturn, 1) := by decide +kernel
theorem d_La_same_24 : decode b_La_same 24 = .ok (.iconst 0, 1) := by decide +kernel
theorem d_La_same_25 : decode b_La_same 25 = .ok (.ireturn, 1) := by decide +kernel
theorem d_La_count_0 : decode b_La_count 0 = .ok (.aload_n 2, 1) := by decide +kernel
theorem d_La_count_1 : decode b_La_count 1 = .ok (.iconst 0, 1) := by decide +kernel
theorem d_La_count_2 : decode b_La_count 2 = .ok (.aload_n 0, 1) := by decide +kernel
theorem d_La_count_3 : decode b_La_count 3 = .ok (.iload_n 1, 1) := by decide +kernel
theorem d_La_count_4 : decode b_La_count 4 = .ok (.invokevirtual 55, 3) := by decide +kernel
theorem d_La_count_7 : decode b_La_count 7 = .ok (.i2l, 1) := by decide +kernel
theorem d_La_count_8 : decode b_La_count 8 = .ok (.lastore, 1) := by decide +kernel
theorem d_La_count_9 : decode b_La_count 9 = .ok (.goto 6, 3) := by decide +kernel
theorem d_La_count_12 : decode b_La_count 12 = .ok (.astore_n 3, 1) := by decide +kernel
theorem d_La_count_13 : decode b_La_count 13 = .ok (.iconst 1, 1) := by decide +kernel
theorem d_La_count_14 : decode b_La_count 14 = .ok (.ireturn, 1) := by decide +kernel
theorem d_La_count_15 : decode b_La_count 15 = .ok (.iconst 0, 1) := by decide +kernel
theorem d_La_count_16 : decode b_La_count 16 = .ok (.ireturn, 1) := by decide +kernel
theorem d_La_law_0 : decode code 0 = .ok (.new 8, 3) := by decide +kernel
theorem d_La_law_3 : decode code 3 = .ok (.dup, 1) := by decide +kernel
theorem d_La_law_4 : decode code 4 = .ok (.invokespecial 58, 3) := by decide +kernel
theorem d_La_law_7 : decode code 7 = .ok (.astore_n 1, 1) := by decide +kernel
theorem d_La_law_8 : decode code 8 = .ok (.new 59, 3) := by decide +kernel
theorem d_La_law_11 : decode code 11 = .ok (.dup, 1) := by decide +kernel
theorem d_La_law_12 : decode code 12 = .ok (.invokespecial 61, 3) := by decide +kernel
theorem d_La_law_15 : decode code 15 = .ok (.astore_n 2, 1) := by decide +kernel
theorem d_La_law_16 : decode code 16 = .ok (.iconst 1, 1) := by decide +kernel
theorem d_La_law_17 : decode code 17 = .ok (.newarray .long, 2) := by decide +kernel
theorem d_La_law_19 : decode code 19 = .ok (.astore_n 3, 1) := by decide +kernel
theorem d_La_law_20 : decode code 20 = .ok (.iconst 0, 1) := by decide +kernel
theorem d_La_law_21 : decode code 21 = .ok (.istore 4, 2) := by decide +kernel
theorem d_La_law_23 : decode code 23 = .ok (.iload 4, 2) := by decide +kernel
theorem d_La_law_25 : decode code 25 = .ok (.aload_n 0, 1) := by decide +kernel
theorem d_La_law_26 : decode code 26 = .ok (.arraylength, 1) := by decide +kernel
theorem d_La_law_27 : decode code 27 = .ok (.iconst 4, 1) := by decide +kernel
theorem d_La_law_28 : decode code 28 = .ok (.isub, 1) := by decide +kernel
theorem d_La_law_29 : decode code 29 = .ok (.if_icmp .gt 775, 3) := by decide +kernel
theorem d_La_law_32 : decode code 32 = .ok (.aload_n 0, 1) := by decide +kernel
theorem d_La_law_33 : decode code 33 = .ok (.iload 4, 2) := by decide +kernel
theorem d_La_law_35 : decode code 35 = .ok (.iaload, 1) := by decide +kernel
theorem d_La_law_36 : decode code 36 = .ok (.bipush 15, 2) := by decide +kernel
theorem d_La_law_38 : decode code 38 = .ok (.iand, 1) := by decide +kernel
theorem d_La_law_39 : decode code 39 = .ok (.tableswitch 759 0 13 #[69, 137, 217, 265, 325, 385, 421, 477, 533, 588, 663, 719, 733, 746], 69) := by decide +kernel
theorem d_La_law_108 : decode code 108 = .ok (.aload_n 1, 1) := by decide +kernel
theorem d_La_law_109 : decode code 109 = .ok (.aload_n 0, 1) := by decide +kernel
theorem d_La_law_110 : decode code 110 = .ok (.iload 4, 2) := by decide +kernel
theorem d_La_law_112 : decode code 112 = .ok (.iconst 1, 1) := by decide +kernel
theorem d_La_law_113 : decode code 113 = .ok (.iadd, 1) := by decide +kernel
theorem d_La_law_114 : decode code 114 = .ok (.iaload, 1) := by decide +kernel
theorem d_La_law_115 : decode code 115 = .ok (.aload_n 0, 1) := by decide +kernel
theorem d_La_law_116 : decode code 116 = .ok (.iload 4, 2) := by decide +kernel
theorem d_La_law_118 : decode code 118 = .ok (.iconst 2, 1) := by decide +kernel
theorem d_La_law_119 : decode code 119 = .ok (.iadd, 1) := by decide +kernel
theorem d_La_law_120 : decode code 120 = .ok (.iaload, 1) := by decide +kernel
theorem d_La_law_121 : decode code 121 = .ok (.aload_n 3, 1) := by decide +kernel
theorem d_La_law_122 : decode code 122 = .ok (.invokestatic 62, 3) := by decide +kernel
theorem d_La_law_125 : decode code 125 = .ok (.istore 5, 2) := by decide +kernel
theorem d_La_law_127 : decode code 127 = .ok (.aload_n 2, 1) := by decide +kernel
theorem d_La_law_128 : decode code 128 = .ok (.aload_n 0, 1) := by decide +kernel
theorem d_La_law_129 : decode code 129 = .ok (.iload 4, 2) := by decide +kernel
theorem d_La_law_131 : decode code 131 = .ok (.iconst 1, 1) := by decide +kernel
theorem d_La_law_132 : decode code 132 = .ok (.iadd, 1) := by decide +kernel
theorem d_La_law_133 : decode code 133 = .ok (.iaload, 1) := by decide +kernel
theorem d_La_law_134 : decode code 134 = .ok (.aload_n 0, 1) := by decide +kernel
theorem d_La_law_135 : decode code 135 = .ok (.iload 4, 2) := by decide +kernel
theorem d_La_law_137 : decode code 137 = .ok (.iconst 2, 1) := by decide +kernel
theorem d_La_law_138 : decode code 138 = .ok (.iadd, 1) := by decide +kernel
theorem d_La_law_139 : decode code 139 = .ok (.iaload, 1) := by decide +kernel
theorem d_La_law_140 : decode code 140 = .ok (.invokevirtual 67, 3) := by decide +kernel
theorem d_La_law_143 : decode code 143 = .ok (.istore 6, 2) := by decide +kernel
theorem d_La_law_145 : decode code 145 = .ok (.aload_n 2, 1) := by decide +kernel
theorem d_La_law_146 : decode code 146 = .ok (.invokevirtual 68, 3) := by decide +kernel
theorem d_La_law_149 : decode code 149 = .ok (.iload 5, 2) := by decide +kernel
theorem d_La_law_151 : decode code 151 = .ok (.if_icmp .eq 5, 3) := by decide +kernel
theorem d_La_law_154 : decode code 154 = .ok (.iconst 0, 1) := by decide +kernel
theorem d_La_law_155 : decode code 155 = .ok (.ireturn, 1) := by decide +kernel
theorem d_La_law_156 : decode code 156 = .ok (.iload 5, 2) := by decide +kernel
theorem d_La_law_158 : decode code 158 = .ok (.ifCond .ne 15, 3) := by decide +kernel
theorem d_La_law_161 : decode code 161 = .ok (.aload_n 3, 1) := by decide +kernel
theorem d_La_law_162 : decode code 162 = .ok (.iconst 0, 1) := by decide +kernel
theorem d_La_law_163 : decode code 163 = .ok (.laload, 1) := by decide +kernel
theorem d_La_law_164 : decode code 164 = .ok (.iload 6, 2) := by decide +kernel
theorem d_La_law_166 : decode code 166 = .ok (.i2l, 1) := by decide +kernel
theorem d_La_law_167 : decode code 167 = .ok (.lcmp, 1) := by decide +kernel
theorem d_La_law_168 : decode code 168 = .ok (.ifCond .eq 5, 3) := by decide +kernel
theorem d_La_law_171 : decode code 171 = .ok (.iconst 0, 1) := by decide +kernel
theorem d_La_law_172 : decode code 172 = .ok (.ireturn, 1) := by decide +kernel
theorem d_La_law_173 : decode code 173 = .ok (.goto 625, 3) := by decide +kernel
theorem d_La_law_176 : decode code 176 = .ok (.aload_n 1, 1) := by decide +kernel
theorem d_La_law_177 : decode code 177 = .ok (.aload_n 0, 1) := by decide +kernel
theorem d_La_law_178 : decode code 178 = .ok (.iload 4, 2) := by decide +kernel
theorem d_La_law_180 : decode code 180 = .ok (.iconst 1, 1) := by decide +kernel
theorem d_La_law_181 : decode code 181 = .ok (.iadd, 1) := by decide +kernel
theorem d_La_law_182 : decode code 182 = .ok (.iaload, 1) := by decide +kernel
theorem d_La_law_183 : decode code 183 = .ok (.aload_n 0, 1) := by decide +kernel
theorem d_La_law_184 : decode code 184 = .ok (.iload 4, 2) := by decide +kernel
theorem d_La_law_186 : decode code 186 = .ok (.iconst 2, 1) := by decide +kernel
theorem d_La_law_187 : decode code 187 = .ok (.iadd, 1) := by decide +kernel
theorem d_La_law_188 : decode code 188 = .ok (.iaload, 1) := by decide +kernel
theorem d_La_law_189 : decode code 189 = .ok (.i2l, 1) := by decide +kernel
theorem d_La_law_190 : decode code 190 = .ok (.bipush 32, 2) := by decide +kernel
theorem d_La_law_192 : decode code 192 = .ok (.lshl, 1) := by decide +kernel
theorem d_La_law_193 : decode code 193 = .ok (.aload_n 0, 1) := by decide +kernel
theorem d_La_law_194 : decode code 194 = .ok (.iload 4, 2) := by decide +kernel
theorem d_La_law_196 : decode code 196 = .ok (.iconst 3, 1) := by decide +kernel
theorem d_La_law_197 : decode code 197 = .ok (.iadd, 1) := by decide +kernel
theorem d_La_law_198 : decode code 198 = .ok (.iaload, 1) := by decide +kernel
theorem d_La_law_199 : decode code 199 = .ok (.i2l, 1) := by decide +kernel
theorem d_La_law_200 : decode code 200 = .ok (.ldc2_w 72, 3) := by decide +kernel
theorem d_La_law_203 : decode code 203 = .ok (.land, 1) := by decide +kernel
theorem d_La_law_204 : decode code 204 = .ok (.lor, 1) := by decide +kernel
theorem d_La_law_205 : decode code 205 = .ok (.invokestatic 74, 3) := by decide +kernel
theorem d_La_law_208 : decode code 208 = .ok (.istore 5, 2) := by decide +kernel
theorem d_La_law_210 : decode code 210 = .ok (.aload_n 2, 1) := by decide +kernel
theorem d_La_law_211 : decode code 211 = .ok (.aload_n 0, 1) := by decide +kernel
theorem d_La_law_212 : decode code 212 = .ok (.iload 4, 2) := by decide +kernel
theorem d_La_law_214 : decode code 214 = .ok (.iconst 1, 1) := by decide +kernel
theorem d_La_law_215 : decode code 215 = .ok (.iadd, 1) := by decide +kernel
theorem d_La_law_216 : decode code 216 = .ok (.iaload, 1) := by decide +kernel
theorem d_La_law_217 : decode code 217 = .ok (.aload_n 0, 1) := by decide +kernel
theorem d_La_law_218 : decode code 218 = .ok (.iload 4, 2) := by decide +kernel
theorem d_La_law_220 : decode code 220 = .ok (.iconst 2, 1) := by decide +kernel
theorem d_La_law_221 : decode code 221 = .ok (.iadd, 1) := by decide +kernel
theorem d_La_law_222 : decode code 222 = .ok (.iaload, 1) := by decide +kernel
theorem d_La_law_223 : decode code 223 = .ok (.i2l, 1) := by decide +kernel
theorem d_La_law_224 : decode code 224 = .ok (.bipush 32, 2) := by decide +kernel
theorem d_La_law_226 : decode code 226 = .ok (.lshl, 1) := by decide +kernel
theorem d_La_law_227 : decode code 227 = .ok (.aload_n 0, 1) := by decide +kernel
theorem d_La_law_228 : decode code 228 = .ok (.iload 4, 2) := by decide +kernel
theorem d_La_law_230 : decode code 230 = .ok (.iconst 3, 1) := by decide +kernel
theorem d_La_law_231 : decode code 231 = .ok (.iadd, 1) := by decide +kernel
theorem d_La_law_232 : decode code 232 = .ok (.iaload, 1) := by decide +kernel
theorem d_La_law_233 : decode code 233 = .ok (.i2l, 1) := by decide +kernel
theorem d_La_law_234 : decode code 234 = .ok (.ldc2_w 72, 3) := by decide +kernel
theorem d_La_law_237 : decode code 237 = .ok (.land, 1) := by decide +kernel
theorem d_La_law_238 : decode code 238 = .ok (.lor, 1) := by decide +kernel
theorem d_La_law_239 : decode code 239 = .ok (.invokevirtual 77, 3) := by decide +kernel
theorem d_La_law_242 : decode code 242 = .ok (.aload_n 2, 1) := by decide +kernel
theorem d_La_law_243 : decode code 243 = .ok (.invokevirtual 68, 3) := by decide +kernel
theorem d_La_law_246 : decode code 246 = .ok (.iload 5, 2) := by decide +kernel
theorem d_La_law_248 : decode code 248 = .ok (.if_icmp .eq 5, 3) := by decide +kernel
theorem d_La_law_251 : decode code 251 = .ok (.iconst 0, 1) := by decide +kernel
theorem d_La_law_252 : decode code 252 = .ok (.ireturn, 1) := by decide +kernel
theorem d_La_law_253 : decode code 253 = .ok (.goto 545, 3) := by decide +kernel
theorem d_La_law_256 : decode code 256 = .ok (.aload_n 1, 1) := by decide +kernel
theorem d_La_law_257 : decode code 257 = .ok (.aload_n 0, 1) := by decide +kernel
theorem d_La_law_258 : decode code 258 = .ok (.iload 4, 2) := by decide +kernel
theorem d_La_law_260 : decode code 260 = .ok (.iconst 1, 1) := by decide +kernel
theorem d_La_law_261 : decode code 261 = .ok (.iadd, 1) := by decide +kernel
theorem d_La_law_262 : decode code 262 = .ok (.iaload, 1) := by decide +kernel
theorem d_La_law_263 : decode code 263 = .ok (.aload_n 0, 1) := by decide +kernel
theorem d_La_law_264 : decode code 264 = .ok (.iload 4, 2) := by decide +kernel
theorem d_La_law_266 : decode code 266 = .ok (.iconst 2, 1) := by decide +kernel
theorem d_La_law_267 : decode code 267 = .ok (.iadd, 1) := by decide +kernel
theorem d_La_law_268 : decode code 268 = .ok (.iaload, 1) := by decide +kernel
theorem d_La_law_269 : decode code 269 = .ok (.invokestatic 78, 3) := by decide +kernel
theorem d_La_law_272 : decode code 272 = .ok (.istore 5, 2) := by decide +kernel
theorem d_La_law_274 : decode code 274 = .ok (.aload_n 2, 1) := by decide +kernel
theorem d_La_law_275 : decode code 275 = .ok (.aload_n 0, 1) := by decide +kernel
theorem d_La_law_276 : decode code 276 = .ok (.iload 4, 2) := by decide +kernel
theorem d_La_law_278 : decode code 278 = .ok (.iconst 1, 1) := by decide +kernel
theorem d_La_law_279 : decode code 279 = .ok (.iadd, 1) := by decide +kernel
theorem d_La_law_280 : decode code 280 = .ok (.iaload, 1) := by decide +kernel
theorem d_La_law_281 : decode code 281 = .ok (.aload_n 0, 1) := by decide +kernel
theorem d_La_law_282 : decode code 282 = .ok (.iload 4, 2) := by decide +kernel
theorem d_La_law_284 : decode code 284 = .ok (.iconst 2, 1) := by decide +kernel
theorem d_La_law_285 : decode code 285 = .ok (.iadd, 1) := by decide +kernel
theorem d_La_law_286 : decode code 286 = .ok (.iaload, 1) := by decide +kernel
theorem d_La_law_287 : decode code 287 = .ok (.invokevirtual 81, 3) := by decide +kernel
theorem d_La_law_290 : decode code 290 = .ok (.aload_n 2, 1) := by decide +kernel
theorem d_La_law_291 : decode code 291 = .ok (.invokevirtual 68, 3) := by decide +kernel
theorem d_La_law_294 : decode code 294 = .ok (.iload 5, 2) := by decide +kernel
theorem d_La_law_296 : decode code 296 = .ok (.if_icmp .eq 5, 3) := by decide +kernel
theorem d_La_law_299 : decode code 299 = .ok (.iconst 0, 1) := by decide +kernel
theorem d_La_law_300 : decode code 300 = .ok (.ireturn, 1) := by decide +kernel
theorem d_La_law_301 : decode code 301 = .ok (.goto 497, 3) := by decide +kernel
theorem d_La_law_304 : decode code 304 = .ok (.aload_n 1, 1) := by decide +kernel
theorem d_La_law_305 : decode code 305 = .ok (.aload_n 0, 1) := by decide +kernel
theorem d_La_law_306 : decode code 306 = .ok (.iload 4, 2) := by decide +kernel
theorem d_La_law_308 : decode code 308 = .ok (.iconst 1, 1) := by decide +kernel
theorem d_La_law_309 : decode code 309 = .ok (.iadd, 1) := by decide +kernel
theorem d_La_law_310 : decode code 310 = .ok (.iaload, 1) := by decide +kernel
theorem d_La_law_311 : decode code 311 = .ok (.aload_n 0, 1) := by decide +kernel
theorem d_La_law_312 : decode code 312 = .ok (.iload 4, 2) := by decide +kernel
theorem d_La_law_314 : decode code 314 = .ok (.iconst 2, 1) := by decide +kernel
theorem d_La_law_315 : decode code 315 = .ok (.iadd, 1) := by decide +kernel
theorem d_La_law_316 : decode code 316 = .ok (.iaload, 1) := by decide +kernel
theorem d_La_law_317 : decode code 317 = .ok (.aload_n 0, 1) := by decide +kernel
theorem d_La_law_318 : decode code 318 = .ok (.iload 4, 2) := by decide +kernel
theorem d_La_law_320 : decode code 320 = .ok (.iconst 3, 1) := by decide +kernel
theorem d_La_law_321 : decode code 321 = .ok (.iadd, 1) := by decide +kernel
theorem d_La_law_322 : decode code 322 = .ok (.iaload, 1) := by decide +kernel
theorem d_La_law_323 : decode code 323 = .ok (.invokestatic 82, 3) := by decide +kernel
theorem d_La_law_326 : decode code 326 = .ok (.istore 5, 2) := by decide +kernel
theorem d_La_law_328 : decode code 328 = .ok (.aload_n 2, 1) := by decide +kernel
theorem d_La_law_329 : decode code 329 = .ok (.aload_n 0, 1) := by decide +kernel
theorem d_La_law_330 : decode code 330 = .ok (.iload 4, 2) := by decide +kernel
theorem d_La_law_332 : decode code 332 = .ok (.iconst 1, 1) := by decide +kernel
theorem d_La_law_333 : decode code 333 = .ok (.iadd, 1) := by decide +kernel
theorem d_La_law_334 : decode code 334 = .ok (.iaload, 1) := by decide +kernel
theorem d_La_law_335 : decode code 335 = .ok (.aload_n 0, 1) := by decide +kernel
theorem d_La_law_336 : decode code 336 = .ok (.iload 4, 2) := by decide +kernel
theorem d_La_law_338 : decode code 338 = .ok (.iconst 2, 1) := by decide +kernel
theorem d_La_law_339 : decode code 339 = .ok (.iadd, 1) := by decide +kernel
theorem d_La_law_340 : decode code 340 = .ok (.iaload, 1) := by decide +kernel
theorem d_La_law_341 : decode code 341 = .ok (.aload_n 0, 1) := by decide +kernel
theorem d_La_law_342 : decode code 342 = .ok (.iload 4, 2) := by decide +kernel
theorem d_La_law_344 : decode code 344 = .ok (.iconst 3, 1) := by decide +kernel
theorem d_La_law_345 : decode code 345 = .ok (.iadd, 1) := by decide +kernel
theorem d_La_law_346 : decode code 346 = .ok (.iaload, 1) := by decide +kernel
theorem d_La_law_347 : decode code 347 = .ok (.invokevirtual 85, 3) := by decide +kernel
theorem d_La_law_350 : decode code 350 = .ok (.aload_n 2, 1) := by decide +kernel
theorem d_La_law_351 : decode code 351 = .ok (.invokevirtual 68, 3) := by decide +kernel
theorem d_La_law_354 : decode code 354 = .ok (.iload 5, 2) := by decide +kernel
theorem d_La_law_356 : decode code 356 = .ok (.if_icmp .eq 5, 3) := by decide +kernel
theorem d_La_law_359 : decode code 359 = .ok (.iconst 0, 1) := by decide +kernel
theorem d_La_law_360 : decode code 360 = .ok (.ireturn, 1) := by decide +kernel
theorem d_La_law_361 : decode code 361 = .ok (.goto 437, 3) := by decide +kernel
theorem d_La_law_364 : decode code 364 = .ok (.aload_n 1, 1) := by decide +kernel
theorem d_La_law_365 : decode code 365 = .ok (.aload_n 0, 1) := by decide +kernel
theorem d_La_law_366 : decode code 366 = .ok (.iload 4, 2) := by decide +kernel
theorem d_La_law_368 : decode code 368 = .ok (.iconst 1, 1) := by decide +kernel
theorem d_La_law_369 : decode code 369 = .ok (.iadd, 1) := by decide +kernel
theorem d_La_law_370 : decode code 370 = .ok (.iaload, 1) := by decide +kernel
theorem d_La_law_371 : decode code 371 = .ok (.aload_n 0, 1) := by decide +kernel
theorem d_La_law_372 : decode code 372 = .ok (.iload 4, 2) := by decide +kernel
theorem d_La_law_374 : decode code 374 = .ok (.iconst 2, 1) := by decide +kernel
theorem d_La_law_375 : decode code 375 = .ok (.iadd, 1) := by decide +kernel
theorem d_La_law_376 : decode code 376 = .ok (.iaload, 1) := by decide +kernel
theorem d_La_law_377 : decode code 377 = .ok (.aload_n 0, 1) := by decide +kernel
theorem d_La_law_378 : decode code 378 = .ok (.iload 4, 2) := by decide +kernel
theorem d_La_law_380 : decode code 380 = .ok (.iconst 3, 1) := by decide +kernel
theorem d_La_law_381 : decode code 381 = .ok (.iadd, 1) := by decide +kernel
theorem d_La_law_382 : decode code 382 = .ok (.iaload, 1) := by decide +kernel
theorem d_La_law_383 : decode code 383 = .ok (.invokestatic 86, 3) := by decide +kernel
theorem d_La_law_386 : decode code 386 = .ok (.istore 5, 2) := by decide +kernel
theorem d_La_law_388 : decode code 388 = .ok (.aload_n 2, 1) := by decide +kernel
theorem d_La_law_389 : decode code 389 = .ok (.aload_n 0, 1) := by decide +kernel
theorem d_La_law_390 : decode code 390 = .ok (.iload 4, 2) := by decide +kernel
theorem d_La_law_392 : decode code 392 = .ok (.iconst 1, 1) := by decide +kernel
theorem d_La_law_393 : decode code 393 = .ok (.iadd, 1) := by decide +kernel
theorem d_La_law_394 : decode code 394 = .ok (.iaload, 1) := by decide +kernel
theorem d_La_law_395 : decode code 395 = .ok (.aload_n 0, 1) := by decide +kernel
theorem d_La_law_396 : decode code 396 = .ok (.iload 4, 2) := by decide +kernel
theorem d_La_law_398 : decode code 398 = .ok (.iconst 2, 1) := by decide +kernel
theorem d_La_law_399 : decode code 399 = .ok (.iadd, 1) := by decide +kernel
theorem d_La_law_400 : decode code 400 = .ok (.iaload, 1) := by decide +kernel
theorem d_La_law_401 : decode code 401 = .ok (.aload_n 0, 1) := by decide +kernel
theorem d_La_law_402 : decode code 402 = .ok (.iload 4, 2) := by decide +kernel
theorem d_La_law_404 : decode code 404 = .ok (.iconst 3, 1) := by decide +kernel
theorem d_La_law_405 : decode code 405 = .ok (.iadd, 1) := by decide +kernel
theorem d_La_law_406 : decode code 406 = .ok (.iaload, 1) := by decide +kernel
theorem d_La_law_407 : decode code 407 = .ok (.invokevirtual 88, 3) := by decide +kernel
theorem d_La_law_410 : decode code 410 = .ok (.aload_n 2, 1) := by decide +kernel
theorem d_La_law_411 : decode code 411 = .ok (.invokevirtual 68, 3) := by decide +kernel
theorem d_La_law_414 : decode code 414 = .ok (.iload 5, 2) := by decide +kernel
theorem d_La_law_416 : decode code 416 = .ok (.if_icmp .eq 5, 3) := by decide +kernel
theorem d_La_law_419 : decode code 419 = .ok (.iconst 0, 1) := by decide +kernel
theorem d_La_law_420 : decode code 420 = .ok (.ireturn, 1) := by decide +kernel
theorem d_La_law_421 : decode code 421 = .ok (.goto 377, 3) := by decide +kernel
theorem d_La_law_424 : decode code 424 = .ok (.aload_n 1, 1) := by decide +kernel
theorem d_La_law_425 : decode code 425 = .ok (.aload_n 0, 1) := by decide +kernel
theorem d_La_law_426 : decode code 426 = .ok (.iload 4, 2) := by decide +kernel
theorem d_La_law_428 : decode code 428 = .ok (.iconst 1, 1) := by decide +kernel
theorem d_La_law_429 : decode code 429 = .ok (.iadd, 1) := by decide +kernel
theorem d_La_law_430 : decode code 430 = .ok (.iaload, 1) := by decide +kernel
theorem d_La_law_431 : decode code 431 = .ok (.invokestatic 89, 3) := by decide +kernel
theorem d_La_law_434 : decode code 434 = .ok (.istore 5, 2) := by decide +kernel
theorem d_La_law_436 : decode code 436 = .ok (.aload_n 2, 1) := by decide +kernel
theorem d_La_law_437 : decode code 437 = .ok (.aload_n 0, 1) := by decide +kernel
theorem d_La_law_438 : decode code 438 = .ok (.iload 4, 2) := by decide +kernel
theorem d_La_law_440 : decode code 440 = .ok (.iconst 1, 1) := by decide +kernel
theorem d_La_law_441 : decode code 441 = .ok (.iadd, 1) := by decide +kernel
theorem d_La_law_442 : decode code 442 = .ok (.iaload, 1) := by decide +kernel
theorem d_La_law_443 : decode code 443 = .ok (.invokevirtual 92, 3) := by decide +kernel
theorem d_La_law_446 : decode code 446 = .ok (.aload_n 2, 1) := by decide +kernel
theorem d_La_law_447 : decode code 447 = .ok (.invokevirtual 68, 3) := by decide +kernel
theorem d_La_law_450 : decode code 450 = .ok (.iload 5, 2) := by decide +kernel
theorem d_La_law_452 : decode code 452 = .ok (.if_icmp .eq 5, 3) := by decide +kernel
theorem d_La_law_455 : decode code 455 = .ok (.iconst 0, 1) := by decide +kernel
theorem d_La_law_456 : decode code 456 = .ok (.ireturn, 1) := by decide +kernel
theorem d_La_law_457 : decode code 457 = .ok (.goto 341, 3) := by decide +kernel
theorem d_La_law_460 : decode code 460 = .ok (.aload_n 1, 1) := by decide +kernel
theorem d_La_law_461 : decode code 461 = .ok (.aload_n 0, 1) := by decide +kernel
theorem d_La_law_462 : decode code 462 = .ok (.iload 4, 2) := by decide +kernel
theorem d_La_law_464 : decode code 464 = .ok (.iconst 1, 1) := by decide +kernel
theorem d_La_law_465 : decode code 465 = .ok (.iadd, 1) := by decide +kernel
theorem d_La_law_466 : decode code 466 = .ok (.iaload, 1) := by decide +kernel
theorem d_La_law_467 : decode code 467 = .ok (.aload_n 3, 1) := by decide +kernel
theorem d_La_law_468 : decode code 468 = .ok (.invokestatic 93, 3) := by decide +kernel
theorem d_La_law_471 : decode code 471 = .ok (.istore 5, 2) := by decide +kernel
theorem d_La_law_473 : decode code 473 = .ok (.aload_n 2, 1) := by decide +kernel
theorem d_La_law_474 : decode code 474 = .ok (.aload_n 0, 1) := by decide +kernel
theorem d_La_law_475 : decode code 475 = .ok (.iload 4, 2) := by decide +kernel
theorem d_La_law_477 : decode code 477 = .ok (.iconst 1, 1) := by decide +kernel
theorem d_La_law_478 : decode code 478 = .ok (.iadd, 1) := by decide +kernel
theorem d_La_law_479 : decode code 479 = .ok (.iaload, 1) := by decide +kernel
theorem d_La_law_480 : decode code 480 = .ok (.invokevirtual 96, 3) := by decide +kernel
theorem d_La_law_483 : decode code 483 = .ok (.istore 6, 2) := by decide +kernel
theorem d_La_law_485 : decode code 485 = .ok (.aload_n 2, 1) := by decide +kernel
theorem d_La_law_486 : decode code 486 = .ok (.invokevirtual 68, 3) := by decide +kernel
theorem d_La_law_489 : decode code 489 = .ok (.iload 5, 2) := by decide +kernel
theorem d_La_law_491 : decode code 491 = .ok (.if_icmp .eq 5, 3) := by decide +kernel
theorem d_La_law_494 : decode code 494 = .ok (.iconst 0, 1) := by decide +kernel
theorem d_La_law_495 : decode code 495 = .ok (.ireturn, 1) := by decide +kernel
theorem d_La_law_496 : decode code 496 = .ok (.iload 5, 2) := by decide +kernel
theorem d_La_law_498 : decode code 498 = .ok (.ifCond .ne 15, 3) := by decide +kernel
theorem d_La_law_501 : decode code 501 = .ok (.aload_n 3, 1) := by decide +kernel
theorem d_La_law_502 : decode code 502 = .ok (.iconst 0, 1) := by decide +kernel
theorem d_La_law_503 : decode code 503 = .ok (.laload, 1) := by decide +kernel
theorem d_La_law_504 : decode code 504 = .ok (.iload 6, 2) := by decide +kernel
theorem d_La_law_506 : decode code 506 = .ok (.i2l, 1) := by decide +kernel
theorem d_La_law_507 : decode code 507 = .ok (.lcmp, 1) := by decide +kernel
theorem d_La_law_508 : decode code 508 = .ok (.ifCond .eq 5, 3) := by decide +kernel
theorem d_La_law_511 : decode code 511 = .ok (.iconst 0, 1) := by decide +kernel
theorem d_La_law_512 : decode code 512 = .ok (.ireturn, 1) := by decide +kernel
theorem d_La_law_513 : decode code 513 = .ok (.goto 285, 3) := by decide +kernel
theorem d_La_law_516 : decode code 516 = .ok (.aload_n 1, 1) := by decide +kernel
theorem d_La_law_517 : decode code 517 = .ok (.aload_n 0, 1) := by decide +kernel
theorem d_La_law_518 : decode code 518 = .ok (.iload 4, 2) := by decide +kernel
theorem d_La_law_520 : decode code 520 = .ok (.iconst 1, 1) := by decide +kernel
theorem d_La_law_521 : decode code 521 = .ok (.iadd, 1) := by decide +kernel
theorem d_La_law_522 : decode code 522 = .ok (.iaload, 1) := by decide +kernel
theorem d_La_law_523 : decode code 523 = .ok (.aload_n 3, 1) := by decide +kernel
theorem d_La_law_524 : decode code 524 = .ok (.invokestatic 97, 3) := by decide +kernel
theorem d_La_law_527 : decode code 527 = .ok (.istore 5, 2) := by decide +kernel
theorem d_La_law_529 : decode code 529 = .ok (.aload_n 2, 1) := by decide +kernel
theorem d_La_law_530 : decode code 530 = .ok (.aload_n 0, 1) := by decide +kernel
theorem d_La_law_531 : decode code 531 = .ok (.iload 4, 2) := by decide +kernel
theorem d_La_law_533 : decode code 533 = .ok (.iconst 1, 1) := by decide +kernel
theorem d_La_law_534 : decode code 534 = .ok (.iadd, 1) := by decide +kernel
theorem d_La_law_535 : decode code 535 = .ok (.iaload, 1) := by decide +kernel
theorem d_La_law_536 : decode code 536 = .ok (.invokevirtual 99, 3) := by decide +kernel
theorem d_La_law_539 : decode code 539 = .ok (.istore 6, 2) := by decide +kernel
theorem d_La_law_541 : decode code 541 = .ok (.aload_n 2, 1) := by decide +kernel
theorem d_La_law_542 : decode code 542 = .ok (.invokevirtual 68, 3) := by decide +kernel
theorem d_La_law_545 : decode code 545 = .ok (.iload 5, 2) := by decide +kernel
theorem d_La_law_547 : decode code 547 = .ok (.if_icmp .eq 5, 3) := by decide +kernel
theorem d_La_law_550 : decode code 550 = .ok (.iconst 0, 1) := by decide +kernel
theorem d_La_law_551 : decode code 551 = .ok (.ireturn, 1) := by decide +kernel
theorem d_La_law_552 : decode code 552 = .ok (.iload 5, 2) := by decide +kernel
theorem d_La_law_554 : decode code 554 = .ok (.ifCond .ne 15, 3) := by decide +kernel
theorem d_La_law_557 : decode code 557 = .ok (.aload_n 3, 1) := by decide +kernel
theorem d_La_law_558 : decode code 558 = .ok (.iconst 0, 1) := by decide +kernel
theorem d_La_law_559 : decode code 559 = .ok (.laload, 1) := by decide +kernel
theorem d_La_law_560 : decode code 560 = .ok (.iload 6, 2) := by decide +kernel
theorem d_La_law_562 : decode code 562 = .ok (.i2l, 1) := by decide +kernel
theorem d_La_law_563 : decode code 563 = .ok (.lcmp, 1) := by decide +kernel
theorem d_La_law_564 : decode code 564 = .ok (.ifCond .eq 5, 3) := by decide +kernel
theorem d_La_law_567 : decode code 567 = .ok (.iconst 0, 1) := by decide +kernel
theorem d_La_law_568 : decode code 568 = .ok (.ireturn, 1) := by decide +kernel
theorem d_La_law_569 : decode code 569 = .ok (.goto 229, 3) := by decide +kernel
theorem d_La_law_572 : decode code 572 = .ok (.aload_n 1, 1) := by decide +kernel
theorem d_La_law_573 : decode code 573 = .ok (.aload_n 0, 1) := by decide +kernel
theorem d_La_law_574 : decode code 574 = .ok (.iload 4, 2) := by decide +kernel
theorem d_La_law_576 : decode code 576 = .ok (.iconst 1, 1) := by decide +kernel
theorem d_La_law_577 : decode code 577 = .ok (.iadd, 1) := by decide +kernel
theorem d_La_law_578 : decode code 578 = .ok (.iaload, 1) := by decide +kernel
theorem d_La_law_579 : decode code 579 = .ok (.aload_n 3, 1) := by decide +kernel
theorem d_La_law_580 : decode code 580 = .ok (.invokestatic 100, 3) := by decide +kernel
theorem d_La_law_583 : decode code 583 = .ok (.istore 5, 2) := by decide +kernel
theorem d_La_law_585 : decode code 585 = .ok (.aload_n 2, 1) := by decide +kernel
theorem d_La_law_586 : decode code 586 = .ok (.aload_n 0, 1) := by decide +kernel
theorem d_La_law_587 : decode code 587 = .ok (.iload 4, 2) := by decide +kernel
theorem d_La_law_589 : decode code 589 = .ok (.iconst 1, 1) := by decide +kernel
theorem d_La_law_590 : decode code 590 = .ok (.iadd, 1) := by decide +kernel
theorem d_La_law_591 : decode code 591 = .ok (.iaload, 1) := by decide +kernel
theorem d_La_law_592 : decode code 592 = .ok (.invokevirtual 102, 3) := by decide +kernel
theorem d_La_law_595 : decode code 595 = .ok (.lstore 6, 2) := by decide +kernel
theorem d_La_law_597 : decode code 597 = .ok (.aload_n 2, 1) := by decide +kernel
theorem d_La_law_598 : decode code 598 = .ok (.invokevirtual 68, 3) := by decide +kernel
theorem d_La_law_601 : decode code 601 = .ok (.iload 5, 2) := by decide +kernel
theorem d_La_law_603 : decode code 603 = .ok (.if_icmp .eq 5, 3) := by decide +kernel
theorem d_La_law_606 : decode code 606 = .ok (.iconst 0, 1) := by decide +kernel
theorem d_La_law_607 : decode code 607 = .ok (.ireturn, 1) := by decide +kernel
theorem d_La_law_608 : decode code 608 = .ok (.iload 5, 2) := by decide +kernel
theorem d_La_law_610 : decode code 610 = .ok (.ifCond .ne 14, 3) := by decide +kernel
theorem d_La_law_613 : decode code 613 = .ok (.aload_n 3, 1) := by decide +kernel
theorem d_La_law_614 : decode code 614 = .ok (.iconst 0, 1) := by decide +kernel
theorem d_La_law_615 : decode code 615 = .ok (.laload, 1) := by decide +kernel
theorem d_La_law_616 : decode code 616 = .ok (.lload 6, 2) := by decide +kernel
theorem d_La_law_618 : decode code 618 = .ok (.lcmp, 1) := by decide +kernel
theorem d_La_law_619 : decode code 619 = .ok (.ifCond .eq 5, 3) := by decide +kernel
theorem d_La_law_622 : decode code 622 = .ok (.iconst 0, 1) := by decide +kernel
theorem d_La_law_623 : decode code 623 = .ok (.ireturn, 1) := by decide +kernel
theorem d_La_law_624 : decode code 624 = .ok (.goto 174, 3) := by decide +kernel
theorem d_La_law_627 : decode code 627 = .ok (.aload_n 1, 1) := by decide +kernel
theorem d_La_law_628 : decode code 628 = .ok (.aload_n 0, 1) := by decide +kernel
theorem d_La_law_629 : decode code 629 = .ok (.iload 4, 2) := by decide +kernel
theorem d_La_law_631 : decode code 631 = .ok (.iconst 1, 1) := by decide +kernel
theorem d_La_law_632 : decode code 632 = .ok (.iadd, 1) := by decide +kernel
theorem d_La_law_633 : decode code 633 = .ok (.iaload, 1) := by decide +kernel
theorem d_La_law_634 : decode code 634 = .ok (.aload_n 0, 1) := by decide +kernel
theorem d_La_law_635 : decode code 635 = .ok (.iload 4, 2) := by decide +kernel
theorem d_La_law_637 : decode code 637 = .ok (.iconst 2, 1) := by decide +kernel
theorem d_La_law_638 : decode code 638 = .ok (.iadd, 1) := by decide +kernel
theorem d_La_law_639 : decode code 639 = .ok (.iaload, 1) := by decide +kernel
theorem d_La_law_640 : decode code 640 = .ok (.aload_n 3, 1) := by decide +kernel
theorem d_La_law_641 : decode code 641 = .ok (.invokestatic 103, 3) := by decide +kernel
theorem d_La_law_644 : decode code 644 = .ok (.istore 5, 2) := by decide +kernel
theorem d_La_law_646 : decode code 646 = .ok (.aload_n 2, 1) := by decide +kernel
theorem d_La_law_647 : decode code 647 = .ok (.aload_n 0, 1) := by decide +kernel
theorem d_La_law_648 : decode code 648 = .ok (.iload 4, 2) := by decide +kernel
theorem d_La_law_650 : decode code 650 = .ok (.iconst 1, 1) := by decide +kernel
theorem d_La_law_651 : decode code 651 = .ok (.iadd, 1) := by decide +kernel
theorem d_La_law_652 : decode code 652 = .ok (.iaload, 1) := by decide +kernel
theorem d_La_law_653 : decode code 653 = .ok (.aload_n 0, 1) := by decide +kernel
theorem d_La_law_654 : decode code 654 = .ok (.iload 4, 2) := by decide +kernel
theorem d_La_law_656 : decode code 656 = .ok (.iconst 2, 1) := by decide +kernel
theorem d_La_law_657 : decode code 657 = .ok (.iadd, 1) := by decide +kernel
theorem d_La_law_658 : decode code 658 = .ok (.iaload, 1) := by decide +kernel
theorem d_La_law_659 : decode code 659 = .ok (.invokevirtual 105, 3) := by decide +kernel
theorem d_La_law_662 : decode code 662 = .ok (.istore 6, 2) := by decide +kernel
theorem d_La_law_664 : decode code 664 = .ok (.aload_n 2, 1) := by decide +kernel
theorem d_La_law_665 : decode code 665 = .ok (.invokevirtual 68, 3) := by decide +kernel
theorem d_La_law_668 : decode code 668 = .ok (.iload 5, 2) := by decide +kernel
theorem d_La_law_670 : decode code 670 = .ok (.if_icmp .eq 5, 3) := by decide +kernel
theorem d_La_law_673 : decode code 673 = .ok (.iconst 0, 1) := by decide +kernel
theorem d_La_law_674 : decode code 674 = .ok (.ireturn, 1) := by decide +kernel
theorem d_La_law_675 : decode code 675 = .ok (.iload 5, 2) := by decide +kernel
theorem d_La_law_677 : decode code 677 = .ok (.ifCond .ne 22, 3) := by decide +kernel
theorem d_La_law_680 : decode code 680 = .ok (.aload_n 3, 1) := by decide +kernel
theorem d_La_law_681 : decode code 681 = .ok (.iconst 0, 1) := by decide +kernel
theorem d_La_law_682 : decode code 682 = .ok (.laload, 1) := by decide +kernel
theorem d_La_law_683 : decode code 683 = .ok (.iload 6, 2) := by decide +kernel
theorem d_La_law_685 : decode code 685 = .ok (.ifCond .eq 7, 3) := by decide +kernel
theorem d_La_law_688 : decode code 688 = .ok (.lconst 1, 1) := by decide +kernel
theorem d_La_law_689 : decode code 689 = .ok (.goto 4, 3) := by decide +kernel
theorem d_La_law_692 : decode code 692 = .ok (.lconst 0, 1) := by decide +kernel
theorem d_La_law_693 : decode code 693 = .ok (.lcmp, 1) := by decide +kernel
theorem d_La_law_694 : decode code 694 = .ok (.ifCond .eq 5, 3) := by decide +kernel
theorem d_La_law_697 : decode code 697 = .ok (.iconst 0, 1) := by decide +kernel
theorem d_La_law_698 : decode code 698 = .ok (.ireturn, 1) := by decide +kernel
theorem d_La_law_699 : decode code 699 = .ok (.goto 99, 3) := by decide +kernel
theorem d_La_law_702 : decode code 702 = .ok (.aload_n 1, 1) := by decide +kernel
theorem d_La_law_703 : decode code 703 = .ok (.aload_n 0, 1) := by decide +kernel
theorem d_La_law_704 : decode code 704 = .ok (.iload 4, 2) := by decide +kernel
theorem d_La_law_706 : decode code 706 = .ok (.iconst 1, 1) := by decide +kernel
theorem d_La_law_707 : decode code 707 = .ok (.iadd, 1) := by decide +kernel
theorem d_La_law_708 : decode code 708 = .ok (.iaload, 1) := by decide +kernel
theorem d_La_law_709 : decode code 709 = .ok (.aload_n 3, 1) := by decide +kernel
theorem d_La_law_710 : decode code 710 = .ok (.invokestatic 106, 3) := by decide +kernel
theorem d_La_law_713 : decode code 713 = .ok (.istore 5, 2) := by decide +kernel
theorem d_La_law_715 : decode code 715 = .ok (.aload_n 2, 1) := by decide +kernel
theorem d_La_law_716 : decode code 716 = .ok (.aload_n 0, 1) := by decide +kernel
theorem d_La_law_717 : decode code 717 = .ok (.iload 4, 2) := by decide +kernel
theorem d_La_law_719 : decode code 719 = .ok (.iconst 1, 1) := by decide +kernel
theorem d_La_law_720 : decode code 720 = .ok (.iadd, 1) := by decide +kernel
end
section
theorem d_La_law_721 : decode code 721 = .ok (.iaload, 1) := by decide +kernel
theorem d_La_law_722 : decode code 722 = .ok (.invokevirtual 108, 3) := by decide +kernel
theorem d_La_law_725 : decode code 725 = .ok (.istore 6, 2) := by decide +kernel
theorem d_La_law_727 : decode code 727 = .ok (.aload_n 2, 1) := by decide +kernel
theorem d_La_law_728 : decode code 728 = .ok (.invokevirtual 68, 3) := by decide +kernel
theorem d_La_law_731 : decode code 731 = .ok (.iload 5, 2) := by decide +kernel
theorem d_La_law_733 : decode code 733 = .ok (.if_icmp .eq 5, 3) := by decide +kernel
theorem d_La_law_736 : decode code 736 = .ok (.iconst 0, 1) := by decide +kernel
theorem d_La_law_737 : decode code 737 = .ok (.ireturn, 1) := by decide +kernel
theorem d_La_law_738 : decode code 738 = .ok (.iload 5, 2) := by decide +kernel
theorem d_La_law_740 : decode code 740 = .ok (.ifCond .ne 15, 3) := by decide +kernel
theorem d_La_law_743 : decode code 743 = .ok (.aload_n 3, 1) := by decide +kernel
theorem d_La_law_744 : decode code 744 = .ok (.iconst 0, 1) := by decide +kernel
theorem d_La_law_745 : decode code 745 = .ok (.laload, 1) := by decide +kernel
theorem d_La_law_746 : decode code 746 = .ok (.iload 6, 2) := by decide +kernel
theorem d_La_law_748 : decode code 748 = .ok (.i2l, 1) := by decide +kernel
theorem d_La_law_749 : decode code 749 = .ok (.lcmp, 1) := by decide +kernel
theorem d_La_law_750 : decode code 750 = .ok (.ifCond .eq 5, 3) := by decide +kernel
theorem d_La_law_753 : decode code 753 = .ok (.iconst 0, 1) := by decide +kernel
theorem d_La_law_754 : decode code 754 = .ok (.ireturn, 1) := by decide +kernel
theorem d_La_law_755 : decode code 755 = .ok (.goto 43, 3) := by decide +kernel
theorem d_La_law_758 : decode code 758 = .ok (.aload_n 1, 1) := by decide +kernel
theorem d_La_law_759 : decode code 759 = .ok (.invokevirtual 109, 3) := by decide +kernel
theorem d_La_law_762 : decode code 762 = .ok (.aload_n 2, 1) := by decide +kernel
theorem d_La_law_763 : decode code 763 = .ok (.invokevirtual 113, 3) := by decide +kernel
theorem d_La_law_766 : decode code 766 = .ok (.lcmp, 1) := by decide +kernel
theorem d_La_law_767 : decode code 767 = .ok (.ifCond .eq 31, 3) := by decide +kernel
theorem d_La_law_770 : decode code 770 = .ok (.iconst 0, 1) := by decide +kernel
theorem d_La_law_771 : decode code 771 = .ok (.ireturn, 1) := by decide +kernel
theorem d_La_law_772 : decode code 772 = .ok (.aload_n 1, 1) := by decide +kernel
theorem d_La_law_773 : decode code 773 = .ok (.invokevirtual 114, 3) := by decide +kernel
theorem d_La_law_776 : decode code 776 = .ok (.aload_n 2, 1) := by decide +kernel
theorem d_La_law_777 : decode code 777 = .ok (.invokevirtual 117, 3) := by decide +kernel
theorem d_La_law_780 : decode code 780 = .ok (.if_icmp .eq 18, 3) := by decide +kernel
theorem d_La_law_783 : decode code 783 = .ok (.iconst 0, 1) := by decide +kernel
theorem d_La_law_784 : decode code 784 = .ok (.ireturn, 1) := by decide +kernel
theorem d_La_law_785 : decode code 785 = .ok (.aload_n 1, 1) := by decide +kernel
theorem d_La_law_786 : decode code 786 = .ok (.invokevirtual 118, 3) := by decide +kernel
theorem d_La_law_789 : decode code 789 = .ok (.aload_n 2, 1) := by decide +kernel
theorem d_La_law_790 : decode code 790 = .ok (.invokevirtual 121, 3) := by decide +kernel
theorem d_La_law_793 : decode code 793 = .ok (.if_icmp .eq 5, 3) := by decide +kernel
theorem d_La_law_796 : decode code 796 = .ok (.iconst 0, 1) := by decide +kernel
theorem d_La_law_797 : decode code 797 = .ok (.ireturn, 1) := by decide +kernel
theorem d_La_law_798 : decode code 798 = .ok (.iinc 4 4, 3) := by decide +kernel
theorem d_La_law_801 : decode code 801 = .ok (.goto (-778), 3) := by decide +kernel
theorem d_La_law_804 : decode code 804 = .ok (.iconst 1, 1) := by decide +kernel
theorem d_La_law_805 : decode code 805 = .ok (.ireturn, 1) := by decide +kernel
theorem d_Ob_init_0 : decode b_Ob_init 0 = .ok (.return_, 1) := by decide +kernel
theorem d_Ar_fill_0 : decode b_Ar_fill 0 = .ok (.iconst 0, 1) := by decide +kernel
theorem d_Ar_fill_1 : decode b_Ar_fill 1 = .ok (.istore_n 2, 1) := by decide +kernel
theorem d_Ar_fill_2 : decode b_Ar_fill 2 = .ok (.aload_n 0, 1) := by decide +kernel
theorem d_Ar_fill_3 : decode b_Ar_fill 3 = .ok (.arraylength, 1) := by decide +kernel
theorem d_Ar_fill_4 : decode b_Ar_fill 4 = .ok (.istore_n 3, 1) := by decide +kernel
theorem d_Ar_fill_5 : decode b_Ar_fill 5 = .ok (.iload_n 2, 1) := by decide +kernel
theorem d_Ar_fill_6 : decode b_Ar_fill 6 = .ok (.iload_n 3, 1) := by decide +kernel
theorem d_Ar_fill_7 : decode b_Ar_fill 7 = .ok (.if_icmp .ge 13, 3) := by decide +kernel
theorem d_Ar_fill_10 : decode b_Ar_fill 10 = .ok (.aload_n 0, 1) := by decide +kernel
theorem d_Ar_fill_11 : decode b_Ar_fill 11 = .ok (.iload_n 2, 1) := by decide +kernel
theorem d_Ar_fill_12 : decode b_Ar_fill 12 = .ok (.iload_n 1, 1) := by decide +kernel
theorem d_Ar_fill_13 : decode b_Ar_fill 13 = .ok (.iastore, 1) := by decide +kernel
theorem d_Ar_fill_14 : decode b_Ar_fill 14 = .ok (.iinc 2 1, 3) := by decide +kernel
theorem d_Ar_fill_17 : decode b_Ar_fill 17 = .ok (.goto (-12), 3) := by decide +kernel
theorem d_Ar_fill_20 : decode b_Ar_fill 20 = .ok (.return_, 1) := by decide +kernel
end
section
def sn_s (f : Nat → Nat) : Nat → Nat
  | 0 => 0
  | n + 1 => sn_s f n + f n
theorem sn_s_succ (f : Nat → Nat) (n : Nat) : sn_s f (n + 1) = sn_s f n + f n := rfl
theorem sn_s_congr {f g : Nat → Nat} : ∀ {n : Nat}, (∀ k, k < n → f k = g k) → sn_s f n = sn_s g n
  | 0, _ => rfl
  | n + 1, h => by
    rw [sn_s_succ, sn_s_succ, sn_s_congr (n := n) (fun k hk => h k (by omega)), h n (by omega)]
theorem sn_s_zero : ∀ n : Nat, sn_s (fun _ => 0) n = 0
  | 0 => rfl
  | n + 1 => by rw [sn_s_succ, sn_s_zero n]
theorem sn_s_le {f g : Nat → Nat} : ∀ {n : Nat}, (∀ k, k < n → f k ≤ g k) → sn_s f n ≤ sn_s g n
  | 0, _ => Nat.le_refl _
  | n + 1, h => by
    have h1 := sn_s_le (n := n) (fun k hk => h k (by omega))
    have h2 := h n (by omega)
    rw [sn_s_succ, sn_s_succ]; omega
theorem sn_s_one {f : Nat → Nat} {k : Nat} : ∀ {n : Nat}, k < n → f k ≤ sn_s f n
  | 0, h => absurd h (Nat.not_lt_zero _)
  | n + 1, h => by
    rw [sn_s_succ]
    by_cases hk : k = n
    · subst hk; omega
    · have := sn_s_one (f := f) (k := k) (n := n) (by omega); omega
theorem sn_s_out {f : Nat → Nat} {k v n : Nat} (h : n ≤ k) : sn_s (va_up f k v) n = sn_s f n := sn_s_congr (fun j hj => va_up_ne f v (by omega))
theorem sn_s_up {f : Nat → Nat} {k v : Nat} : ∀ {n : Nat}, k < n → sn_s (va_up f k v) n + f k = sn_s f n + v
  | 0, h => absurd h (Nat.not_lt_zero _)
  | n + 1, h => by
    rw [sn_s_succ, sn_s_succ]
    by_cases hk : k = n
    · subst hk
      rw [va_up_self, sn_s_out (Nat.le_refl _)]; omega
    · have := sn_s_up (f := f) (k := k) (v := v) (n := n) (by omega)
      rw [va_up_ne f v (show n ≠ k by omega)]; omega
theorem sn_s_mono {f : Nat → Nat} {n : Nat} : ∀ {m : Nat}, n ≤ m → sn_s f n ≤ sn_s f m
  | 0, h => by rw [show n = 0 by omega]; exact Nat.le_refl _
  | m + 1, h => by
    by_cases e : n = m + 1
    · rw [e]; exact Nat.le_refl _
    · have := sn_s_mono (f := f) (n := n) (m := m) (by omega)
      rw [sn_s_succ]; omega
theorem sn_s_tail {f : Nat → Nat} {n : Nat} : ∀ {m : Nat}, n ≤ m → (∀ k, n ≤ k → k < m → f k = 0) → sn_s f m = sn_s f n
  | 0, h, _ => by rw [show n = 0 by omega]
  | m + 1, h, h0 => by
    by_cases e : n = m + 1
    · rw [e]
    · rw [sn_s_succ, sn_s_tail (m := m) (by omega) (fun k h1 h2 => h0 k h1 (by omega)), h0 m (by omega) (by omega), Nat.add_zero]
theorem sn_s_bij (φ : Nat → Nat) (m : Nat) : ∀ (n : Nat) (f g : Nat → Nat), (∀ k, k < n → f k ≠ 0 → φ k < m ∧ g (φ k) = f k) →
    (∀ a b, a < n → b < n → f a ≠ 0 → f b ≠ 0 → φ a = φ b → a = b) → (∀ j, j < m → g j ≠ 0 → ∃ k, k < n ∧ f k ≠ 0 ∧ φ k = j) → sn_s f n = sn_s g m
  | 0, f, g, _, _, h3 => by
    have h : ∀ j, j < m → g j = 0 := fun j hj => Classical.byContradiction fun hg => by
      obtain ⟨k, hk, -⟩ := h3 j hj hg
      exact absurd hk (Nat.not_lt_zero _)
    rw [sn_s_congr (f := g) (g := fun _ => 0) h, sn_s_zero]
    rfl
  | n + 1, f, g, h1, h2, h3 => by
    by_cases h0 : f n = 0
    · rw [sn_s_succ, h0, Nat.add_zero]
      refine sn_s_bij φ m n f g (fun k hk => h1 k (by omega)) (fun a b ha hb => h2 a b (by omega) (by omega)) (fun j hj hg => ?_)
      obtain ⟨k, hk, hf, e⟩ := h3 j hj hg
      have hkn : k ≠ n := fun e2 => hf (by rw [e2]; exact h0)
      exact ⟨k, by omega, hf, e⟩
    · obtain ⟨hm, hg⟩ := h1 n (by omega) h0
      have ih := sn_s_bij φ m n f (va_up g (φ n) 0) (fun k hk hf => by
          obtain ⟨a, b⟩ := h1 k (by omega) hf
          have hne : φ k ≠ φ n := fun e => by have := h2 k n (by omega) (by omega) hf h0 e; omega
          exact ⟨a, by rw [va_up_ne g 0 hne]; exact b⟩)
        (fun a b ha hb => h2 a b (by omega) (by omega)) (fun j hj hg2 => by
          have hne : j ≠ φ n := fun e => hg2 (by rw [e]; exact va_up_self g (φ n) 0)
          rw [va_up_ne g 0 hne] at hg2
          obtain ⟨k, hk, hf, e⟩ := h3 j hj hg2
          have hkn : k ≠ n := fun e2 => hne (by rw [← e, e2])
          exact ⟨k, by omega, hf, e⟩)
      have hu := sn_s_up (f := g) (k := φ n) (v := 0) hm
      rw [sn_s_succ, ih]
      omega
end
section
def sn_rch (R0 : Nat → Prop) (E : Nat → Nat → Prop) (q : Nat) : Prop := ∀ X : Nat → Prop, (∀ q, R0 q → X q) → (∀ p q, X p → E p q → X q) → X q
theorem sn_rch.root {R0 : Nat → Prop} {E : Nat → Nat → Prop} {q : Nat} (h : R0 q) : sn_rch R0 E q := fun _ h0 _ => h0 q h
theorem sn_rch.next {R0 : Nat → Prop} {E : Nat → Nat → Prop} {p q : Nat} (h : sn_rch R0 E p) (e : E p q) : sn_rch R0 E q := fun X h0 h1 => h1 p q (h X h0 h1) e
def sn_fin (NW BK : Nat → Prop) (E : Nat → Nat → Prop) (q : Nat) : Prop := ∀ X : Nat → Prop, (∀ q, NW q → X q) → (∀ p q, X p → ¬ BK p → E p q → X q) → X q
theorem sn_fin.nw {NW BK : Nat → Prop} {E : Nat → Nat → Prop} {q : Nat} (h : NW q) : sn_fin NW BK E q := fun _ h0 _ => h0 q h
theorem sn_fin.next {NW BK : Nat → Prop} {E : Nat → Nat → Prop} {p q : Nat} (h : sn_fin NW BK E p) (hb : ¬ BK p) (e : E p q) : sn_fin NW BK E q := fun X h0 h1 => h1 p q (h X h0 h1) hb e
theorem sn_fin_start {R0 NW BK : Nat → Prop} {E : Nat → Nat → Prop} (h1 : ∀ q, NW q ↔ R0 q) (h2 : ∀ q, ¬ BK q) (q : Nat) : sn_fin NW BK E q ↔ sn_rch R0 E q :=
  ⟨fun h => h _ (fun q hq => sn_rch.root ((h1 q).mp hq)) (fun p q hp _ e => hp.next e), fun h => h _ (fun q hq => sn_fin.nw ((h1 q).mpr hq)) (fun p q hp e => hp.next (h2 p) e)⟩
theorem sn_fin_end {NW BK : Nat → Prop} {E : Nat → Nat → Prop} (h : ∀ q, NW q → BK q) (q : Nat) : sn_fin NW BK E q ↔ NW q :=
  ⟨fun hf => hf NW (fun _ h0 => h0) (fun p _ hp hb _ => absurd (h p hp) hb), sn_fin.nw⟩
theorem sn_fin_pop {NW BK NW' BK' : Nat → Prop} {E : Nat → Nat → Prop} {g : Nat} (hg : NW g) (hgb : ¬ BK g) (hB : ∀ q, BK' q ↔ BK q ∨ q = g) (hN : ∀ q, NW' q ↔ NW q ∨ E g q) (q : Nat) :
    sn_fin NW' BK' E q ↔ sn_fin NW BK E q := by
  constructor
  · intro h
    refine h _ (fun q hq => ?_) (fun p q hp hb e => hp.next (fun h9 => hb ((hB p).mpr (Or.inl h9))) e)
    rcases (hN q).mp hq with h1 | h1
    · exact sn_fin.nw h1
    · exact (sn_fin.nw hg).next hgb h1
  · intro h
    refine h _ (fun q hq => sn_fin.nw ((hN q).mpr (Or.inl hq))) (fun p q hp hb e => ?_)
    by_cases hpg : p = g
    · exact sn_fin.nw ((hN q).mpr (Or.inr (by rw [← hpg]; exact e)))
    · refine hp.next (fun h9 => ?_) e
      rcases (hB p).mp h9 with h1 | h1
      · exact hb h1
      · exact hpg h1
theorem sn_fin_new {NW BK NW' BK' : Nat → Prop} {E E' : Nat → Nat → Prop} {g : Nat} (hB : ∀ q, BK' q ↔ BK q ∨ q = g) (hN : ∀ q, NW' q ↔ NW q ∨ q = g) (hE : ∀ p q, p ≠ g → (E' p q ↔ E p q)) (hg : ∀ q, ¬ E g q) (q : Nat) :
    sn_fin NW' BK' E' q ↔ sn_fin NW BK E q ∨ q = g := by
  constructor
  · intro h
    refine h (fun q => sn_fin NW BK E q ∨ q = g) (fun q hq => ?_) (fun p q hp hb e => ?_)
    · rcases (hN q).mp hq with h1 | h1
      · exact Or.inl (sn_fin.nw h1)
      · exact Or.inr h1
    · have hpg : p ≠ g := fun h9 => hb ((hB p).mpr (Or.inr h9))
      rcases hp with h1 | h1
      · exact Or.inl (h1.next (fun h9 => hb ((hB p).mpr (Or.inl h9))) ((hE p q hpg).mp e))
      · exact absurd h1 hpg
  · rintro (h | h)
    · refine h _ (fun q hq => sn_fin.nw ((hN q).mpr (Or.inl hq))) (fun p q hp hb e => ?_)
      have hpg : p ≠ g := fun h9 => hg q (by rw [← h9]; exact e)
      refine hp.next (fun h9 => ?_) ((hE p q hpg).mpr e)
      rcases (hB p).mp h9 with h1 | h1
      · exact hb h1
      · exact hpg h1
    · exact sn_fin.nw ((hN q).mpr (Or.inr h))
theorem sn_fin_set {NW BK NW' : Nat → Prop} {E E' : Nat → Nat → Prop} {a : Nat} {O : Nat → Prop} (hN : ∀ q, NW' q ↔ NW q ∨ O q) (hO : ∀ q, O q → sn_fin NW BK E q)
    (h1 : ∀ p q, E p q → E' p q ∨ O q) (h2 : ∀ p q, E' p q → E p q ∨ sn_fin NW BK E q) (q : Nat) : sn_fin NW' BK E' q ↔ sn_fin NW BK E q := by
  constructor
  · intro h
    refine h _ (fun q hq => ?_) (fun p q hp hb e => ?_)
    · rcases (hN q).mp hq with h3 | h3
      · exact sn_fin.nw h3
      · exact hO q h3
    · rcases h2 p q e with h3 | h3
      · exact hp.next hb h3
      · exact h3
  · intro h
    refine h _ (fun q hq => sn_fin.nw ((hN q).mpr (Or.inl hq))) (fun p q hp hb e => ?_)
    rcases h1 p q e with h3 | h3
    · exact hp.next hb h3
    · exact sn_fin.nw ((hN q).mpr (Or.inr h3))
end
section
abbrev SnM : Type := (Nat → Nat) × (Nat → Nat) × Nat
def sn_shade (M : Nat) (x : SnM) (q : Nat) : SnM := if 0 < q ∧ q ≤ M ∧ x.1 q = 0 ∧ x.2.2 < M then (va_up x.1 q 1, va_up x.2.1 x.2.2 q, x.2.2 + 1) else x
def sn_shv (M : Nat) (L : Nat → Nat) (b : Nat) : Nat → SnM → SnM
  | 0, x => x
  | n + 1, x => sn_shade M (sn_shv M L b n x) (L (b + n))
def sn_black (M : Nat) (x : SnM) (q : Nat) : SnM := if 0 < q ∧ q ≤ M then (va_up x.1 q 2, x.2) else x
def sn_mark1 (M : Nat) (S : Nat → Option Nat) (L : Nat → Nat) (x : SnM) : SnM :=
  if 0 < x.2.2 then sn_shv M L (16 * x.2.1 (x.2.2 - 1)) ((S (x.2.1 (x.2.2 - 1))).getD 0) (sn_black M (x.1, x.2.1, x.2.2 - 1) (x.2.1 (x.2.2 - 1))) else x
def sn_grey (C : Nat → Nat) : Nat → Nat := fun q => if C q = 1 then 1 else 0
def sn_wl (M : Nat) (x : SnM) : Prop := x.1 0 = 0 ∧ (∀ i, i < x.2.2 → x.1 (x.2.1 i) = 1 ∧ 0 < x.2.1 i ∧ x.2.1 i ≤ M) ∧ (∀ i j, i < x.2.2 → j < x.2.2 → x.2.1 i = x.2.1 j → i = j) ∧
  (∀ q, x.1 q = 1 → ∃ i, i < x.2.2 ∧ x.2.1 i = q) ∧ x.2.2 = sn_s (sn_grey x.1) (M + 1)
theorem sn_s_const : ∀ n : Nat, sn_s (fun _ => 1) n = n
  | 0 => rfl
  | n + 1 => by rw [sn_s_succ, sn_s_const n]
theorem sn_grey_le (C : Nat → Nat) (q : Nat) : sn_grey C q ≤ 1 := by unfold sn_grey; split <;> omega
theorem sn_wl.room {M : Nat} {x : SnM} (h : sn_wl M x) {q : Nat} (h0 : 0 < q) (h6 : q ≤ M) (hq : x.1 q = 0) : x.2.2 < M := by
  obtain ⟨h1, -, -, -, h5⟩ := h
  have a1 := sn_s_up (f := fun _ => 1) (k := 0) (v := 0) (n := M + 1) (by omega)
  have a2 := sn_s_up (f := va_up (fun _ => 1) 0 0) (k := q) (v := 0) (n := M + 1) (by omega)
  have a3 : va_up (fun _ => 1) 0 0 q = 1 := va_up_ne (fun _ => 1) 0 (by omega)
  have a4 : sn_s (sn_grey x.1) (M + 1) ≤ sn_s (va_up (va_up (fun _ => 1) 0 0) q 0) (M + 1) := sn_s_le (fun k _ => by
    by_cases e : k = q
    · rw [e, va_up_self]; unfold sn_grey; rw [if_neg (by rw [hq]; decide)]; exact Nat.le_refl _
    · rw [va_up_ne _ 0 e]
      by_cases e0 : k = 0
      · rw [e0, va_up_self]; unfold sn_grey; rw [if_neg (by rw [h1]; decide)]; exact Nat.le_refl _
      · rw [va_up_ne _ 0 e0]; exact sn_grey_le _ _)
  rw [sn_s_const] at a1
  rw [a3] at a2
  have a5 : (fun _ => 1 : Nat → Nat) 0 = 1 := rfl
  try rw [a5] at a1
  omega
theorem sn_grey_up (C : Nat → Nat) (q v : Nat) : sn_grey (va_up C q v) = va_up (sn_grey C) q (if v = 1 then 1 else 0) := by
  funext j
  unfold sn_grey
  by_cases e : j = q
  · rw [e, va_up_self, va_up_self]
  · rw [va_up_ne C v e, va_up_ne _ _ e]
theorem sn_shade_wl {M : Nat} {x : SnM} (h : sn_wl M x) (q : Nat) (h6 : q ≤ M) : sn_wl M (sn_shade M x q) ∧ (∀ k, (sn_shade M x q).1 k ≠ 0 ↔ x.1 k ≠ 0 ∨ (k = q ∧ 0 < q)) ∧ (∀ k, (sn_shade M x q).1 k = 2 ↔ x.1 k = 2) ∧ (∀ k, x.1 k ≤ 2 → (sn_shade M x q).1 k ≤ 2) := by
  unfold sn_shade
  by_cases hc : 0 < q ∧ q ≤ M ∧ x.1 q = 0 ∧ x.2.2 < M
  · rw [if_pos hc]
    obtain ⟨h0, -, hq, hw⟩ := hc
    obtain ⟨g1, g2, g3, g4, g5⟩ := h
    have ne : ∀ i, i < x.2.2 → x.2.1 i ≠ q := fun i hi e => by have := (g2 i hi).1; rw [e, hq] at this; omega
    refine ⟨⟨?_, fun i hi => ?_, fun i j hi hj e => ?_, fun k hk => ?_, ?_⟩, fun k => ?_, fun k => ?_, fun k hk => ?_⟩
    · show va_up x.1 q 1 0 = 0
      rw [va_up_ne x.1 1 (by omega)]; exact g1
    · show va_up x.1 q 1 (va_up x.2.1 x.2.2 q i) = 1 ∧ 0 < va_up x.2.1 x.2.2 q i ∧ va_up x.2.1 x.2.2 q i ≤ M
      have hi : i < x.2.2 + 1 := hi
      by_cases e : i = x.2.2
      · rw [e, va_up_self, va_up_self]; exact ⟨rfl, h0, h6⟩
      · rw [va_up_ne x.2.1 q e, va_up_ne x.1 1 (ne i (by omega))]; exact g2 i (by omega)
    · have hi : i < x.2.2 + 1 := hi
      have hj : j < x.2.2 + 1 := hj
      have e : va_up x.2.1 x.2.2 q i = va_up x.2.1 x.2.2 q j := e
      by_cases ei : i = x.2.2 <;> by_cases ej : j = x.2.2
      · omega
      · rw [ei, va_up_self, va_up_ne x.2.1 q ej] at e
        exact absurd e.symm (ne j (by omega))
      · rw [ej, va_up_self, va_up_ne x.2.1 q ei] at e
        exact absurd e (ne i (by omega))
      · rw [va_up_ne x.2.1 q ei, va_up_ne x.2.1 q ej] at e
        exact g3 i j (by omega) (by omega) e
    · have hk : va_up x.1 q 1 k = 1 := hk
      show ∃ i, i < x.2.2 + 1 ∧ va_up x.2.1 x.2.2 q i = k
      by_cases e : k = q
      · exact ⟨x.2.2, by omega, by rw [va_up_self]; exact e.symm⟩
      · rw [va_up_ne x.1 1 e] at hk
        obtain ⟨i, hi, he⟩ := g4 k hk
        exact ⟨i, by omega, by rw [va_up_ne x.2.1 q (by omega)]; exact he⟩
    · show x.2.2 + 1 = sn_s (sn_grey (va_up x.1 q 1)) (M + 1)
      rw [sn_grey_up]
      have a1 := sn_s_up (f := sn_grey x.1) (k := q) (v := 1) (n := M + 1) (by omega)
      have a2 : sn_grey x.1 q = 0 := by unfold sn_grey; rw [if_neg (by rw [hq]; decide)]
      rw [if_pos rfl]
      omega
    · show va_up x.1 q 1 k ≠ 0 ↔ _
      by_cases e : k = q
      · rw [e, va_up_self]; exact ⟨fun _ => Or.inr ⟨rfl, h0⟩, fun _ => by decide⟩
      · rw [va_up_ne x.1 1 e]; exact ⟨Or.inl, fun h9 => h9.elim id (fun h8 => absurd h8.1 e)⟩
    · show va_up x.1 q 1 k = 2 ↔ _
      by_cases e : k = q
      · rw [e, va_up_self, hq]; exact ⟨fun h9 => by omega, fun h9 => by omega⟩
      · rw [va_up_ne x.1 1 e]
    · show va_up x.1 q 1 k ≤ 2
      by_cases e : k = q
      · rw [e, va_up_self]; decide
      · rw [va_up_ne x.1 1 e]; exact hk
  · rw [if_neg hc]
    refine ⟨h, fun k => ⟨Or.inl, fun h9 => h9.elim id (fun h8 => ?_)⟩, fun k => Iff.rfl, fun k hk => hk⟩
    obtain ⟨rfl, h0⟩ := h8
    intro hk
    exact hc ⟨h0, h6, hk, h.room h0 h6 hk⟩
theorem sn_shv_wl {M : Nat} {x : SnM} (h : sn_wl M x) {L : Nat → Nat} (hL : ∀ s, L s ≤ M) (b : Nat) : ∀ n : Nat, sn_wl M (sn_shv M L b n x) ∧ (∀ k, (sn_shv M L b n x).1 k ≠ 0 ↔ x.1 k ≠ 0 ∨ ∃ i, i < n ∧ L (b + i) = k ∧ 0 < k) ∧ (∀ k, (sn_shv M L b n x).1 k = 2 ↔ x.1 k = 2) ∧ (∀ k, x.1 k ≤ 2 → (sn_shv M L b n x).1 k ≤ 2)
  | 0 => ⟨h, fun k => ⟨Or.inl, fun h9 => h9.elim id (fun ⟨i, hi, _⟩ => absurd hi (Nat.not_lt_zero _))⟩, fun _ => Iff.rfl, fun _ hk => hk⟩
  | n + 1 => by
    obtain ⟨a1, a2, a3, a4⟩ := sn_shv_wl h hL b n
    obtain ⟨b1, b2, b3, b4⟩ := sn_shade_wl a1 (L (b + n)) (hL _)
    refine ⟨b1, fun k => ?_, fun k => (b3 k).trans (a3 k), fun k hk => b4 k (a4 k hk)⟩
    constructor
    · intro h9
      rcases (b2 k).mp h9 with h8 | ⟨h8, h7⟩
      · rcases (a2 k).mp h8 with h6 | ⟨i, hi, h6⟩
        · exact Or.inl h6
        · exact Or.inr ⟨i, by omega, h6⟩
      · exact Or.inr ⟨n, by omega, h8.symm, by rw [h8]; exact h7⟩
    · rintro (h9 | ⟨i, hi, h8, h7⟩)
      · exact (b2 k).mpr (Or.inl ((a2 k).mpr (Or.inl h9)))
      · by_cases e : i = n
        · subst e
          exact (b2 k).mpr (Or.inr ⟨h8.symm, by rw [h8]; exact h7⟩)
        · exact (b2 k).mpr (Or.inl ((a2 k).mpr (Or.inr ⟨i, by omega, h8, h7⟩)))
theorem sn_mark1_wl {M : Nat} {x : SnM} (h : sn_wl M x) (hw : 0 < x.2.2) {S : Nat → Option Nat} {L : Nat → Nat} (hL : ∀ s, L s ≤ M) : ∃ g, x.1 g = 1 ∧ 0 < g ∧ g ≤ M ∧ sn_wl M (sn_mark1 M S L x) ∧
    (∀ k, (sn_mark1 M S L x).1 k ≠ 0 ↔ x.1 k ≠ 0 ∨ ∃ i, i < (S g).getD 0 ∧ L (16 * g + i) = k ∧ 0 < k) ∧ (∀ k, (sn_mark1 M S L x).1 k = 2 ↔ x.1 k = 2 ∨ k = g) ∧ ((∀ k, x.1 k ≤ 2) → ∀ k, (sn_mark1 M S L x).1 k ≤ 2) := by
  obtain ⟨g1, g2, g3, g4, g5⟩ := h
  obtain ⟨c1, c0, c6⟩ := g2 (x.2.2 - 1) (by omega)
  refine ⟨x.2.1 (x.2.2 - 1), c1, c0, c6, ?_⟩
  unfold sn_mark1
  rw [if_pos hw]
  unfold sn_black
  rw [if_pos ⟨c0, c6⟩]
  generalize hg : x.2.1 (x.2.2 - 1) = g at c1 c0 c6 ⊢
  have hb : sn_wl M (va_up x.1 g 2, x.2.1, x.2.2 - 1) := by
    refine ⟨?_, fun i hi => ?_, fun i j hi hj e => ?_, fun k hk => ?_, ?_⟩
    · show va_up x.1 g 2 0 = 0
      rw [va_up_ne x.1 2 (by omega)]; exact g1
    · have hi : i < x.2.2 - 1 := hi
      show va_up x.1 g 2 (x.2.1 i) = 1 ∧ 0 < x.2.1 i ∧ x.2.1 i ≤ M
      have ne : x.2.1 i ≠ g := fun e => by have := g3 i (x.2.2 - 1) (by omega) (by omega) (by rw [e, hg]); omega
      rw [va_up_ne x.1 2 ne]; exact g2 i (by omega)
    · have hi : i < x.2.2 - 1 := hi
      have hj : j < x.2.2 - 1 := hj
      exact g3 i j (by omega) (by omega) e
    · have hk : va_up x.1 g 2 k = 1 := hk
      show ∃ i, i < x.2.2 - 1 ∧ x.2.1 i = k
      by_cases e : k = g
      · rw [e, va_up_self] at hk; omega
      · rw [va_up_ne x.1 2 e] at hk
        obtain ⟨i, hi, he⟩ := g4 k hk
        have : i ≠ x.2.2 - 1 := fun e2 => e (by rw [← he, e2, hg])
        exact ⟨i, by omega, he⟩
    · show x.2.2 - 1 = sn_s (sn_grey (va_up x.1 g 2)) (M + 1)
      rw [sn_grey_up]
      have a1 := sn_s_up (f := sn_grey x.1) (k := g) (v := if (2 : Nat) = 1 then 1 else 0) (n := M + 1) (by omega)
      have a2 : sn_grey x.1 g = 1 := by unfold sn_grey; rw [if_pos c1]
      have a3 : (if (2 : Nat) = 1 then 1 else 0) = 0 := rfl
      rw [a3] at a1 ⊢
      omega
  obtain ⟨d1, d2, d3, d4⟩ := sn_shv_wl hb hL (16 * g) ((S g).getD 0)
  refine ⟨d1, fun k => (d2 k).trans ?_, fun k => (d3 k).trans ?_, fun h9 k => d4 k ?_⟩
  · show va_up x.1 g 2 k ≠ 0 ∨ _ ↔ _
    by_cases e : k = g
    · rw [e, va_up_self]; exact ⟨fun _ => Or.inl (by rw [c1]; decide), fun _ => Or.inl (by decide)⟩
    · rw [va_up_ne x.1 2 e]
  · show va_up x.1 g 2 k = 2 ↔ _
    by_cases e : k = g
    · rw [e, va_up_self]; exact ⟨fun _ => Or.inr rfl, fun _ => rfl⟩
    · rw [va_up_ne x.1 2 e]; exact ⟨Or.inl, fun h9 => h9.elim id (fun h8 => absurd h8 e)⟩
  · show va_up x.1 g 2 k ≤ 2
    by_cases e : k = g
    · rw [e, va_up_self]; exact Nat.le_refl _
    · rw [va_up_ne x.1 2 e]; exact h9 k
theorem sn_black_wl {M : Nat} {x : SnM} (h : sn_wl M x) {p : Nat} (h0 : 0 < p) (h6 : p ≤ M) (hp : x.1 p = 0) : sn_wl M (sn_black M x p) ∧ (sn_black M x p).1 = va_up x.1 p 2 := by
  obtain ⟨g1, g2, g3, g4, g5⟩ := h
  unfold sn_black
  rw [if_pos ⟨h0, h6⟩]
  refine ⟨⟨?_, fun i hi => ?_, g3, fun k hk => ?_, ?_⟩, rfl⟩
  · show va_up x.1 p 2 0 = 0
    rw [va_up_ne x.1 2 (by omega)]; exact g1
  · show va_up x.1 p 2 (x.2.1 i) = 1 ∧ 0 < x.2.1 i ∧ x.2.1 i ≤ M
    have ne : x.2.1 i ≠ p := fun e => by have := (g2 i hi).1; rw [e, hp] at this; omega
    rw [va_up_ne x.1 2 ne]; exact g2 i hi
  · have hk : va_up x.1 p 2 k = 1 := hk
    by_cases e : k = p
    · rw [e, va_up_self] at hk; omega
    · rw [va_up_ne x.1 2 e] at hk; exact g4 k hk
  · show x.2.2 = sn_s (sn_grey (va_up x.1 p 2)) (M + 1)
    rw [sn_grey_up]
    have a1 := sn_s_up (f := sn_grey x.1) (k := p) (v := if (2 : Nat) = 1 then 1 else 0) (n := M + 1) (by omega)
    have a2 : sn_grey x.1 p = 0 := by unfold sn_grey; rw [if_neg (by rw [hp]; decide)]
    have a3 : (if (2 : Nat) = 1 then 1 else 0) = 0 := rfl
    rw [a3] at a1 ⊢
    omega
end
section
abbrev SnS : Type := (Nat → Option Nat) × (Nat → Nat) × (Nat → Int64) × (Nat → Nat) × Nat × Nat × Nat
abbrev sn_S (x : SnS) : Nat → Option Nat := x.1
abbrev sn_L (x : SnS) : Nat → Nat := x.2.1
abbrev sn_Nm (x : SnS) : Nat → Int64 := x.2.2.1
abbrev sn_rl (x : SnS) : Nat → Nat := x.2.2.2.1
abbrev sn_rc (x : SnS) : Nat := x.2.2.2.2.1
abbrev sn_tp (x : SnS) : Nat := x.2.2.2.2.2.1
abbrev sn_uc (x : SnS) : Nat := x.2.2.2.2.2.2
def sn_sz (S : Nat → Option Nat) (p : Nat) : Nat := (S p).getD 0
def sn_cel (S : Nat → Option Nat) : Nat → Nat := fun p => if p = 0 then 0 else match S p with | none => 0 | some n => n + 2
def sn_fre (S : Nat → Option Nat) : Nat → Nat := fun p => if p = 0 then 0 else match S p with | none => 1 | some _ => 0
def sn_use (S : Nat → Option Nat) : Nat → Nat := fun p => if p = 0 then 0 else match S p with | none => 0 | some _ => 1
theorem sn_cel_up (S : Nat → Option Nat) {p : Nat} (hp : 0 < p) (v : Option Nat) : sn_cel (va_up S p v) = va_up (sn_cel S) p (match v with | none => 0 | some n => n + 2) := by
  funext j
  by_cases e : j = p
  · rw [e, va_up_self]
    unfold sn_cel
    rw [if_neg (by omega), va_up_self]
  · rw [va_up_ne _ _ e]
    unfold sn_cel
    rw [va_up_ne S v e]
theorem sn_fre_up (S : Nat → Option Nat) {p : Nat} (hp : 0 < p) (v : Option Nat) : sn_fre (va_up S p v) = va_up (sn_fre S) p (match v with | none => 1 | some _ => 0) := by
  funext j
  by_cases e : j = p
  · rw [e, va_up_self]
    unfold sn_fre
    rw [if_neg (by omega), va_up_self]
  · rw [va_up_ne _ _ e]
    unfold sn_fre
    rw [va_up_ne S v e]
theorem sn_cel_none {S : Nat → Option Nat} {p : Nat} (h : S p = none) : sn_cel S p = 0 := by
  unfold sn_cel; rw [h]; split <;> rfl
theorem sn_cel_some {S : Nat → Option Nat} {p n : Nat} (hp : 0 < p) (h : S p = some n) : sn_cel S p = n + 2 := by
  unfold sn_cel; rw [h, if_neg (by omega)]
theorem sn_fre_none {S : Nat → Option Nat} {p : Nat} (hp : 0 < p) (h : S p = none) : sn_fre S p = 1 := by
  unfold sn_fre; rw [h, if_neg (by omega)]
theorem sn_fre_some {S : Nat → Option Nat} {p n : Nat} (h : S p = some n) : sn_fre S p = 0 := by
  unfold sn_fre; rw [h]; split <;> rfl
theorem sn_fre_le (S : Nat → Option Nat) (p : Nat) : sn_fre S p ≤ 1 := by
  unfold sn_fre; split
  · omega
  · cases S p <;> simp
def sn_st (x : SnS) : Prop :=
  sn_S x 0 = some 16 ∧ (∀ p n, sn_S x p = some n → n ≤ 16 ∧ p ≤ sn_tp x) ∧ sn_tp x ≤ 600 ∧ (∀ s, sn_L x s ≤ 600) ∧ sn_uc x = sn_s (sn_cel (sn_S x)) 601 ∧ sn_uc x ≤ 1200 ∧ sn_rc x = sn_s (sn_fre (sn_S x)) (sn_tp x + 1) ∧
  (∀ i, i < sn_rc x → 0 < sn_rl x i ∧ sn_rl x i ≤ sn_tp x ∧ sn_S x (sn_rl x i) = none) ∧ (∀ i j, i < sn_rc x → j < sn_rc x → sn_rl x i = sn_rl x j → i = j) ∧ (∀ p, 0 < p → p ≤ sn_tp x → sn_S x p = none → ∃ i, i < sn_rc x ∧ sn_rl x i = p)
theorem sn_s_mul (c : Nat) : ∀ n : Nat, sn_s (fun _ => c) n = c * n
  | 0 => rfl
  | n + 1 => by rw [sn_s_succ, sn_s_mul c n, Nat.mul_add, Nat.mul_one]
def sn_release (x : SnS) (p : Nat) : SnS :=
  if 0 < p ∧ p ≤ 600 ∧ sn_rc x < 600 then (va_up (sn_S x) p none, sn_L x, sn_Nm x, va_up (sn_rl x) (sn_rc x) p, sn_rc x + 1, sn_tp x, sn_uc x - (sn_sz (sn_S x) p + 2)) else x
theorem sn_st.room {x : SnS} (h : sn_st x) {p n : Nat} (hp : 0 < p) (hs : sn_S x p = some n) : sn_rc x < 600 := by
  obtain ⟨h0, h1, h2, -, -, -, h6, -⟩ := h
  have hpt := (h1 p n hs).2
  have a1 := sn_s_up (f := fun _ => 1) (k := 0) (v := 0) (n := sn_tp x + 1) (by omega)
  have a2 := sn_s_up (f := va_up (fun _ => 1) 0 0) (k := p) (v := 0) (n := sn_tp x + 1) (by omega)
  have a3 : va_up (fun _ => 1) 0 0 p = 1 := va_up_ne (fun _ => 1) 0 (by omega)
  have a4 : sn_s (sn_fre (sn_S x)) (sn_tp x + 1) ≤ sn_s (va_up (va_up (fun _ => 1) 0 0) p 0) (sn_tp x + 1) := sn_s_le (fun k _ => by
    by_cases e : k = p
    · rw [e, va_up_self, sn_fre_some hs]; exact Nat.le_refl _
    · rw [va_up_ne _ 0 e]
      by_cases e0 : k = 0
      · rw [e0, va_up_self, sn_fre_some h0]; exact Nat.le_refl _
      · rw [va_up_ne _ 0 e0]; exact sn_fre_le _ _)
  rw [sn_s_const] at a1
  rw [a3] at a2
  have a5 : (fun _ => 1 : Nat → Nat) 0 = 1 := rfl
  try rw [a5] at a1
  omega
theorem sn_release_eq {x : SnS} (h : sn_st x) {p n : Nat} (hp : 0 < p) (hs : sn_S x p = some n) :
    sn_release x p = (va_up (sn_S x) p none, sn_L x, sn_Nm x, va_up (sn_rl x) (sn_rc x) p, sn_rc x + 1, sn_tp x, sn_uc x - (n + 2)) := by
  have hr := h.room hp hs
  have hpt := (h.2.1 p n hs).2
  have h2 := h.2.2.1
  unfold sn_release
  rw [if_pos ⟨hp, by omega, hr⟩]
  unfold sn_sz
  rw [hs]
  rfl
theorem sn_release_st {x : SnS} (h : sn_st x) {p n : Nat} (hp : 0 < p) (hs : sn_S x p = some n) : sn_st (sn_release x p) := by
  rw [sn_release_eq h hp hs]
  obtain ⟨h0, h1, h2, h3, h4, h5, h6, h7, h8, h9⟩ := h
  have hpt := (h1 p n hs).2
  have ne : ∀ i, i < sn_rc x → sn_rl x i ≠ p := fun i hi e => by have := (h7 i hi).2.2; rw [e, hs] at this; cases this
  refine ⟨?_, fun q k hq => ?_, h2, h3, ?_, ?_, ?_, fun i hi => ?_, fun i j hi hj e => ?_, fun q hq0 hqt hq => ?_⟩
  · show va_up (sn_S x) p none 0 = some 16
    rw [va_up_ne _ _ (by omega)]; exact h0
  · have hq : va_up (sn_S x) p none q = some k := hq
    by_cases e : q = p
    · rw [e, va_up_self] at hq; cases hq
    · rw [va_up_ne _ _ e] at hq; exact h1 q k hq
  · show sn_uc x - (n + 2) = sn_s (sn_cel (va_up (sn_S x) p none)) 601
    rw [sn_cel_up _ hp]
    have a1 := sn_s_up (f := sn_cel (sn_S x)) (k := p) (v := 0) (n := 601) (by omega)
    rw [sn_cel_some hp hs] at a1
    show sn_uc x - (n + 2) = sn_s (va_up (sn_cel (sn_S x)) p 0) 601
    omega
  · show sn_uc x - (n + 2) ≤ 1200
    omega
  · show sn_rc x + 1 = sn_s (sn_fre (va_up (sn_S x) p none)) (sn_tp x + 1)
    rw [sn_fre_up _ hp]
    have a1 := sn_s_up (f := sn_fre (sn_S x)) (k := p) (v := 1) (n := sn_tp x + 1) (by omega)
    rw [sn_fre_some hs] at a1
    show sn_rc x + 1 = sn_s (va_up (sn_fre (sn_S x)) p 1) (sn_tp x + 1)
    omega
  · have hi : i < sn_rc x + 1 := hi
    show 0 < va_up (sn_rl x) (sn_rc x) p i ∧ va_up (sn_rl x) (sn_rc x) p i ≤ sn_tp x ∧ va_up (sn_S x) p none (va_up (sn_rl x) (sn_rc x) p i) = none
    by_cases e : i = sn_rc x
    · rw [e, va_up_self, va_up_self]; exact ⟨hp, hpt, rfl⟩
    · rw [va_up_ne _ _ e, va_up_ne _ _ (ne i (by omega))]; exact h7 i (by omega)
  · have hi : i < sn_rc x + 1 := hi
    have hj : j < sn_rc x + 1 := hj
    have e : va_up (sn_rl x) (sn_rc x) p i = va_up (sn_rl x) (sn_rc x) p j := e
    by_cases ei : i = sn_rc x <;> by_cases ej : j = sn_rc x
    · omega
    · rw [ei, va_up_self, va_up_ne _ _ ej] at e
      exact absurd e.symm (ne j (by omega))
    · rw [ej, va_up_self, va_up_ne _ _ ei] at e
      exact absurd e (ne i (by omega))
    · rw [va_up_ne _ _ ei, va_up_ne _ _ ej] at e
      exact h8 i j (by omega) (by omega) e
  · have hq : va_up (sn_S x) p none q = none := hq
    show ∃ i, i < sn_rc x + 1 ∧ va_up (sn_rl x) (sn_rc x) p i = q
    by_cases e : q = p
    · exact ⟨sn_rc x, by omega, by rw [va_up_self]; exact e.symm⟩
    · rw [va_up_ne _ _ e] at hq
      obtain ⟨i, hi, he⟩ := h9 q hq0 hqt hq
      exact ⟨i, by omega, by rw [va_up_ne _ _ (by omega)]; exact he⟩
def sn_pl (x : SnS) : Nat := if 0 < sn_rc x then sn_rl x (sn_rc x - 1) else sn_tp x + 1
def sn_clr {α : Type} (f : Nat → α) (b n : Nat) (z : α) : Nat → α := fun j => if b ≤ j ∧ j < b + n then z else f j
def sn_take (x : SnS) (n : Nat) : SnS :=
  (va_up (sn_S x) (sn_pl x) (some n), sn_clr (sn_L x) (16 * sn_pl x) n 0, sn_clr (sn_Nm x) (16 * sn_pl x) n 0, sn_rl x, sn_rc x - 1, if 0 < sn_rc x then sn_tp x else sn_tp x + 1, sn_uc x + (n + 2))
theorem sn_pl_ok {x : SnS} (h : sn_st x) {n : Nat} (hr : sn_uc x + n + 2 ≤ 1200) : 0 < sn_pl x ∧ sn_pl x ≤ 600 ∧ sn_S x (sn_pl x) = none := by
  obtain ⟨h0, h1, h2, h3, h4, h5, h6, h7, h8, h9⟩ := h
  unfold sn_pl
  by_cases hc : 0 < sn_rc x
  · rw [if_pos hc]
    obtain ⟨a, b, c⟩ := h7 (sn_rc x - 1) (by omega)
    exact ⟨a, by omega, c⟩
  · rw [if_neg hc]
    have hu : ∀ k, k < sn_tp x + 1 → 0 < k → 2 ≤ sn_cel (sn_S x) k := fun k hk h0k => by
      have a := sn_s_one (f := sn_fre (sn_S x)) (k := k) hk
      cases hs : sn_S x k with
      | none => rw [sn_fre_none h0k hs] at a; omega
      | some n => rw [sn_cel_some h0k hs]; omega
    have a1 := sn_s_up (f := fun _ => 2) (k := 0) (v := 0) (n := sn_tp x + 1) (by omega)
    have a2 : sn_s (va_up (fun _ => 2) 0 0) (sn_tp x + 1) ≤ sn_s (sn_cel (sn_S x)) (sn_tp x + 1) := sn_s_le (fun k hk => by
      by_cases e0 : k = 0
      · rw [e0, va_up_self]; exact Nat.zero_le _
      · rw [va_up_ne _ 0 e0]; exact hu k hk (by omega))
    have a3 := sn_s_mono (f := sn_cel (sn_S x)) (n := sn_tp x + 1) (m := 601) (by omega)
    rw [sn_s_mul] at a1
    have a5 : (fun _ => 2 : Nat → Nat) 0 = 2 := rfl
    try rw [a5] at a1
    refine ⟨by omega, by omega, ?_⟩
    cases hs : sn_S x (sn_tp x + 1) with
    | none => rfl
    | some k => have := (h1 _ _ hs).2; omega
theorem sn_take_st {x : SnS} (h : sn_st x) {n : Nat} (hn : n ≤ 16) (hr : sn_uc x + n + 2 ≤ 1200) : sn_st (sn_take x n) := by
  obtain ⟨p0, p6, ps⟩ := sn_pl_ok h hr
  obtain ⟨h0, h1, h2, h3, h4, h5, h6, h7, h8, h9⟩ := h
  have htp : sn_tp x ≤ (if 0 < sn_rc x then sn_tp x else sn_tp x + 1) := by split <;> omega
  have hpt : sn_pl x ≤ (if 0 < sn_rc x then sn_tp x else sn_tp x + 1) := by
    unfold sn_pl
    by_cases hc : 0 < sn_rc x
    · rw [if_pos hc, if_pos hc]; exact (h7 (sn_rc x - 1) (by omega)).2.1
    · rw [if_neg hc, if_neg hc]; exact Nat.le_refl _
  refine ⟨?_, fun q k hq => ?_, ?_, fun s => ?_, ?_, ?_, ?_, fun i hi => ?_, fun i j hi hj e => ?_, fun q hq0 hqt hq => ?_⟩
  · show va_up (sn_S x) (sn_pl x) (some n) 0 = some 16
    rw [va_up_ne _ _ (by omega)]; exact h0
  · have hq : va_up (sn_S x) (sn_pl x) (some n) q = some k := hq
    show k ≤ 16 ∧ q ≤ (if 0 < sn_rc x then sn_tp x else sn_tp x + 1)
    by_cases e : q = sn_pl x
    · rw [e, va_up_self] at hq; cases hq
      exact ⟨hn, by rw [e]; exact hpt⟩
    · rw [va_up_ne _ _ e] at hq
      have := h1 q k hq
      exact ⟨this.1, by omega⟩
  · show (if 0 < sn_rc x then sn_tp x else sn_tp x + 1) ≤ 600
    by_cases hc : 0 < sn_rc x
    · rw [if_pos hc]; exact h2
    · rw [if_neg hc]
      have e : sn_pl x = sn_tp x + 1 := by unfold sn_pl; rw [if_neg hc]
      omega
  · show sn_clr (sn_L x) (16 * sn_pl x) n 0 s ≤ 600
    unfold sn_clr
    split
    · omega
    · exact h3 s
  · show sn_uc x + (n + 2) = sn_s (sn_cel (va_up (sn_S x) (sn_pl x) (some n))) 601
    rw [sn_cel_up _ p0]
    have a1 := sn_s_up (f := sn_cel (sn_S x)) (k := sn_pl x) (v := n + 2) (n := 601) (by omega)
    rw [sn_cel_none ps] at a1
    show sn_uc x + (n + 2) = sn_s (va_up (sn_cel (sn_S x)) (sn_pl x) (n + 2)) 601
    omega
  · show sn_uc x + (n + 2) ≤ 1200
    omega
  · show sn_rc x - 1 = sn_s (sn_fre (va_up (sn_S x) (sn_pl x) (some n))) ((if 0 < sn_rc x then sn_tp x else sn_tp x + 1) + 1)
    rw [sn_fre_up _ p0]
    show sn_rc x - 1 = sn_s (va_up (sn_fre (sn_S x)) (sn_pl x) 0) ((if 0 < sn_rc x then sn_tp x else sn_tp x + 1) + 1)
    have a1 := sn_s_up (f := sn_fre (sn_S x)) (k := sn_pl x) (v := 0) (n := (if 0 < sn_rc x then sn_tp x else sn_tp x + 1) + 1) (by omega)
    rw [sn_fre_none p0 ps] at a1
    by_cases hc : 0 < sn_rc x
    · rw [if_pos hc] at a1 ⊢; omega
    · rw [if_neg hc] at a1 ⊢
      have e : sn_pl x = sn_tp x + 1 := by unfold sn_pl; rw [if_neg hc]
      have a2 := sn_s_succ (sn_fre (sn_S x)) (sn_tp x + 1)
      rw [← e, sn_fre_none p0 ps, e] at a2
      omega
  · have hi : i < sn_rc x - 1 := hi
    show 0 < sn_rl x i ∧ sn_rl x i ≤ (if 0 < sn_rc x then sn_tp x else sn_tp x + 1) ∧ va_up (sn_S x) (sn_pl x) (some n) (sn_rl x i) = none
    have ne : sn_rl x i ≠ sn_pl x := fun e => by
      unfold sn_pl at e
      rw [if_pos (by omega)] at e
      have := h8 i (sn_rc x - 1) (by omega) (by omega) e
      omega
    obtain ⟨b1, b2, b3⟩ := h7 i (by omega)
    exact ⟨b1, by omega, by rw [va_up_ne _ _ ne]; exact b3⟩
  · have hi : i < sn_rc x - 1 := hi
    have hj : j < sn_rc x - 1 := hj
    exact h8 i j (by omega) (by omega) e
  · have hq : va_up (sn_S x) (sn_pl x) (some n) q = none := hq
    have hqt : q ≤ (if 0 < sn_rc x then sn_tp x else sn_tp x + 1) := hqt
    show ∃ i, i < sn_rc x - 1 ∧ sn_rl x i = q
    have e : q ≠ sn_pl x := fun e => by rw [e, va_up_self] at hq; cases hq
    rw [va_up_ne _ _ e] at hq
    have hqt2 : q ≤ sn_tp x := by
      by_cases hc : 0 < sn_rc x
      · rw [if_pos hc] at hqt; exact hqt
      · rw [if_neg hc] at hqt
        have e2 : sn_pl x = sn_tp x + 1 := by unfold sn_pl; rw [if_neg hc]
        omega
    obtain ⟨i, hi, he⟩ := h9 q hq0 hqt2 hq
    have ne : i ≠ sn_rc x - 1 := fun e2 => e (by unfold sn_pl; rw [if_pos (by omega), ← e2]; exact he.symm)
    exact ⟨i, by omega, he⟩
end
section
def sn_E (S : Nat → Option Nat) (L : Nat → Nat) (p q : Nat) : Prop := 0 < p ∧ ∃ i, i < sn_sz S p ∧ L (16 * p + i) = q ∧ 0 < q
def sn_R0 (L : Nat → Nat) (q : Nat) : Prop := ∃ r, r < 16 ∧ L r = q ∧ 0 < q
abbrev sn_R (S : Nat → Option Nat) (L : Nat → Nat) (q : Nat) : Prop := sn_rch (sn_R0 L) (sn_E S L) q
abbrev sn_F (S : Nat → Option Nat) (L C : Nat → Nat) (q : Nat) : Prop := sn_fin (fun q => C q ≠ 0) (fun q => C q = 2) (sn_E S L) q
theorem sn_R.pos {S : Nat → Option Nat} {L : Nat → Nat} {q : Nat} (h : sn_R S L q) : 0 < q := h (fun q => 0 < q) (fun _ ⟨_, _, _, h⟩ => h) (fun _ _ _ ⟨_, _, _, _, h⟩ => h)
abbrev SnG : Type := SnS × SnM × Nat × Nat
abbrev sn_C (x : SnG) : Nat → Nat := x.2.1.1
def sn_g0 (x : SnG) : Prop := x.2.2.1 = 0 ∧ (∀ q, sn_C x q = 0) ∧ x.2.1.2.2 = 0
def sn_g1 (x : SnG) : Prop := x.2.2.1 = 1 ∧ sn_wl 600 x.2.1 ∧ (∀ q, sn_C x q ≤ 2) ∧ (∀ q, sn_R (sn_S x.1) (sn_L x.1) q → sn_F (sn_S x.1) (sn_L x.1) (sn_C x) q) ∧ (∀ q, sn_F (sn_S x.1) (sn_L x.1) (sn_C x) q → sn_S x.1 q ≠ none) ∧
  (∀ p q, sn_C x p = 2 → sn_E (sn_S x.1) (sn_L x.1) p q → sn_F (sn_S x.1) (sn_L x.1) (sn_C x) q)
def sn_g2 (x : SnG) : Prop := x.2.2.1 = 2 ∧ x.2.1.2.2 = 0 ∧ 1 ≤ x.2.2.2 ∧ (x.2.2.2 ≤ sn_tp x.1 ∨ x.2.2.2 = 1) ∧ (∀ q, sn_C x q = 0 ∨ sn_C x q = 2) ∧ (∀ q, q < x.2.2.2 → sn_C x q = 0) ∧ (∀ q, sn_C x q = 2 → sn_S x.1 q ≠ none) ∧
  (∀ q, sn_R (sn_S x.1) (sn_L x.1) q → x.2.2.2 ≤ q → sn_C x q = 2)
def sn_gc (x : SnG) : Prop := sn_st x.1 ∧ (∀ q, sn_R (sn_S x.1) (sn_L x.1) q → sn_S x.1 q ≠ none) ∧ (sn_g0 x ∨ sn_g1 x ∨ sn_g2 x)
def sn_keep (x y : SnS) : Prop := sn_L y = sn_L x ∧ sn_Nm y = sn_Nm x ∧ sn_tp y = sn_tp x ∧ sn_S y 0 = sn_S x 0 ∧ ∀ q, sn_S y q = sn_S x q ∨ (sn_S y q = none ∧ ¬ sn_R (sn_S x) (sn_L x) q)
theorem sn_keep.rf (x : SnS) : sn_keep x x := ⟨rfl, rfl, rfl, rfl, fun _ => Or.inl rfl⟩
theorem sn_E_eq {S S' : Nat → Option Nat} {L : Nat → Nat} {p q : Nat} (h : S' p = S p) : sn_E S' L p q ↔ sn_E S L p q := by
  unfold sn_E sn_sz
  rw [h]
theorem sn_keep.size {x y : SnS} (h : sn_keep x y) {q : Nat} (hq : sn_R (sn_S x) (sn_L x) q) : sn_S y q = sn_S x q := (h.2.2.2.2 q).elim id (fun h9 => absurd hq h9.2)
theorem sn_keep.rch {x y : SnS} (h : sn_keep x y) (q : Nat) : sn_R (sn_S y) (sn_L y) q ↔ sn_R (sn_S x) (sn_L x) q := by
  rw [h.1]
  constructor
  · intro h9
    exact h9 _ (fun q hq => sn_rch.root hq) (fun p q hp e => hp.next ((sn_E_eq (h.size hp)).mp e))
  · intro h9
    refine (h9 (fun q => sn_R (sn_S x) (sn_L x) q ∧ sn_R (sn_S y) (sn_L x) q) (fun q hq => ⟨sn_rch.root hq, sn_rch.root hq⟩) (fun p q hp e => ⟨hp.1.next e, hp.2.next ((sn_E_eq (h.size hp.1)).mpr e)⟩)).2
theorem sn_keep.tr {x y z : SnS} (h : sn_keep x y) (g : sn_keep y z) : sn_keep x z := by
  refine ⟨g.1.trans h.1, g.2.1.trans h.2.1, g.2.2.1.trans h.2.2.1, g.2.2.2.1.trans h.2.2.2.1, fun q => ?_⟩
  rcases g.2.2.2.2 q with h1 | ⟨h1, h2⟩
  · rcases h.2.2.2.2 q with h3 | ⟨h3, h4⟩
    · exact Or.inl (h1.trans h3)
    · exact Or.inr ⟨h1.trans h3, h4⟩
  · exact Or.inr ⟨h1, fun h9 => h2 ((h.rch q).mpr h9)⟩
theorem sn_wl_white {M : Nat} {C wt : Nat → Nat} (h : ∀ q, C q = 0) : sn_wl M (C, wt, 0) := by
  refine ⟨h 0, fun i hi => absurd hi (Nat.not_lt_zero _), fun i j hi => absurd hi (Nat.not_lt_zero _), fun q hq => ?_, ?_⟩
  · have hq : C q = 1 := hq
    rw [h q] at hq; cases hq
  · show 0 = sn_s (sn_grey C) (M + 1)
    rw [sn_s_congr (f := sn_grey C) (g := fun _ => 0) (fun k _ => by unfold sn_grey; rw [h k]; rfl), sn_s_zero]
theorem sn_begin {st : SnS} {wt C : Nat → Nat} {cu : Nat} (hst : sn_st st) (hR : ∀ q, sn_R (sn_S st) (sn_L st) q → sn_S st q ≠ none) (hC : ∀ q, C q = 0) :
    sn_g1 (st, sn_shv 600 (sn_L st) 0 16 (C, wt, 0), 1, cu) ∧ ∀ q, sn_F (sn_S st) (sn_L st) (sn_shv 600 (sn_L st) 0 16 (C, wt, 0)).1 q ↔ sn_R (sn_S st) (sn_L st) q := by
  obtain ⟨a1, a2, a3, a4⟩ := sn_shv_wl (sn_wl_white (wt := wt) hC) (L := sn_L st) hst.2.2.2.1 0 16
  have hF : ∀ q, sn_F (sn_S st) (sn_L st) (sn_shv 600 (sn_L st) 0 16 (C, wt, 0)).1 q ↔ sn_R (sn_S st) (sn_L st) q := by
    refine sn_fin_start (fun q => ?_) (fun q h => ?_)
    · refine (a2 q).trans ⟨fun h => ?_, fun ⟨r, h1, h2, h3⟩ => Or.inr ⟨r, h1, by rw [Nat.zero_add]; exact h2, h3⟩⟩
      rcases h with h | ⟨r, h1, h2, h3⟩
      · exact absurd (hC q) h
      · exact ⟨r, h1, by rw [Nat.zero_add] at h2; exact h2, h3⟩
    · have h2 := (a3 q).mp h
      have h3 : C q = 2 := h2
      rw [hC q] at h3; cases h3
  refine ⟨⟨rfl, a1, fun q => a4 q (by show C q ≤ 2; rw [hC q]; omega), fun q hq => (hF q).mpr hq, fun q hq => hR q ((hF q).mp hq), fun p q hp _ => ?_⟩, hF⟩
  have h2 : C p = 2 := (a3 p).mp hp
  rw [hC p] at h2; cases h2
theorem sn_mark_g1 {st : SnS} {mk : SnM} {cu : Nat} (hst : sn_st st) (h : sn_g1 (st, mk, 1, cu)) (hw : 0 < mk.2.2) :
    sn_g1 (st, sn_mark1 600 (sn_S st) (sn_L st) mk, 1, cu) ∧ (∀ q, sn_F (sn_S st) (sn_L st) (sn_mark1 600 (sn_S st) (sn_L st) mk).1 q ↔ sn_F (sn_S st) (sn_L st) mk.1 q) ∧
    ∃ g, mk.1 g = 1 ∧ 0 < g ∧ g ≤ 600 ∧ ∀ k, (sn_mark1 600 (sn_S st) (sn_L st) mk).1 k = 2 ↔ mk.1 k = 2 ∨ k = g := by
  obtain ⟨-, w, c2, f1, f2, f3⟩ := h
  obtain ⟨g, d1, d2, d3, d4, d5, d6, d7⟩ := sn_mark1_wl w hw (S := sn_S st) (L := sn_L st) hst.2.2.2.1
  have hF : ∀ q, sn_F (sn_S st) (sn_L st) (sn_mark1 600 (sn_S st) (sn_L st) mk).1 q ↔ sn_F (sn_S st) (sn_L st) mk.1 q :=
    sn_fin_pop (g := g) (by show mk.1 g ≠ 0; rw [d1]; decide) (by show ¬ mk.1 g = 2; rw [d1]; decide) d6 (fun k => (d5 k).trans ⟨fun h => h.imp id (fun h9 => ⟨d2, h9⟩), fun h => h.imp id (fun h9 => h9.2)⟩)
  refine ⟨⟨rfl, d4, d7 c2, fun q hq => (hF q).mpr (f1 q hq), fun q hq => f2 q ((hF q).mp hq), fun p q hp e => (hF q).mpr ?_⟩, hF, g, d1, d2, d3, d6⟩
  rcases (d6 p).mp hp with h1 | h1
  · exact f3 p q h1 e
  · subst h1
    exact (sn_fin.nw (by show mk.1 p ≠ 0; rw [d1]; decide)).next (by show ¬ mk.1 p = 2; rw [d1]; decide) e
theorem sn_done_g2 {st : SnS} {mk : SnM} {cu : Nat} (h : sn_g1 (st, mk, 1, cu)) (hw : mk.2.2 = 0) : sn_g2 (st, mk, 2, 1) ∧ ∀ q, sn_F (sn_S st) (sn_L st) mk.1 q ↔ mk.1 q = 2 := by
  obtain ⟨-, ⟨w0, w1, w2, w3, w4⟩, c2, f1, f2, f3⟩ := h
  have w0 : mk.1 0 = 0 := w0
  have ng : ∀ q, mk.1 q = 0 ∨ mk.1 q = 2 := fun q => by
    have a : mk.1 q ≤ 2 := c2 q
    have b : mk.1 q ≠ 1 := fun e => by
      obtain ⟨i, hi, -⟩ := w3 q e
      have hi : i < mk.2.2 := hi
      omega
    omega
  have hF : ∀ q, sn_F (sn_S st) (sn_L st) mk.1 q ↔ mk.1 q = 2 := fun q => (sn_fin_end (fun q hq => (ng q).resolve_left hq) q).trans ⟨fun h => (ng q).resolve_left h, fun h => by rw [h]; decide⟩
  refine ⟨⟨rfl, hw, Nat.le_refl _, Or.inr rfl, ng, fun q hq => ?_, fun q hq => f2 q ((hF q).mpr hq), fun q hq _ => (hF q).mp (f1 q hq)⟩, hF⟩
  have hq : q < 1 := hq
  rw [show q = 0 by omega]
  exact w0
def sn_sweep (x : SnG) : SnG :=
  (if 0 < x.2.2.2 ∧ x.2.2.2 ≤ 600 ∧ sn_C x x.2.2.2 = 2 then x.1 else if 0 < x.2.2.2 ∧ x.2.2.2 ≤ 600 ∧ sn_S x.1 x.2.2.2 = none then x.1 else sn_release x.1 x.2.2.2,
   if 0 < x.2.2.2 ∧ x.2.2.2 ≤ 600 ∧ sn_C x x.2.2.2 = 2 then (va_up (sn_C x) x.2.2.2 0, x.2.1.2) else x.2.1,
   if sn_tp x.1 < x.2.2.2 + 1 then 0 else x.2.2.1, x.2.2.2 + 1)
def sn_ex2 (x : SnG) : Prop := (∀ q, sn_C x q = 2 → sn_R (sn_S x.1) (sn_L x.1) q) ∧ ∀ q, 0 < q → q < x.2.2.2 → sn_S x.1 q ≠ none → sn_R (sn_S x.1) (sn_L x.1) q
def sn_ex0 (x : SnG) : Prop := ∀ q, 0 < q → sn_S x.1 q ≠ none → sn_R (sn_S x.1) (sn_L x.1) q
theorem sn_sweep_g {st : SnS} {mk : SnM} {cu : Nat} (hst : sn_st st) (hR : ∀ q, sn_R (sn_S st) (sn_L st) q → sn_S st q ≠ none) (h : sn_g2 (st, mk, 2, cu)) :
    sn_gc (sn_sweep (st, mk, 2, cu)) ∧ sn_keep st (sn_sweep (st, mk, 2, cu)).1 ∧ ((sn_sweep (st, mk, 2, cu)).2.2 = (if sn_tp st < cu + 1 then 0 else 2, cu + 1)) ∧
    (sn_ex2 (st, mk, 2, cu) → (sn_tp st < cu + 1 → sn_ex0 (sn_sweep (st, mk, 2, cu))) ∧ (¬ sn_tp st < cu + 1 → sn_ex2 (sn_sweep (st, mk, 2, cu)))) := by
  obtain ⟨-, w, c1, ct, c02, clo, cu2, cR⟩ := h
  have w : mk.2.2 = 0 := w
  have c1 : 1 ≤ cu := c1
  have ct : cu ≤ sn_tp st ∨ cu = 1 := ct
  have c02 : ∀ q, mk.1 q = 0 ∨ mk.1 q = 2 := c02
  have clo : ∀ q, q < cu → mk.1 q = 0 := clo
  have cu2 : ∀ q, mk.1 q = 2 → sn_S st q ≠ none := cu2
  have cR : ∀ q, sn_R (sn_S st) (sn_L st) q → cu ≤ q → mk.1 q = 2 := cR
  have ht6 := hst.2.2.1
  have hus : ∀ q, sn_S st q ≠ none → q ≤ sn_tp st := fun q hq => by
    cases hs : sn_S st q with
    | none => exact absurd hs hq
    | some n => exact (hst.2.1 q n hs).2
  have fin : ∀ (st' : SnS) (C' : Nat → Nat), sn_st st' → sn_keep st st' → (∀ q, q ≠ cu → C' q = mk.1 q) → C' cu = 0 → (mk.1 cu = 2 ∨ sn_S st' cu = none) → (∀ q, q ≠ cu → sn_S st' q = sn_S st q) →
      sn_gc (st', (C', mk.2), (if sn_tp st < cu + 1 then 0 else 2), cu + 1) ∧
      (sn_ex2 (st, mk, 2, cu) → (sn_tp st < cu + 1 → sn_ex0 (st', (C', mk.2), (if sn_tp st < cu + 1 then 0 else 2), cu + 1)) ∧ (¬ sn_tp st < cu + 1 → sn_ex2 (st', (C', mk.2), (if sn_tp st < cu + 1 then 0 else 2), cu + 1))) := by
    intro st' C' k1 k2 k3 k4 k5 k6
    have hR' : ∀ q, sn_R (sn_S st') (sn_L st') q → sn_S st' q ≠ none := fun q hq => by
      have h1 := (k2.rch q).mp hq
      rw [k2.size h1]; exact hR q h1
    have hC0 : ∀ q, C' q = 2 → q ≠ cu ∧ mk.1 q = 2 := fun q hq => by
      by_cases e : q = cu
      · rw [e, k4] at hq; cases hq
      · rw [k3 q e] at hq; exact ⟨e, hq⟩
    constructor
    · refine ⟨k1, hR', ?_⟩
      by_cases ht : sn_tp st < cu + 1
      · rw [if_pos ht]
        refine Or.inl ⟨rfl, fun q => ?_, w⟩
        show C' q = 0
        by_cases e : q = cu
        · rw [e]; exact k4
        · rw [k3 q e]
          rcases c02 q with h1 | h1
          · exact h1
          · have h2 := hus q (cu2 q h1)
            exact clo q (by omega)
      · rw [if_neg ht]
        refine Or.inr (Or.inr ⟨rfl, w, Nat.le_add_left _ _, Or.inl ?_, fun q => ?_, fun q hq => ?_, fun q hq => ?_, fun q hq hcu => ?_⟩)
        · show cu + 1 ≤ sn_tp st'
          rw [k2.2.2.1]; omega
        · show C' q = 0 ∨ C' q = 2
          by_cases e : q = cu
          · rw [e, k4]; exact Or.inl rfl
          · rw [k3 q e]; exact c02 q
        · have hq : q < cu + 1 := hq
          show C' q = 0
          by_cases e : q = cu
          · rw [e]; exact k4
          · rw [k3 q e]; exact clo q (by omega)
        · have hq : C' q = 2 := hq
          show sn_S st' q ≠ none
          rw [k6 q (hC0 q hq).1]
          exact cu2 q (hC0 q hq).2
        · have hcu : cu + 1 ≤ q := hcu
          show C' q = 2
          rw [k3 q (by omega)]
          exact cR q ((k2.rch q).mp hq) (by omega)
    · rintro ⟨x1, x2⟩
      have x1 : ∀ q, mk.1 q = 2 → sn_R (sn_S st) (sn_L st) q := x1
      have x2 : ∀ q, 0 < q → q < cu → sn_S st q ≠ none → sn_R (sn_S st) (sn_L st) q := x2
      have low : ∀ q, 0 < q → q < cu + 1 → sn_S st' q ≠ none → sn_R (sn_S st') (sn_L st') q := fun q h0 hq hs => by
        refine (k2.rch q).mpr ?_
        by_cases e : q = cu
        · rcases k5 with h1 | h1
          · rw [e]; exact x1 cu h1
          · rw [e] at hs; exact absurd h1 hs
        · rw [k6 q e] at hs
          exact x2 q h0 (by omega) hs
      refine ⟨fun ht q h0 hs => ?_, fun ht => ⟨fun q hq => (k2.rch q).mpr (x1 q (hC0 q hq).2), fun q h0 hq hs => low q h0 hq hs⟩⟩
      have hs : sn_S st' q ≠ none := hs
      have h2 : q ≤ sn_tp st := by
        by_cases e : q = cu
        · rw [e]
          rcases k5 with h1 | h1
          · exact hus cu (cu2 cu h1)
          · rw [e] at hs; exact absurd h1 hs
        · rw [k6 q e] at hs; exact hus q hs
      exact low q h0 (by omega) hs
  unfold sn_sweep
  show sn_gc (_, _, _, _) ∧ sn_keep st _ ∧ _ ∧ _
  by_cases hb : 0 < cu ∧ cu ≤ 600 ∧ mk.1 cu = 2
  · have hb' : 0 < (st, mk, 2, cu).2.2.2 ∧ (st, mk, 2, cu).2.2.2 ≤ 600 ∧ sn_C (st, mk, 2, cu) (st, mk, 2, cu).2.2.2 = 2 := hb
    rw [if_pos hb', if_pos hb']
    obtain ⟨f1, f2⟩ := fin st (va_up mk.1 cu 0) hst (sn_keep.rf st) (fun q e => va_up_ne mk.1 0 e) (va_up_self mk.1 cu 0) (Or.inl hb.2.2) (fun _ _ => rfl)
    exact ⟨f1, sn_keep.rf st, rfl, f2⟩
  · have hb' : ¬ (0 < (st, mk, 2, cu).2.2.2 ∧ (st, mk, 2, cu).2.2.2 ≤ 600 ∧ sn_C (st, mk, 2, cu) (st, mk, 2, cu).2.2.2 = 2) := hb
    rw [if_neg hb', if_neg hb']
    have hc6 : cu ≤ 600 := by omega
    have hw0 : mk.1 cu = 0 := (c02 cu).resolve_right (fun h9 => hb ⟨by omega, hc6, h9⟩)
    by_cases hn : 0 < cu ∧ cu ≤ 600 ∧ sn_S st cu = none
    · have hn' : 0 < (st, mk, 2, cu).2.2.2 ∧ (st, mk, 2, cu).2.2.2 ≤ 600 ∧ sn_S (st, mk, 2, cu).1 (st, mk, 2, cu).2.2.2 = none := hn
      rw [if_pos hn']
      obtain ⟨f1, f2⟩ := fin st mk.1 hst (sn_keep.rf st) (fun _ _ => rfl) hw0 (Or.inr hn.2.2) (fun _ _ => rfl)
      exact ⟨f1, sn_keep.rf st, rfl, f2⟩
    · have hn' : ¬ (0 < (st, mk, 2, cu).2.2.2 ∧ (st, mk, 2, cu).2.2.2 ≤ 600 ∧ sn_S (st, mk, 2, cu).1 (st, mk, 2, cu).2.2.2 = none) := hn
      rw [if_neg hn']
      cases hs : sn_S st cu with
      | none => exact absurd ⟨by omega, hc6, hs⟩ hn
      | some n =>
        have h0 : 0 < cu := by omega
        have hnr : ¬ sn_R (sn_S st) (sn_L st) cu := fun h9 => by
          have := cR cu h9 (Nat.le_refl _)
          omega
        have hst' := sn_release_st hst h0 hs
        have he := sn_release_eq hst h0 hs
        have hk : sn_keep st (sn_release st cu) := by
          rw [he]
          refine ⟨rfl, rfl, rfl, ?_, fun q => ?_⟩
          · show va_up (sn_S st) cu none 0 = sn_S st 0
            exact va_up_ne _ _ (by omega)
          · show va_up (sn_S st) cu none q = sn_S st q ∨ _
            by_cases e : q = cu
            · exact Or.inr ⟨by rw [e]; exact va_up_self _ _ _, by rw [e]; exact hnr⟩
            · exact Or.inl (va_up_ne _ _ e)
        have hS' : sn_S (sn_release st cu) = va_up (sn_S st) cu none := by rw [he]
        obtain ⟨f1, f2⟩ := fin (sn_release st cu) mk.1 hst' hk (fun _ _ => rfl) hw0 (Or.inr (by rw [hS']; exact va_up_self _ _ _)) (fun q e => by rw [hS']; exact va_up_ne _ _ e)
        exact ⟨f1, hk, rfl, f2⟩
end
section
def sn_beg (x : SnG) : SnG := if x.2.2.1 = 0 then (x.1, sn_shv 600 (sn_L x.1) 0 (sn_sz (sn_S x.1) 0) x.2.1, 1, x.2.2.2) else x
def sn_trn (x : SnG) : SnG := if x.2.2.1 = 1 ∧ x.2.1.2.2 = 0 then (x.1, x.2.1, 2, 1) else x
def sn_one (x : SnG) : SnG := if x.2.2.1 = 1 then (x.1, sn_mark1 600 (sn_S x.1) (sn_L x.1) x.2.1, 1, x.2.2.2) else sn_sweep x
def sn_adv (x : SnG) : SnG := sn_one (sn_trn (sn_beg x))
def sn_work : Nat → SnG → SnG
  | 0, x => x
  | n + 1, x => sn_work n (sn_adv x)
theorem sn_sz0 {st : SnS} (h : sn_st st) : sn_sz (sn_S st) 0 = 16 := by unfold sn_sz; rw [h.1]; rfl
theorem sn_beg_gc {x : SnG} (h : sn_gc x) : sn_gc (sn_beg x) ∧ (sn_beg x).1 = x.1 ∧ (sn_beg x).2.2.1 ≠ 0 := by
  obtain ⟨st, mk, ph, cu⟩ := x
  obtain ⟨h1, h2, h3⟩ := h
  unfold sn_beg
  by_cases e : ph = 0
  · have e' : ((st, mk, ph, cu) : SnG).2.2.1 = 0 := e
    rw [if_pos e']
    rcases h3 with ⟨g1, g2, g3⟩ | ⟨g1, -⟩ | ⟨g1, -⟩
    · have hb := (sn_begin (st := st) (wt := mk.2.1) (C := mk.1) (cu := cu) h1 h2 g2).1
      have em : mk = (mk.1, mk.2.1, 0) := by
        have g3 : mk.2.2 = 0 := g3
        rw [← g3]
      have hz := sn_sz0 h1
      refine ⟨⟨h1, h2, Or.inr (Or.inl ?_)⟩, rfl, by show 1 ≠ 0; decide⟩
      show sn_g1 (st, sn_shv 600 (sn_L st) 0 (sn_sz (sn_S st) 0) mk, 1, cu)
      rw [hz, em]
      exact hb
    · have g1 : ph = 1 := g1
      omega
    · have g1 : ph = 2 := g1
      omega
  · have e' : ¬ ((st, mk, ph, cu) : SnG).2.2.1 = 0 := e
    rw [if_neg e']
    exact ⟨⟨h1, h2, h3⟩, rfl, e⟩
theorem sn_trn_gc {x : SnG} (h : sn_gc x) (h0 : x.2.2.1 ≠ 0) : sn_gc (sn_trn x) ∧ (sn_trn x).1 = x.1 ∧ (sn_trn x).2.1 = x.2.1 ∧ ((sn_trn x).2.2.1 = 1 ∧ 0 < (sn_trn x).2.1.2.2 ∨ (sn_trn x).2.2.1 = 2) := by
  obtain ⟨st, mk, ph, cu⟩ := x
  obtain ⟨h1, h2, h3⟩ := h
  have h0 : ph ≠ 0 := h0
  unfold sn_trn
  by_cases e : ph = 1 ∧ mk.2.2 = 0
  · have e' : ((st, mk, ph, cu) : SnG).2.2.1 = 1 ∧ ((st, mk, ph, cu) : SnG).2.1.2.2 = 0 := e
    rw [if_pos e']
    rcases h3 with ⟨g1, -⟩ | hg | ⟨g1, -⟩
    · exact absurd g1 h0
    · obtain ⟨rfl, e2⟩ := e
      exact ⟨⟨h1, h2, Or.inr (Or.inr (sn_done_g2 hg e2).1)⟩, rfl, rfl, Or.inr rfl⟩
    · have g1 : ph = 2 := g1
      omega
  · have e' : ¬ (((st, mk, ph, cu) : SnG).2.2.1 = 1 ∧ ((st, mk, ph, cu) : SnG).2.1.2.2 = 0) := e
    rw [if_neg e']
    refine ⟨⟨h1, h2, h3⟩, rfl, rfl, ?_⟩
    show ph = 1 ∧ 0 < mk.2.2 ∨ ph = 2
    rcases h3 with ⟨g1, -⟩ | ⟨g1, -⟩ | ⟨g1, -⟩
    · exact absurd g1 h0
    · have g1 : ph = 1 := g1
      exact Or.inl ⟨g1, by omega⟩
    · exact Or.inr g1
theorem sn_one_gc {x : SnG} (h : sn_gc x) (h0 : x.2.2.1 = 1 ∧ 0 < x.2.1.2.2 ∨ x.2.2.1 = 2) : sn_gc (sn_one x) ∧ sn_keep x.1 (sn_one x).1 := by
  obtain ⟨st, mk, ph, cu⟩ := x
  obtain ⟨h1, h2, h3⟩ := h
  unfold sn_one
  rcases h0 with ⟨e, hw⟩ | e
  · have e : ph = 1 := e
    subst e
    have hw : 0 < mk.2.2 := hw
    rw [if_pos (show ((st, mk, 1, cu) : SnG).2.2.1 = 1 from rfl)]
    rcases h3 with ⟨g1, -⟩ | hg | ⟨g1, -⟩
    · have g1 : (1 : Nat) = 0 := g1
      omega
    · exact ⟨⟨h1, h2, Or.inr (Or.inl (sn_mark_g1 h1 hg hw).1)⟩, sn_keep.rf st⟩
    · have g1 : (1 : Nat) = 2 := g1
      omega
  · have e : ph = 2 := e
    subst e
    rw [if_neg (show ¬ ((st, mk, 2, cu) : SnG).2.2.1 = 1 by show ¬ (2 : Nat) = 1; omega)]
    rcases h3 with ⟨g1, -⟩ | ⟨g1, -⟩ | hg
    · have g1 : (2 : Nat) = 0 := g1
      omega
    · have g1 : (2 : Nat) = 1 := g1
      omega
    · obtain ⟨a, b, -⟩ := sn_sweep_g h1 h2 hg
      exact ⟨a, b⟩
theorem sn_adv_gc {x : SnG} (h : sn_gc x) : sn_gc (sn_adv x) ∧ sn_keep x.1 (sn_adv x).1 := by
  obtain ⟨a1, a2, a3⟩ := sn_beg_gc h
  obtain ⟨b1, b2, b3, b4⟩ := sn_trn_gc a1 a3
  obtain ⟨c1, c2⟩ := sn_one_gc b1 b4
  refine ⟨c1, ?_⟩
  rw [b2, a2] at c2
  exact c2
theorem sn_work_gc : ∀ (n : Nat) {x : SnG}, sn_gc x → sn_gc (sn_work n x) ∧ sn_keep x.1 (sn_work n x).1
  | 0, x, h => ⟨h, sn_keep.rf _⟩
  | n + 1, x, h => by
    obtain ⟨a, b⟩ := sn_adv_gc h
    obtain ⟨c, d⟩ := sn_work_gc n a
    exact ⟨c, b.tr d⟩
def sn_nb (C : Nat → Nat) : Nat → Nat := fun q => if q = 0 ∨ C q = 2 then 0 else 1
def sn_pot (x : SnG) : Nat := if x.2.2.1 = 0 then 0 else if x.2.2.1 = 1 then 600 + sn_s (sn_nb (sn_C x)) 601 else if x.2.2.2 ≤ sn_tp x.1 then sn_tp x.1 + 1 - x.2.2.2 else 1
def sn_ex (x : SnG) : Prop := (x.2.2.1 = 1 → ∀ q, sn_F (sn_S x.1) (sn_L x.1) (sn_C x) q → sn_R (sn_S x.1) (sn_L x.1) q) ∧ (x.2.2.1 = 2 → sn_ex2 x) ∧ (x.2.2.1 = 0 → sn_ex0 x)
theorem sn_sweep_pot {st : SnS} {mk : SnM} {cu : Nat} (h : sn_st st) (h1 : 1 ≤ cu) (hc : cu ≤ sn_tp st ∨ cu = 1) (hk : sn_tp (sn_sweep (st, mk, 2, cu)).1 = sn_tp st) : sn_pot (sn_sweep (st, mk, 2, cu)) < sn_pot (st, mk, 2, cu) ∧ sn_pot (st, mk, 2, cu) ≤ 600 := by
  have h6 := h.2.2.1
  have e1 : (sn_sweep (st, mk, 2, cu)).2.2 = (if sn_tp st < cu + 1 then 0 else 2, cu + 1) := rfl
  have e2 : sn_pot (st, mk, 2, cu) = if cu ≤ sn_tp st then sn_tp st + 1 - cu else 1 := rfl
  have e3 : sn_pot (sn_sweep (st, mk, 2, cu)) = if (if sn_tp st < cu + 1 then 0 else 2) = 0 then 0 else if (if sn_tp st < cu + 1 then 0 else 2) = 1 then 600 + sn_s (sn_nb (sn_C (sn_sweep (st, mk, 2, cu)))) 601 else if cu + 1 ≤ sn_tp (sn_sweep (st, mk, 2, cu)).1 then sn_tp (sn_sweep (st, mk, 2, cu)).1 + 1 - (cu + 1) else 1 := rfl
  rw [hk] at e3
  rw [e3, e2]
  by_cases ht : sn_tp st < cu + 1
  · rw [if_pos ht, if_pos rfl]
    split <;> omega
  · rw [if_neg ht, if_neg (by decide), if_neg (by decide), if_pos (by omega), if_pos (by omega)]
    omega
theorem sn_adv_ex {x : SnG} (h : sn_gc x) (h0 : x.2.2.1 ≠ 0) (he : sn_ex x) : sn_ex (sn_adv x) ∧ sn_pot (sn_adv x) < sn_pot x := by
  obtain ⟨st, mk, ph, cu⟩ := x
  have h0 : ph ≠ 0 := h0
  have eb : sn_beg (st, mk, ph, cu) = (st, mk, ph, cu) := by unfold sn_beg; rw [if_neg (show ¬ ((st, mk, ph, cu) : SnG).2.2.1 = 0 from h0)]
  unfold sn_adv
  rw [eb]
  obtain ⟨h1, h2, h3⟩ := h
  obtain ⟨x1, x2, x0⟩ := he
  rcases h3 with ⟨g1, -⟩ | hg | hg
  · exact absurd g1 h0
  · have hp : ph = 1 := hg.1
    subst hp
    have x1 : ∀ q, sn_F (sn_S st) (sn_L st) mk.1 q → sn_R (sn_S st) (sn_L st) q := x1 rfl
    have p1 : sn_pot (st, mk, 1, cu) = 600 + sn_s (sn_nb mk.1) 601 := rfl
    by_cases hw : mk.2.2 = 0
    · have et : sn_trn (st, mk, 1, cu) = (st, mk, 2, 1) := by unfold sn_trn; rw [if_pos (show ((st, mk, 1, cu) : SnG).2.2.1 = 1 ∧ ((st, mk, 1, cu) : SnG).2.1.2.2 = 0 from ⟨rfl, hw⟩)]
      have eo : sn_one (st, mk, 2, 1) = sn_sweep (st, mk, 2, 1) := by unfold sn_one; rw [if_neg (show ¬ ((st, mk, 2, 1) : SnG).2.2.1 = 1 by show ¬ (2 : Nat) = 1; omega)]
      rw [et, eo]
      obtain ⟨g2, hF⟩ := sn_done_g2 hg hw
      obtain ⟨s1, s2, s3, s4⟩ := sn_sweep_g h1 h2 g2
      have hx : sn_ex2 (st, mk, 2, 1) := ⟨fun q hq => x1 q ((hF q).mpr hq), fun q a b => by have b : q < 1 := b; omega⟩
      obtain ⟨y1, y2⟩ := s4 hx
      have s31 : (sn_sweep (st, mk, 2, 1)).2.2.1 = if sn_tp st < 1 + 1 then 0 else 2 := rfl
      refine ⟨⟨fun e => ?_, fun e => y2 (fun ht => ?_), fun e => y1 ?_⟩, ?_⟩
      · rw [s31] at e; split at e <;> omega
      · rw [s31, if_pos ht] at e; omega
      · rw [s31] at e; split at e
        · assumption
        · omega
      · have a := sn_sweep_pot (st := st) (mk := mk) (cu := 1) h1 (Nat.le_refl _) (Or.inr rfl) s2.2.2.1
        rw [p1]; omega
    · have et : sn_trn (st, mk, 1, cu) = (st, mk, 1, cu) := by unfold sn_trn; rw [if_neg (show ¬ (((st, mk, 1, cu) : SnG).2.2.1 = 1 ∧ ((st, mk, 1, cu) : SnG).2.1.2.2 = 0) from fun h9 => hw h9.2)]
      have eo : sn_one (st, mk, 1, cu) = (st, sn_mark1 600 (sn_S st) (sn_L st) mk, 1, cu) := by unfold sn_one; rw [if_pos (show ((st, mk, 1, cu) : SnG).2.2.1 = 1 from rfl)]
      rw [et, eo]
      obtain ⟨m1, m2, g, m3, m4, m5, m6⟩ := sn_mark_g1 h1 hg (by omega)
      refine ⟨⟨fun _ q hq => x1 q ((m2 q).mp hq), fun e => ?_, fun e => ?_⟩, ?_⟩
      · have e : (1 : Nat) = 2 := e
        omega
      · have e : (1 : Nat) = 0 := e
        omega
      · rw [p1]
        show 600 + sn_s (sn_nb (sn_mark1 600 (sn_S st) (sn_L st) mk).1) 601 < 600 + sn_s (sn_nb mk.1) 601
        have hf : sn_nb (sn_mark1 600 (sn_S st) (sn_L st) mk).1 = va_up (sn_nb mk.1) g 0 := by
          funext q
          by_cases e : q = g
          · rw [e, va_up_self]; unfold sn_nb; rw [if_pos (Or.inr ((m6 g).mpr (Or.inr rfl)))]
          · rw [va_up_ne _ _ e]; unfold sn_nb
            by_cases e2 : q = 0 ∨ mk.1 q = 2
            · rw [if_pos e2, if_pos (e2.imp id (fun h9 => (m6 q).mpr (Or.inl h9)))]
            · rw [if_neg e2, if_neg (fun h9 => e2 (h9.imp id (fun h8 => ((m6 q).mp h8).resolve_right e)))]
        have a1 := sn_s_up (f := sn_nb mk.1) (k := g) (v := 0) (n := 601) (by omega)
        have a2 : sn_nb mk.1 g = 1 := by unfold sn_nb; rw [if_neg (by rw [m3]; omega)]
        rw [hf]; omega
  · have hp : ph = 2 := hg.1
    subst hp
    have et : sn_trn (st, mk, 2, cu) = (st, mk, 2, cu) := by unfold sn_trn; rw [if_neg (show ¬ (((st, mk, 2, cu) : SnG).2.2.1 = 1 ∧ ((st, mk, 2, cu) : SnG).2.1.2.2 = 0) from fun h9 => by have h9 : (2 : Nat) = 1 := h9.1; omega)]
    have eo : sn_one (st, mk, 2, cu) = sn_sweep (st, mk, 2, cu) := by unfold sn_one; rw [if_neg (show ¬ ((st, mk, 2, cu) : SnG).2.2.1 = 1 by show ¬ (2 : Nat) = 1; omega)]
    rw [et, eo]
    obtain ⟨s1, s2, s3, s4⟩ := sn_sweep_g h1 h2 hg
    obtain ⟨y1, y2⟩ := s4 (x2 rfl)
    have s31 : (sn_sweep (st, mk, 2, cu)).2.2.1 = if sn_tp st < cu + 1 then 0 else 2 := rfl
    refine ⟨⟨fun e => ?_, fun e => y2 (fun ht => ?_), fun e => y1 ?_⟩, (sn_sweep_pot (st := st) (mk := mk) h1 hg.2.2.1 hg.2.2.2.1 s2.2.2.1).1⟩
    · rw [s31] at e; split at e <;> omega
    · rw [s31, if_pos ht] at e; omega
    · rw [s31] at e; split at e
      · assumption
      · omega
def sn_it : Nat → SnG → SnG
  | 0, x => x
  | n + 1, x => if x.2.2.1 = 0 then x else sn_it n (sn_adv x)
theorem sn_it_ok : ∀ (n : Nat) {x : SnG}, sn_gc x → sn_ex x → sn_pot x ≤ n → sn_gc (sn_it n x) ∧ sn_keep x.1 (sn_it n x).1 ∧ (sn_it n x).2.2.1 = 0 ∧ sn_ex0 (sn_it n x)
  | 0, x, h, he, hp => by
    have h0 : x.2.2.1 = 0 := Classical.byContradiction fun h0 => by
      obtain ⟨-, a⟩ := sn_adv_ex h h0 he
      omega
    exact ⟨h, sn_keep.rf _, h0, he.2.2 h0⟩
  | n + 1, x, h, he, hp => by
    by_cases h0 : x.2.2.1 = 0
    · have e : sn_it (n + 1) x = x := if_pos h0
      rw [e]
      exact ⟨h, sn_keep.rf _, h0, he.2.2 h0⟩
    · have e : sn_it (n + 1) x = sn_it n (sn_adv x) := if_neg h0
      rw [e]
      obtain ⟨a1, a2⟩ := sn_adv_ex h h0 he
      obtain ⟨b1, b2⟩ := sn_adv_gc h
      obtain ⟨c1, c2, c3, c4⟩ := sn_it_ok n b1 a1 (by omega)
      exact ⟨c1, b2.tr c2, c3, c4⟩
def sn_whole (x : SnG) : SnG := sn_it 1200 (x.1, sn_shv 600 (sn_L x.1) 0 (sn_sz (sn_S x.1) 0) (fun _ => 0, x.2.1.2.1, 0), 1, x.2.2.2)
theorem sn_whole_ok {x : SnG} (h : sn_gc x) : sn_gc (sn_whole x) ∧ sn_keep x.1 (sn_whole x).1 ∧ (sn_whole x).2.2.1 = 0 ∧ ∀ q, 0 < q → (sn_S (sn_whole x).1 q ≠ none ↔ sn_R (sn_S x.1) (sn_L x.1) q) := by
  obtain ⟨h1, h2, -⟩ := h
  have hz := sn_sz0 h1
  obtain ⟨b1, b2⟩ := sn_begin (st := x.1) (wt := x.2.1.2.1) (C := fun _ => 0) (cu := x.2.2.2) h1 h2 (fun _ => rfl)
  unfold sn_whole
  rw [hz]
  have hp : sn_pot (x.1, sn_shv 600 (sn_L x.1) 0 16 (fun _ => 0, x.2.1.2.1, 0), 1, x.2.2.2) ≤ 1200 := by
    show 600 + sn_s (sn_nb (sn_shv 600 (sn_L x.1) 0 16 (fun _ => 0, x.2.1.2.1, 0)).1) 601 ≤ 1200
    have a1 := sn_s_up (f := fun _ => 1) (k := 0) (v := 0) (n := 601) (by omega)
    have a2 : sn_s (sn_nb (sn_shv 600 (sn_L x.1) 0 16 (fun _ => 0, x.2.1.2.1, 0)).1) 601 ≤ sn_s (va_up (fun _ => 1) 0 0) 601 := sn_s_le (fun k _ => by
      by_cases e0 : k = 0
      · rw [e0, va_up_self]; unfold sn_nb; rw [if_pos (Or.inl rfl)]; exact Nat.le_refl _
      · rw [va_up_ne _ 0 e0]; unfold sn_nb; split <;> omega)
    rw [sn_s_const] at a1
    have a5 : (fun _ => 1 : Nat → Nat) 0 = 1 := rfl
    try rw [a5] at a1
    omega
  have he : sn_ex (x.1, sn_shv 600 (sn_L x.1) 0 16 (fun _ => 0, x.2.1.2.1, 0), 1, x.2.2.2) := by
    refine ⟨fun _ q hq => (b2 q).mp hq, fun e => ?_, fun e => ?_⟩
    · have e : (1 : Nat) = 2 := e
      omega
    · have e : (1 : Nat) = 0 := e
      omega
  obtain ⟨c1, c2, c3, c4⟩ := sn_it_ok 1200 (x := (x.1, sn_shv 600 (sn_L x.1) 0 16 (fun _ => 0, x.2.1.2.1, 0), 1, x.2.2.2)) ⟨h1, h2, Or.inr (Or.inl b1)⟩ he hp
  refine ⟨c1, c2, c3, fun q hq => ⟨fun hs => (c2.rch q).mp (c4 q hq hs), fun hr => c1.2.1 q ((c2.rch q).mpr hr)⟩⟩
end
section
theorem sn_E_ext {S S' : Nat → Option Nat} {L L' : Nat → Nat} (h : ∀ p q, sn_E S' L' p q ↔ sn_E S L p q) : sn_E S' L' = sn_E S L := funext fun p => funext fun q => propext (h p q)
theorem sn_E_root {S : Nat → Option Nat} {L : Nat → Nat} {r v : Nat} (hr : r < 16) : sn_E S (va_up L r v) = sn_E S L := by
  refine sn_E_ext (fun p q => ?_)
  unfold sn_E
  constructor
  · rintro ⟨h0, i, h1, h2, h3⟩
    rw [va_up_ne L v (show 16 * p + i ≠ r by omega)] at h2
    exact ⟨h0, i, h1, h2, h3⟩
  · rintro ⟨h0, i, h1, h2, h3⟩
    exact ⟨h0, i, h1, by rw [va_up_ne L v (show 16 * p + i ≠ r by omega)]; exact h2, h3⟩
abbrev sn_with (x : SnS) (L : Nat → Nat) (N : Nat → Int64) : SnS := (sn_S x, L, N, sn_rl x, sn_rc x, sn_tp x, sn_uc x)
theorem sn_with_st {x : SnS} (h : sn_st x) {L : Nat → Nat} {N : Nat → Int64} (hL : ∀ s, L s ≤ 600) : sn_st (sn_with x L N) :=
  ⟨h.1, h.2.1, h.2.2.1, hL, h.2.2.2.2⟩
def sn_may (x : SnG) (v : Nat) : Prop := v = 0 ∨ (v ≤ 600 ∧ sn_S x.1 v ≠ none ∧ (x.2.2.1 = 1 → sn_F (sn_S x.1) (sn_L x.1) (sn_C x) v) ∧ (x.2.2.1 = 2 → x.2.2.2 ≤ v → sn_C x v = 2) ∧ ∀ q, sn_E (sn_S x.1) (sn_L x.1) v q → sn_R (sn_S x.1) (sn_L x.1) q)
theorem sn_may_R {x : SnG} (h : sn_gc x) {v : Nat} (hv : sn_R (sn_S x.1) (sn_L x.1) v) : sn_may x v := by
  obtain ⟨h1, h2, h3⟩ := h
  have hs := h2 v hv
  refine Or.inr ⟨?_, hs, fun e => ?_, fun e hc => ?_, fun q hq => hv.next hq⟩
  · cases hn : sn_S x.1 v with
    | none => exact absurd hn hs
    | some n => have := (h1.2.1 v n hn).2; have := h1.2.2.1; omega
  · rcases h3 with ⟨g, -⟩ | ⟨-, -, -, g, -⟩ | ⟨g, -⟩
    · omega
    · exact g v hv
    · omega
  · rcases h3 with ⟨g, -⟩ | ⟨g, -⟩ | ⟨-, -, -, -, -, -, -, g⟩
    · omega
    · omega
    · exact g v hv hc
theorem sn_root_gc {x : SnG} (h : sn_gc x) {r v : Nat} {w : Int64} (hr : r < 16) (hv : sn_may x v) :
    sn_gc (sn_with x.1 (va_up (sn_L x.1) r v) (va_up (sn_Nm x.1) r w), x.2) ∧ ∀ q, sn_R (sn_S x.1) (va_up (sn_L x.1) r v) q → sn_R (sn_S x.1) (sn_L x.1) q ∨ (q = v ∧ 0 < v) := by
  obtain ⟨st, mk, ph, cu⟩ := x
  obtain ⟨h1, h2, h3⟩ := h
  have hE := sn_E_root (S := sn_S st) (L := sn_L st) (v := v) hr
  have hL : ∀ s, va_up (sn_L st) r v s ≤ 600 := fun s => by
    by_cases e : s = r
    · rw [e, va_up_self]
      rcases hv with hv | hv
      · omega
      · exact hv.1
    · rw [va_up_ne _ _ e]; exact h1.2.2.2.1 s
  have hR : ∀ q, sn_R (sn_S st) (va_up (sn_L st) r v) q → sn_R (sn_S st) (sn_L st) q ∨ (q = v ∧ 0 < v) := fun q hq => by
    refine hq (fun q => sn_R (sn_S st) (sn_L st) q ∨ (q = v ∧ 0 < v)) (fun q ⟨a, a1, a2, a3⟩ => ?_) (fun p q hp e => ?_)
    · by_cases e : a = r
      · rw [e, va_up_self] at a2
        exact Or.inr ⟨a2.symm, by omega⟩
      · rw [va_up_ne _ _ e] at a2
        exact Or.inl (sn_rch.root ⟨a, a1, a2, a3⟩)
    · rw [hE] at e
      rcases hp with hp | ⟨hp, hp0⟩
      · exact Or.inl (hp.next e)
      · rcases hv with hv | hv
        · omega
        · rw [hp] at e
          exact Or.inl (hv.2.2.2.2 q e)
  refine ⟨⟨sn_with_st h1 hL, fun q hq => ?_, ?_⟩, hR⟩
  · show sn_S st q ≠ none
    rcases hR q hq with h9 | ⟨h9, h8⟩
    · exact h2 q h9
    · rcases hv with hv | hv
      · omega
      · rw [h9]; exact hv.2.1
  · rcases h3 with ⟨a1, a2, a3⟩ | ⟨a1, a2, a3, a4, a5, a6⟩ | ⟨a1, a2, a3, a4, a5, a6, a7, a8⟩
    · exact Or.inl ⟨a1, a2, a3⟩
    · refine Or.inr (Or.inl ⟨a1, a2, a3, fun q hq => ?_, fun q hq => ?_, fun p q hp e => ?_⟩)
      · show sn_fin _ _ (sn_E (sn_S st) (va_up (sn_L st) r v)) q
        rw [hE]
        rcases hR q hq with h9 | ⟨h9, h8⟩
        · exact a4 q h9
        · rcases hv with hv | hv
          · omega
          · rw [h9]; exact hv.2.2.1 a1
      · have hq : sn_fin (fun q => mk.1 q ≠ 0) (fun q => mk.1 q = 2) (sn_E (sn_S st) (va_up (sn_L st) r v)) q := hq
        rw [hE] at hq
        exact a5 q hq
      · have e : sn_E (sn_S st) (va_up (sn_L st) r v) p q := e
        show sn_fin (fun q => mk.1 q ≠ 0) (fun q => mk.1 q = 2) (sn_E (sn_S st) (va_up (sn_L st) r v)) q
        rw [hE] at e ⊢
        exact a6 p q hp e
    · refine Or.inr (Or.inr ⟨a1, a2, a3, a4, a5, a6, a7, fun q hq hc => ?_⟩)
      show mk.1 q = 2
      rcases hR q hq with h9 | ⟨h9, h8⟩
      · exact a8 q h9 hc
      · rcases hv with hv | hv
        · omega
        · rw [h9]; exact hv.2.2.2.1 a1 (by rw [← h9]; exact hc)
def sn_setm (x : SnG) (t : Nat) : SnM := if x.2.2.1 = 1 then sn_shade 600 x.2.1 (sn_L x.1 t) else x.2.1
theorem sn_set_gc {x : SnG} (h : sn_gc x) {a i v : Nat} {w : Int64} (ha : sn_R (sn_S x.1) (sn_L x.1) a) (hi : i < sn_sz (sn_S x.1) a) (hv : v = 0 ∨ sn_R (sn_S x.1) (sn_L x.1) v) :
    sn_gc (sn_with x.1 (va_up (sn_L x.1) (16 * a + i) v) (va_up (sn_Nm x.1) (16 * a + i) w), sn_setm x (16 * a + i), x.2.2) ∧ ∀ q, sn_R (sn_S x.1) (va_up (sn_L x.1) (16 * a + i) v) q → sn_R (sn_S x.1) (sn_L x.1) q := by
  obtain ⟨st, mk, ph, cu⟩ := x
  obtain ⟨h1, h2, h3⟩ := h
  have ha0 : 0 < a := sn_R.pos ha
  have hv6 : v ≤ 600 := by
    rcases hv with hv | hv
    · omega
    · have hs := h2 v hv
      cases hn : sn_S st v with
      | none => exact absurd hn hs
      | some n => have := (h1.2.1 v n hn).2; have := h1.2.2.1; omega
  have hL : ∀ s, va_up (sn_L st) (16 * a + i) v s ≤ 600 := fun s => by
    by_cases e : s = 16 * a + i
    · rw [e, va_up_self]; exact hv6
    · rw [va_up_ne _ _ e]; exact h1.2.2.2.1 s
  have e1 : ∀ p q, sn_E (sn_S st) (va_up (sn_L st) (16 * a + i) v) p q → sn_E (sn_S st) (sn_L st) p q ∨ (q = v ∧ 0 < v) := fun p q ⟨b0, j, b1, b2, b3⟩ => by
    by_cases e : 16 * p + j = 16 * a + i
    · rw [e, va_up_self] at b2
      exact Or.inr ⟨b2.symm, by omega⟩
    · rw [va_up_ne _ _ e] at b2
      exact Or.inl ⟨b0, j, b1, b2, b3⟩
  have e2 : ∀ p q, sn_E (sn_S st) (sn_L st) p q → sn_E (sn_S st) (va_up (sn_L st) (16 * a + i) v) p q ∨ (q = sn_L st (16 * a + i) ∧ 0 < sn_L st (16 * a + i)) := fun p q ⟨b0, j, b1, b2, b3⟩ => by
    by_cases e : 16 * p + j = 16 * a + i
    · rw [e] at b2
      exact Or.inr ⟨b2.symm, by omega⟩
    · exact Or.inl ⟨b0, j, b1, by rw [va_up_ne _ _ e]; exact b2, b3⟩
  have hR : ∀ q, sn_R (sn_S st) (va_up (sn_L st) (16 * a + i) v) q → sn_R (sn_S st) (sn_L st) q := fun q hq => by
    refine hq _ (fun q ⟨b, b1, b2, b3⟩ => ?_) (fun p q hp e => ?_)
    · rw [va_up_ne _ _ (show b ≠ 16 * a + i by omega)] at b2
      exact sn_rch.root ⟨b, b1, b2, b3⟩
    · rcases e1 p q e with h9 | ⟨h9, h8⟩
      · exact hp.next h9
      · rcases hv with hv | hv
        · omega
        · rw [h9]; exact hv
  refine ⟨⟨sn_with_st h1 hL, fun q hq => h2 q (hR q hq), ?_⟩, hR⟩
  rcases h3 with ⟨a1, a2, a3⟩ | ⟨a1, a2, a3, a4, a5, a6⟩ | ⟨a1, a2, a3, a4, a5, a6, a7, a8⟩
  · have em : sn_setm (st, mk, ph, cu) (16 * a + i) = mk := if_neg (by show ¬ ph = 1; have a1 : ph = 0 := a1; omega)
    rw [em]
    exact Or.inl ⟨a1, a2, a3⟩
  · have em : sn_setm (st, mk, ph, cu) (16 * a + i) = sn_shade 600 mk (sn_L st (16 * a + i)) := if_pos a1
    rw [em]
    obtain ⟨b1, b2, b3, b4⟩ := sn_shade_wl a2 (sn_L st (16 * a + i)) (h1.2.2.2.1 _)
    have fa : sn_F (sn_S st) (sn_L st) mk.1 a := a4 a ha
    have hO : ∀ q, (q = sn_L st (16 * a + i) ∧ 0 < sn_L st (16 * a + i)) → sn_F (sn_S st) (sn_L st) mk.1 q := fun q ⟨c1, c2⟩ => by
      have ed : sn_E (sn_S st) (sn_L st) a q := ⟨ha0, i, hi, c1.symm, by omega⟩
      by_cases hb : mk.1 a = 2
      · exact a6 a q hb ed
      · exact fa.next hb ed
    have hV : ∀ q, (q = v ∧ 0 < v) → sn_F (sn_S st) (sn_L st) mk.1 q := fun q ⟨c1, c2⟩ => by
      rcases hv with hv | hv
      · omega
      · rw [c1]; exact a4 v hv
    have hF : ∀ q, sn_F (sn_S st) (va_up (sn_L st) (16 * a + i) v) (sn_shade 600 mk (sn_L st (16 * a + i))).1 q ↔ sn_F (sn_S st) (sn_L st) mk.1 q := fun q => by
      have hBK : (fun q => (sn_shade 600 mk (sn_L st (16 * a + i))).1 q = 2) = (fun q => mk.1 q = 2) := funext fun q => propext (b3 q)
      show sn_fin _ (fun q => (sn_shade 600 mk (sn_L st (16 * a + i))).1 q = 2) _ q ↔ _
      rw [hBK]
      exact sn_fin_set (a := a) b2 hO e2 (fun p q e => (e1 p q e).imp id (hV q)) q
    refine Or.inr (Or.inl ⟨a1, b1, fun q => b4 q (a3 q), fun q hq => (hF q).mpr (a4 q (hR q hq)), fun q hq => a5 q ((hF q).mp hq), fun p q hp e => (hF q).mpr ?_⟩)
    have hp : mk.1 p = 2 := (b3 p).mp hp
    rcases e1 p q e with h9 | h9
    · exact a6 p q hp h9
    · exact hV q h9
  · have em : sn_setm (st, mk, ph, cu) (16 * a + i) = mk := if_neg (by show ¬ ph = 1; have a1 : ph = 2 := a1; omega)
    rw [em]
    exact Or.inr (Or.inr ⟨a1, a2, a3, a4, a5, a6, a7, fun q hq hc => a8 q (hR q hq) hc⟩)
def sn_allm (x : SnG) : SnM := if x.2.2.1 = 1 ∨ (x.2.2.1 = 2 ∧ x.2.2.2 ≤ sn_pl x.1) then sn_black 600 x.2.1 (sn_pl x.1) else x.2.1
theorem sn_all_gc {x : SnG} (h : sn_gc x) {n : Nat} (hn : n ≤ 16) (hr : sn_uc x.1 + n + 2 ≤ 1200) :
    sn_gc (sn_take x.1 n, sn_allm x, x.2.2) ∧ (∀ q, sn_R (sn_S (sn_take x.1 n)) (sn_L (sn_take x.1 n)) q ↔ sn_R (sn_S x.1) (sn_L x.1) q) ∧ sn_may (sn_take x.1 n, sn_allm x, x.2.2) (sn_pl x.1) ∧ (∀ q, ¬ sn_E (sn_S (sn_take x.1 n)) (sn_L (sn_take x.1 n)) (sn_pl x.1) q) := by
  obtain ⟨st, mk, ph, cu⟩ := x
  obtain ⟨h1, h2, h3⟩ := h
  have p9 : 0 < sn_pl st ∧ sn_pl st ≤ 600 ∧ sn_S st (sn_pl st) = none := sn_pl_ok h1 hr
  obtain ⟨p0, p6, ps⟩ := p9
  have hst' := sn_take_st h1 hn hr
  have hS : sn_S (sn_take st n) = va_up (sn_S st) (sn_pl st) (some n) := rfl
  have hLr : ∀ s, sn_L (sn_take st n) s = if 16 * sn_pl st ≤ s ∧ s < 16 * sn_pl st + n then 0 else sn_L st s := fun s => rfl
  have hsz16 : ∀ p, sn_sz (sn_S st) p ≤ 16 := fun p => by
    unfold sn_sz
    cases hs : sn_S st p with
    | none => exact Nat.zero_le _
    | some k => exact (h1.2.1 p k hs).1
  have nE : ∀ q, ¬ sn_E (sn_S (sn_take st n)) (sn_L (sn_take st n)) (sn_pl st) q := fun q ⟨_, i, b1, b2, b3⟩ => by
    have b1 : i < n := by
      unfold sn_sz at b1
      rw [hS, va_up_self] at b1
      exact b1
    rw [hLr, if_pos (by omega)] at b2
    omega
  have nE0 : ∀ q, ¬ sn_E (sn_S st) (sn_L st) (sn_pl st) q := fun q ⟨_, i, b1, _⟩ => by
    unfold sn_sz at b1
    rw [ps] at b1
    exact absurd b1 (Nat.not_lt_zero _)
  have hE : sn_E (sn_S (sn_take st n)) (sn_L (sn_take st n)) = sn_E (sn_S st) (sn_L st) := by
    refine sn_E_ext (fun p q => ?_)
    by_cases e : p = sn_pl st
    · rw [e]; exact ⟨fun h9 => absurd h9 (nE q), fun h9 => absurd h9 (nE0 q)⟩
    · have hsz : sn_sz (sn_S (sn_take st n)) p = sn_sz (sn_S st) p := by unfold sn_sz; rw [hS, va_up_ne _ _ e]
      have hs16 := hsz16 p
      unfold sn_E
      rw [hsz]
      constructor
      · rintro ⟨b0, i, b1, b2, b3⟩
        rw [hLr, if_neg (by omega)] at b2
        exact ⟨b0, i, b1, b2, b3⟩
      · rintro ⟨b0, i, b1, b2, b3⟩
        exact ⟨b0, i, b1, by rw [hLr, if_neg (by omega)]; exact b2, b3⟩
  have hR0 : sn_R0 (sn_L (sn_take st n)) = sn_R0 (sn_L st) := funext fun q => propext (by
    unfold sn_R0
    constructor
    · rintro ⟨r, b1, b2, b3⟩
      rw [hLr, if_neg (by omega)] at b2
      exact ⟨r, b1, b2, b3⟩
    · rintro ⟨r, b1, b2, b3⟩
      exact ⟨r, b1, by rw [hLr, if_neg (by omega)]; exact b2, b3⟩)
  have hR : ∀ q, sn_R (sn_S (sn_take st n)) (sn_L (sn_take st n)) q ↔ sn_R (sn_S st) (sn_L st) q := fun q => by
    show sn_rch (sn_R0 (sn_L (sn_take st n))) (sn_E (sn_S (sn_take st n)) (sn_L (sn_take st n))) q ↔ _
    rw [hR0, hE]
  have hus : ∀ q, sn_S st q ≠ none → sn_S (sn_take st n) q ≠ none ∧ q ≠ sn_pl st := fun q hq => by
    have ne : q ≠ sn_pl st := fun e => hq (by rw [e]; exact ps)
    exact ⟨by rw [hS, va_up_ne _ _ ne]; exact hq, ne⟩
  have hpS : sn_S (sn_take st n) (sn_pl st) ≠ none := by rw [hS, va_up_self]; exact fun h9 => by cases h9
  refine ⟨?_, hR, ?_, nE⟩
  · refine ⟨hst', fun q hq => (hus q (h2 q ((hR q).mp hq))).1, ?_⟩
    rcases h3 with ⟨a1, a2, a3⟩ | ⟨a1, a2, a3, a4, a5, a6⟩ | ⟨a1, a2, a3, a4, a5, a6, a7, a8⟩
    · have em : sn_allm (st, mk, ph, cu) = mk := if_neg (by show ¬ (ph = 1 ∨ (ph = 2 ∧ _)); have a1 : ph = 0 := a1; omega)
      rw [em]
      exact Or.inl ⟨a1, a2, a3⟩
    · have em : sn_allm (st, mk, ph, cu) = sn_black 600 mk (sn_pl st) := if_pos (Or.inl a1)
      rw [em]
      have hw : mk.1 (sn_pl st) = 0 := Classical.byContradiction fun h9 => a5 (sn_pl st) (sn_fin.nw h9) ps
      obtain ⟨b1, b2⟩ := sn_black_wl a2 p0 p6 hw
      have hF : ∀ q, sn_F (sn_S (sn_take st n)) (sn_L (sn_take st n)) (sn_black 600 mk (sn_pl st)).1 q ↔ sn_F (sn_S st) (sn_L st) mk.1 q ∨ q = sn_pl st := by
        rw [b2]
        refine sn_fin_new (fun q => ?_) (fun q => ?_) (fun p q _ => by rw [hE]) nE0
        · by_cases e : q = sn_pl st
          · rw [e, va_up_self]; exact ⟨fun _ => Or.inr rfl, fun _ => rfl⟩
          · rw [va_up_ne _ _ e]; exact ⟨Or.inl, fun h9 => h9.elim id (fun h8 => absurd h8 e)⟩
        · by_cases e : q = sn_pl st
          · rw [e, va_up_self]; exact ⟨fun _ => Or.inr rfl, fun _ => by decide⟩
          · rw [va_up_ne _ _ e]; exact ⟨Or.inl, fun h9 => h9.elim id (fun h8 => absurd h8 e)⟩
      refine Or.inr (Or.inl ⟨a1, b1, fun q => ?_, fun q hq => (hF q).mpr (Or.inl (a4 q ((hR q).mp hq))), fun q hq => ?_, fun p q hp e => ?_⟩)
      · show (sn_black 600 mk (sn_pl st)).1 q ≤ 2
        rw [b2]
        by_cases e : q = sn_pl st
        · rw [e, va_up_self]; exact Nat.le_refl _
        · rw [va_up_ne _ _ e]; exact a3 q
      · show sn_S (sn_take st n) q ≠ none
        rcases (hF q).mp hq with h9 | h9
        · exact (hus q (a5 q h9)).1
        · rw [h9]; exact hpS
      · have hp : (sn_black 600 mk (sn_pl st)).1 p = 2 := hp
        have e : sn_E (sn_S (sn_take st n)) (sn_L (sn_take st n)) p q := e
        by_cases ep : p = sn_pl st
        · rw [ep] at e; exact absurd e (nE q)
        · rw [b2, va_up_ne _ _ ep] at hp
          rw [hE] at e
          exact (hF q).mpr (Or.inl (a6 p q hp e))
    · by_cases hc : cu ≤ sn_pl st
      · have em : sn_allm (st, mk, ph, cu) = (va_up mk.1 (sn_pl st) 2, mk.2) := by
          unfold sn_allm
          rw [if_pos (show (ph = 1 ∨ (ph = 2 ∧ cu ≤ sn_pl st)) from Or.inr ⟨a1, hc⟩)]
          exact if_pos ⟨p0, p6⟩
        rw [em]
        have tp' : sn_tp st ≤ sn_tp (sn_take st n) := by show sn_tp st ≤ (if 0 < sn_rc st then sn_tp st else sn_tp st + 1); split <;> omega
        refine Or.inr (Or.inr ⟨a1, a2, a3, ?_, fun q => ?_, fun q hq => ?_, fun q hq => ?_, fun q hq hcq => ?_⟩)
        · rcases a4 with a4 | a4
          · exact Or.inl (Nat.le_trans a4 tp')
          · exact Or.inr a4
        · show va_up mk.1 (sn_pl st) 2 q = 0 ∨ va_up mk.1 (sn_pl st) 2 q = 2
          by_cases e : q = sn_pl st
          · rw [e, va_up_self]; exact Or.inr rfl
          · rw [va_up_ne _ _ e]; exact a5 q
        · have hq : q < cu := hq
          show va_up mk.1 (sn_pl st) 2 q = 0
          rw [va_up_ne _ _ (by omega)]; exact a6 q hq
        · have hq : va_up mk.1 (sn_pl st) 2 q = 2 := hq
          show sn_S (sn_take st n) q ≠ none
          by_cases e : q = sn_pl st
          · rw [e]; exact hpS
          · rw [va_up_ne _ _ e] at hq; exact (hus q (a7 q hq)).1
        · show va_up mk.1 (sn_pl st) 2 q = 2
          by_cases e : q = sn_pl st
          · rw [e, va_up_self]
          · rw [va_up_ne _ _ e]; exact a8 q ((hR q).mp hq) hcq
      · have em : sn_allm (st, mk, ph, cu) = mk := if_neg (by show ¬ (ph = 1 ∨ (ph = 2 ∧ cu ≤ sn_pl st)); have a1 : ph = 2 := a1; omega)
        rw [em]
        have tp' : sn_tp st ≤ sn_tp (sn_take st n) := by show sn_tp st ≤ (if 0 < sn_rc st then sn_tp st else sn_tp st + 1); split <;> omega
        refine Or.inr (Or.inr ⟨a1, a2, a3, ?_, a5, a6, fun q hq => (hus q (a7 q hq)).1, fun q hq hcq => a8 q ((hR q).mp hq) hcq⟩)
        rcases a4 with a4 | a4
        · exact Or.inl (Nat.le_trans a4 tp')
        · exact Or.inr a4
  · refine Or.inr ⟨p6, hpS, fun e => ?_, fun e hc => ?_, fun q hq => absurd hq (nE q)⟩
    · have e : ph = 1 := e
      have em : sn_allm (st, mk, ph, cu) = (va_up mk.1 (sn_pl st) 2, mk.2) := by
        unfold sn_allm
        rw [if_pos (show (ph = 1 ∨ (ph = 2 ∧ cu ≤ sn_pl st)) from Or.inl e)]
        exact if_pos ⟨p0, p6⟩
      show sn_fin (fun q => (sn_allm (st, mk, ph, cu)).1 q ≠ 0) _ _ (sn_pl st)
      rw [em]
      exact sn_fin.nw (by show va_up mk.1 (sn_pl st) 2 (sn_pl st) ≠ 0; rw [va_up_self]; decide)
    · have e : ph = 2 := e
      have hc : cu ≤ sn_pl st := hc
      have em : sn_allm (st, mk, ph, cu) = (va_up mk.1 (sn_pl st) 2, mk.2) := by
        unfold sn_allm
        rw [if_pos (show (ph = 1 ∨ (ph = 2 ∧ cu ≤ sn_pl st)) from Or.inr ⟨e, hc⟩)]
        exact if_pos ⟨p0, p6⟩
      show (sn_allm (st, mk, ph, cu)).1 (sn_pl st) = 2
      rw [em]
      exact va_up_self _ _ _
end
section
def sn_vm (φ : Nat → Nat) (l : Nat) (n : Int64) (l' : Nat) (n' : Int64) : Prop := (l = 0 ∧ l' = 0 ∧ n' = n) ∨ (0 < l ∧ 0 < φ l ∧ l' = φ l ∧ n = 0)
def sn_iso (φ : Nat → Nat) (S : Nat → Option Nat) (L : Nat → Nat) (N : Nat → Int64) (S' : Nat → Option Nat) (L' : Nat → Nat) (N' : Nat → Int64) : Prop :=
  (∀ r, r < 16 → sn_vm φ (L r) (N r) (L' r) (N' r)) ∧ (∀ p, sn_R S L p → 0 < φ p ∧ φ p ≤ 640 ∧ sn_sz S p ≤ 16 ∧ sn_sz S' (φ p) = sn_sz S p ∧ ∀ i, i < sn_sz S p → sn_vm φ (L (16 * p + i)) (N (16 * p + i)) (L' (16 * φ p + i)) (N' (16 * φ p + i))) ∧
  (∀ p q, sn_R S L p → sn_R S L q → φ p = φ q → p = q)
theorem sn_iso_R {φ : Nat → Nat} {S : Nat → Option Nat} {L : Nat → Nat} {N : Nat → Int64} {S' : Nat → Option Nat} {L' : Nat → Nat} {N' : Nat → Int64} (h : sn_iso φ S L N S' L' N') (k : Nat) : sn_R S' L' k ↔ ∃ p, sn_R S L p ∧ φ p = k := by
  obtain ⟨h1, h2, -⟩ := h
  constructor
  · intro hk
    refine hk (fun k => ∃ p, sn_R S L p ∧ φ p = k) (fun k ⟨r, a1, a2, a3⟩ => ?_) (fun k j hk e => ?_)
    · rcases h1 r a1 with ⟨-, b2, -⟩ | ⟨b1, -, b3, -⟩
      · omega
      · exact ⟨L r, sn_rch.root ⟨r, a1, rfl, b1⟩, by rw [← b3]; exact a2⟩
    · obtain ⟨p, hp, hk⟩ := hk
      obtain ⟨-, i, a1, a2, a3⟩ := e
      obtain ⟨-, -, -, b4, b5⟩ := h2 p hp
      rw [← hk] at a1 a2
      rw [b4] at a1
      rcases b5 i a1 with ⟨-, c2, -⟩ | ⟨c1, -, c3, -⟩
      · omega
      · exact ⟨L (16 * p + i), hp.next ⟨sn_R.pos hp, i, a1, rfl, c1⟩, by rw [← c3]; exact a2⟩
  · rintro ⟨p, hp, rfl⟩
    refine (hp (fun p => sn_R S L p ∧ sn_R S' L' (φ p)) (fun q ⟨r, a1, a2, a3⟩ => ?_) (fun p q hp e => ?_)).2
    · refine ⟨sn_rch.root ⟨r, a1, a2, a3⟩, ?_⟩
      rcases h1 r a1 with ⟨b1, -, -⟩ | ⟨-, b2, b3, -⟩
      · omega
      · rw [a2] at b2 b3
        exact sn_rch.root ⟨r, a1, b3, b2⟩
    · refine ⟨hp.1.next e, ?_⟩
      obtain ⟨a0, i, a1, a2, a3⟩ := e
      obtain ⟨b1, -, -, b4, b5⟩ := h2 p hp.1
      rcases b5 i a1 with ⟨c1, -, -⟩ | ⟨-, c2, c3, -⟩
      · omega
      · rw [a2] at c2 c3
        exact hp.2.next ⟨b1, i, by rw [b4]; exact a1, c3, c2⟩
theorem sn_iso_keep {φ : Nat → Nat} {x y : SnS} {S' : Nat → Option Nat} {L' : Nat → Nat} {N' : Nat → Int64} (h : sn_iso φ (sn_S x) (sn_L x) (sn_Nm x) S' L' N') (k : sn_keep x y) : sn_iso φ (sn_S y) (sn_L y) (sn_Nm y) S' L' N' := by
  obtain ⟨h1, h2, h3⟩ := h
  refine ⟨fun r hr => ?_, fun p hp => ?_, fun p q hp hq => h3 p q ((k.rch p).mp hp) ((k.rch q).mp hq)⟩
  · rw [k.1, k.2.1]; exact h1 r hr
  · have hp' := (k.rch p).mp hp
    have hz : sn_sz (sn_S y) p = sn_sz (sn_S x) p := by unfold sn_sz; rw [k.size hp']
    rw [hz, k.1, k.2.1]; exact h2 p hp'
theorem sn_iso_root {φ : Nat → Nat} {S : Nat → Option Nat} {L : Nat → Nat} {N : Nat → Int64} {S' : Nat → Option Nat} {L' : Nat → Nat} {N' : Nat → Int64} (h : sn_iso φ S L N S' L' N') {r v v' : Nat} {w w' : Int64} (hr : r < 16)
    (hR : ∀ q, sn_R S (va_up L r v) q → sn_R S L q) (hv : sn_vm φ v w v' w') : sn_iso φ S (va_up L r v) (va_up N r w) S' (va_up L' r v') (va_up N' r w') := by
  obtain ⟨h1, h2, h3⟩ := h
  refine ⟨fun k hk => ?_, fun p hp => ?_, fun p q hp hq => h3 p q (hR p hp) (hR q hq)⟩
  · by_cases e : k = r
    · rw [e, va_up_self, va_up_self, va_up_self, va_up_self]; exact hv
    · rw [va_up_ne _ _ e, va_up_ne _ _ e, va_up_ne _ _ e, va_up_ne _ _ e]; exact h1 k hk
  · obtain ⟨b1, b2, b3, b4, b5⟩ := h2 p (hR p hp)
    have hp0 := sn_R.pos (hR p hp)
    refine ⟨b1, b2, b3, b4, fun i hi => ?_⟩
    rw [va_up_ne L _ (show 16 * p + i ≠ r by omega), va_up_ne N _ (show 16 * p + i ≠ r by omega), va_up_ne L' _ (show 16 * φ p + i ≠ r by omega), va_up_ne N' _ (show 16 * φ p + i ≠ r by omega)]
    exact b5 i hi
theorem sn_iso_set {φ : Nat → Nat} {S : Nat → Option Nat} {L : Nat → Nat} {N : Nat → Int64} {S' : Nat → Option Nat} {L' : Nat → Nat} {N' : Nat → Int64} (h : sn_iso φ S L N S' L' N') {a j v v' : Nat} {w w' : Int64} (ha : sn_R S L a) (hj : j < sn_sz S a)
    (hR : ∀ q, sn_R S (va_up L (16 * a + j) v) q → sn_R S L q) (hv : sn_vm φ v w v' w') : sn_iso φ S (va_up L (16 * a + j) v) (va_up N (16 * a + j) w) S' (va_up L' (16 * φ a + j) v') (va_up N' (16 * φ a + j) w') := by
  obtain ⟨h1, h2, h3⟩ := h
  obtain ⟨a1, -, a3, -, -⟩ := h2 a ha
  have ha0 := sn_R.pos ha
  refine ⟨fun k hk => ?_, fun p hp => ?_, fun p q hp hq => h3 p q (hR p hp) (hR q hq)⟩
  · rw [va_up_ne L _ (show k ≠ 16 * a + j by omega), va_up_ne N _ (show k ≠ 16 * a + j by omega), va_up_ne L' _ (show k ≠ 16 * φ a + j by omega), va_up_ne N' _ (show k ≠ 16 * φ a + j by omega)]
    exact h1 k hk
  · obtain ⟨b1, b2, b3, b4, b5⟩ := h2 p (hR p hp)
    refine ⟨b1, b2, b3, b4, fun i hi => ?_⟩
    by_cases e : p = a ∧ i = j
    · obtain ⟨rfl, rfl⟩ := e
      rw [va_up_self, va_up_self, va_up_self, va_up_self]; exact hv
    · have ne1 : 16 * p + i ≠ 16 * a + j := fun e9 => e ⟨by omega, by omega⟩
      have ne2 : 16 * φ p + i ≠ 16 * φ a + j := fun e9 => by
        have e8 : φ p = φ a := by omega
        have e7 := h3 p a (hR p hp) ha e8
        exact e ⟨e7, by omega⟩
      rw [va_up_ne L _ ne1, va_up_ne N _ ne1, va_up_ne L' _ ne2, va_up_ne N' _ ne2]
      exact b5 i hi
theorem sn_iso_new {φ : Nat → Nat} {S : Nat → Option Nat} {L : Nat → Nat} {N : Nat → Int64} {S' : Nat → Option Nat} {L' : Nat → Nat} {N' : Nat → Int64} (h : sn_iso φ S L N S' L' N') {p k n r : Nat} (hr : r < 16) (hn : n ≤ 16) (hp0 : 0 < p) (hp : ¬ sn_R S L p) (hk0 : 0 < k) (hk6 : k ≤ 640) (hk : ¬ sn_R S' L' k)
    (hR : ∀ q, sn_R (va_up S p (some n)) (va_up (sn_clr L (16 * p) n 0) r p) q → sn_R S L q ∨ q = p) :
    sn_iso (va_up φ p k) (va_up S p (some n)) (va_up (sn_clr L (16 * p) n 0) r p) (va_up (sn_clr N (16 * p) n 0) r 0) (va_up S' k (some n)) (va_up (sn_clr L' (16 * k) 16 0) r k) (va_up (sn_clr N' (16 * k) 16 0) r 0) := by
  have hRm := sn_iso_R h
  obtain ⟨h1, h2, h3⟩ := h
  have neR : ∀ q, sn_R S L q → q ≠ p ∧ φ q ≠ k := fun q hq => ⟨fun e => hp (by rw [← e]; exact hq), fun e => hk ((hRm k).mpr ⟨q, hq, e⟩)⟩
  have vmk : ∀ (l : Nat) (n : Int64) (l' : Nat) (n' : Int64), (0 < l → sn_R S L l) → sn_vm φ l n l' n' → sn_vm (va_up φ p k) l n l' n' := fun l n l' n' hl hv => by
    rcases hv with hv | ⟨c1, c2, c3, c4⟩
    · exact Or.inl hv
    · have ne := (neR l (hl c1)).1
      exact Or.inr ⟨c1, by rw [va_up_ne _ _ ne]; exact c2, by rw [va_up_ne _ _ ne]; exact c3, c4⟩
  refine ⟨fun s hs => ?_, fun q hq => ?_, fun a b ha hb e => ?_⟩
  · by_cases e : s = r
    · rw [e, va_up_self, va_up_self, va_up_self, va_up_self]
      exact Or.inr ⟨hp0, by rw [va_up_self]; exact hk0, by rw [va_up_self], rfl⟩
    · rw [va_up_ne _ _ e, va_up_ne _ _ e, va_up_ne _ _ e, va_up_ne _ _ e]
      unfold sn_clr
      rw [if_neg (by omega), if_neg (by omega), if_neg (by omega), if_neg (by omega)]
      exact vmk _ _ _ _ (fun h0 => sn_rch.root ⟨s, hs, rfl, h0⟩) (h1 s hs)
  · rcases hR q hq with hq | hq
    · obtain ⟨ne1, ne2⟩ := neR q hq
      obtain ⟨b1, b2, b3, b4, b5⟩ := h2 q hq
      have hq0 := sn_R.pos hq
      have z1 : sn_sz (va_up S p (some n)) q = sn_sz S q := by unfold sn_sz; rw [va_up_ne _ _ ne1]
      have z2 : sn_sz (va_up S' k (some n)) (φ q) = sn_sz S' (φ q) := by unfold sn_sz; rw [va_up_ne _ _ ne2]
      rw [va_up_ne φ _ ne1, z1, z2]
      refine ⟨b1, b2, b3, b4, fun i hi => ?_⟩
      rw [va_up_ne _ _ (show 16 * q + i ≠ r by omega), va_up_ne _ _ (show 16 * q + i ≠ r by omega), va_up_ne _ _ (show 16 * φ q + i ≠ r by omega), va_up_ne _ _ (show 16 * φ q + i ≠ r by omega)]
      unfold sn_clr
      rw [if_neg (by omega), if_neg (by omega), if_neg (by omega), if_neg (by omega)]
      exact vmk _ _ _ _ (fun h0 => hq.next ⟨hq0, i, hi, rfl, h0⟩) (b5 i hi)
    · have z1 : sn_sz (va_up S p (some n)) p = n := by unfold sn_sz; rw [va_up_self]; rfl
      have z2 : sn_sz (va_up S' k (some n)) k = n := by unfold sn_sz; rw [va_up_self]; rfl
      rw [hq, va_up_self, z1, z2]
      refine ⟨hk0, hk6, hn, rfl, fun i hi => ?_⟩
      rw [va_up_ne _ _ (show 16 * p + i ≠ r by omega), va_up_ne _ _ (show 16 * p + i ≠ r by omega), va_up_ne _ _ (show 16 * k + i ≠ r by omega), va_up_ne _ _ (show 16 * k + i ≠ r by omega)]
      unfold sn_clr
      rw [if_pos (by omega), if_pos (by omega), if_pos (by omega), if_pos (by omega)]
      exact Or.inl ⟨rfl, rfl, rfl⟩
  · rcases hR a ha with ha | ha <;> rcases hR b hb with hb | hb
    · rw [va_up_ne _ _ (neR a ha).1, va_up_ne _ _ (neR b hb).1] at e
      exact h3 a b ha hb e
    · rw [hb, va_up_self, va_up_ne _ _ (neR a ha).1] at e
      exact absurd e (neR a ha).2
    · rw [ha, va_up_self, va_up_ne _ _ (neR b hb).1] at e
      exact absurd e.symm (neR b hb).2
    · rw [ha, hb]
theorem sn_iso_sum {φ : Nat → Nat} {S : Nat → Option Nat} {L : Nat → Nat} {N : Nat → Int64} {S' : Nat → Option Nat} {L' : Nat → Nat} {N' : Nat → Int64} (h : sn_iso φ S L N S' L' N') {A B f g : Nat → Nat} (hA : ∀ q, A q ≠ 0 ↔ sn_R S L q) (hB : ∀ q, B q ≠ 0 ↔ sn_R S' L' q) {n m : Nat}
    (hn : ∀ q, sn_R S L q → q < n) (hm : ∀ q, sn_R S' L' q → q < m) (hf : ∀ q, sn_R S L q → f q ≠ 0 ∧ g (φ q) = f q) : sn_s (fun q => if A q ≠ 0 then f q else 0) n = sn_s (fun q => if B q ≠ 0 then g q else 0) m := by
  have hRm := sn_iso_R h
  have nz : ∀ q, (if A q ≠ 0 then f q else 0) ≠ 0 → sn_R S L q := fun q hq => by
    by_cases e : A q ≠ 0
    · exact (hA q).mp e
    · rw [if_neg e] at hq; exact absurd rfl hq
  refine sn_s_bij φ m n _ _ (fun q hq h0 => ?_) (fun a b _ _ ha hb e => h.2.2 a b (nz a ha) (nz b hb) e) (fun k hk h0 => ?_)
  · have hr := nz q h0
    have hrm := (hRm (φ q)).mpr ⟨q, hr, rfl⟩
    refine ⟨hm _ hrm, ?_⟩
    show (if B (φ q) ≠ 0 then g (φ q) else 0) = if A q ≠ 0 then f q else 0
    rw [if_pos ((hB _).mpr hrm), if_pos ((hA q).mpr hr)]
    exact (hf q hr).2
  · have h0 : (if B k ≠ 0 then g k else 0) ≠ 0 := h0
    by_cases e : B k ≠ 0
    · obtain ⟨p, hp, hpk⟩ := (hRm k).mp ((hB k).mp e)
      refine ⟨p, hn p hp, ?_, hpk⟩
      show (if A p ≠ 0 then f p else 0) ≠ 0
      rw [if_pos ((hA p).mpr hp)]
      exact (hf p hp).1
    · rw [if_neg e] at h0; exact absurd rfl h0
end
section
def sn_vl (L : Nat → Nat) (N : Nat → Int64) : Nat → Nat → List (Nat × Int64)
  | _, 0 => []
  | b, n + 1 => (L b, N b) :: sn_vl L N (b + 1) n
theorem sn_vl_len (L : Nat → Nat) (N : Nat → Int64) : ∀ (n b : Nat), (sn_vl L N b n).length = n
  | 0, _ => rfl
  | n + 1, b => by show (sn_vl L N (b + 1) n).length + 1 = n + 1; rw [sn_vl_len L N n]
theorem sn_vl_mem {L : Nat → Nat} {N : Nat → Int64} {v : Nat × Int64} : ∀ {n b : Nat}, v ∈ sn_vl L N b n ↔ ∃ i, i < n ∧ v = (L (b + i), N (b + i))
  | 0, b => ⟨fun h => (List.not_mem_nil h).elim, fun ⟨_, h, _⟩ => absurd h (Nat.not_lt_zero _)⟩
  | n + 1, b => by
    show v ∈ (L b, N b) :: sn_vl L N (b + 1) n ↔ _
    rw [List.mem_cons, sn_vl_mem (n := n) (b := b + 1)]
    constructor
    · rintro (h | ⟨i, hi, h⟩)
      · exact ⟨0, by omega, h⟩
      · exact ⟨i + 1, by omega, by rw [h, show b + 1 + i = b + (i + 1) by omega]⟩
    · rintro ⟨i, hi, h⟩
      cases i with
      | zero => exact Or.inl h
      | succ i => exact Or.inr ⟨i, by omega, by rw [h, show b + 1 + i = b + (i + 1) by omega]⟩
abbrev SnD : Type := (Nat → Nat) × Nat × Nat × Int64 × List (Nat × Int64)
def sn_meet (S : Nat → Option Nat) (L : Nat → Nat) (N : Nat → Int64) (A : Nat → Nat) (m c : Nat) (h : Int64) (v : Nat × Int64) (w : List (Nat × Int64)) : SnD :=
  if v.1 = 0 then (A, m, c, 31 * h + v.2, w) else if 0 < A v.1 then (A, m, c, 31 * h + lN (2 + A v.1), w)
  else (va_up A v.1 (m + 1), m + 1, c + (sn_sz S v.1 + 2), 31 * (31 * h + 3) + lN (sn_sz S v.1), sn_vl L N (16 * v.1) (sn_sz S v.1) ++ w)
def sn_dst (S : Nat → Option Nat) (L : Nat → Nat) (N : Nat → Int64) : SnD → SnD
  | (A, m, c, h, []) => (A, m, c, h, [])
  | (A, m, c, h, v :: w) => sn_meet S L N A m c h v w
def sn_drun (S : Nat → Option Nat) (L : Nat → Nat) (N : Nat → Int64) : Nat → SnD → SnD
  | 0, x => x
  | n + 1, x => sn_drun S L N n (sn_dst S L N x)
theorem sn_drun_add (S : Nat → Option Nat) (L : Nat → Nat) (N : Nat → Int64) : ∀ (n k : Nat) (x : SnD), sn_drun S L N (n + k) x = sn_drun S L N k (sn_drun S L N n x)
  | 0, k, x => by rw [Nat.zero_add]; rfl
  | n + 1, k, x => by rw [show n + 1 + k = (n + k) + 1 by omega]; exact sn_drun_add S L N n k (sn_dst S L N x)
theorem sn_drun_nil (S : Nat → Option Nat) (L : Nat → Nat) (N : Nat → Int64) : ∀ (k : Nat) {x : SnD}, x.2.2.2.2 = [] → sn_drun S L N k x = x
  | 0, _, _ => rfl
  | k + 1, (A, m, c, h, w), hx => by
    have hw : w = [] := hx
    subst hw
    exact sn_drun_nil S L N k (x := (A, m, c, h, [])) rfl
theorem sn_drun_eq {S : Nat → Option Nat} {L : Nat → Nat} {N : Nat → Int64} {x : SnD} {n k : Nat} (hn : (sn_drun S L N n x).2.2.2.2 = []) (hk : (sn_drun S L N k x).2.2.2.2 = []) : sn_drun S L N n x = sn_drun S L N k x := by
  rw [← sn_drun_nil S L N k hn, ← sn_drun_nil S L N n hk, ← sn_drun_add, ← sn_drun_add, Nat.add_comm]
def sn_d0 (L : Nat → Nat) (N : Nat → Int64) : SnD := (fun _ => 0, 0, 0, 7, sn_vl L N 0 16)
def sn_wr (φ : Nat → Nat) (Z : Nat → Prop) : List (Nat × Int64) → List (Nat × Int64) → Prop
  | [], [] => True
  | v :: w, v' :: w' => (0 < v.1 → Z v.1) ∧ sn_vm φ v.1 v.2 v'.1 v'.2 ∧ sn_wr φ Z w w'
  | _, _ => False
theorem sn_wr_app {φ : Nat → Nat} {Z : Nat → Prop} {b b' : List (Nat × Int64)} (hb : sn_wr φ Z b b') : ∀ {a a' : List (Nat × Int64)}, sn_wr φ Z a a' → sn_wr φ Z (a ++ b) (a' ++ b')
  | [], [], _ => hb
  | _ :: _, _ :: _, h => ⟨h.1, h.2.1, sn_wr_app hb h.2.2⟩
  | [], _ :: _, h => h.elim
  | _ :: _, [], h => h.elim
theorem sn_wr_vl {φ : Nat → Nat} {Z : Nat → Prop} {L L' : Nat → Nat} {N N' : Nat → Int64} : ∀ {n b b' : Nat}, (∀ i, i < n → (0 < L (b + i) → Z (L (b + i))) ∧ sn_vm φ (L (b + i)) (N (b + i)) (L' (b' + i)) (N' (b' + i))) → sn_wr φ Z (sn_vl L N b n) (sn_vl L' N' b' n)
  | 0, _, _, _ => trivial
  | n + 1, b, b', h => by
    refine ⟨(h 0 (by omega)).1, (h 0 (by omega)).2, sn_wr_vl (n := n) (b := b + 1) (b' := b' + 1) (fun i hi => ?_)⟩
    have := h (i + 1) (by omega)
    rw [show b + 1 + i = b + (i + 1) by omega, show b' + 1 + i = b' + (i + 1) by omega]
    exact this
def sn_dr (φ : Nat → Nat) (Z : Nat → Prop) (x y : SnD) : Prop := y.2.1 = x.2.1 ∧ y.2.2.1 = x.2.2.1 ∧ y.2.2.2.1 = x.2.2.2.1 ∧ (∀ q, Z q → y.1 (φ q) = x.1 q) ∧ sn_wr φ Z x.2.2.2.2 y.2.2.2.2
theorem sn_dr_step {φ : Nat → Nat} {S : Nat → Option Nat} {L : Nat → Nat} {N : Nat → Int64} {S' : Nat → Option Nat} {L' : Nat → Nat} {N' : Nat → Int64} (h : sn_iso φ S L N S' L' N') {x y : SnD} (hr : sn_dr φ (sn_R S L) x y) : sn_dr φ (sn_R S L) (sn_dst S L N x) (sn_dst S' L' N' y) := by
  obtain ⟨A, m, c, g, w⟩ := x
  obtain ⟨A', m', c', g', w'⟩ := y
  obtain ⟨e1, e2, e3, hA, hw⟩ := hr
  have e1 : m' = m := e1
  have e2 : c' = c := e2
  have e3 : g' = g := e3
  subst e1; subst e2; subst e3
  have hA : ∀ q, sn_R S L q → A' (φ q) = A q := hA
  cases w with
  | nil => cases w' with
    | nil => exact ⟨rfl, rfl, rfl, hA, trivial⟩
    | cons v' w' => exact hw.elim
  | cons v w => cases w' with
    | nil => exact hw.elim
    | cons v' w' =>
      obtain ⟨hz, hv, hw⟩ : (0 < v.1 → sn_R S L v.1) ∧ sn_vm φ v.1 v.2 v'.1 v'.2 ∧ sn_wr φ (sn_R S L) w w' := hw
      show sn_dr φ (sn_R S L) (sn_meet S L N A m' c' g' v w) (sn_meet S' L' N' A' m' c' g' v' w')
      unfold sn_meet
      rcases hv with ⟨a1, a2, a3⟩ | ⟨a1, a2, a3, -⟩
      · rw [if_pos a1, if_pos a2, a3]
        exact ⟨rfl, rfl, rfl, hA, hw⟩
      · have hR := hz a1
        obtain ⟨b1, b2, b3, b4, b5⟩ := h.2.1 v.1 hR
        rw [if_neg (show ¬ v.1 = 0 by omega), if_neg (show ¬ v'.1 = 0 by omega), a3, show A' (φ v.1) = A v.1 from hA v.1 hR]
        by_cases hm : 0 < A v.1
        · rw [if_pos hm, if_pos hm]
          exact ⟨rfl, rfl, rfl, hA, hw⟩
        · rw [if_neg hm, if_neg hm, b4]
          refine ⟨rfl, rfl, rfl, fun q hq => ?_, sn_wr_app hw (sn_wr_vl (fun i hi => ⟨fun h0 => hR.next ⟨a1, i, hi, rfl, h0⟩, b5 i hi⟩))⟩
          show va_up A' (φ v.1) (m' + 1) (φ q) = va_up A v.1 (m' + 1) q
          by_cases e : q = v.1
          · rw [e, va_up_self, va_up_self]
          · rw [va_up_ne _ _ e, va_up_ne _ _ (fun e9 => e (h.2.2 q v.1 hq hR e9))]
            exact hA q hq
theorem sn_dr_run {φ : Nat → Nat} {S : Nat → Option Nat} {L : Nat → Nat} {N : Nat → Int64} {S' : Nat → Option Nat} {L' : Nat → Nat} {N' : Nat → Int64} (h : sn_iso φ S L N S' L' N') : ∀ (n : Nat) {x y : SnD}, sn_dr φ (sn_R S L) x y → sn_dr φ (sn_R S L) (sn_drun S L N n x) (sn_drun S' L' N' n y)
  | 0, _, _, hr => hr
  | n + 1, _, _, hr => sn_dr_run h n (sn_dr_step h hr)
theorem sn_dr_0 {φ : Nat → Nat} {S : Nat → Option Nat} {L : Nat → Nat} {N : Nat → Int64} {S' : Nat → Option Nat} {L' : Nat → Nat} {N' : Nat → Int64} (h : sn_iso φ S L N S' L' N') : sn_dr φ (sn_R S L) (sn_d0 L N) (sn_d0 L' N') := by
  refine ⟨rfl, rfl, rfl, fun _ _ => rfl, sn_wr_vl (b := 0) (b' := 0) (fun i hi => ?_)⟩
  rw [Nat.zero_add]
  exact ⟨fun h0 => sn_rch.root ⟨i, hi, rfl, h0⟩, h.1 i hi⟩
theorem sn_wr_nil {φ : Nat → Nat} {Z : Nat → Prop} {w w' : List (Nat × Int64)} (h : sn_wr φ Z w w') : w = [] ↔ w' = [] := by
  cases w <;> cases w'
  · exact ⟨fun _ => rfl, fun _ => rfl⟩
  · exact h.elim
  · exact h.elim
  · exact ⟨fun e => absurd e (List.cons_ne_nil _ _), fun e => absurd e (List.cons_ne_nil _ _)⟩
theorem sn_digest {φ : Nat → Nat} {S : Nat → Option Nat} {L : Nat → Nat} {N : Nat → Int64} {S' : Nat → Option Nat} {L' : Nat → Nat} {N' : Nat → Int64} (h : sn_iso φ S L N S' L' N') {n k : Nat} (hn : (sn_drun S L N n (sn_d0 L N)).2.2.2.2 = []) (hk : (sn_drun S' L' N' k (sn_d0 L' N')).2.2.2.2 = []) :
    (sn_drun S L N n (sn_d0 L N)).2.2.2.1 = (sn_drun S' L' N' k (sn_d0 L' N')).2.2.2.1 := by
  have a := sn_dr_run h n (sn_dr_0 h)
  have e : (sn_drun S' L' N' n (sn_d0 L' N')).2.2.2.2 = [] := (sn_wr_nil a.2.2.2.2).mp hn
  rw [← sn_drun_eq e hk]
  exact a.2.2.1.symm
def sn_dj (S : Nat → Option Nat) (L : Nat → Nat) (M : Nat) (x : SnD) : Prop :=
  (∀ q, x.1 q ≠ 0 → sn_R S L q) ∧ (∀ v, v ∈ x.2.2.2.2 → 0 < v.1 → sn_R S L v.1) ∧ (∀ q, sn_R0 L q → x.1 q ≠ 0 ∨ ∃ v, v ∈ x.2.2.2.2 ∧ v.1 = q) ∧ (∀ p q, x.1 p ≠ 0 → sn_E S L p q → x.1 q ≠ 0 ∨ ∃ v, v ∈ x.2.2.2.2 ∧ v.1 = q) ∧
  x.2.1 = sn_s (fun q => if x.1 q ≠ 0 then 1 else 0) M ∧ x.2.2.1 = sn_s (fun q => if x.1 q ≠ 0 then sn_sz S q + 2 else 0) M
theorem sn_if_up {A f : Nat → Nat} {l k : Nat} (hk : k ≠ 0) : (fun q => if va_up A l k q ≠ 0 then f q else 0) = va_up (fun q => if A q ≠ 0 then f q else 0) l (f l) := by
  funext q
  by_cases e : q = l
  · rw [e, va_up_self, va_up_self, if_pos hk]
  · rw [va_up_ne _ _ e, va_up_ne _ _ e]
theorem sn_dj_step {S : Nat → Option Nat} {L : Nat → Nat} {N : Nat → Int64} {M : Nat} (hM : ∀ q, sn_R S L q → q < M) {x : SnD} (h : sn_dj S L M x) : sn_dj S L M (sn_dst S L N x) := by
  obtain ⟨A, m, c, g, w⟩ := x
  cases w with
  | nil => exact h
  | cons v w =>
    obtain ⟨h1, h2, h3, h4, h5, h6⟩ := h
    have h1 : ∀ q, A q ≠ 0 → sn_R S L q := h1
    have h2 : ∀ u, u ∈ v :: w → 0 < u.1 → sn_R S L u.1 := h2
    have h3 : ∀ q, sn_R0 L q → A q ≠ 0 ∨ ∃ u, u ∈ v :: w ∧ u.1 = q := h3
    have h4 : ∀ p q, A p ≠ 0 → sn_E S L p q → A q ≠ 0 ∨ ∃ u, u ∈ v :: w ∧ u.1 = q := h4
    have h5 : m = sn_s (fun q => if A q ≠ 0 then 1 else 0) M := h5
    have h6 : c = sn_s (fun q => if A q ≠ 0 then sn_sz S q + 2 else 0) M := h6
    have pos : ∀ q, sn_R0 L q → 0 < q := fun q ⟨_, _, _, h0⟩ => h0
    have posE : ∀ p q, sn_E S L p q → 0 < q := fun p q ⟨_, _, _, _, h0⟩ => h0
    have drop : ∀ q, 0 < q → (A v.1 ≠ 0 ∨ v.1 = 0) → (A q ≠ 0 ∨ ∃ u, u ∈ v :: w ∧ u.1 = q) → A q ≠ 0 ∨ ∃ u, u ∈ w ∧ u.1 = q := fun q h0 hv hq => by
      rcases hq with hq | ⟨u, hu, e⟩
      · exact Or.inl hq
      · rcases List.mem_cons.mp hu with hu | hu
        · rw [hu] at e
          rcases hv with hv | hv
          · exact Or.inl (by rw [← e]; exact hv)
          · omega
        · exact Or.inr ⟨u, hu, e⟩
    show sn_dj S L M (sn_meet S L N A m c g v w)
    unfold sn_meet
    by_cases e0 : v.1 = 0
    · rw [if_pos e0]
      exact ⟨h1, fun u hu => h2 u (List.mem_cons_of_mem _ hu), fun q hq => drop q (pos q hq) (Or.inr e0) (h3 q hq), fun p q hp e => drop q (posE p q e) (Or.inr e0) (h4 p q hp e), h5, h6⟩
    · rw [if_neg e0]
      by_cases hm : 0 < A v.1
      · rw [if_pos hm]
        have hm' : A v.1 ≠ 0 := by omega
        exact ⟨h1, fun u hu => h2 u (List.mem_cons_of_mem _ hu), fun q hq => drop q (pos q hq) (Or.inl hm') (h3 q hq), fun p q hp e => drop q (posE p q e) (Or.inl hm') (h4 p q hp e), h5, h6⟩
      · rw [if_neg hm]
        have hR := h2 v List.mem_cons_self (by omega)
        have hA0 : A v.1 = 0 := by omega
        have up : ∀ q, A q ≠ 0 → va_up A v.1 (m + 1) q ≠ 0 := fun q hq => by
          by_cases e : q = v.1
          · rw [e, va_up_self]; omega
          · rw [va_up_ne _ _ e]; exact hq
        have new : ∀ q, (A q ≠ 0 ∨ ∃ u, u ∈ v :: w ∧ u.1 = q) → va_up A v.1 (m + 1) q ≠ 0 ∨ ∃ u, u ∈ sn_vl L N (16 * v.1) (sn_sz S v.1) ++ w ∧ u.1 = q := fun q hq => by
          rcases hq with hq | ⟨u, hu, e⟩
          · exact Or.inl (up q hq)
          · rcases List.mem_cons.mp hu with hu | hu
            · exact Or.inl (by rw [← e, hu, va_up_self]; omega)
            · exact Or.inr ⟨u, List.mem_append_right _ hu, e⟩
        refine ⟨fun q hq => ?_, fun u hu h0 => ?_, fun q hq => new q (h3 q hq), fun p q hp e => ?_, ?_, ?_⟩
        · have hq : va_up A v.1 (m + 1) q ≠ 0 := hq
          by_cases e : q = v.1
          · rw [e]; exact hR
          · rw [va_up_ne _ _ e] at hq; exact h1 q hq
        · have hu : u ∈ sn_vl L N (16 * v.1) (sn_sz S v.1) ++ w := hu
          rcases List.mem_append.mp hu with hu | hu
          · obtain ⟨i, hi, e⟩ := sn_vl_mem.mp hu
            have e1 : L (16 * v.1 + i) = u.1 := by rw [e]
            exact hR.next ⟨by omega, i, hi, e1, h0⟩
          · exact h2 u (List.mem_cons_of_mem _ hu) h0
        · have hp : va_up A v.1 (m + 1) p ≠ 0 := hp
          by_cases ep : p = v.1
          · obtain ⟨-, i, b1, b2, b3⟩ := e
            rw [ep] at b1 b2
            exact Or.inr ⟨(L (16 * v.1 + i), N (16 * v.1 + i)), List.mem_append_left _ (sn_vl_mem.mpr ⟨i, b1, rfl⟩), b2⟩
          · rw [va_up_ne _ _ ep] at hp
            exact new q (h4 p q hp e)
        · show m + 1 = sn_s (fun q => if va_up A v.1 (m + 1) q ≠ 0 then 1 else 0) M
          rw [sn_if_up (f := fun _ => 1) (by omega)]
          have a1 := sn_s_up (f := fun q => if A q ≠ 0 then 1 else 0) (k := v.1) (v := 1) (hM _ hR)
          have a2 : (fun q => if A q ≠ 0 then 1 else 0 : Nat → Nat) v.1 = 0 := if_neg (fun h9 => h9 hA0)
          rw [if_neg (show ¬ (A v.1 ≠ 0) from fun h9 => h9 hA0)] at a1
          omega
        · show c + (sn_sz S v.1 + 2) = sn_s (fun q => if va_up A v.1 (m + 1) q ≠ 0 then sn_sz S q + 2 else 0) M
          rw [sn_if_up (f := fun q => sn_sz S q + 2) (by omega)]
          have a1 := sn_s_up (f := fun q => if A q ≠ 0 then sn_sz S q + 2 else 0) (k := v.1) (v := sn_sz S v.1 + 2) (hM _ hR)
          have a2 : (fun q => if A q ≠ 0 then sn_sz S q + 2 else 0 : Nat → Nat) v.1 = 0 := if_neg (fun h9 => h9 hA0)
          rw [if_neg (show ¬ (A v.1 ≠ 0) from fun h9 => h9 hA0)] at a1
          omega
theorem sn_dj_run {S : Nat → Option Nat} {L : Nat → Nat} {N : Nat → Int64} {M : Nat} (hM : ∀ q, sn_R S L q → q < M) : ∀ (n : Nat) {x : SnD}, sn_dj S L M x → sn_dj S L M (sn_drun S L N n x)
  | 0, _, h => h
  | n + 1, _, h => sn_dj_run hM n (sn_dj_step hM h)
theorem sn_dj_0 {S : Nat → Option Nat} {L : Nat → Nat} {N : Nat → Int64} {M : Nat} : sn_dj S L M (sn_d0 L N) := by
  refine ⟨fun q hq => absurd rfl hq, fun v hv h0 => ?_, fun q hq => Or.inr ?_, fun p q hp => absurd rfl hp, ?_, ?_⟩
  · obtain ⟨i, hi, e⟩ := sn_vl_mem.mp (show v ∈ sn_vl L N 0 16 from hv)
    rw [Nat.zero_add] at e
    exact sn_rch.root ⟨i, hi, by rw [e], h0⟩
  · obtain ⟨r, a1, a2, a3⟩ := hq
    exact ⟨(L r, N r), sn_vl_mem.mpr ⟨r, a1, by rw [Nat.zero_add]⟩, a2⟩
  · show 0 = sn_s (fun q => if (0 : Nat) ≠ 0 then 1 else 0) M
    rw [sn_s_congr (g := fun _ => 0) (fun k _ => if_neg (fun h9 => h9 rfl)), sn_s_zero]
  · show 0 = sn_s (fun q => if (0 : Nat) ≠ 0 then sn_sz S q + 2 else 0) M
    rw [sn_s_congr (g := fun _ => 0) (fun k _ => if_neg (fun h9 => h9 rfl)), sn_s_zero]
theorem sn_dj_end {S : Nat → Option Nat} {L : Nat → Nat} {M : Nat} {x : SnD} (h : sn_dj S L M x) (hw : x.2.2.2.2 = []) (q : Nat) : x.1 q ≠ 0 ↔ sn_R S L q := by
  obtain ⟨h1, -, h3, h4, -⟩ := h
  refine ⟨h1 q, fun hq => hq (fun q => x.1 q ≠ 0) (fun q hq => ?_) (fun p q hp e => ?_)⟩
  · rcases h3 q hq with h9 | ⟨v, hv, -⟩
    · exact h9
    · rw [hw] at hv; exact (List.not_mem_nil hv).elim
  · rcases h4 p q hp e with h9 | ⟨v, hv, -⟩
    · exact h9
    · rw [hw] at hv; exact (List.not_mem_nil hv).elim
end
section
def sn_stk (S : Nat → Option Nat) (L : Nat → Nat) (N : Nat → Int64) (pa nv : Nat → Nat) : Nat → List (Nat × Int64)
  | 0 => []
  | d + 1 => sn_vl L N (16 * pa d + nv d) (sn_sz S (pa d) - nv d) ++ sn_stk S L N pa nv d
theorem sn_stk_congr {S : Nat → Option Nat} {L : Nat → Nat} {N : Nat → Int64} {pa nv pa' nv' : Nat → Nat} : ∀ {d : Nat}, (∀ k, k < d → pa' k = pa k ∧ nv' k = nv k) → sn_stk S L N pa' nv' d = sn_stk S L N pa nv d
  | 0, _ => rfl
  | d + 1, h => by
    show sn_vl L N (16 * pa' d + nv' d) (sn_sz S (pa' d) - nv' d) ++ sn_stk S L N pa' nv' d = sn_vl L N (16 * pa d + nv d) (sn_sz S (pa d) - nv d) ++ sn_stk S L N pa nv d
    rw [(h d (by omega)).1, (h d (by omega)).2, sn_stk_congr (d := d) (fun k hk => h k (by omega))]
abbrev SnW : Type := (Nat → Nat) × (Nat → Nat) × (Nat → Nat) × Nat × Nat × Nat × Int64
def sn_goin (x : SnW) (p : Nat) : SnW := if x.2.2.2.1 < 601 then (x.1, va_up x.2.1 x.2.2.2.1 p, va_up x.2.2.1 x.2.2.2.1 0, x.2.2.2.1 + 1, x.2.2.2.2) else x
def sn_wmeet (S : Nat → Option Nat) (L : Nat → Nat) (N : Nat → Int64) (x : SnW) (t : Nat) : SnW :=
  if ¬ (0 < L t ∧ L t ≤ 600) then (x.1, x.2.1, x.2.2.1, x.2.2.2.1, x.2.2.2.2.1, x.2.2.2.2.2.1, 31 * x.2.2.2.2.2.2 + N t)
  else if 0 < x.1 (L t) then (x.1, x.2.1, x.2.2.1, x.2.2.2.1, x.2.2.2.2.1, x.2.2.2.2.2.1, 31 * x.2.2.2.2.2.2 + lN (2 + x.1 (L t)))
  else sn_goin (va_up x.1 (L t) (x.2.2.2.2.1 + 1), x.2.1, x.2.2.1, x.2.2.2.1, x.2.2.2.2.1 + 1, x.2.2.2.2.2.1 + (sn_sz S (L t) + 2), 31 * (31 * x.2.2.2.2.2.2 + 3) + lN (sn_sz S (L t))) (L t)
def sn_goon (S : Nat → Option Nat) (L : Nat → Nat) (N : Nat → Int64) (x : SnW) : SnW :=
  if x.2.2.1 (x.2.2.2.1 - 1) < sn_sz S (x.2.1 (x.2.2.2.1 - 1)) then sn_wmeet S L N (x.1, x.2.1, va_up x.2.2.1 (x.2.2.2.1 - 1) (x.2.2.1 (x.2.2.2.1 - 1) + 1), x.2.2.2) (16 * x.2.1 (x.2.2.2.1 - 1) + x.2.2.1 (x.2.2.2.1 - 1))
  else (x.1, x.2.1, x.2.2.1, x.2.2.2.1 - 1, x.2.2.2.2)
def sn_wrun (S : Nat → Option Nat) (L : Nat → Nat) (N : Nat → Int64) : Nat → SnW → SnW
  | 0, x => x
  | n + 1, x => if 0 < x.2.2.2.1 then sn_wrun S L N n (sn_goon S L N x) else x
def sn_wabs (S : Nat → Option Nat) (L : Nat → Nat) (N : Nat → Int64) (x : SnW) : SnD := (x.1, x.2.2.2.2.1, x.2.2.2.2.2.1, x.2.2.2.2.2.2, sn_stk S L N x.2.1 x.2.2.1 x.2.2.2.1)
def sn_wi (x : SnW) : Prop := x.1 0 = 0 ∧ x.2.2.2.1 ≤ x.2.2.2.2.1 + 1 ∧ x.2.2.2.2.1 = sn_s (fun q => if x.1 q ≠ 0 then 1 else 0) 601
def sn_wmu (S : Nat → Option Nat) (L : Nat → Nat) (N : Nat → Int64) (x : SnW) : Nat := sn_s (fun q => if x.1 q ≠ 0 then 0 else sn_sz S q + 1) 601 + (sn_stk S L N x.2.1 x.2.2.1 x.2.2.2.1).length + x.2.2.2.1
theorem sn_cnt_lt {A : Nat → Nat} {l : Nat} (h0 : A 0 = 0) (hl : 0 < l) (h6 : l ≤ 600) (hA : A l = 0) : sn_s (fun q => if A q ≠ 0 then 1 else 0) 601 < 600 := by
  have a1 := sn_s_up (f := fun _ => 1) (k := 0) (v := 0) (n := 601) (by omega)
  have a2 := sn_s_up (f := va_up (fun _ => 1) 0 0) (k := l) (v := 0) (n := 601) (by omega)
  have a3 : va_up (fun _ => 1) 0 0 l = 1 := va_up_ne (fun _ => 1) 0 (by omega)
  have a4 : sn_s (fun q => if A q ≠ 0 then 1 else 0) 601 ≤ sn_s (va_up (va_up (fun _ => 1) 0 0) l 0) 601 := sn_s_le (fun k _ => by
    by_cases e : k = l
    · rw [e, va_up_self, if_neg (fun h9 => h9 hA)]; exact Nat.le_refl _
    · rw [va_up_ne _ 0 e]
      by_cases e0 : k = 0
      · rw [e0, va_up_self, if_neg (fun h9 => h9 h0)]; exact Nat.le_refl _
      · rw [va_up_ne _ 0 e0]; split <;> omega)
  rw [sn_s_const] at a1
  rw [a3] at a2
  have a5 : (fun _ => 1 : Nat → Nat) 0 = 1 := rfl
  try rw [a5] at a1
  omega
theorem sn_goon_ok {S : Nat → Option Nat} {L : Nat → Nat} {N : Nat → Int64} (hL : ∀ s, L s ≤ 600) {x : SnW} (h : sn_wi x) (hd : 0 < x.2.2.2.1) :
    sn_wi (sn_goon S L N x) ∧ (sn_wabs S L N (sn_goon S L N x) = sn_wabs S L N x ∨ sn_wabs S L N (sn_goon S L N x) = sn_dst S L N (sn_wabs S L N x)) ∧ sn_wmu S L N (sn_goon S L N x) < sn_wmu S L N x := by
  obtain ⟨A, pa, nv, d, m, c, g⟩ := x
  obtain ⟨h0, h1, h2⟩ := h
  have h0 : A 0 = 0 := h0
  have h1 : d ≤ m + 1 := h1
  have h2 : m = sn_s (fun q => if A q ≠ 0 then 1 else 0) 601 := h2
  have hd : 0 < d := hd
  obtain ⟨k, rfl⟩ : ∃ k, d = k + 1 := ⟨d - 1, by omega⟩
  have ek : k + 1 - 1 = k := rfl
  by_cases hi : nv k < sn_sz S (pa k)
  · have eg : sn_goon S L N (A, pa, nv, k + 1, m, c, g) = sn_wmeet S L N (A, pa, va_up nv k (nv k + 1), k + 1, m, c, g) (16 * pa k + nv k) := if_pos hi
    rw [eg]
    have hlow : sn_stk S L N pa (va_up nv k (nv k + 1)) k = sn_stk S L N pa nv k := sn_stk_congr (fun j hj => ⟨rfl, va_up_ne _ _ (by omega)⟩)
    have hst : sn_stk S L N pa nv (k + 1) = (L (16 * pa k + nv k), N (16 * pa k + nv k)) :: sn_stk S L N pa (va_up nv k (nv k + 1)) (k + 1) := by
      show sn_vl L N (16 * pa k + nv k) (sn_sz S (pa k) - nv k) ++ sn_stk S L N pa nv k = _ :: (sn_vl L N (16 * pa k + va_up nv k (nv k + 1) k) (sn_sz S (pa k) - va_up nv k (nv k + 1) k) ++ sn_stk S L N pa (va_up nv k (nv k + 1)) k)
      rw [hlow, va_up_self, show sn_sz S (pa k) - nv k = (sn_sz S (pa k) - (nv k + 1)) + 1 by omega]
      rfl
    generalize hw : sn_stk S L N pa (va_up nv k (nv k + 1)) (k + 1) = w at hst
    generalize ht : 16 * pa k + nv k = t at hst ⊢
    generalize va_up nv k (nv k + 1) = nv' at hw ⊢
    have ha : sn_wabs S L N (A, pa, nv, k + 1, m, c, g) = (A, m, c, g, (L t, N t) :: w) := by show (A, m, c, g, sn_stk S L N pa nv (k + 1)) = _; rw [hst]
    have hmu : sn_wmu S L N (A, pa, nv, k + 1, m, c, g) = sn_s (fun q => if A q ≠ 0 then 0 else sn_sz S q + 1) 601 + (w.length + 1) + (k + 1) := by
      show sn_s (fun q => if A q ≠ 0 then 0 else sn_sz S q + 1) 601 + (sn_stk S L N pa nv (k + 1)).length + (k + 1) = _
      rw [hst]; rfl
    have hdst : sn_dst S L N (A, m, c, g, (L t, N t) :: w) = sn_meet S L N A m c g (L t, N t) w := rfl
    rw [ha, hmu, hdst]
    unfold sn_wmeet
    by_cases e0 : L t = 0
    · rw [if_pos (show ¬ (0 < L t ∧ L t ≤ 600) by omega)]
      refine ⟨⟨h0, h1, h2⟩, Or.inr ?_, ?_⟩
      · show (A, m, c, 31 * g + N t, sn_stk S L N pa nv' (k + 1)) = sn_meet S L N A m c g (L t, N t) w
        unfold sn_meet
        rw [if_pos (show ((L t, N t) : Nat × Int64).1 = 0 from e0), hw]
      · show sn_s (fun q => if A q ≠ 0 then 0 else sn_sz S q + 1) 601 + (sn_stk S L N pa nv' (k + 1)).length + (k + 1) < _
        rw [hw]; omega
    · have hl0 : 0 < L t := by omega
      rw [if_neg (show ¬ ¬ (0 < L t ∧ L t ≤ 600) from fun h9 => h9 ⟨hl0, hL t⟩)]
      by_cases hm : 0 < A (L t)
      · rw [if_pos (show 0 < ((A, pa, nv', k + 1, m, c, g) : SnW).1 (L t) from hm)]
        refine ⟨⟨h0, h1, h2⟩, Or.inr ?_, ?_⟩
        · show (A, m, c, 31 * g + lN (2 + A (L t)), sn_stk S L N pa nv' (k + 1)) = sn_meet S L N A m c g (L t, N t) w
          unfold sn_meet
          rw [if_neg (show ¬ ((L t, N t) : Nat × Int64).1 = 0 from e0), if_pos (show 0 < A ((L t, N t) : Nat × Int64).1 from hm), hw]
        · show sn_s (fun q => if A q ≠ 0 then 0 else sn_sz S q + 1) 601 + (sn_stk S L N pa nv' (k + 1)).length + (k + 1) < _
          rw [hw]; omega
      · rw [if_neg (show ¬ 0 < ((A, pa, nv', k + 1, m, c, g) : SnW).1 (L t) from hm)]
        have hA0 : A (L t) = 0 := by omega
        have hcnt : sn_s (fun q => if A q ≠ 0 then 1 else 0) 601 < 600 := sn_cnt_lt h0 hl0 (hL t) hA0
        have hgo : sn_goin (va_up A (L t) (m + 1), pa, nv', k + 1, m + 1, c + (sn_sz S (L t) + 2), 31 * (31 * g + 3) + lN (sn_sz S (L t))) (L t) = (va_up A (L t) (m + 1), va_up pa (k + 1) (L t), va_up nv' (k + 1) 0, k + 1 + 1, m + 1, c + (sn_sz S (L t) + 2), 31 * (31 * g + 3) + lN (sn_sz S (L t))) := if_pos (show k + 1 < 601 by omega)
        have hgo2 : sn_goin (va_up ((A, pa, nv', k + 1, m, c, g) : SnW).1 (L t) (((A, pa, nv', k + 1, m, c, g) : SnW).2.2.2.2.1 + 1), ((A, pa, nv', k + 1, m, c, g) : SnW).2.1, ((A, pa, nv', k + 1, m, c, g) : SnW).2.2.1, ((A, pa, nv', k + 1, m, c, g) : SnW).2.2.2.1, ((A, pa, nv', k + 1, m, c, g) : SnW).2.2.2.2.1 + 1, ((A, pa, nv', k + 1, m, c, g) : SnW).2.2.2.2.2.1 + (sn_sz S (L t) + 2), 31 * (31 * ((A, pa, nv', k + 1, m, c, g) : SnW).2.2.2.2.2.2 + 3) + lN (sn_sz S (L t))) (L t) = (va_up A (L t) (m + 1), va_up pa (k + 1) (L t), va_up nv' (k + 1) 0, k + 1 + 1, m + 1, c + (sn_sz S (L t) + 2), 31 * (31 * g + 3) + lN (sn_sz S (L t))) := hgo
        rw [hgo2]
        have hs2 : sn_stk S L N (va_up pa (k + 1) (L t)) (va_up nv' (k + 1) 0) (k + 1 + 1) = sn_vl L N (16 * L t) (sn_sz S (L t)) ++ w := by
          show sn_vl L N (16 * va_up pa (k + 1) (L t) (k + 1) + va_up nv' (k + 1) 0 (k + 1)) (sn_sz S (va_up pa (k + 1) (L t) (k + 1)) - va_up nv' (k + 1) 0 (k + 1)) ++ sn_stk S L N (va_up pa (k + 1) (L t)) (va_up nv' (k + 1) 0) (k + 1) = _
          rw [sn_stk_congr (pa := pa) (nv := nv') (fun j hj => ⟨va_up_ne _ _ (by omega), va_up_ne _ _ (by omega)⟩), hw, va_up_self, va_up_self, Nat.add_zero, Nat.sub_zero]
        refine ⟨⟨?_, ?_, ?_⟩, Or.inr ?_, ?_⟩
        · show va_up A (L t) (m + 1) 0 = 0
          rw [va_up_ne _ _ (by omega)]; exact h0
        · show k + 1 + 1 ≤ m + 1 + 1
          omega
        · show m + 1 = sn_s (fun q => if va_up A (L t) (m + 1) q ≠ 0 then 1 else 0) 601
          rw [sn_if_up (f := fun _ => 1) (by omega)]
          have a1 := sn_s_up (f := fun q => if A q ≠ 0 then 1 else 0) (k := L t) (v := 1) (n := 601) (by have := hL t; omega)
          have a2 : (fun q => if A q ≠ 0 then 1 else 0 : Nat → Nat) (L t) = 0 := if_neg (fun h9 => h9 hA0)
          rw [if_neg (show ¬ (A (L t) ≠ 0) from fun h9 => h9 hA0)] at a1
          omega
        · show (va_up A (L t) (m + 1), m + 1, c + (sn_sz S (L t) + 2), 31 * (31 * g + 3) + lN (sn_sz S (L t)), sn_stk S L N (va_up pa (k + 1) (L t)) (va_up nv' (k + 1) 0) (k + 1 + 1)) = sn_meet S L N A m c g (L t, N t) w
          rw [hs2]
          unfold sn_meet
          rw [if_neg (show ¬ ((L t, N t) : Nat × Int64).1 = 0 from e0), if_neg (show ¬ 0 < A ((L t, N t) : Nat × Int64).1 from hm)]
        · show sn_s (fun q => if va_up A (L t) (m + 1) q ≠ 0 then 0 else sn_sz S q + 1) 601 + (sn_stk S L N (va_up pa (k + 1) (L t)) (va_up nv' (k + 1) 0) (k + 1 + 1)).length + (k + 1 + 1) < _
          rw [hs2, List.length_append, sn_vl_len]
          have hf : (fun q => if va_up A (L t) (m + 1) q ≠ 0 then 0 else sn_sz S q + 1) = va_up (fun q => if A q ≠ 0 then 0 else sn_sz S q + 1) (L t) 0 := by
            funext q
            by_cases e : q = L t
            · rw [e, va_up_self, va_up_self, if_pos (by omega)]
            · rw [va_up_ne _ _ e, va_up_ne _ _ e]
          rw [hf]
          have a1 := sn_s_up (f := fun q => if A q ≠ 0 then 0 else sn_sz S q + 1) (k := L t) (v := 0) (n := 601) (by have := hL t; omega)
          have a2 : (fun q => if A q ≠ 0 then 0 else sn_sz S q + 1 : Nat → Nat) (L t) = sn_sz S (L t) + 1 := if_neg (fun h9 => h9 hA0)
          rw [if_neg (show ¬ (A (L t) ≠ 0) from fun h9 => h9 hA0)] at a1
          omega
  · have eg : sn_goon S L N (A, pa, nv, k + 1, m, c, g) = (A, pa, nv, k, m, c, g) := if_neg hi
    rw [eg]
    have hst : sn_stk S L N pa nv (k + 1) = sn_stk S L N pa nv k := by
      show sn_vl L N (16 * pa k + nv k) (sn_sz S (pa k) - nv k) ++ sn_stk S L N pa nv k = _
      rw [show sn_sz S (pa k) - nv k = 0 by omega]
      rfl
    refine ⟨⟨h0, by show k ≤ m + 1; omega, h2⟩, Or.inl ?_, ?_⟩
    · show (A, m, c, g, sn_stk S L N pa nv k) = (A, m, c, g, sn_stk S L N pa nv (k + 1))
      rw [hst]
    · show sn_s (fun q => if A q ≠ 0 then 0 else sn_sz S q + 1) 601 + (sn_stk S L N pa nv k).length + k < sn_s (fun q => if A q ≠ 0 then 0 else sn_sz S q + 1) 601 + (sn_stk S L N pa nv (k + 1)).length + (k + 1)
      rw [hst]; omega
theorem sn_wmu_d {S : Nat → Option Nat} {L : Nat → Nat} {N : Nat → Int64} (x : SnW) : x.2.2.2.1 ≤ sn_wmu S L N x := by
  unfold sn_wmu
  exact Nat.le_add_left _ _
theorem sn_wrun_ok {S : Nat → Option Nat} {L : Nat → Nat} {N : Nat → Int64} (hL : ∀ s, L s ≤ 600) (n : Nat) : ∀ {x : SnW}, sn_wi x → sn_wmu S L N x ≤ n → sn_wi (sn_wrun S L N n x) ∧ (sn_wrun S L N n x).2.2.2.1 = 0 ∧ ∃ k, sn_wabs S L N (sn_wrun S L N n x) = sn_drun S L N k (sn_wabs S L N x) := by
  induction n with
  | zero =>
    intro x h hm
    have hd : x.2.2.2.1 = 0 := by have := sn_wmu_d (S := S) (L := L) (N := N) x; omega
    exact ⟨h, hd, 0, rfl⟩
  | succ n ih =>
    intro x h hm
    by_cases hd : 0 < x.2.2.2.1
    · have e : sn_wrun S L N (n + 1) x = sn_wrun S L N n (sn_goon S L N x) := if_pos hd
      rw [e]
      obtain ⟨a1, a2, a3⟩ := sn_goon_ok (S := S) (N := N) hL h hd
      obtain ⟨b1, b2, k, b3⟩ := ih a1 (by omega)
      refine ⟨b1, b2, ?_⟩
      rcases a2 with a2 | a2
      · exact ⟨k, by rw [b3, a2]⟩
      · exact ⟨k + 1, by rw [b3, a2]; rfl⟩
    · have e : sn_wrun S L N (n + 1) x = x := if_neg hd
      rw [e]
      exact ⟨h, by omega, 0, rfl⟩
end
section
def sn_mloop (M : Nat) (S : Nat → Option Nat) (L : Nat → Nat) : Nat → SnM → SnM
  | 0, x => x
  | n + 1, x => if 0 < x.2.2 then sn_mloop M S L n (sn_mark1 M S L x) else x
theorem sn_mark1_fin {M : Nat} {S : Nat → Option Nat} {L : Nat → Nat} (hL : ∀ s, L s ≤ M) {x : SnM} (h : sn_wl M x) (hw : 0 < x.2.2) : (∀ q, sn_F S L (sn_mark1 M S L x).1 q ↔ sn_F S L x.1 q) ∧ sn_s (sn_nb (sn_mark1 M S L x).1) (M + 1) + 1 = sn_s (sn_nb x.1) (M + 1) := by
  obtain ⟨g, d1, d2, d3, d4, d5, d6, d7⟩ := sn_mark1_wl h hw (S := S) (L := L) hL
  refine ⟨sn_fin_pop (g := g) (by show x.1 g ≠ 0; rw [d1]; decide) (by show ¬ x.1 g = 2; rw [d1]; decide) d6 (fun k => (d5 k).trans ⟨fun h => h.imp id (fun h9 => ⟨d2, h9⟩), fun h => h.imp id (fun h9 => h9.2)⟩), ?_⟩
  have hf : sn_nb (sn_mark1 M S L x).1 = va_up (sn_nb x.1) g 0 := by
    funext q
    by_cases e : q = g
    · rw [e, va_up_self]; unfold sn_nb; rw [if_pos (Or.inr ((d6 g).mpr (Or.inr rfl)))]
    · rw [va_up_ne _ _ e]; unfold sn_nb
      by_cases e2 : q = 0 ∨ x.1 q = 2
      · rw [if_pos e2, if_pos (e2.imp id (fun h9 => (d6 q).mpr (Or.inl h9)))]
      · rw [if_neg e2, if_neg (fun h9 => e2 (h9.imp id (fun h8 => ((d6 q).mp h8).resolve_right e)))]
  have a1 := sn_s_up (f := sn_nb x.1) (k := g) (v := 0) (n := M + 1) (by omega)
  have a2 : sn_nb x.1 g = 1 := by unfold sn_nb; rw [if_neg (by rw [d1]; omega)]
  rw [hf]; omega
theorem sn_mloop_ok {M : Nat} {S : Nat → Option Nat} {L : Nat → Nat} (hL : ∀ s, L s ≤ M) : ∀ (n : Nat) {x : SnM}, sn_wl M x → (∀ q, x.1 q ≤ 2) → sn_s (sn_nb x.1) (M + 1) ≤ n →
    sn_wl M (sn_mloop M S L n x) ∧ (sn_mloop M S L n x).2.2 = 0 ∧ (∀ q, (sn_mloop M S L n x).1 q ≤ 2) ∧ ∀ q, sn_F S L (sn_mloop M S L n x).1 q ↔ sn_F S L x.1 q
  | 0, x, h, h2, hn => by
    refine ⟨h, Classical.byContradiction fun hw => ?_, h2, fun _ => Iff.rfl⟩
    have hw : 0 < x.2.2 := by have hw : ¬ x.2.2 = 0 := hw; omega
    have := (sn_mark1_fin (S := S) hL h hw).2
    omega
  | n + 1, x, h, h2, hn => by
    by_cases hw : 0 < x.2.2
    · have e : sn_mloop M S L (n + 1) x = sn_mloop M S L n (sn_mark1 M S L x) := if_pos hw
      rw [e]
      obtain ⟨a1, a2⟩ := sn_mark1_fin (S := S) hL h hw
      obtain ⟨g, -, -, -, d4, -, -, d7⟩ := sn_mark1_wl h hw (S := S) (L := L) hL
      obtain ⟨b1, b2, b3, b4⟩ := sn_mloop_ok (S := S) hL n d4 (d7 h2) (by omega)
      exact ⟨b1, b2, b3, fun q => (b4 q).trans (a1 q)⟩
    · have e : sn_mloop M S L (n + 1) x = x := if_neg hw
      rw [e]
      exact ⟨h, by omega, h2, fun _ => Iff.rfl⟩
theorem sn_wl_end {M : Nat} {S : Nat → Option Nat} {L : Nat → Nat} {x : SnM} (h : sn_wl M x) (h2 : ∀ q, x.1 q ≤ 2) (hw : x.2.2 = 0) (q : Nat) : (x.1 q = 0 ∨ x.1 q = 2) ∧ (x.1 q ≠ 0 ↔ sn_F S L x.1 q) ∧ (x.1 q = 2 ↔ sn_F S L x.1 q) := by
  have ng : ∀ q, x.1 q = 0 ∨ x.1 q = 2 := fun q => by
    have a := h2 q
    have b : x.1 q ≠ 1 := fun e => by
      obtain ⟨i, hi, -⟩ := h.2.2.2.1 q e
      omega
    omega
  have hF := sn_fin_end (NW := fun q => x.1 q ≠ 0) (BK := fun q => x.1 q = 2) (E := sn_E S L) (fun q hq => (ng q).resolve_left hq) q
  refine ⟨ng q, hF.symm, ⟨fun e => hF.mpr (by show x.1 q ≠ 0; rw [e]; decide), fun e => (ng q).resolve_left (hF.mp e)⟩⟩
theorem sn_nb_le (C : Nat → Nat) (M : Nat) : sn_s (sn_nb C) (M + 1) ≤ M := by
  have a1 := sn_s_up (f := fun _ => 1) (k := 0) (v := 0) (n := M + 1) (by omega)
  have a2 : sn_s (sn_nb C) (M + 1) ≤ sn_s (va_up (fun _ => 1) 0 0) (M + 1) := sn_s_le (fun k _ => by
    by_cases e0 : k = 0
    · rw [e0, va_up_self]; unfold sn_nb; rw [if_pos (Or.inl rfl)]; exact Nat.le_refl _
    · rw [va_up_ne _ 0 e0]; unfold sn_nb; split <;> omega)
  rw [sn_s_const] at a1
  have a5 : (fun _ => 1 : Nat → Nat) 0 = 1 := rfl
  try rw [a5] at a1
  omega
theorem sn_reachAll {M : Nat} {S : Nat → Option Nat} {L wt : Nat → Nat} (hL : ∀ s, L s ≤ M) {n : Nat} (hn : M ≤ n) : (sn_mloop M S L n (sn_shv M L 0 16 (fun _ => 0, wt, 0))).2.2 = 0 ∧ ∀ q, (sn_mloop M S L n (sn_shv M L 0 16 (fun _ => 0, wt, 0))).1 q ≠ 0 ↔ sn_R S L q := by
  obtain ⟨a1, a2, a3, a4⟩ := sn_shv_wl (sn_wl_white (M := M) (wt := wt) (fun _ => rfl)) (L := L) hL 0 16
  have hF : ∀ q, sn_F S L (sn_shv M L 0 16 (fun _ => 0, wt, 0)).1 q ↔ sn_R S L q := by
    refine sn_fin_start (fun q => ?_) (fun q h => ?_)
    · refine (a2 q).trans ⟨fun h => ?_, fun ⟨r, h1, h2, h3⟩ => Or.inr ⟨r, h1, by rw [Nat.zero_add]; exact h2, h3⟩⟩
      rcases h with h | ⟨r, h1, h2, h3⟩
      · exact absurd rfl h
      · exact ⟨r, h1, by rw [Nat.zero_add] at h2; exact h2, h3⟩
    · have h2 : (0 : Nat) = 2 := (a3 q).mp h
      omega
  have h2 : ∀ q, (sn_shv M L 0 16 (fun _ => 0, wt, 0)).1 q ≤ 2 := fun q => a4 q (Nat.zero_le _)
  have hb := sn_nb_le (sn_shv M L 0 16 (fun _ => 0, wt, 0)).1 M
  obtain ⟨b1, b2, b3, b4⟩ := sn_mloop_ok (S := S) hL n a1 h2 (by omega)
  exact ⟨b2, fun q => (sn_wl_end (S := S) (L := L) b1 b3 b2 q).2.1.trans ((b4 q).trans (hF q))⟩
def sn_occ (rl : Nat → Nat) (p : Nat) : Nat → Nat
  | 0 => 0
  | n + 1 => sn_occ rl p n + (if rl n = p then 1 else 0)
theorem sn_occ_none {rl : Nat → Nat} {p : Nat} : ∀ {n : Nat}, (∀ i, i < n → rl i ≠ p) → sn_occ rl p n = 0
  | 0, _ => rfl
  | n + 1, h => by
    show sn_occ rl p n + (if rl n = p then 1 else 0) = 0
    rw [sn_occ_none (fun i hi => h i (by omega)), if_neg (h n (by omega))]
theorem sn_occ_one {rl : Nat → Nat} {p : Nat} : ∀ {n : Nat}, (∀ i j, i < n → j < n → rl i = rl j → i = j) → (∃ i, i < n ∧ rl i = p) → sn_occ rl p n = 1
  | 0, _, ⟨i, hi, _⟩ => absurd hi (Nat.not_lt_zero _)
  | n + 1, h, ⟨i, hi, e⟩ => by
    show sn_occ rl p n + (if rl n = p then 1 else 0) = 1
    by_cases e2 : rl n = p
    · rw [if_pos e2, sn_occ_none (fun j hj e3 => by have := h j n (by omega) (by omega) (e3.trans e2.symm); omega)]
    · rw [if_neg e2, sn_occ_one (fun a b ha hb => h a b (by omega) (by omega)) ⟨i, by
        have : i ≠ n := fun e3 => e2 (by rw [← e3]; exact e)
        omega, e⟩]
theorem sn_holders {x : SnS} (h : sn_st x) {p : Nat} (hp : 0 < p) (ht : p ≤ sn_tp x) : (if sn_S x p = none then 0 else 1) + sn_occ (sn_rl x) p (sn_rc x) = 1 := by
  obtain ⟨h0, h1, h2, h3, h4, h5, h6, h7, h8, h9⟩ := h
  by_cases e : sn_S x p = none
  · rw [if_pos e, sn_occ_one h8 (h9 p hp ht e)]
  · rw [if_neg e, sn_occ_none (fun i hi e2 => e (by rw [← e2]; exact (h7 i hi).2.2))]
def sn_trial (x : SnG) : SnM := if x.2.2.1 = 1 then sn_mloop 600 (sn_S x.1) (sn_L x.1) 600 x.2.1 else x.2.1
theorem sn_marks {x : SnG} (h : sn_gc x) (p : Nat) : ((sn_S x.1 p = none ∨ ¬ (x.2.2.1 = 1 ∨ (x.2.2.1 = 2 ∧ x.2.2.2 ≤ p))) → sn_C x p = 0) ∧ ((x.2.2.1 = 1 ∨ (x.2.2.1 = 2 ∧ x.2.2.2 ≤ p)) → (sn_trial x).1 p ≠ 1 ∧ (sn_R (sn_S x.1) (sn_L x.1) p → (sn_trial x).1 p = 2)) := by
  obtain ⟨h1, h2, h3⟩ := h
  rcases h3 with ⟨a1, a2, a3⟩ | ⟨a1, a2, a3, a4, a5, a6⟩ | ⟨a1, a2, a3, a4, a5, a6, a7, a8⟩
  · exact ⟨fun _ => a2 p, fun h9 => by omega⟩
  · have et : sn_trial x = sn_mloop 600 (sn_S x.1) (sn_L x.1) 600 x.2.1 := if_pos a1
    obtain ⟨b1, b2, b3, b4⟩ := sn_mloop_ok (S := sn_S x.1) h1.2.2.2.1 600 a2 a3 (sn_nb_le _ 600)
    obtain ⟨c1, c2, c3⟩ := sn_wl_end (S := sn_S x.1) (L := sn_L x.1) b1 b3 b2 p
    refine ⟨fun h9 => ?_, fun _ => ?_⟩
    · rcases h9 with h9 | h9
      · exact Classical.byContradiction fun h8 => a5 p (sn_fin.nw h8) h9
      · exact absurd (Or.inl a1) h9
    · rw [et]
      exact ⟨by omega, fun hr => c3.mpr ((b4 p).mpr (a4 p hr))⟩
  · have et : sn_trial x = x.2.1 := if_neg (by omega)
    refine ⟨fun h9 => ?_, fun h9 => ?_⟩
    · rcases h9 with h9 | h9
      · exact (a5 p).resolve_right (fun h8 => a7 p h8 h9)
      · exact a6 p (by omega)
    · rw [et]
      refine ⟨?_, fun hr => a8 p hr (by omega)⟩
      rcases a5 p with e | e
      · show sn_C x p ≠ 1
        omega
      · show sn_C x p ≠ 1
        omega
end
section
theorem sn_sz_some {S : Nat → Option Nat} {q n : Nat} (h : S q = some n) : sn_sz S q = n := by unfold sn_sz; rw [h]; rfl
theorem sn_uc_ge {x : SnS} (h : sn_st x) {A : Nat → Nat} (hA : ∀ q, A q ≠ 0 → 0 < q ∧ sn_S x q ≠ none) : sn_s (fun q => if A q ≠ 0 then sn_sz (sn_S x) q + 2 else 0) 601 ≤ sn_uc x := by
  rw [h.2.2.2.2.1]
  refine sn_s_le (fun q _ => ?_)
  by_cases e : A q ≠ 0
  · obtain ⟨h0, hs⟩ := hA q e
    rw [if_pos e]
    cases hn : sn_S x q with
    | none => exact absurd hn hs
    | some n => rw [sn_cel_some h0 hn, sn_sz_some hn]; exact Nat.le_refl _
  · rw [if_neg e]; exact Nat.zero_le _
theorem sn_uc_eq {x : SnS} (h : sn_st x) {A : Nat → Nat} (hA : ∀ q, A q ≠ 0 ↔ (0 < q ∧ sn_S x q ≠ none)) : sn_s (fun q => if A q ≠ 0 then sn_sz (sn_S x) q + 2 else 0) 601 = sn_uc x := by
  rw [h.2.2.2.2.1]
  refine sn_s_congr (fun q _ => ?_)
  by_cases e : A q ≠ 0
  · obtain ⟨h0, hs⟩ := (hA q).mp e
    rw [if_pos e]
    cases hn : sn_S x q with
    | none => exact absurd hn hs
    | some n => rw [sn_cel_some h0 hn, sn_sz_some hn]
  · rw [if_neg e]
    by_cases h0 : q = 0
    · rw [h0]; rfl
    · have hn : sn_S x q = none := Classical.byContradiction fun hs => e ((hA q).mpr ⟨by omega, hs⟩)
      rw [sn_cel_none hn]
theorem sn_s_plus (f g : Nat → Nat) : ∀ n : Nat, sn_s (fun q => f q + g q) n = sn_s f n + sn_s g n
  | 0 => rfl
  | n + 1 => by rw [sn_s_succ, sn_s_succ, sn_s_succ, sn_s_plus f g n]; omega
theorem sn_tuples {x : SnS} (h : sn_st x) {A : Nat → Nat} (hA : ∀ q, A q ≠ 0 ↔ (0 < q ∧ sn_S x q ≠ none)) : sn_s (fun q => if A q ≠ 0 then 1 else 0) 601 + sn_rc x = sn_tp x := by
  have h6 := h.2.2.1
  have e1 : sn_s (fun q => if A q ≠ 0 then 1 else 0) 601 = sn_s (fun q => if A q ≠ 0 then 1 else 0) (sn_tp x + 1) := sn_s_tail (by omega) (fun q h1 _ => if_neg (fun e => by
    obtain ⟨h0, hs⟩ := (hA q).mp e
    cases hn : sn_S x q with
    | none => exact hs hn
    | some n => have := (h.2.1 q n hn).2; omega))
  have e2 := h.2.2.2.2.2.2.1
  have e3 := sn_s_plus (fun q => if A q ≠ 0 then 1 else 0) (sn_fre (sn_S x)) (sn_tp x + 1)
  have e4 : sn_s (fun q => (if A q ≠ 0 then 1 else 0) + sn_fre (sn_S x) q) (sn_tp x + 1) = sn_s (va_up (fun _ => 1) 0 0) (sn_tp x + 1) := sn_s_congr (fun q _ => by
    by_cases h0 : q = 0
    · rw [h0, va_up_self, if_neg (fun e => by have := ((hA 0).mp e).1; omega), sn_fre_some h.1]
    · rw [va_up_ne _ _ h0]
      cases hn : sn_S x q with
      | none => rw [if_neg (fun e => ((hA q).mp e).2 hn), sn_fre_none (by omega) hn]
      | some n => rw [if_pos ((hA q).mpr ⟨by omega, by rw [hn]; exact fun h9 => by cases h9⟩), sn_fre_some hn])
  have a1 := sn_s_up (f := fun _ => 1) (k := 0) (v := 0) (n := sn_tp x + 1) (by omega)
  rw [sn_s_const] at a1
  have a5 : (fun _ => 1 : Nat → Nat) 0 = 1 := rfl
  try rw [a5] at a1
  omega
theorem sn_R_lt {x : SnG} (h : sn_gc x) {q : Nat} (hq : sn_R (sn_S x.1) (sn_L x.1) q) : q < 601 := by
  have hs := h.2.1 q hq
  cases hn : sn_S x.1 q with
  | none => exact absurd hn hs
  | some n => have := (h.1.2.1 q n hn).2; have := h.1.2.2.1; omega
theorem sn_full {x : SnG} (h : sn_gc x) {A : Nat → Nat} (hA : ∀ q, A q ≠ 0 ↔ sn_R (sn_S x.1) (sn_L x.1) q) {n : Nat} :
    (sn_uc x.1 + n + 2 ≤ 1200 → sn_s (fun q => if A q ≠ 0 then sn_sz (sn_S x.1) q + 2 else 0) 601 + n + 2 ≤ 1200) ∧
    (sn_uc (sn_whole x).1 = sn_s (fun q => if A q ≠ 0 then sn_sz (sn_S x.1) q + 2 else 0) 601) := by
  constructor
  · intro hr
    have := sn_uc_ge h.1 (A := A) (fun q hq => ⟨sn_R.pos ((hA q).mp hq), h.2.1 q ((hA q).mp hq)⟩)
    omega
  · obtain ⟨b1, b2, b3, b4⟩ := sn_whole_ok h
    have e := sn_uc_eq b1.1 (A := A) (fun q => ⟨fun hq => ⟨sn_R.pos ((hA q).mp hq), (b4 q (sn_R.pos ((hA q).mp hq))).mpr ((hA q).mp hq)⟩, fun ⟨h0, hs⟩ => (hA q).mpr ((b4 q h0).mp hs)⟩)
    rw [← e]
    refine sn_s_congr (fun q _ => ?_)
    by_cases hq : A q ≠ 0
    · rw [if_pos hq, if_pos hq]
      unfold sn_sz
      rw [b2.size ((hA q).mp hq)]
    · rw [if_neg hq, if_neg hq]
theorem sn_collect {x : SnG} (h : sn_gc x) {A : Nat → Nat} (hA : ∀ q, A q ≠ 0 ↔ sn_R (sn_S x.1) (sn_L x.1) q) : sn_s (fun q => if A q ≠ 0 then 1 else 0) 601 + sn_rc (sn_whole x).1 = sn_tp (sn_whole x).1 := by
  obtain ⟨b1, b2, b3, b4⟩ := sn_whole_ok h
  exact sn_tuples b1.1 (fun q => ⟨fun hq => ⟨sn_R.pos ((hA q).mp hq), (b4 q (sn_R.pos ((hA q).mp hq))).mpr ((hA q).mp hq)⟩, fun ⟨h0, hs⟩ => (hA q).mpr ((b4 q h0).mp hs)⟩)
end
section
abbrev kt (K : Nat → ClassId) : List (ClassId × FieldType) := [(K 0, .int), (K 1, .long), (K 2, .boolean)]
def zb (b : Bool) : Int32 := if b = true then 1 else 0
theorem zb_f {P : Prop} [i : Decidable P] (h : zb (decide P) = 0) : ¬ P := fun hp => by
  rw [zb, if_pos (decide_eq_true hp)] at h
  exact absurd h (by decide)
theorem zb_t {P : Prop} [i : Decidable P] (h : ¬ zb (decide P) = 0) : P := Classical.byContradiction fun hp => h (by
  rw [zb, if_neg (by rw [decide_eq_false hp]; decide)])
theorem zb_yes {P : Prop} [i : Decidable P] (h : P) : (1 : Int32) = zb (decide P) := by rw [zb, if_pos (decide_eq_true h)]
theorem zb_no {P : Prop} [i : Decidable P] (h : ¬ P) : (0 : Int32) = zb (decide P) := by rw [zb, if_neg (by rw [decide_eq_false h]; decide)]
theorem zb_nar (b : Bool) : narrow .boolean (.int (zb b)) = .int (zb b) := by cases b <;> rfl
theorem zb_iff {P Q : Prop} [i : Decidable P] [j : Decidable Q] (h : P ↔ Q) : zb (decide P) = zb (decide Q) := by
  by_cases hp : P
  · rw [← zb_yes hp, ← zb_yes (h.mp hp)]
  · rw [← zb_no hp, ← zb_no (fun hq => hp (h.mpr hq))]
def sn_i (x : Option Nat) : Int32 := match x with
  | none => -1
  | some n => nI n
def sn_A (ws : va_W) : Nat → Prop := fun q => ∃ (k : Nat) (e : va_E), ws[k]? = some (q, e)
def sn_sets : va_W → List Nat → va_W → va_W
  | ws, i :: is, c :: cs => sn_sets (ws.set i c) is cs
  | ws, _, _ => ws
theorem sn_pick {ws wc : va_W} {is : List Nat} (hC : is.map (fun i => ws[i]?) = wc.map some) {k : Nat} {q : Nat × va_E} (hk : wc[k]? = some q) : ∃ i, is[k]? = some i ∧ ws[i]? = some q := by
  have h1 : (is.map (fun i => ws[i]?))[k]? = some (some q) := by rw [hC, List.getElem?_map, hk]; rfl
  rw [List.getElem?_map] at h1
  cases hi : is[k]? with
  | none => rw [hi] at h1; cases h1
  | some i => rw [hi] at h1; exact ⟨i, rfl, Option.some.inj h1⟩
theorem sn_pick2 {ws wc : va_W} {is : List Nat} (hC : is.map (fun i => ws[i]?) = wc.map some) {k i : Nat} (hk : is[k]? = some i) : ∃ q, wc[k]? = some q ∧ ws[i]? = some q := by
  have h1 : (wc.map some)[k]? = some (ws[i]?) := by rw [← hC, List.getElem?_map, hk]; rfl
  rw [List.getElem?_map] at h1
  cases hq : wc[k]? with
  | none => rw [hq] at h1; cases h1
  | some q => rw [hq] at h1; exact ⟨q, rfl, (Option.some.inj h1).symm⟩
theorem sn_Psub {D : va_G} {cl : List vw_C} {ws wc : va_W} {H : Heap} (h : va_P D cl ws H) {is : List Nat} (hC : is.map (fun i => ws[i]?) = wc.map some) : va_P D cl wc H := fun k q hk => by
  obtain ⟨i, -, h2⟩ := sn_pick hC hk
  exact h i q h2
theorem sn_sets_at : ∀ (is : List Nat) (cs ws : va_W) (k : Nat) (q : Nat × va_E), is.length = cs.length → (sn_sets ws is cs)[k]? = some q → (∃ j : Nat, is[j]? = some k ∧ cs[j]? = some q) ∨ (k ∉ is ∧ ws[k]? = some q)
  | [], [], ws, k, q, _, h => Or.inr ⟨List.not_mem_nil, h⟩
  | [], _ :: _, _, _, _, hl, _ => by cases hl
  | _ :: _, [], _, _, _, hl, _ => by cases hl
  | i :: is, c :: cs, ws, k, q, hl, h => by
    have h : (sn_sets (ws.set i c) is cs)[k]? = some q := h
    rcases sn_sets_at is cs (ws.set i c) k q (Nat.succ.inj hl) h with ⟨j, h1, h2⟩ | ⟨h1, h2⟩
    · exact Or.inl ⟨j + 1, h1, h2⟩
    · by_cases e : i = k
      · subst e
        have hlt : i < (ws.set i c).length := (List.getElem?_eq_some_iff.mp h2).1
        rw [List.length_set] at hlt
        rw [List.getElem?_set_self hlt] at h2
        exact Or.inl ⟨0, rfl, h2⟩
      · rw [List.getElem?_set_ne e] at h2
        refine Or.inr ⟨fun hm => ?_, h2⟩
        rcases List.mem_cons.mp hm with h9 | h9
        · exact e h9.symm
        · exact h1 h9
theorem sn_join {A0 : Nat → Prop} {D : va_G} {cl : List vw_C} {ws wc w1 : va_W} {H H1 : Heap} (hP : va_P D cl ws H) (hD : va_D A0 ws) (is : List Nat) (hC : is.map (fun i => ws[i]?) = wc.map some) (hadr : w1.map (fun q => q.1) = wc.map (fun q => q.1))
    (hk : ∀ q : Nat, q < H.size → ¬ sn_A wc q → H1[q]? = H[q]?) (hP1 : va_P D cl w1 H1) : va_P D cl (sn_sets ws is w1) H1 ∧ va_D A0 (sn_sets ws is w1) := by
  have hl : is.length = w1.length := by
    have h1 := congrArg List.length hC
    have h2 := congrArg List.length hadr
    simp only [List.length_map] at h1 h2
    omega
  have adr : ∀ (k : Nat) (q : Nat × va_E), (sn_sets ws is w1)[k]? = some q → ∃ q', ws[k]? = some q' ∧ q'.1 = q.1 := by
    intro k q h
    rcases sn_sets_at is w1 ws k q hl h with ⟨j, h1, h2⟩ | ⟨-, h2⟩
    · obtain ⟨q', h3, h4⟩ := sn_pick2 hC h1
      have h5 : (w1.map (fun q => q.1))[j]? = (wc.map (fun q => q.1))[j]? := by rw [hadr]
      rw [List.getElem?_map, List.getElem?_map, h2, h3] at h5
      exact ⟨q', h4, (Option.some.inj h5).symm⟩
    · exact ⟨q, h2, rfl⟩
  refine ⟨fun k q h => ?_, fun i j x y hi hj hxy => ?_, fun k q h => ?_⟩
  · rcases sn_sets_at is w1 ws k q hl h with ⟨j, -, h2⟩ | ⟨h1, h2⟩
    · exact hP1 j q h2
    · refine (hP k q h2).kept (hk q.1 (hP k q h2).lt (fun ha => ?_))
      obtain ⟨j, e, h3⟩ := ha
      obtain ⟨i, h4, h5⟩ := sn_pick hC h3
      have hik := hD.1 k i q (q.1, e) h2 h5 rfl
      subst hik
      exact h1 (List.mem_of_getElem? h4)
  · obtain ⟨x', h1, h2⟩ := adr i x hi
    obtain ⟨y', h3, h4⟩ := adr j y hj
    exact hD.1 i j x' y' h1 h3 (by rw [h2, h4]; exact hxy)
  · obtain ⟨q', h1, h2⟩ := adr k q h
    rw [← h2]
    exact hD.2 k q' h1
theorem sn_free {A0 : Nat → Prop} {ws wc : va_W} (hD : va_D A0 ws) {is : List Nat} (hC : is.map (fun i => ws[i]?) = wc.map some) (q : Nat) (h : sn_A wc q) : A0 q := by
  obtain ⟨k, e, h⟩ := h
  obtain ⟨i, -, h2⟩ := sn_pick hC h
  exact hD.2 i (q, e) h2
theorem sn_DA {A : Nat → Prop} {ws : va_W} (h : va_D A ws) : va_D (sn_A ws) ws := ⟨h.1, fun k q hk => ⟨k, q.2, hk⟩⟩
def sn_B (D : va_G) (K : Nat → ClassId) (ws : va_W) (U : State) : Prop := va_P D classes ws U.heap ∧ va_K D classes (kt K) U ∧ sn_N U
def sn_BW (D : va_G) (K : Nat → ClassId) (ws : va_W) (U : State) : Prop := sn_B D K ws U ∧ va_D (fun _ => True) ws
def sn_Ph (ad : Nat → Nat) (A : Nat → Prop) (U : State) (H : Heap) : Prop := va_En "SnapshotHeap$Phase" "LSnapshotHeap$Phase;" ["REST", "MARKING", "SWEEPING"] [] ad A U H
def sn_BE (D : va_G) (K : Nat → ClassId) (ad : Nat → Nat) (ws : va_W) (U : State) : Prop := sn_BW D K ws U ∧ sn_Ph ad (sn_A ws) U U.heap
theorem sn_B_blind {D : va_G} {K : Nat → ClassId} {ws : va_W} {av : List Value} : FrameBlind (va_Pc av (sn_B D K ws)) := fun a U g mk q => ⟨q.1, q.2.1, va_K.moved (u := U) (U := U.calling g mk a) (Vm.Alike.refl U.vm) q.2.2.1, sn_N.call q.2.2.2⟩
theorem sn_BW_blind {D : va_G} {K : Nat → ClassId} {ws : va_W} {av : List Value} : FrameBlind (va_Pc av (sn_BW D K ws)) := fun a U g mk q => ⟨q.1, (sn_B_blind a U g mk ⟨q.1, q.2.1⟩).2, q.2.2⟩
theorem sn_BE_blind {D : va_G} {K : Nat → ClassId} {ad : Nat → Nat} {ws : va_W} {av : List Value} : FrameBlind (va_Pc av (sn_BE D K ad ws)) := fun a U g mk q => ⟨q.1, (sn_BW_blind a U g mk ⟨q.1, q.2.1⟩).2, va_En.moved (u := U) (U := U.calling g mk a) (Vm.Alike.refl U.vm) q.2.2⟩
section SNP
variable {s : State} {H : Heap} {D : va_G} {K : Nat → ClassId} {ws wc : va_W} {A : Nat → Prop}
theorem sn_preB (hK : va_K D classes (kt K) s) (hN : sn_N s) (hP : va_P D classes ws H) (is : List Nat) (hC : is.map (fun i => ws[i]?) = wc.map some) {U : State} (hU : U.heap = H) (hW : s.WarmedH U.vm) : sn_B D K wc U :=
  ⟨by rw [hU]; exact sn_Psub hP hC, va_K.moved hW.alike hK, hN.moved hW⟩
theorem sn_preV {b : Nat} {As : List Value} {ci : Nat} {fs : List Value} {C : String} {T : u_T} {N : Nat} (hK : va_K D classes (kt K) s) (hN : sn_N s) (hP : va_P D classes ws H) (q0 : Nat) (he : ws[q0]? = some (b, .inr (ci, fs))) (hc : classes[ci]? = some (C, T, N)) (is : List Nat) (hC : is.map (fun i => ws[i]?) = wc.map some) :
    PreV s H C b (va_Pc (.ref b :: As) (sn_B D K wc)) As := ⟨sn_B_blind, va_recv hK hP hc he, fun _ hU hW => ⟨rfl, sn_preB hK hN hP is hC hU hW⟩⟩
theorem sn_preS {As : List Value} (hK : va_K D classes (kt K) s) (hN : sn_N s) (hP : va_P D classes ws H) (is : List Nat) (hC : is.map (fun i => ws[i]?) = wc.map some) :
    PreS s H (va_Pc As (sn_B D K wc)) As := ⟨sn_B_blind, fun _ hU hW => ⟨rfl, sn_preB hK hN hP is hC hU hW⟩⟩
theorem sn_preVW {b : Nat} {As : List Value} {ci : Nat} {fs : List Value} {C : String} {T : u_T} {N : Nat} (hK : va_K D classes (kt K) s) (hN : sn_N s) (hP : va_P D classes ws H) (hD : va_D A ws) (q0 : Nat) (he : ws[q0]? = some (b, .inr (ci, fs))) (hc : classes[ci]? = some (C, T, N)) (is : List Nat) (hn : va_nd is = true) (hC : is.map (fun i => ws[i]?) = wc.map some) :
    PreV s H C b (va_Pc (.ref b :: As) (sn_BW D K wc)) As := ⟨sn_BW_blind, va_recv hK hP hc he, fun _ hU hW => ⟨rfl, sn_preB hK hN hP is hC hU hW, (hD.sub is hn hC).weaken (fun _ _ _ _ => trivial)⟩⟩
theorem sn_preSW {As : List Value} (hK : va_K D classes (kt K) s) (hN : sn_N s) (hP : va_P D classes ws H) (hD : va_D A ws) (is : List Nat) (hn : va_nd is = true) (hC : is.map (fun i => ws[i]?) = wc.map some) :
    PreS s H (va_Pc As (sn_BW D K wc)) As := ⟨sn_BW_blind, fun _ hU hW => ⟨rfl, sn_preB hK hN hP is hC hU hW, (hD.sub is hn hC).weaken (fun _ _ _ _ => trivial)⟩⟩
theorem sn_Ph.here {ad : Nat → Nat} {locs : List Loc} (hE : sn_Ph ad A s s.heap) (hS : va_S A s.heap H locs) (hD : va_D A ws) (is : List Nat) (hC : is.map (fun i => ws[i]?) = wc.map some) {U : State} (hU : U.heap = H) (hW : s.WarmedH U.vm) : sn_Ph ad (sn_A wc) U U.heap := by
  rw [hU]
  exact va_En.moved hW.alike (va_En.narrow (va_En.kept hE hS.2.1) (sn_free hD hC))
theorem sn_preVE {b : Nat} {As : List Value} {ci : Nat} {fs : List Value} {C : String} {T : u_T} {N : Nat} {ad : Nat → Nat} {locs : List Loc} (hK : va_K D classes (kt K) s) (hN : sn_N s) (hP : va_P D classes ws H) (hD : va_D A ws) (hE : sn_Ph ad A s s.heap) (hS : va_S A s.heap H locs) (q0 : Nat) (he : ws[q0]? = some (b, .inr (ci, fs))) (hc : classes[ci]? = some (C, T, N)) (is : List Nat) (hn : va_nd is = true) (hC : is.map (fun i => ws[i]?) = wc.map some) :
    PreV s H C b (va_Pc (.ref b :: As) (sn_BE D K ad wc)) As := ⟨sn_BE_blind, va_recv hK hP hc he, fun _ hU hW => ⟨rfl, ⟨sn_preB hK hN hP is hC hU hW, (hD.sub is hn hC).weaken (fun _ _ _ _ => trivial)⟩, hE.here hS hD is hC hU hW⟩⟩
end SNP
def sn_QR (v : Option Value) : Array Value → State → Outcome → State → Prop := fun _ st o t => o = .returned v ∧ t.heap = st.heap
def sn_Q (D : va_G) (wc w1 : va_W) (v : Option Value) : Array Value → State → Outcome → State → Prop := fun _ st o t => o = .returned v ∧ va_P D classes w1 t.heap ∧ va_F (sn_A wc) st t
section SNR
variable {p : Program} {l : Launch} {e : Env} {R : Room} {s : State} {m : MethodId} {args : Array Value} {below : List Frame} {meth : Method} {c : Code} {H : Heap} {locs : List Loc} {cells slots : Nat} {Q : State → Prop}
variable {cc : ByteArray} {pc : Nat} {ls : Array Slot} {rest st0 : List Value} {a : Array Value} {D : va_G} {K : Nat → ClassId} {ws wc w1 : va_W} {A : Nat → Prop} {H0 : Heap}
theorem sn_topi {x y : Int32} (h : x = y) (k : W p l e R s m args below meth c H locs cells slots Q (F0 m pc ls (.int y :: rest))) : W p l e R s m args below meth c H locs cells slots Q (F0 m pc ls (.int x :: rest)) := by subst h; exact k
theorem sn_topl {x y : Int64} (h : x = y) (k : W p l e R s m args below meth c H locs cells slots Q (F0 m pc ls (.long y :: rest))) : W p l e R s m args below meth c H locs cells slots Q (F0 m pc ls (.long x :: rest)) := by subst h; exact k
theorem sn_rd {v : Option Value} {st1 : List Value} (hr : va_Run p l e R s m args below meth c H locs cells slots 0 0 (F0 m pc ls st0) rest (sn_QR v a) (fun _ => False)) (h1 : v.toList ++ rest = st1)
    (kk : W p l e R s m args below meth c H locs cells slots Q (F0 m (pc + 3) ls st1)) : W p l e R s m args below meth c H locs cells slots Q (F0 m pc ls st0) := by
  subst h1
  intro T hT X
  obtain ⟨v', st₀, t, T', L, h0, X', hL, e1, -, ⟨hv, hh⟩, st⟩ := hr T hT X
  cases hv
  obtain ⟨t2, a1, b1⟩ := kk T' (by rw [e1, hh, h0]) (Stand.forget X' (fun q h => (hL q h).elim))
  exact ⟨t2, st t2 a1, b1⟩
theorem sn_wrt {v : Option Value} {st1 : List Value} (hr : va_Run p l e R s m args below meth c H locs cells slots 0 0 (F0 m pc ls st0) rest (sn_Q D wc w1 v a) (sn_A wc)) (h1 : v.toList ++ rest = st1) (hP : va_P D classes ws H) (hD : va_D A ws) (hS : va_S A H0 H locs)
    (is : List Nat) (hC : is.map (fun i => ws[i]?) = wc.map some) (hadr : w1.map (fun q => q.1) = wc.map (fun q => q.1))
    (kk : ∀ (H1 : Heap) (locs1 : List Loc), va_P D classes (sn_sets ws is w1) H1 → va_D A (sn_sets ws is w1) → va_S A H0 H1 locs1 → W p l e R s m args below meth c H1 locs1 cells slots Q (F0 m (pc + 3) ls st1)) : W p l e R s m args below meth c H locs cells slots Q (F0 m pc ls st0) := by
  subst h1
  intro T hT X
  obtain ⟨v', st₀, t, T', L, h0, X', hL, e1, -, ⟨hv, hp1, hz, hk⟩, st⟩ := hr T hT X
  cases hv
  rw [h0] at hz hk
  rw [← e1] at hp1 hz hk
  obtain ⟨j1, j2⟩ := sn_join hP hD is hC hadr hk hp1
  have hf := sn_free hD hC
  obtain ⟨t2, a1, b1⟩ := kk T'.heap (locs ++ L) j1 j2 ⟨Nat.le_trans hS.1 hz, fun q h1 h2 => by rw [hk q (Nat.lt_of_lt_of_le h1 hS.1) (fun z => h2 (hf q z))]; exact hS.2.1 q h1 h2, fun q hq => by
      rcases List.mem_append.mp hq with h | h
      · exact hS.2.2 q h
      · exact hf _ (hL q h)⟩ T' rfl X'
  exact ⟨t2, st t2 a1, b1⟩
theorem sn_upd {α : Type} (g : α → Int32) (f : Nat → α) (k : Nat) (v : α) : upd (fun j => g (f j)) k (g v) = fun j => g (va_up f k v j) := by
  funext j
  unfold upd va_up
  by_cases h : j = k
  · rw [if_pos h, if_pos h]
  · rw [if_neg h, if_neg h]
theorem sn_updL (f : Nat → Int64) (k : Nat) (v : Int64) : vp_updL f k v = va_up f k v := rfl
theorem sn_iald {α : Type} (g : α → Int32) (f : Nat → α) (k : Nat) {n a : Nat} (hexec : p.tables.exec = Jvm.exec) (hb : c.code = cc) (hK : va_K D classes (kt K) s) (hP : va_P D classes ws H) (q0 : Nat) (ha : ws[q0]? = some (a, .inl (K 0, n, .inl (fun j => g (f j))))) (hk : k < n) (hn : n < 2 ^ 31) (hdg : decode cc pc = .ok (.iaload, 1))
    (kk : W p l e R s m args below meth c H locs cells slots Q (F0 m (pc + 1) ls (.int (g (f k)) :: rest))) : W p l e R s m args below meth c H locs cells slots Q (F0 m pc ls (.int (nI k) :: .ref a :: rest)) := by
  refine va_iald hexec hb hK hP q0 0 ha rfl (vp_in_nI hk hn) hdg ?_
  rw [nI_clamp (by omega)]
  exact kk
theorem sn_zald (f : Nat → Bool) (k : Nat) {n a : Nat} (hexec : p.tables.exec = Jvm.exec) (hb : c.code = cc) (hK : va_K D classes (kt K) s) (hP : va_P D classes ws H) (q0 : Nat) (ha : ws[q0]? = some (a, .inl (K 2, n, .inl (fun j => zb (f j))))) (hk : k < n) (hn : n < 2 ^ 31) (hdg : decode cc pc = .ok (.baload, 1))
    (kk : W p l e R s m args below meth c H locs cells slots Q (F0 m (pc + 1) ls (.int (zb (f k)) :: rest))) : W p l e R s m args below meth c H locs cells slots Q (F0 m pc ls (.int (nI k) :: .ref a :: rest)) := by
  refine va_zald hexec hb hK hP q0 2 ha rfl (vp_in_nI hk hn) hdg ?_
  rw [nI_clamp (by omega)]
  exact kk
theorem sn_lald (f : Nat → Int64) (k : Nat) {n a : Nat} (hexec : p.tables.exec = Jvm.exec) (hb : c.code = cc) (hK : va_K D classes (kt K) s) (hP : va_P D classes ws H) (q0 : Nat) (ha : ws[q0]? = some (a, .inl (K 1, n, .inr (.inl f)))) (hk : k < n) (hn : n < 2 ^ 31) (hdg : decode cc pc = .ok (.laload, 1))
    (kk : W p l e R s m args below meth c H locs cells slots Q (F0 m (pc + 1) ls (.long (f k) :: rest))) : W p l e R s m args below meth c H locs cells slots Q (F0 m pc ls (.int (nI k) :: .ref a :: rest)) := by
  refine va_lald hexec hb hK hP q0 1 ha rfl (vp_in_nI hk hn) hdg ?_
  rw [nI_clamp (by omega)]
  exact kk
theorem sn_iast {α : Type} (g : α → Int32) (f : Nat → α) (k : Nat) (v : α) {n a : Nat} (hexec : p.tables.exec = Jvm.exec) (hb : c.code = cc) (hK : va_K D classes (kt K) s) (hP : va_P D classes ws H) (hD : va_D A ws) (hS : va_S A H0 H locs) (q0 : Nat) (ha : ws[q0]? = some (a, .inl (K 0, n, .inl (fun j => g (f j))))) (hk : k < n) (hn : n < 2 ^ 31) (hdg : decode cc pc = .ok (.iastore, 1))
    (kk : ∀ (H1 : Heap) (locs1 : List Loc), va_P D classes (ws.set q0 (a, .inl (K 0, n, .inl (fun j => g (va_up f k v j))))) H1 → va_D A (ws.set q0 (a, .inl (K 0, n, .inl (fun j => g (va_up f k v j))))) → va_S A H0 H1 locs1 → W p l e R s m args below meth c H1 locs1 cells slots Q (F0 m (pc + 1) ls rest)) : W p l e R s m args below meth c H locs cells slots Q (F0 m pc ls (.int (g v) :: .int (nI k) :: .ref a :: rest)) := by
  refine va_iast hexec hb hK hP hD hS q0 0 ha rfl (vp_in_nI hk hn) hdg fun H1 locs1 h1 h2 h3 => ?_
  rw [nI_clamp (by omega), sn_upd g f k v] at h1 h2
  exact kk H1 locs1 h1 h2 h3
theorem sn_zast (f : Nat → Bool) (k : Nat) (v : Bool) {n a : Nat} (hexec : p.tables.exec = Jvm.exec) (hb : c.code = cc) (hK : va_K D classes (kt K) s) (hP : va_P D classes ws H) (hD : va_D A ws) (hS : va_S A H0 H locs) (q0 : Nat) (ha : ws[q0]? = some (a, .inl (K 2, n, .inl (fun j => zb (f j))))) (hk : k < n) (hn : n < 2 ^ 31) (hdg : decode cc pc = .ok (.bastore, 1))
    (kk : ∀ (H1 : Heap) (locs1 : List Loc), va_P D classes (ws.set q0 (a, .inl (K 2, n, .inl (fun j => zb (va_up f k v j))))) H1 → va_D A (ws.set q0 (a, .inl (K 2, n, .inl (fun j => zb (va_up f k v j))))) → va_S A H0 H1 locs1 → W p l e R s m args below meth c H1 locs1 cells slots Q (F0 m (pc + 1) ls rest)) : W p l e R s m args below meth c H locs cells slots Q (F0 m pc ls (.int (zb v) :: .int (nI k) :: .ref a :: rest)) := by
  refine va_zast hexec hb hK hP hD hS q0 2 ha rfl (vp_in_nI hk hn) hdg fun H1 locs1 h1 h2 h3 => ?_
  have e : vp_nar .boolean (zb v) = zb v := by cases v <;> rfl
  rw [nI_clamp (by omega), e, sn_upd zb f k v] at h1 h2
  exact kk H1 locs1 h1 h2 h3
theorem sn_last (f : Nat → Int64) (k : Nat) (v : Int64) {n a : Nat} (hexec : p.tables.exec = Jvm.exec) (hb : c.code = cc) (hK : va_K D classes (kt K) s) (hP : va_P D classes ws H) (hD : va_D A ws) (hS : va_S A H0 H locs) (q0 : Nat) (ha : ws[q0]? = some (a, .inl (K 1, n, .inr (.inl f)))) (hk : k < n) (hn : n < 2 ^ 31) (hdg : decode cc pc = .ok (.lastore, 1))
    (kk : ∀ (H1 : Heap) (locs1 : List Loc), va_P D classes (ws.set q0 (a, .inl (K 1, n, .inr (.inl (va_up f k v))))) H1 → va_D A (ws.set q0 (a, .inl (K 1, n, .inr (.inl (va_up f k v))))) → va_S A H0 H1 locs1 → W p l e R s m args below meth c H1 locs1 cells slots Q (F0 m (pc + 1) ls rest)) : W p l e R s m args below meth c H locs cells slots Q (F0 m pc ls (.long v :: .int (nI k) :: .ref a :: rest)) := by
  refine va_last hexec hb hK hP hD hS q0 1 ha rfl (vp_in_nI hk hn) hdg fun H1 locs1 h1 h2 h3 => ?_
  rw [nI_clamp (by omega), sn_updL f k v] at h1 h2
  exact kk H1 locs1 h1 h2 h3
theorem sx_ri {x v : Int32} (hQ : MQ below (sn_QR (some (.int v))) args s 0 0 (fun _ => False) = Q) (hexec : p.tables.exec = Jvm.exec) (hb : c.code = cc) (hr : meth.sig.returnType = some .int) (hlk : meth.locks = false) (hv : x = v) (hdg : decode cc pc = .ok (.ireturn, 1)) : W p l e R s m args below meth c s.heap [] 0 0 Q (F0 m pc ls [.int x]) := by
  subst hQ
  subst hv
  exact W.iret hexec hb hr (fun t ht _ => ⟨rfl, ht⟩) (fun q h => absurd h List.not_mem_nil) hdg hlk
theorem sx_rz {x : Int32} {v : Bool} (hQ : MQ below (sn_QR (some (.int (zb v)))) args s 0 0 (fun _ => False) = Q) (hexec : p.tables.exec = Jvm.exec) (hb : c.code = cc) (hr : meth.sig.returnType = some .boolean) (hlk : meth.locks = false) (hv : x = zb v) (hdg : decode cc pc = .ok (.ireturn, 1)) : W p l e R s m args below meth c s.heap [] 0 0 Q (F0 m pc ls [.int x]) := by
  subst hQ
  subst hv
  exact W.zret hexec hb hr (zb_nar v) (fun t ht _ => ⟨rfl, ht⟩) (fun q h => absurd h List.not_mem_nil) hdg hlk
theorem sx_rl {x v : Int64} (hQ : MQ below (sn_QR (some (.long v))) args s 0 0 (fun _ => False) = Q) (hexec : p.tables.exec = Jvm.exec) (hb : c.code = cc) (hr : meth.sig.returnType = some .long) (hlk : meth.locks = false) (hv : x = v) (hdg : decode cc pc = .ok (.lreturn, 1)) : W p l e R s m args below meth c s.heap [] 0 0 Q (F0 m pc ls [.long x]) := by
  subst hQ
  subst hv
  exact W.lret hexec hb hr (fun t ht _ => ⟨rfl, ht⟩) (fun q h => absurd h List.not_mem_nil) hdg hlk
theorem sx_ra {x : Nat} {C : String} (hQ : MQ below (sn_QR (some (.ref x))) args s 0 0 (fun _ => False) = Q) (hexec : p.tables.exec = Jvm.exec) (hb : c.code = cc) (hr : meth.sig.returnType = some (.object C)) (hlk : meth.locks = false) (hdg : decode cc pc = .ok (.areturn, 1)) : W p l e R s m args below meth c s.heap [] 0 0 Q (F0 m pc ls [.ref x]) := by
  subst hQ
  exact W.aret hexec hb hr (Or.inl ⟨C, rfl⟩) (Or.inr ⟨x, rfl⟩) (fun t ht _ => ⟨rfl, ht⟩) (fun q h => absurd h List.not_mem_nil) hdg hlk
theorem sx_rv (hQ : MQ below (sn_QR none) args s 0 0 (fun _ => False) = Q) (hexec : p.tables.exec = Jvm.exec) (hb : c.code = cc) (hr : meth.sig.returnType = none) (hlk : meth.locks = false) (hdg : decode cc pc = .ok (.return_, 1)) : W p l e R s m args below meth c s.heap [] 0 0 Q (F0 m pc ls []) := by
  subst hQ
  exact W.vret hexec hb hr (fun t ht _ => ⟨rfl, ht⟩) (fun q h => absurd h List.not_mem_nil) hdg hlk
theorem sx_wv (hQ : MQ below (sn_Q D wc w1 none) args s 0 0 (sn_A wc) = Q) (hexec : p.tables.exec = Jvm.exec) (hb : c.code = cc) (hr : meth.sig.returnType = none) (hlk : meth.locks = false) (hP : va_P D classes w1 H) (hS : va_S (sn_A wc) s.heap H locs) (hdg : decode cc pc = .ok (.return_, 1)) : W p l e R s m args below meth c H locs 0 0 Q (F0 m pc ls []) := by
  subst hQ
  exact W.vret hexec hb hr (fun t ht _ => ⟨rfl, by rw [ht]; exact hP, hS.F ht⟩) hS.2.2 hdg hlk
theorem sx_wi {x v : Int32} (hQ : MQ below (sn_Q D wc w1 (some (.int v))) args s 0 0 (sn_A wc) = Q) (hexec : p.tables.exec = Jvm.exec) (hb : c.code = cc) (hr : meth.sig.returnType = some .int) (hlk : meth.locks = false) (hv : x = v) (hP : va_P D classes w1 H) (hS : va_S (sn_A wc) s.heap H locs) (hdg : decode cc pc = .ok (.ireturn, 1)) : W p l e R s m args below meth c H locs 0 0 Q (F0 m pc ls [.int x]) := by
  subst hQ
  subst hv
  exact W.iret hexec hb hr (fun t ht _ => ⟨rfl, by rw [ht]; exact hP, hS.F ht⟩) hS.2.2 hdg hlk
theorem sx_wz {x : Int32} {v : Bool} (hQ : MQ below (sn_Q D wc w1 (some (.int (zb v)))) args s 0 0 (sn_A wc) = Q) (hexec : p.tables.exec = Jvm.exec) (hb : c.code = cc) (hr : meth.sig.returnType = some .boolean) (hlk : meth.locks = false) (hv : x = zb v) (hP : va_P D classes w1 H) (hS : va_S (sn_A wc) s.heap H locs) (hdg : decode cc pc = .ok (.ireturn, 1)) : W p l e R s m args below meth c H locs 0 0 Q (F0 m pc ls [.int x]) := by
  subst hQ
  subst hv
  exact W.zret hexec hb hr (zb_nar v) (fun t ht _ => ⟨rfl, by rw [ht]; exact hP, hS.F ht⟩) hS.2.2 hdg hlk
theorem sx_wl2 {x v : Int64} (hQ : MQ below (sn_Q D wc w1 (some (.long v))) args s 0 0 (sn_A wc) = Q) (hexec : p.tables.exec = Jvm.exec) (hb : c.code = cc) (hr : meth.sig.returnType = some .long) (hlk : meth.locks = false) (hv : x = v) (hP : va_P D classes w1 H) (hS : va_S (sn_A wc) s.heap H locs) (hdg : decode cc pc = .ok (.lreturn, 1)) : W p l e R s m args below meth c H locs 0 0 Q (F0 m pc ls [.long x]) := by
  subst hQ
  subst hv
  exact W.lret hexec hb hr (fun t ht _ => ⟨rfl, by rw [ht]; exact hP, hS.F ht⟩) hS.2.2 hdg hlk
end SNR
theorem sn_met {l : Launch} {y : MethodName} {ws : List Cond} {rm : Room} {av : List Value} {B : State → Prop} {Qc : Array Value → State → Outcome → State → Prop} {mc ms : Nat} {free : Addr → Prop} {cc : ByteArray} {maxL : Nat} {ret : Option FieldType} {own : String}
    (hy : plainName y.cls = true) (hw : ws = Cond.code y cc maxL ret :: lw_good) (hc : y.cls = own) (hlen : (lg_sl av).length ≤ maxL)
    (body : ∀ (p : Program) (e : Env) (s : State) (m : MethodId) (args : Array Value) (below : List Frame) (meth : Method) (c : Code) (ls : Array Slot) (Q : State → Prop), MQ below Qc args s mc ms free = Q → p.tables.exec = Jvm.exec → c.code = cc → c.maxLocals = maxL → meth.sig.returnType = ret → meth.locks = false → (∀ w ∈ lw_good, w.before args s = true) → s.vm.findClass own = some m.cls → meth.name = y.name → lv_has ls maxL (lv_args 0 av) → B s →
      W p l e rm s m args below meth c s.heap [] 0 0 Q (F0 m 0 ls [])) : Met l y ws rm (va_Pc av B) Qc mc ms free := by
  refine Met.ofW (cc := cc) (maxL := maxL) (ret := ret) hy hw ?_
  intro p e s m args below meth c s₁ Bd hml hv
  obtain ⟨rfl, hB⟩ := hv
  rw [lg_entry_eq]
  have hts := atoms_spec (ws := ws) Bd.pre
  exact body p e s m _ below meth c _ _ rfl Bd.exec Bd.bytes hml Bd.returns Bd.notSynchronized (fun w h => hts w (by rw [hw]; exact List.mem_cons_of_mem _ h)) (by rw [← hc]; exact findClass_of_methodNamed Bd.named) (name_of_methodNamed Bd.named Bd.method).1 (lv_entry av hlen) hB
theorem sn_inc (i : Nat) : nI i + Int32.ofInt 1 = nI (i + 1) := by
  have h : Int32.ofInt 1 = 1 := by decide
  rw [h]
  exact nI_1 i
theorem sn_z0 : (0 : Int32) = nI 0 := nI_0.symm
theorem sn_eq0 {a : Nat} (ha : a < 2 ^ 31) : nI a = 0 ↔ a = 0 := by
  rw [sn_z0]; exact nI_eq ha (by decide)
theorem sn_le0 {a : Nat} (ha : a < 2 ^ 31) : nI a ≤ 0 ↔ a = 0 := by
  rw [sn_z0, nI_leI ha (by decide)]; omega
theorem sn_gt0 {a : Nat} (ha : a < 2 ^ 31) : 0 < nI a ↔ 0 < a := by
  rw [sn_z0, nI_ltI (by decide) ha]
theorem sn_i_none {x : Option Nat} (h : ∀ n, x = some n → n < 2 ^ 31) : sn_i x = -1 ↔ x = none := by
  cases x with
  | none => exact ⟨fun _ => rfl, fun _ => rfl⟩
  | some n =>
    refine ⟨fun e => ?_, fun e => by cases e⟩
    have e : nI n = -1 := e
    have h1 := congrArg Int32.toInt e
    rw [nI_toInt (h n rfl)] at h1
    have h2 : (-1 : Int32).toInt = -1 := by decide
    omega
section SNC
variable {p : Program} {l : Launch} {e : Env} {R : Room} {s : State} {m : MethodId} {args : Array Value} {below : List Frame} {meth : Method} {c : Code} {H : Heap} {locs : List Loc} {cells slots : Nat} {Q : State → Prop}
variable {cc : ByteArray} {pc : Nat} {ls : Array Slot} {rest : List Value}
theorem sn_icmp_eq {a b : Nat} (ha : a < 2 ^ 31) (hb' : b < 2 ^ 31) (hexec : p.tables.exec = Jvm.exec) (hb : c.code = cc) {off : Int} {tgt : Nat} (hdg : decode cc pc = .ok (.if_icmp .eq off, 3)) (ht : (pc : Int) + off = (tgt : Int))
    (kt : a = b → W p l e R s m args below meth c H locs cells slots Q (F0 m tgt ls rest)) (kf : a ≠ b → W p l e R s m args below meth c H locs cells slots Q (F0 m (pc + 3) ls rest)) : W p l e R s m args below meth c H locs cells slots Q (F0 m pc ls (.int (nI b) :: .int (nI a) :: rest)) :=
  lv_icmp_eq hexec hb hdg ht (fun h => kt ((nI_eq ha hb').mp h)) (fun h => kf (fun h9 => h ((nI_eq ha hb').mpr h9)))
theorem sn_icmp_ne {a b : Nat} (ha : a < 2 ^ 31) (hb' : b < 2 ^ 31) (hexec : p.tables.exec = Jvm.exec) (hb : c.code = cc) {off : Int} {tgt : Nat} (hdg : decode cc pc = .ok (.if_icmp .ne off, 3)) (ht : (pc : Int) + off = (tgt : Int))
    (kt : a ≠ b → W p l e R s m args below meth c H locs cells slots Q (F0 m tgt ls rest)) (kf : a = b → W p l e R s m args below meth c H locs cells slots Q (F0 m (pc + 3) ls rest)) : W p l e R s m args below meth c H locs cells slots Q (F0 m pc ls (.int (nI b) :: .int (nI a) :: rest)) :=
  lv_icmp_ne hexec hb hdg ht (fun h => kt (fun h9 => h ((nI_eq ha hb').mpr h9))) (fun h => kf ((nI_eq ha hb').mp h))
theorem sn_icmp_lt {a b : Nat} (ha : a < 2 ^ 31) (hb' : b < 2 ^ 31) (hexec : p.tables.exec = Jvm.exec) (hb : c.code = cc) {off : Int} {tgt : Nat} (hdg : decode cc pc = .ok (.if_icmp .lt off, 3)) (ht : (pc : Int) + off = (tgt : Int))
    (kt : a < b → W p l e R s m args below meth c H locs cells slots Q (F0 m tgt ls rest)) (kf : b ≤ a → W p l e R s m args below meth c H locs cells slots Q (F0 m (pc + 3) ls rest)) : W p l e R s m args below meth c H locs cells slots Q (F0 m pc ls (.int (nI b) :: .int (nI a) :: rest)) :=
  lv_icmp_lt hexec hb hdg ht (fun h => kt ((nI_ltI ha hb').mp h)) (fun h => kf (Nat.not_lt.mp (fun h9 => h ((nI_ltI ha hb').mpr h9))))
theorem sn_icmp_ge {a b : Nat} (ha : a < 2 ^ 31) (hb' : b < 2 ^ 31) (hexec : p.tables.exec = Jvm.exec) (hb : c.code = cc) {off : Int} {tgt : Nat} (hdg : decode cc pc = .ok (.if_icmp .ge off, 3)) (ht : (pc : Int) + off = (tgt : Int))
    (kt : b ≤ a → W p l e R s m args below meth c H locs cells slots Q (F0 m tgt ls rest)) (kf : a < b → W p l e R s m args below meth c H locs cells slots Q (F0 m (pc + 3) ls rest)) : W p l e R s m args below meth c H locs cells slots Q (F0 m pc ls (.int (nI b) :: .int (nI a) :: rest)) :=
  lv_icmp_ge hexec hb hdg ht (fun h => kt ((nI_leI hb' ha).mp h)) (fun h => kf (Nat.not_le.mp (fun h9 => h ((nI_leI hb' ha).mpr h9))))
theorem sn_icmp_gt {a b : Nat} (ha : a < 2 ^ 31) (hb' : b < 2 ^ 31) (hexec : p.tables.exec = Jvm.exec) (hb : c.code = cc) {off : Int} {tgt : Nat} (hdg : decode cc pc = .ok (.if_icmp .gt off, 3)) (ht : (pc : Int) + off = (tgt : Int))
    (kt : b < a → W p l e R s m args below meth c H locs cells slots Q (F0 m tgt ls rest)) (kf : a ≤ b → W p l e R s m args below meth c H locs cells slots Q (F0 m (pc + 3) ls rest)) : W p l e R s m args below meth c H locs cells slots Q (F0 m pc ls (.int (nI b) :: .int (nI a) :: rest)) :=
  lv_icmp_gt hexec hb hdg ht (fun h => kt ((nI_ltI hb' ha).mp h)) (fun h => kf (Nat.not_lt.mp (fun h9 => h ((nI_ltI hb' ha).mpr h9))))
theorem sn_icmp_le {a b : Nat} (ha : a < 2 ^ 31) (hb' : b < 2 ^ 31) (hexec : p.tables.exec = Jvm.exec) (hb : c.code = cc) {off : Int} {tgt : Nat} (hdg : decode cc pc = .ok (.if_icmp .le off, 3)) (ht : (pc : Int) + off = (tgt : Int))
    (kt : a ≤ b → W p l e R s m args below meth c H locs cells slots Q (F0 m tgt ls rest)) (kf : b < a → W p l e R s m args below meth c H locs cells slots Q (F0 m (pc + 3) ls rest)) : W p l e R s m args below meth c H locs cells slots Q (F0 m pc ls (.int (nI b) :: .int (nI a) :: rest)) :=
  lv_icmp_le hexec hb hdg ht (fun h => kt ((nI_leI ha hb').mp h)) (fun h => kf (Nat.not_le.mp (fun h9 => h ((nI_leI ha hb').mpr h9))))
theorem sn_if_eq {a : Nat} (ha : a < 2 ^ 31) (hexec : p.tables.exec = Jvm.exec) (hb : c.code = cc) {off : Int} {tgt : Nat} (hdg : decode cc pc = .ok (.ifCond .eq off, 3)) (ht : (pc : Int) + off = (tgt : Int))
    (kt : a = 0 → W p l e R s m args below meth c H locs cells slots Q (F0 m tgt ls rest)) (kf : 0 < a → W p l e R s m args below meth c H locs cells slots Q (F0 m (pc + 3) ls rest)) : W p l e R s m args below meth c H locs cells slots Q (F0 m pc ls (.int (nI a) :: rest)) :=
  lv_if_eq hexec hb hdg ht (fun h => kt ((sn_eq0 ha).mp h)) (fun h => kf (Nat.pos_of_ne_zero (fun h9 => h ((sn_eq0 ha).mpr h9))))
theorem sn_if_ne {a : Nat} (ha : a < 2 ^ 31) (hexec : p.tables.exec = Jvm.exec) (hb : c.code = cc) {off : Int} {tgt : Nat} (hdg : decode cc pc = .ok (.ifCond .ne off, 3)) (ht : (pc : Int) + off = (tgt : Int))
    (kt : 0 < a → W p l e R s m args below meth c H locs cells slots Q (F0 m tgt ls rest)) (kf : a = 0 → W p l e R s m args below meth c H locs cells slots Q (F0 m (pc + 3) ls rest)) : W p l e R s m args below meth c H locs cells slots Q (F0 m pc ls (.int (nI a) :: rest)) :=
  lv_if_ne hexec hb hdg ht (fun h => kt (Nat.pos_of_ne_zero (fun h9 => h ((sn_eq0 ha).mpr h9)))) (fun h => kf ((sn_eq0 ha).mp h))
theorem sn_if_le {a : Nat} (ha : a < 2 ^ 31) (hexec : p.tables.exec = Jvm.exec) (hb : c.code = cc) {off : Int} {tgt : Nat} (hdg : decode cc pc = .ok (.ifCond .le off, 3)) (ht : (pc : Int) + off = (tgt : Int))
    (kt : a = 0 → W p l e R s m args below meth c H locs cells slots Q (F0 m tgt ls rest)) (kf : 0 < a → W p l e R s m args below meth c H locs cells slots Q (F0 m (pc + 3) ls rest)) : W p l e R s m args below meth c H locs cells slots Q (F0 m pc ls (.int (nI a) :: rest)) :=
  lv_if_le hexec hb hdg ht (fun h => kt ((sn_le0 ha).mp h)) (fun h => kf (Nat.pos_of_ne_zero (fun h9 => h ((sn_le0 ha).mpr h9))))
theorem sn_if_gt {a : Nat} (ha : a < 2 ^ 31) (hexec : p.tables.exec = Jvm.exec) (hb : c.code = cc) {off : Int} {tgt : Nat} (hdg : decode cc pc = .ok (.ifCond .gt off, 3)) (ht : (pc : Int) + off = (tgt : Int))
    (kt : 0 < a → W p l e R s m args below meth c H locs cells slots Q (F0 m tgt ls rest)) (kf : a = 0 → W p l e R s m args below meth c H locs cells slots Q (F0 m (pc + 3) ls rest)) : W p l e R s m args below meth c H locs cells slots Q (F0 m pc ls (.int (nI a) :: rest)) :=
  lv_if_gt hexec hb hdg ht (fun h => kt ((sn_gt0 ha).mp h)) (fun h => kf (Nat.le_zero.mp (Nat.not_lt.mp (fun h9 => h ((sn_gt0 ha).mpr h9)))))
theorem sn_if_lt {a : Nat} (ha : a < 2 ^ 31) (hexec : p.tables.exec = Jvm.exec) (hb : c.code = cc) {off : Int} {tgt : Nat} (hdg : decode cc pc = .ok (.ifCond .lt off, 3)) (ht : (pc : Int) + off = (tgt : Int))
    (kf : W p l e R s m args below meth c H locs cells slots Q (F0 m (pc + 3) ls rest)) : W p l e R s m args below meth c H locs cells slots Q (F0 m pc ls (.int (nI a) :: rest)) :=
  lv_if_lt hexec hb hdg ht (fun h => absurd h (nI_pos ha)) (fun _ => kf)
theorem sn_if_ge {a : Nat} (ha : a < 2 ^ 31) (hexec : p.tables.exec = Jvm.exec) (hb : c.code = cc) {off : Int} {tgt : Nat} (hdg : decode cc pc = .ok (.ifCond .ge off, 3)) (ht : (pc : Int) + off = (tgt : Int))
    (kt : W p l e R s m args below meth c H locs cells slots Q (F0 m tgt ls rest)) : W p l e R s m args below meth c H locs cells slots Q (F0 m pc ls (.int (nI a) :: rest)) :=
  lv_if_ge hexec hb hdg ht (fun _ => kt) (fun h => absurd (nI_pos' ha) h)
theorem sn_ifz_eq {P : Prop} {i : Decidable P} (hexec : p.tables.exec = Jvm.exec) (hb : c.code = cc) {off : Int} {tgt : Nat} (hdg : decode cc pc = .ok (.ifCond .eq off, 3)) (ht : (pc : Int) + off = (tgt : Int))
    (kt : ¬ P → W p l e R s m args below meth c H locs cells slots Q (F0 m tgt ls rest)) (kf : P → W p l e R s m args below meth c H locs cells slots Q (F0 m (pc + 3) ls rest)) : W p l e R s m args below meth c H locs cells slots Q (F0 m pc ls (.int (zb (@decide P i)) :: rest)) :=
  lv_if_eq hexec hb hdg ht (fun h => kt (zb_f (i := i) h)) (fun h => kf (zb_t (i := i) h))
theorem sn_ifz_ne {P : Prop} {i : Decidable P} (hexec : p.tables.exec = Jvm.exec) (hb : c.code = cc) {off : Int} {tgt : Nat} (hdg : decode cc pc = .ok (.ifCond .ne off, 3)) (ht : (pc : Int) + off = (tgt : Int))
    (kt : P → W p l e R s m args below meth c H locs cells slots Q (F0 m tgt ls rest)) (kf : ¬ P → W p l e R s m args below meth c H locs cells slots Q (F0 m (pc + 3) ls rest)) : W p l e R s m args below meth c H locs cells slots Q (F0 m pc ls (.int (zb (@decide P i)) :: rest)) :=
  lv_if_ne hexec hb hdg ht (fun h => kt (zb_t (i := i) h)) (fun h => kf (zb_f (i := i) h))
theorem sn_isz_eq {x : Option Nat} (hx : ∀ n, x = some n → n < 2 ^ 31) (hexec : p.tables.exec = Jvm.exec) (hb : c.code = cc) {off : Int} {tgt : Nat} (hdg : decode cc pc = .ok (.if_icmp .eq off, 3)) (ht : (pc : Int) + off = (tgt : Int))
    (kt : x = none → W p l e R s m args below meth c H locs cells slots Q (F0 m tgt ls rest)) (kf : x ≠ none → W p l e R s m args below meth c H locs cells slots Q (F0 m (pc + 3) ls rest)) : W p l e R s m args below meth c H locs cells slots Q (F0 m pc ls (.int (-1) :: .int (sn_i x) :: rest)) :=
  lv_icmp_eq hexec hb hdg ht (fun h => kt ((sn_i_none hx).mp h)) (fun h => kf (fun h9 => h ((sn_i_none hx).mpr h9)))
theorem sn_isz_ne {x : Option Nat} (hx : ∀ n, x = some n → n < 2 ^ 31) (hexec : p.tables.exec = Jvm.exec) (hb : c.code = cc) {off : Int} {tgt : Nat} (hdg : decode cc pc = .ok (.if_icmp .ne off, 3)) (ht : (pc : Int) + off = (tgt : Int))
    (kt : x ≠ none → W p l e R s m args below meth c H locs cells slots Q (F0 m tgt ls rest)) (kf : x = none → W p l e R s m args below meth c H locs cells slots Q (F0 m (pc + 3) ls rest)) : W p l e R s m args below meth c H locs cells slots Q (F0 m pc ls (.int (-1) :: .int (sn_i x) :: rest)) :=
  lv_icmp_ne hexec hb hdg ht (fun h => kt (fun h9 => h ((sn_i_none hx).mpr h9))) (fun h => kf ((sn_i_none hx).mp h))
end SNC
theorem sn_cmp0 (x y : Int64) : lg_cmp x y = 0 ↔ x = y := lg_cmp_eq x y
section SNL
variable {p : Program} {l : Launch} {e : Env} {R : Room} {s : State} {m : MethodId} {args : Array Value} {below : List Frame} {meth : Method} {c : Code} {H : Heap} {locs : List Loc} {cells slots : Nat} {Q : State → Prop}
variable {cc : ByteArray} {pc : Nat} {ls : Array Slot} {rest : List Value}
theorem sn_ifc_eq {x y : Int64} (hexec : p.tables.exec = Jvm.exec) (hb : c.code = cc) {off : Int} {tgt : Nat} (hdg : decode cc pc = .ok (.ifCond .eq off, 3)) (ht : (pc : Int) + off = (tgt : Int))
    (kt : x = y → W p l e R s m args below meth c H locs cells slots Q (F0 m tgt ls rest)) (kf : x ≠ y → W p l e R s m args below meth c H locs cells slots Q (F0 m (pc + 3) ls rest)) : W p l e R s m args below meth c H locs cells slots Q (F0 m pc ls (.int (lg_cmp x y) :: rest)) :=
  lv_if_eq hexec hb hdg ht (fun h => kt ((sn_cmp0 x y).mp h)) (fun h => kf (fun h9 => h ((sn_cmp0 x y).mpr h9)))
theorem sn_ifc_ne {x y : Int64} (hexec : p.tables.exec = Jvm.exec) (hb : c.code = cc) {off : Int} {tgt : Nat} (hdg : decode cc pc = .ok (.ifCond .ne off, 3)) (ht : (pc : Int) + off = (tgt : Int))
    (kt : x ≠ y → W p l e R s m args below meth c H locs cells slots Q (F0 m tgt ls rest)) (kf : x = y → W p l e R s m args below meth c H locs cells slots Q (F0 m (pc + 3) ls rest)) : W p l e R s m args below meth c H locs cells slots Q (F0 m pc ls (.int (lg_cmp x y) :: rest)) :=
  lv_if_ne hexec hb hdg ht (fun h => kt (fun h9 => h ((sn_cmp0 x y).mpr h9))) (fun h => kf ((sn_cmp0 x y).mp h))
theorem sn_ifb_eq {b : Bool} (hexec : p.tables.exec = Jvm.exec) (hb : c.code = cc) {off : Int} {tgt : Nat} (hdg : decode cc pc = .ok (.ifCond .eq off, 3)) (ht : (pc : Int) + off = (tgt : Int))
    (kt : b = false → W p l e R s m args below meth c H locs cells slots Q (F0 m tgt ls rest)) (kf : b = true → W p l e R s m args below meth c H locs cells slots Q (F0 m (pc + 3) ls rest)) : W p l e R s m args below meth c H locs cells slots Q (F0 m pc ls (.int (zb b) :: rest)) := by
  cases b
  · exact lv_if_eq hexec hb hdg ht (fun _ => kt rfl) (fun h => absurd rfl h)
  · exact lv_if_eq hexec hb hdg ht (fun h => absurd h (by decide)) (fun _ => kf rfl)
theorem sn_ifb_ne {b : Bool} (hexec : p.tables.exec = Jvm.exec) (hb : c.code = cc) {off : Int} {tgt : Nat} (hdg : decode cc pc = .ok (.ifCond .ne off, 3)) (ht : (pc : Int) + off = (tgt : Int))
    (kt : b = true → W p l e R s m args below meth c H locs cells slots Q (F0 m tgt ls rest)) (kf : b = false → W p l e R s m args below meth c H locs cells slots Q (F0 m (pc + 3) ls rest)) : W p l e R s m args below meth c H locs cells slots Q (F0 m pc ls (.int (zb b) :: rest)) := by
  cases b
  · exact lv_if_ne hexec hb hdg ht (fun h => absurd rfl h) (fun _ => kf rfl)
  · exact lv_if_ne hexec hb hdg ht (fun _ => kt rfl) (fun h => absurd h (by decide))
end SNL
def sn_BP (D : va_G) (K : Nat → ClassId) (ad : Nat → Nat) (ws : va_W) (U : State) : Prop := sn_B D K ws U ∧ sn_Ph ad (fun _ => False) U U.heap
theorem sn_BP_blind {D : va_G} {K : Nat → ClassId} {ad : Nat → Nat} {ws : va_W} {av : List Value} : FrameBlind (va_Pc av (sn_BP D K ad ws)) := fun a U g mk q => ⟨q.1, (sn_B_blind a U g mk ⟨q.1, q.2.1⟩).2, va_En.moved (u := U) (U := U.calling g mk a) (Vm.Alike.refl U.vm) q.2.2⟩
theorem sn_preVP {s : State} {H : Heap} {D : va_G} {K : Nat → ClassId} {ws wc : va_W} {A : Nat → Prop} {b : Nat} {As : List Value} {ci : Nat} {fs : List Value} {C : String} {T : u_T} {N : Nat} {ad : Nat → Nat} {locs : List Loc} (hK : va_K D classes (kt K) s) (hN : sn_N s) (hP : va_P D classes ws H) (hE : sn_Ph ad A s s.heap) (hS : va_S A s.heap H locs) (q0 : Nat) (he : ws[q0]? = some (b, .inr (ci, fs))) (hc : classes[ci]? = some (C, T, N)) (is : List Nat) (hC : is.map (fun i => ws[i]?) = wc.map some) :
    PreV s H C b (va_Pc (.ref b :: As) (sn_BP D K ad wc)) As := ⟨sn_BP_blind, va_recv hK hP hc he, fun U hU hW => ⟨rfl, sn_preB hK hN hP is hC hU hW, by
      rw [hU]
      exact va_En.moved hW.alike (va_En.narrow (va_En.kept hE hS.2.1) (fun _ h => h.elim))⟩⟩
end
section
abbrev aI (K : Nat → ClassId) (x n : Nat) (f : Nat → Nat) : Nat × va_E := (x, .inl (K 0, n, .inl (fun j => nI (f j))))
abbrev aS (K : Nat → ClassId) (x n : Nat) (f : Nat → Option Nat) : Nat × va_E := (x, .inl (K 0, n, .inl (fun j => sn_i (f j))))
abbrev aZ (K : Nat → ClassId) (x n : Nat) (f : Nat → Bool) : Nat × va_E := (x, .inl (K 2, n, .inl (fun j => zb (f j))))
abbrev aL (K : Nat → ClassId) (x n : Nat) (f : Nat → Int64) : Nat × va_E := (x, .inl (K 1, n, .inr (.inl f)))
abbrev ce0 (a : Nat → Nat) (rc tp uc : Nat) : Nat × va_E := (a 0, .inr (0, [.ref (a 1), .ref (a 2), .ref (a 3), .ref (a 4), .int (nI rc), .int (nI tp), .int (nI uc)]))
abbrev cm0 (a : Nat → Nat) (o c w wc : Nat) : Nat × va_E := (o, .inr (1, [.ref (a 0), .ref c, .ref w, .int (nI wc)]))
abbrev cc0 (a ad : Nat → Nat) (ph cu : Nat) : Nat × va_E := (a 8, .inr (2, [.ref (a 0), .ref (a 5), .ref (ad ph), .int (nI cu)]))
abbrev cw0 (a : Nat → Nat) (d m c : Nat) (h : Int64) : Nat × va_E := (a 9, .inr (3, [.ref (a 0), .ref (a 10), .ref (a 11), .ref (a 12), .int (nI d), .int (nI m), .int (nI c), .long h]))
abbrev ca0 (a : Nat → Nat) : Nat × va_E := (a 13, .inr (4, [.ref (a 0), .ref (a 8), .ref (a 9), .ref (a 14), .ref (a 17)]))
abbrev cs0 (a : Nat → Nat) (pc md : Nat) : Nat × va_E := (a 18, .inr (5, [.ref (a 0), .ref (a 8), .ref (a 9), .ref (a 13), .int (nI pc), .int (nI md)]))
theorem sn_i_sz {S : Nat → Option Nat} {p : Nat} (h : S p ≠ none) : sn_i (S p) = nI (sn_sz S p) := by
  unfold sn_sz
  cases hs : S p with
  | none => exact absurd hs h
  | some n => rfl
theorem sn_sz_free {S : Nat → Option Nat} {p : Nat} (h : S p = none) : nI 0 = nI (sn_sz S p) := by
  unfold sn_sz
  rw [h]
  rfl
theorem sn_clr_0 {α : Type} (f : Nat → α) (b : Nat) (z : α) : sn_clr f b 0 z = f := by
  funext j
  unfold sn_clr
  rw [if_neg (by omega)]
theorem sn_clr_s {α : Type} (f : Nat → α) (b i : Nat) (z : α) : va_up (sn_clr f b i z) (b + i) z = sn_clr f b (i + 1) z := by
  funext j
  by_cases e : j = b + i
  · rw [e, va_up_self]
    unfold sn_clr
    rw [if_pos (by omega)]
  · rw [va_up_ne _ _ e]
    unfold sn_clr
    by_cases h : b ≤ j ∧ j < b + i
    · rw [if_pos h, if_pos (by omega)]
    · rw [if_neg h, if_neg (by omega)]
theorem sn_clr_s0 {α : Type} (f : Nat → α) (i : Nat) (z : α) : va_up (sn_clr f 0 i z) i z = sn_clr f 0 (i + 1) z := by
  have h := sn_clr_s f 0 i z
  rw [Nat.zero_add] at h
  exact h
abbrev aG {α : Type} (K : Nat → ClassId) (g : α → Int32) (x n : Nat) (f : Nat → α) : Nat × va_E := (x, .inl (K 0, n, .inl (fun j => g (f j))))
theorem sn_arrV {cI : ClassId} {n : Nat} {f g : Nat → Value} (h : ∀ j, j < n → f j = g j) : arrV cI n f = arrV cI n g := by
  unfold arrV
  have e : (fun j : Fin n => f j.val) = fun j : Fin n => g j.val := funext fun j => h j.val j.isLt
  rw [e]
theorem sn_reG {α : Type} {D : va_G} {K : Nat → ClassId} {ws : va_W} {H : Heap} {A : Nat → Prop} {r : α → Int32} {x n : Nat} {f g : Nat → α} (hP : va_P D classes ws H) (hD : va_D A ws) (q0 : Nat) (ha : ws[q0]? = some (aG K r x n f)) (h : ∀ j, j < n → f j = g j) :
    va_P D classes (ws.set q0 (aG K r x n g)) H ∧ va_D A (ws.set q0 (aG K r x n g)) := by
  refine ⟨hP.set hD ha ?_ (fun q _ => rfl), hD.set ha⟩
  have h1 : H[x]? = some (vp_cell (K 0) (n, .inl (fun j => r (f j)))) := hP q0 _ ha
  show H[x]? = some (vp_cell (K 0) (n, .inl (fun j => r (g j))))
  rw [h1, vp_cell_i, vp_cell_i, sn_arrV (fun j hj => by rw [h j hj])]
section SNY
variable {p : Program} {l : Launch} {e : Env} {R : Room} {s : State} {m : MethodId} {args : Array Value} {below : List Frame} {meth : Method} {c : Code} {H : Heap} {locs : List Loc} {cells slots : Nat} {Q : State → Prop}
variable {cc : ByteArray} {pc : Nat} {ls : Array Slot} {rest : List Value} {D : va_G} {K : Nat → ClassId} {ws : va_W} {A : Nat → Prop} {H0 : Heap}
theorem sn_copy (hexec : p.tables.exec = Jvm.exec) (hb : c.code = cc) (hml : c.maxLocals = ls.size) {own : String} {index : Nat} (hown : s.vm.findClass own = some m.cls) (hlink : (Cond.methodLink own index arraycopyName).before args s = true) (hnat : (Cond.native arraycopyName).before args s = true) (hstat : (Cond.static arraycopyName).before args s = true) (hini : (Cond.initialized "java/lang/System").before args s = true)
    (hK : va_K D classes (kt K) s) (hP : va_P D classes ws H) (hD : va_D A ws) (hS : va_S A H0 H locs) (q0 q1 : Nat) {a0 a1 n : Nat} {f g : Nat → Nat} (ha0 : ws[q0]? = some (aI K a0 n f)) (ha1 : ws[q1]? = some (aI K a1 n g)) (hn : n < 2 ^ 31)
    (hframes : 1 ≤ R.frames) (hlocals : (rest.map fun v => v.category).sum + (nativeFrameWords "java/lang/System" "arraycopy" 5 + 11) ≤ R.locals) (hdg : decode cc pc = .ok (.invokestatic index, 3))
    (kk : ∀ (H1 : Heap) (locs1 : List Loc), va_P D classes (ws.set q1 (aI K a1 n f)) H1 → va_D A (ws.set q1 (aI K a1 n f)) → va_S A H0 H1 locs1 → W p l e R s m args below meth c H1 locs1 cells slots Q (F0 m (pc + 3) ls rest)) :
    W p l e R s m args below meth c H locs cells slots Q (F0 m pc ls (.int (nI n) :: .int (nI 0) :: .ref a1 :: .int (nI 0) :: .ref a0 :: rest)) := by
  have c0 : (nI 0).toNatClampNeg = 0 := nI_clamp (by decide)
  have cn : (nI n).toNatClampNeg = n := nI_clamp hn
  refine va_copyi hexec hb hml hown hlink hnat hstat hini hK hP hD hS q0 q1 0 0 ha0 ha1 rfl rfl rfl (nI_pos (by decide)) (nI_pos (by decide)) (nI_pos hn) (by rw [c0, cn]; omega) (by rw [c0, cn]; omega) (fun _ _ => rfl) hframes hlocals hdg (fun H1 locs1 h1 h2 h3 => ?_)
  rw [c0, cn] at h1 h2
  have hlt : q1 < ws.length := (List.getElem?_eq_some_iff.mp ha1).1
  have hget : ∀ X : Nat × va_E, (ws.set q1 X)[q1]? = some X := fun X => List.getElem?_set_self hlt
  have e0 : ∀ X Y : Nat × va_E, (ws.set q1 X).set q1 Y = ws.set q1 Y := fun X Y => List.set_set ..
  have k1 : va_at D classes (aI K a1 n f) H1 := by
    have h4 : H1[a1]? = some (vp_cell (K 0) (n, .inl (va_cpy (fun j => nI (f j)) (fun j => nI (g j)) 0 0 n))) := h1 q1 _ (hget _)
    show H1[a1]? = some (vp_cell (K 0) (n, .inl (fun j => nI (f j))))
    rw [h4, vp_cell_i, vp_cell_i, sn_arrV (fun j hj => by rw [pk_cpy_in (by omega) (by omega), Nat.zero_add, Nat.sub_zero])]
  have k2 := h1.set h2 (hget _) (e := .inl (K 0, n, .inl (fun j => nI (f j)))) k1 (fun q _ => rfl)
  have k3 := h2.set (hget _) (e := .inl (K 0, n, .inl (fun j => nI (f j))))
  rw [e0] at k2 k3
  exact kk H1 locs1 k2 k3 h3
end SNY
theorem sn_shade_le {x : SnM} (h : (∀ q, x.1 q ≤ 2) ∧ x.2.2 ≤ 600) (p : Nat) : (∀ q, (sn_shade 600 x p).1 q ≤ 2) ∧ (sn_shade 600 x p).2.2 ≤ 600 := by
  unfold sn_shade
  split
  · rename_i hc
    refine ⟨fun q => ?_, ?_⟩
    · show va_up x.1 p 1 q ≤ 2
      by_cases e : q = p
      · rw [e, va_up_self]; decide
      · rw [va_up_ne _ _ e]; exact h.1 q
    · show x.2.2 + 1 ≤ 600
      omega
  · exact h
theorem sn_shv_le {x : SnM} (h : (∀ q, x.1 q ≤ 2) ∧ x.2.2 ≤ 600) (L : Nat → Nat) (b : Nat) : ∀ n : Nat, (∀ q, (sn_shv 600 L b n x).1 q ≤ 2) ∧ (sn_shv 600 L b n x).2.2 ≤ 600
  | 0 => h
  | n + 1 => sn_shade_le (sn_shv_le h L b n) _
theorem sn_sz_le {S : Nat → Option Nat} (h : ∀ q n, S q = some n → n ≤ 16) (p : Nat) : sn_sz S p ≤ 16 := by
  unfold sn_sz
  cases hs : S p with
  | none => exact Nat.zero_le _
  | some n => exact h p n hs
theorem sn_gc_hSz {x : SnG} (h : sn_gc x) : ∀ q n, sn_S x.1 q = some n → n ≤ 16 := fun q n hq => (h.1.2.1 q n hq).1
theorem sn_gc_hL {x : SnG} (h : sn_gc x) : ∀ s, sn_L x.1 s ≤ 600 := h.1.2.2.2.1
theorem sn_gc_ph {x : SnG} (h : sn_gc x) : x.2.2.1 < 3 := by
  rcases h.2.2 with ⟨e, -⟩ | ⟨e, -⟩ | ⟨e, -⟩ <;> omega
theorem sn_wl_le {x : SnM} (h : sn_wl 600 x) : x.2.2 ≤ 600 := by
  obtain ⟨h1, -, -, -, h5⟩ := h
  have h5 : x.2.2 = sn_s (sn_grey x.1) 601 := h5
  have a1 := sn_s_up (f := fun _ => 1) (k := 0) (v := 0) (n := 601) (by omega)
  have a4 : sn_s (sn_grey x.1) 601 ≤ sn_s (va_up (fun _ => 1) 0 0) 601 := sn_s_le (fun k _ => by
    by_cases e0 : k = 0
    · rw [e0, va_up_self]; unfold sn_grey; rw [if_neg (by rw [h1]; decide)]; exact Nat.le_refl _
    · rw [va_up_ne _ 0 e0]; exact sn_grey_le _ _)
  rw [sn_s_const] at a1
  have a5 : (fun _ => 1 : Nat → Nat) 0 = 1 := rfl
  try rw [a5] at a1
  omega
theorem sn_gc_hX {x : SnG} (h : sn_gc x) : (∀ q, x.2.1.1 q ≤ 2) ∧ x.2.1.2.2 ≤ 600 := by
  rcases h.2.2 with ⟨-, a, b⟩ | ⟨-, a, b, -⟩ | ⟨-, a, -, -, b, -⟩
  · exact ⟨fun q => by have := a q; show sn_C x q ≤ 2; omega, by omega⟩
  · exact ⟨b, sn_wl_le a⟩
  · exact ⟨fun q => by have := b q; show sn_C x q ≤ 2; omega, by omega⟩
theorem sn_gc_g2 {x : SnG} (h : sn_gc x) (h2 : x.2.2.1 = 2) : sn_g2 x := by
  rcases h.2.2 with ⟨e, -⟩ | ⟨e, -⟩ | g
  · omega
  · omega
  · exact g
theorem sn_gc_cu {x : SnG} (h : sn_gc x) (h2 : x.2.2.1 = 2) : 1 ≤ x.2.2.2 ∧ x.2.2.2 ≤ 600 := by
  have g := sn_gc_g2 h h2
  have h6 := h.1.2.2.1
  have a := g.2.2.1
  have b := g.2.2.2.1
  omega
theorem sn_gc_cu2 {x : SnG} (h : sn_gc x) (h2 : x.2.2.1 = 2) : x.2.2.2 < 2 ^ 31 := by
  have := sn_gc_cu h h2
  omega
theorem sn_gc_top {x : SnG} (h : sn_gc x) (h1 : x.2.2.1 = 1) (hw : 0 < x.2.1.2.2) : 0 < x.2.1.2.1 (x.2.1.2.2 - 1) ∧ x.2.1.2.1 (x.2.1.2.2 - 1) ≤ 600 := by
  rcases h.2.2 with ⟨e, -⟩ | ⟨-, g, -⟩ | ⟨e, -⟩
  · omega
  · exact (g.2.1 (x.2.1.2.2 - 1) (by omega)).2
  · omega
theorem sn_st_use {x : SnS} (h : sn_st x) {p : Nat} (hp : 0 < p) (hs : sn_S x p ≠ none) : sn_rc x < 600 ∧ sn_sz (sn_S x) p + 2 ≤ sn_uc x := by
  cases hn : sn_S x p with
  | none => exact absurd hn hs
  | some n =>
    have hpt := (h.2.1 p n hn).2
    have h6 := h.2.2.1
    refine ⟨h.room hp hn, ?_⟩
    have a := sn_s_one (f := sn_cel (sn_S x)) (k := p) (n := 601) (by omega)
    rw [sn_cel_some hp hn] at a
    have e := h.2.2.2.2.1
    have z : sn_sz (sn_S x) p = n := by unfold sn_sz; rw [hn]; rfl
    omega
theorem sn_adv_mark {x z : SnG} (ez : z = sn_trn (sn_beg x)) (h : z.2.2.1 = 1) : sn_adv x = (z.1, sn_mark1 600 (sn_S z.1) (sn_L z.1) z.2.1, z.2.2.1, z.2.2.2) := by
  unfold sn_adv
  rw [← ez, h]
  exact if_pos h
theorem sn_adv_sweep {x z : SnG} (ez : z = sn_trn (sn_beg x)) (h : z.2.2.1 ≠ 1) : sn_adv x = sn_sweep z := by
  unfold sn_adv
  rw [← ez]
  exact if_neg h
theorem sn_it_0 {y : SnG} (n : Nat) (h : y.2.2.1 = 0) : sn_it n y = y := by
  cases n with
  | zero => rfl
  | succ n => exact if_pos h
theorem sn_whole_gc {x : SnG} (h : sn_gc x) : sn_gc (x.1, sn_shv 600 (sn_L x.1) 0 (sn_sz (sn_S x.1) 0) (fun _ => 0, x.2.1.2.1, 0), 1, x.2.2.2) := by
  obtain ⟨h1, h2, -⟩ := h
  have b := (sn_begin (st := x.1) (wt := x.2.1.2.1) (C := fun _ => 0) (cu := x.2.2.2) h1 h2 (fun _ => rfl)).1
  rw [sn_sz0 h1]
  exact ⟨h1, h2, Or.inr (Or.inl b)⟩
theorem sn_allm_pos {x : SnG} (h0 : 0 < sn_pl x.1) (h6 : sn_pl x.1 ≤ 600) (h : x.2.2.1 = 1 ∨ (x.2.2.1 = 2 ∧ x.2.2.2 ≤ sn_pl x.1)) : sn_allm x = (va_up x.2.1.1 (sn_pl x.1) 2, x.2.1.2) := by
  unfold sn_allm
  rw [if_pos h]
  exact if_pos ⟨h0, h6⟩
theorem sn_st_rc {x : SnS} (h : sn_st x) : sn_rc x ≤ 600 := by
  have h6 := h.2.2.1
  have e := h.2.2.2.2.2.2.1
  have a1 := sn_s_up (f := fun _ => 1) (k := 0) (v := 0) (n := sn_tp x + 1) (by omega)
  have a4 : sn_s (sn_fre (sn_S x)) (sn_tp x + 1) ≤ sn_s (va_up (fun _ => 1) 0 0) (sn_tp x + 1) := sn_s_le (fun k _ => by
    by_cases e0 : k = 0
    · rw [e0, va_up_self, sn_fre_some h.1]; exact Nat.le_refl _
    · rw [va_up_ne _ 0 e0]; exact sn_fre_le _ _)
  rw [sn_s_const] at a1
  have a5 : (fun _ => 1 : Nat → Nat) 0 = 1 := rfl
  try rw [a5] at a1
  omega
theorem sn_take_htk {x : SnS} (h : sn_st x) {n : Nat} (hr : sn_uc x + n + 2 ≤ 1200) : (0 < sn_rc x ∧ sn_pl x = sn_rl x (sn_rc x - 1) ∧ sn_rc x - 1 = sn_rc x - 1 ∧ (if 0 < sn_rc x then sn_tp x else sn_tp x + 1) = sn_tp x) ∨ (sn_rc x = 0 ∧ sn_tp x < 600 ∧ sn_pl x = sn_tp x + 1 ∧ sn_rc x - 1 = 0 ∧ (if 0 < sn_rc x then sn_tp x else sn_tp x + 1) = sn_tp x + 1) := by
  have hp := sn_pl_ok h hr
  unfold sn_pl at hp ⊢
  by_cases hc : 0 < sn_rc x
  · rw [if_pos hc, if_pos hc]; exact Or.inl ⟨hc, rfl, rfl, rfl⟩
  · rw [if_neg hc] at hp
    rw [if_neg hc, if_neg hc]; exact Or.inr ⟨by omega, by omega, rfl, by omega, rfl⟩
def sn_wb (z : SnW) : Prop := (∀ q, z.1 q ≤ z.2.2.2.2.1) ∧ (∀ k, k < z.2.2.2.1 → z.2.1 k ≤ 600 ∧ z.2.2.1 k ≤ 16) ∧ z.2.2.2.2.2.1 ≤ 18 * z.2.2.2.2.1
theorem sn_wi_m {z : SnW} (h : sn_wi z) : z.2.2.2.2.1 ≤ 600 := by
  obtain ⟨h0, -, h2⟩ := h
  have a1 := sn_s_up (f := fun _ => 1) (k := 0) (v := 0) (n := 601) (by omega)
  have a4 : sn_s (fun q => if z.1 q ≠ 0 then 1 else 0) 601 ≤ sn_s (va_up (fun _ => 1) 0 0) 601 := sn_s_le (fun k _ => by
    by_cases e0 : k = 0
    · rw [e0, va_up_self, if_neg (fun h9 => h9 h0)]; exact Nat.le_refl _
    · rw [va_up_ne _ 0 e0]; split <;> omega)
  rw [sn_s_const] at a1
  have a5 : (fun _ => 1 : Nat → Nat) 0 = 1 := rfl
  try rw [a5] at a1
  omega
theorem sn_wi_d {z : SnW} (h : sn_wi z) {l : Nat} (hl : 0 < l ∧ l ≤ 600) (hn : ¬ 0 < z.1 l) : z.2.2.2.1 < 601 := by
  have h1 := sn_cnt_lt h.1 hl.1 hl.2 (by omega)
  have h2 := h.2.1
  have h3 := h.2.2
  omega
theorem sn_wmeet_num {S : Nat → Option Nat} {L : Nat → Nat} {N : Nat → Int64} {z : SnW} {t : Nat} (h : ¬ (0 < L t ∧ L t ≤ 600)) : sn_wmeet S L N z t = (z.1, z.2.1, z.2.2.1, z.2.2.2.1, z.2.2.2.2.1, z.2.2.2.2.2.1, 31 * z.2.2.2.2.2.2 + N t) := if_pos h
theorem sn_wmeet_old {S : Nat → Option Nat} {L : Nat → Nat} {N : Nat → Int64} {z : SnW} {t : Nat} (h : 0 < L t ∧ L t ≤ 600) (h2 : 0 < z.1 (L t)) : sn_wmeet S L N z t = (z.1, z.2.1, z.2.2.1, z.2.2.2.1, z.2.2.2.2.1, z.2.2.2.2.2.1, 31 * z.2.2.2.2.2.2 + lN (2 + z.1 (L t))) := by
  unfold sn_wmeet
  rw [if_neg (fun h9 => h9 h), if_pos h2]
theorem sn_wmeet_new {S : Nat → Option Nat} {L : Nat → Nat} {N : Nat → Int64} {z : SnW} {t : Nat} (h : 0 < L t ∧ L t ≤ 600) (h2 : ¬ 0 < z.1 (L t)) (hd : z.2.2.2.1 < 601) : sn_wmeet S L N z t = (va_up z.1 (L t) (z.2.2.2.2.1 + 1), va_up z.2.1 z.2.2.2.1 (L t), va_up z.2.2.1 z.2.2.2.1 0, z.2.2.2.1 + 1, z.2.2.2.2.1 + 1, z.2.2.2.2.2.1 + (sn_sz S (L t) + 2), 31 * (31 * z.2.2.2.2.2.2 + 3) + lN (sn_sz S (L t))) := by
  unfold sn_wmeet
  rw [if_neg (fun h9 => h9 h), if_neg h2]
  exact if_pos hd
theorem sn_wb_nv {z : SnW} (h : sn_wb z) (h0 : 0 < z.2.2.2.1) (hn : z.2.2.1 (z.2.2.2.1 - 1) < 16) : sn_wb (z.1, z.2.1, va_up z.2.2.1 (z.2.2.2.1 - 1) (z.2.2.1 (z.2.2.2.1 - 1) + 1), z.2.2.2) := by
  refine ⟨h.1, fun k hk => ⟨(h.2.1 k hk).1, ?_⟩, h.2.2⟩
  show va_up z.2.2.1 (z.2.2.2.1 - 1) (z.2.2.1 (z.2.2.2.1 - 1) + 1) k ≤ 16
  by_cases e : k = z.2.2.2.1 - 1
  · rw [e, va_up_self]; omega
  · rw [va_up_ne _ _ e]; exact (h.2.1 k hk).2
theorem sn_wmeet_wb {S : Nat → Option Nat} {L : Nat → Nat} {N : Nat → Int64} (hSz : ∀ q n, S q = some n → n ≤ 16) {z : SnW} (hz : sn_wi z) (h : sn_wb z) (t : Nat) : sn_wb (sn_wmeet S L N z t) := by
  by_cases h1 : 0 < L t ∧ L t ≤ 600
  · by_cases h2 : 0 < z.1 (L t)
    · rw [sn_wmeet_old h1 h2]; exact h
    · rw [sn_wmeet_new h1 h2 (sn_wi_d hz h1 h2)]
      have hzz := sn_sz_le hSz (L t)
      obtain ⟨a1, a2, a3⟩ := h
      refine ⟨fun q => ?_, fun k hk => ?_, ?_⟩
      · show va_up z.1 (L t) (z.2.2.2.2.1 + 1) q ≤ z.2.2.2.2.1 + 1
        by_cases e : q = L t
        · rw [e, va_up_self]; exact Nat.le_refl _
        · rw [va_up_ne _ _ e]; have := a1 q; omega
      · have hk : k < z.2.2.2.1 + 1 := hk
        show va_up z.2.1 z.2.2.2.1 (L t) k ≤ 600 ∧ va_up z.2.2.1 z.2.2.2.1 0 k ≤ 16
        by_cases e : k = z.2.2.2.1
        · rw [e, va_up_self, va_up_self]; exact ⟨h1.2, by omega⟩
        · rw [va_up_ne _ _ e, va_up_ne _ _ e]; exact a2 k (by omega)
      · show z.2.2.2.2.2.1 + (sn_sz S (L t) + 2) ≤ 18 * (z.2.2.2.2.1 + 1)
        omega
  · rw [sn_wmeet_num h1]; exact h
theorem sn_goon_wb {S : Nat → Option Nat} {L : Nat → Nat} {N : Nat → Int64} (hL : ∀ s, L s ≤ 600) (hSz : ∀ q n, S q = some n → n ≤ 16) {z : SnW} (hz : sn_wi z) (h : sn_wb z) (hd : 0 < z.2.2.2.1) : sn_wb (sn_goon S L N z) := by
  unfold sn_goon
  by_cases h1 : z.2.2.1 (z.2.2.2.1 - 1) < sn_sz S (z.2.1 (z.2.2.2.1 - 1))
  · rw [if_pos h1]
    have hzz := sn_sz_le hSz (z.2.1 (z.2.2.2.1 - 1))
    exact sn_wmeet_wb (z := (z.1, z.2.1, va_up z.2.2.1 (z.2.2.2.1 - 1) (z.2.2.1 (z.2.2.2.1 - 1) + 1), z.2.2.2)) hSz hz (sn_wb_nv h hd (by omega)) _
  · rw [if_neg h1]
    exact ⟨h.1, fun k hk => h.2.1 k (by have hk : k < z.2.2.2.1 - 1 := hk; omega), h.2.2⟩
theorem sn_wi_0 (z : SnW) : sn_wi (fun _ => 0, va_up z.2.1 0 0, va_up z.2.2.1 0 0, 1, 0, 0, 7) := by
  refine ⟨rfl, Nat.le_refl _, ?_⟩
  show 0 = sn_s (fun q => if (0 : Nat) ≠ 0 then 1 else 0) 601
  rw [sn_s_congr (g := fun _ => 0) (fun k _ => if_neg (fun h9 => h9 rfl)), sn_s_zero]
theorem sn_wb_0 (z : SnW) : sn_wb (fun _ => 0, va_up z.2.1 0 0, va_up z.2.2.1 0 0, 1, 0, 0, 7) := by
  refine ⟨fun _ => Nat.le_refl _, fun k hk => ?_, Nat.le_refl _⟩
  have hk : k < 1 := hk
  have e : k = 0 := by omega
  show va_up z.2.1 0 0 k ≤ 600 ∧ va_up z.2.2.1 0 0 k ≤ 16
  rw [e, va_up_self, va_up_self]
  omega
theorem sn_wrun_0 (S : Nat → Option Nat) (L : Nat → Nat) (N : Nat → Int64) (n : Nat) {y : SnW} (h : y.2.2.2.1 = 0) : sn_wrun S L N n y = y := by
  cases n with
  | zero => rfl
  | succ n => exact if_neg (by omega)
def sn_h1 (S : Nat → Option Nat) (W : Nat → Nat) (n : Nat) : Nat → Nat := fun p => if 0 < p ∧ p ≤ n then (if S p = none then 0 else 1) else W p
def sn_h2 (rl g : Nat → Nat) (n : Nat) : Nat → Nat := fun p => g p + sn_occ rl p n
theorem sn_h1_0 (S : Nat → Option Nat) (W : Nat → Nat) : sn_h1 S W 0 = W := by
  funext p
  unfold sn_h1
  rw [if_neg (by omega)]
theorem sn_h1_a {S : Nat → Option Nat} {W : Nat → Nat} {i : Nat} (h : S (i + 1) = none) : va_up (sn_h1 S W i) (i + 1) 0 = sn_h1 S W (i + 1) := by
  funext p
  by_cases e : p = i + 1
  · rw [e, va_up_self]; unfold sn_h1; rw [if_pos (by omega), if_pos h]
  · rw [va_up_ne _ _ e]; unfold sn_h1
    by_cases h9 : 0 < p ∧ p ≤ i
    · rw [if_pos h9, if_pos (show 0 < p ∧ p ≤ i + 1 by omega)]
    · rw [if_neg h9, if_neg (show ¬ (0 < p ∧ p ≤ i + 1) by omega)]
theorem sn_h1_b {S : Nat → Option Nat} {W : Nat → Nat} {i : Nat} (h : S (i + 1) ≠ none) : va_up (sn_h1 S W i) (i + 1) 1 = sn_h1 S W (i + 1) := by
  funext p
  by_cases e : p = i + 1
  · rw [e, va_up_self]; unfold sn_h1; rw [if_pos (by omega), if_neg h]
  · rw [va_up_ne _ _ e]; unfold sn_h1
    by_cases h9 : 0 < p ∧ p ≤ i
    · rw [if_pos h9, if_pos (show 0 < p ∧ p ≤ i + 1 by omega)]
    · rw [if_neg h9, if_neg (show ¬ (0 < p ∧ p ≤ i + 1) by omega)]
theorem sn_h2_0 (rl g : Nat → Nat) : sn_h2 rl g 0 = g := rfl
theorem sn_h2_s (rl g : Nat → Nat) (i : Nat) : va_up (sn_h2 rl g i) (rl i) (sn_h2 rl g i (rl i) + 1) = sn_h2 rl g (i + 1) := by
  funext p
  by_cases e : p = rl i
  · rw [e, va_up_self]
    show g (rl i) + sn_occ rl (rl i) i + 1 = g (rl i) + (sn_occ rl (rl i) i + (if rl i = rl i then 1 else 0))
    rw [if_pos rfl]; omega
  · rw [va_up_ne _ _ e]
    show g p + sn_occ rl p i = g p + (sn_occ rl p i + (if rl i = p then 1 else 0))
    rw [if_neg (fun h => e h.symm)]; omega
theorem sn_h2_le (rl g : Nat → Nat) (n p : Nat) : sn_occ rl p n ≤ n := by
  induction n with
  | zero => exact Nat.le_refl _
  | succ n ih =>
    show sn_occ rl p n + (if rl n = p then 1 else 0) ≤ n + 1
    split <;> omega
theorem sn_mark1_2 {S : Nat → Option Nat} {L : Nat → Nat} (hL : ∀ s, L s ≤ 600) {y : SnM} (h : sn_wl 600 y) (h2 : ∀ q, y.1 q ≤ 2) (hw : 0 < y.2.2) : sn_wl 600 (sn_mark1 600 S L y) ∧ ∀ q, (sn_mark1 600 S L y).1 q ≤ 2 := by
  obtain ⟨g, -, -, -, d4, -, -, d7⟩ := sn_mark1_wl h hw (S := S) (L := L) hL
  exact ⟨d4, d7 h2⟩
theorem sn_mloop_0 {S : Nat → Option Nat} {L : Nat → Nat} (n : Nat) {y : SnM} (h : y.2.2 = 0) : sn_mloop 600 S L n y = y := by
  cases n with
  | zero => rfl
  | succ n => exact if_neg (by omega)
end
section
set_option maxHeartbeats 4000000 in
set_option maxRecDepth 100000 in
theorem c_Sh_slotOf (l : Launch) (D : va_G) (K : Nat → ClassId) (p : Nat) (i : Nat)  : Met l y_Sh_slotOf w_Sh_slotOf ({ frames := 0, cells := 0, slots := 0, locals := 0 }) (va_Pc [.int (nI p), .int (nI i)] (sn_B D K [])) (sn_QR (some (.int (nI (16 * p + i))))) 0 0 (fun _ => False) := by
  refine sn_met (own := R_Sh) (by decide +kernel) rfl rfl (Nat.le_of_ble_eq_true rfl) ?_
  intro P9 E9 s9 m9 args below M9 c9 ls Q hQ hx hb hml hrt hlk hts hown hnm hl hB
  obtain ⟨hP, hK, hN⟩ := hB
  have hl : lv_has ls 2 [(0, .int (nI p)), (1, .int (nI i))] := hl
  refine lv_iload_n hx hb d_Sh_slotOf_0 rfl (lv_at hl 0 rfl) ?_
  refine lv_bipush (v := nI 16) hx hb d_Sh_slotOf_1 (by decide) ?_
  refine lv_imul hx hb d_Sh_slotOf_3 ?_
  refine sn_topi (pk_mul _ _) ?_
  refine lv_iload_n hx hb d_Sh_slotOf_4 rfl (lv_at hl 1 rfl) ?_
  refine lv_iadd hx hb d_Sh_slotOf_5 ?_
  refine sn_topi ((nI_add _ _).trans (congrArg nI (by omega : (p * 16) + i = 16 * p + i))) ?_
  exact sx_ri hQ hx hb hrt hlk (rfl) d_Sh_slotOf_6
set_option maxHeartbeats 4000000 in
set_option maxRecDepth 100000 in
theorem c_Sh_rootSlot (l : Launch) (D : va_G) (K : Nat → ClassId) (r : Nat)  : Met l y_Sh_rootSlot w_Sh_rootSlot ({ frames := 1, cells := 0, slots := 0, locals := 21 }) (va_Pc [.int (nI r)] (sn_B D K [])) (sn_QR (some (.int (nI r)))) 0 0 (fun _ => False) := by
  refine sn_met (own := R_Sh) (by decide +kernel) rfl rfl (Nat.le_of_ble_eq_true rfl) ?_
  intro P9 E9 s9 m9 args below M9 c9 ls Q hQ hx hb hml hrt hlk hts hown hnm hl hB
  obtain ⟨hP, hK, hN⟩ := hB
  have hl : lv_has ls 1 [(0, .int (nI r))] := hl
  refine lv_iconst (v := nI 0) hx hb d_Sh_rootSlot_0 (by decide) ?_
  refine lv_iload_n hx hb d_Sh_rootSlot_1 rfl (lv_at hl 0 rfl) ?_
  refine sn_rd (st1 := [.int (nI (16 * 0 + r))]) (va_runS (As := [.int (nI 0), .int (nI r)]) (rest := []) ⟨hx, hb, hml, hown, hts⟩ (c_Sh_slotOf l D K 0 r) ⟨callB_of 2 hts (tw_in cm_Sh_slotOf) rfl rfl rfl (hts _ gn_Sh) (hts _ tw_506) hd_Sh_slotOf ⟨Nat.le_of_ble_eq_true rfl, Nat.le_of_ble_eq_true rfl⟩, hts _ gt_Sh_slotOf⟩ (sn_preS hK hN hP [] rfl) rfl rfl hl.1 rfl (lv_room (Nat.le_of_ble_eq_true rfl)) d_Sh_rootSlot_2 ⟨Nat.zero_le _, Nat.zero_le _⟩) rfl ?_
  exact sx_ri hQ hx hb hrt hlk (congrArg nI (by omega)) d_Sh_rootSlot_5
set_option maxHeartbeats 4000000 in
set_option maxRecDepth 100000 in
theorem c_St_isTuplePlace (l : Launch) (D : va_G) (K : Nat → ClassId) (a : Nat → Nat) (p : Nat) (hp : p < 2 ^ 31) : Met l y_St_isTuplePlace w_St_isTuplePlace ({ frames := 0, cells := 0, slots := 0, locals := 0 }) (va_Pc [.ref (a 0), .int (nI p)] (sn_B D K [])) (sn_QR (some (.int (zb (decide (0 < p ∧ p ≤ 600)))))) 0 0 (fun _ => False) := by
  refine sn_met (own := R_St) (by decide +kernel) rfl rfl (Nat.le_of_ble_eq_true rfl) ?_
  intro P9 E9 s9 m9 args below M9 c9 ls Q hQ hx hb hml hrt hlk hts hown hnm hl hB
  obtain ⟨hP, hK, hN⟩ := hB
  have hl : lv_has ls 2 [(0, .ref (a 0)), (1, .int (nI p))] := hl
  refine lv_iload_n hx hb d_St_isTuplePlace_0 rfl (lv_at hl 1 rfl) ?_
  refine sn_if_le (by omega) (tgt := 15) hx hb d_St_isTuplePlace_1 (by decide) (fun h1 => ?_) (fun h1 => ?_)
  · refine lv_iconst (v := nI 0) hx hb d_St_isTuplePlace_15 (by decide) ?_
    exact sx_rz hQ hx hb hrt hlk (zb_no (by omega)) d_St_isTuplePlace_16
  · refine lv_iload_n hx hb d_St_isTuplePlace_4 rfl (lv_at hl 1 rfl) ?_
    refine lv_sipush (v := nI 600) hx hb d_St_isTuplePlace_5 (by decide) ?_
    refine sn_icmp_gt (by omega) (by omega) (tgt := 15) hx hb d_St_isTuplePlace_8 (by decide) (fun h2 => ?_) (fun h2 => ?_)
    · refine lv_iconst (v := nI 0) hx hb d_St_isTuplePlace_15 (by decide) ?_
      exact sx_rz hQ hx hb hrt hlk (zb_no (by omega)) d_St_isTuplePlace_16
    · refine lv_iconst (v := nI 1) hx hb d_St_isTuplePlace_11 (by decide) ?_
      refine lv_goto (tgt := 16) hx hb d_St_isTuplePlace_12 (by decide) ?_
      exact sx_rz hQ hx hb hrt hlk (zb_yes (⟨by omega, by omega⟩)) d_St_isTuplePlace_16
set_option maxHeartbeats 4000000 in
set_option maxRecDepth 100000 in
theorem c_St_isFree (l : Launch) (D : va_G) (K : Nat → ClassId) (a : Nat → Nat) (S : Nat → Option Nat) (rc : Nat) (tp : Nat) (uc : Nat) (p : Nat) (hp : p < 2 ^ 31) (hSz : ∀ q n, S q = some n → n ≤ 16) : Met l y_St_isFree w_St_isFree ({ frames := 1, cells := 0, slots := 0, locals := 21 }) (va_Pc [.ref (a 0), .int (nI p)] (sn_B D K [ce0 a rc tp uc, aS K (a 1) 601 S])) (sn_QR (some (.int (zb (decide (0 < p ∧ p ≤ 600 ∧ S p = none)))))) 0 0 (fun _ => False) := by
  refine sn_met (own := R_St) (by decide +kernel) rfl rfl (Nat.le_of_ble_eq_true rfl) ?_
  intro P9 E9 s9 m9 args below M9 c9 ls Q hQ hx hb hml hrt hlk hts hown hnm hl hB
  obtain ⟨hP, hK, hN⟩ := hB
  have hl : lv_has ls 2 [(0, .ref (a 0)), (1, .int (nI p))] := hl
  refine lv_aload_n hx hb d_St_isFree_0 rfl (lv_at hl 0 rfl) ?_
  refine lv_iload_n hx hb d_St_isFree_1 rfl (lv_at hl 1 rfl) ?_
  refine sn_rd (st1 := [.int (zb (decide (0 < p ∧ p ≤ 600)))]) (va_runV (As := [.int (nI p)]) (rest := []) ⟨hx, hb, hml, hown, hts⟩ (c_St_isTuplePlace l D K a p (by omega)) ⟨callB_of 1 hts (tw_in cm_St_isTuplePlace) rfl rfl rfl (hts _ gn_St) (hts _ tw_246) hd_St_isTuplePlace ⟨Nat.le_of_ble_eq_true rfl, Nat.le_of_ble_eq_true rfl⟩, hts _ gi_St_isTuplePlace, hts _ gs_St_isTuplePlace⟩ (sn_preV hK hN hP 0 rfl rfl [] rfl) rfl rfl hl.1 rfl (lv_room (Nat.le_of_ble_eq_true rfl)) d_St_isFree_2 ⟨Nat.zero_le _, Nat.zero_le _⟩) rfl ?_
  refine sn_ifz_eq (tgt := 22) hx hb d_St_isFree_5 (by decide) (fun h1 => ?_) (fun h1 => ?_)
  · refine lv_iconst (v := nI 0) hx hb d_St_isFree_22 (by decide) ?_
    exact sx_rz hQ hx hb hrt hlk (zb_no (by first | exact fun h9 => h1 ⟨h9.1, h9.2.1⟩ | exact fun h9 => h2 h9.2.2)) d_St_isFree_23
  · refine lv_aload_n hx hb d_St_isFree_8 rfl (lv_at hl 0 rfl) ?_
    refine va_get (D := D) (ci := 0) (v := .ref (a 1)) (C := R_St) (T := F_St) (N := 7) hx hb hts in_St hown hK hP 0 rfl rfl 0 (by decide) (hts _ tw_36) (fun _ h9 => h9) rfl d_St_isFree_9 ?_
    refine lv_iload_n hx hb d_St_isFree_12 rfl (lv_at hl 1 rfl) ?_
    refine sn_iald sn_i S p hx hb hK hP 1 rfl (by omega) (by decide) d_St_isFree_13 ?_
    refine lv_iconst (v := (-1)) hx hb d_St_isFree_14 (by decide) ?_
    refine sn_isz_ne (fun n h9 => by have := hSz _ n h9; omega) (tgt := 22) hx hb d_St_isFree_15 (by decide) (fun h2 => ?_) (fun h2 => ?_)
    · refine lv_iconst (v := nI 0) hx hb d_St_isFree_22 (by decide) ?_
      exact sx_rz hQ hx hb hrt hlk (zb_no (by first | exact fun h9 => h1 ⟨h9.1, h9.2.1⟩ | exact fun h9 => h2 h9.2.2)) d_St_isFree_23
    · refine lv_iconst (v := nI 1) hx hb d_St_isFree_18 (by decide) ?_
      refine lv_goto (tgt := 23) hx hb d_St_isFree_19 (by decide) ?_
      exact sx_rz hQ hx hb hrt hlk (zb_yes (⟨h1.1, h1.2, h2⟩)) d_St_isFree_23
set_option maxHeartbeats 4000000 in
set_option maxRecDepth 100000 in
theorem c_St_valuesOf (l : Launch) (D : va_G) (K : Nat → ClassId) (a : Nat → Nat) (S : Nat → Option Nat) (rc : Nat) (tp : Nat) (uc : Nat) (p : Nat) (hp : p ≤ 600) (hSz : ∀ q n, S q = some n → n ≤ 16) : Met l y_St_valuesOf w_St_valuesOf ({ frames := 0, cells := 0, slots := 0, locals := 0 }) (va_Pc [.ref (a 0), .int (nI p)] (sn_B D K [ce0 a rc tp uc, aS K (a 1) 601 S])) (sn_QR (some (.int (nI (sn_sz S p))))) 0 0 (fun _ => False) := by
  refine sn_met (own := R_St) (by decide +kernel) rfl rfl (Nat.le_of_ble_eq_true rfl) ?_
  intro P9 E9 s9 m9 args below M9 c9 ls Q hQ hx hb hml hrt hlk hts hown hnm hl hB
  obtain ⟨hP, hK, hN⟩ := hB
  have hl : lv_has ls 2 [(0, .ref (a 0)), (1, .int (nI p))] := hl
  refine lv_iload_n hx hb d_St_valuesOf_0 rfl (lv_at hl 1 rfl) ?_
  refine sn_if_lt (by omega) (tgt := 21) hx hb d_St_valuesOf_1 (by decide) ?_
  refine lv_iload_n hx hb d_St_valuesOf_4 rfl (lv_at hl 1 rfl) ?_
  refine lv_sipush (v := nI 600) hx hb d_St_valuesOf_5 (by decide) ?_
  refine sn_icmp_gt (by omega) (by omega) (tgt := 21) hx hb d_St_valuesOf_8 (by decide) (fun h2 => ?_) (fun h2 => ?_)
  · omega
  · refine lv_aload_n hx hb d_St_valuesOf_11 rfl (lv_at hl 0 rfl) ?_
    refine va_get (D := D) (ci := 0) (v := .ref (a 1)) (C := R_St) (T := F_St) (N := 7) hx hb hts in_St hown hK hP 0 rfl rfl 0 (by decide) (hts _ tw_36) (fun _ h9 => h9) rfl d_St_valuesOf_12 ?_
    refine lv_iload_n hx hb d_St_valuesOf_15 rfl (lv_at hl 1 rfl) ?_
    refine sn_iald sn_i S p hx hb hK hP 1 rfl (by omega) (by decide) d_St_valuesOf_16 ?_
    refine lv_iconst (v := (-1)) hx hb d_St_valuesOf_17 (by decide) ?_
    refine sn_isz_ne (fun n h9 => by have := hSz _ n h9; omega) (tgt := 25) hx hb d_St_valuesOf_18 (by decide) (fun h3 => ?_) (fun h3 => ?_)
    · refine lv_aload_n hx hb d_St_valuesOf_25 rfl (lv_at hl 0 rfl) ?_
      refine va_get (D := D) (ci := 0) (v := .ref (a 1)) (C := R_St) (T := F_St) (N := 7) hx hb hts in_St hown hK hP 0 rfl rfl 0 (by decide) (hts _ tw_36) (fun _ h9 => h9) rfl d_St_valuesOf_26 ?_
      refine lv_iload_n hx hb d_St_valuesOf_29 rfl (lv_at hl 1 rfl) ?_
      refine sn_iald sn_i S p hx hb hK hP 1 rfl (by omega) (by decide) d_St_valuesOf_30 ?_
      exact sx_ri hQ hx hb hrt hlk (by first | exact sn_i_sz h3 | exact sn_sz_free h3) d_St_valuesOf_31
    · refine lv_iconst (v := nI 0) hx hb d_St_valuesOf_21 (by decide) ?_
      refine lv_goto (tgt := 31) hx hb d_St_valuesOf_22 (by decide) ?_
      exact sx_ri hQ hx hb hrt hlk (by first | exact sn_i_sz h3 | exact sn_sz_free h3) d_St_valuesOf_31
set_option maxHeartbeats 4000000 in
set_option maxRecDepth 100000 in
theorem c_St_cellsFor (l : Launch) (D : va_G) (K : Nat → ClassId) (v : Nat)  : Met l y_St_cellsFor w_St_cellsFor ({ frames := 0, cells := 0, slots := 0, locals := 0 }) (va_Pc [.int (nI v)] (sn_B D K [])) (sn_QR (some (.int (nI (v + 2))))) 0 0 (fun _ => False) := by
  refine sn_met (own := R_St) (by decide +kernel) rfl rfl (Nat.le_of_ble_eq_true rfl) ?_
  intro P9 E9 s9 m9 args below M9 c9 ls Q hQ hx hb hml hrt hlk hts hown hnm hl hB
  obtain ⟨hP, hK, hN⟩ := hB
  have hl : lv_has ls 1 [(0, .int (nI v))] := hl
  refine lv_iload_n hx hb d_St_cellsFor_0 rfl (lv_at hl 0 rfl) ?_
  refine lv_iconst (v := nI 2) hx hb d_St_cellsFor_1 (by decide) ?_
  refine lv_iadd hx hb d_St_cellsFor_2 ?_
  refine sn_topi (nI_add _ _) ?_
  exact sx_ri hQ hx hb hrt hlk (rfl) d_St_cellsFor_3
set_option maxHeartbeats 4000000 in
set_option maxRecDepth 100000 in
theorem c_St_top (l : Launch) (D : va_G) (K : Nat → ClassId) (a : Nat → Nat) (rc : Nat) (tp : Nat) (uc : Nat)  : Met l y_St_top w_St_top ({ frames := 0, cells := 0, slots := 0, locals := 0 }) (va_Pc [.ref (a 0)] (sn_B D K [ce0 a rc tp uc])) (sn_QR (some (.int (nI tp)))) 0 0 (fun _ => False) := by
  refine sn_met (own := R_St) (by decide +kernel) rfl rfl (Nat.le_of_ble_eq_true rfl) ?_
  intro P9 E9 s9 m9 args below M9 c9 ls Q hQ hx hb hml hrt hlk hts hown hnm hl hB
  obtain ⟨hP, hK, hN⟩ := hB
  have hl : lv_has ls 1 [(0, .ref (a 0))] := hl
  refine lv_aload_n hx hb d_St_top_0 rfl (lv_at hl 0 rfl) ?_
  refine va_get (D := D) (ci := 0) (v := .int (nI tp)) (C := R_St) (T := F_St) (N := 7) hx hb hts in_St hown hK hP 0 rfl rfl 5 (by decide) (hts _ tw_41) (fun _ h9 => h9) rfl d_St_top_1 ?_
  exact sx_ri hQ hx hb hrt hlk (rfl) d_St_top_4
set_option maxHeartbeats 4000000 in
set_option maxRecDepth 100000 in
theorem c_St_tuples (l : Launch) (D : va_G) (K : Nat → ClassId) (a : Nat → Nat) (rc : Nat) (tp : Nat) (uc : Nat) (hr : rc ≤ tp) : Met l y_St_tuples w_St_tuples ({ frames := 0, cells := 0, slots := 0, locals := 0 }) (va_Pc [.ref (a 0)] (sn_B D K [ce0 a rc tp uc])) (sn_QR (some (.int (nI (tp - rc))))) 0 0 (fun _ => False) := by
  refine sn_met (own := R_St) (by decide +kernel) rfl rfl (Nat.le_of_ble_eq_true rfl) ?_
  intro P9 E9 s9 m9 args below M9 c9 ls Q hQ hx hb hml hrt hlk hts hown hnm hl hB
  obtain ⟨hP, hK, hN⟩ := hB
  have hl : lv_has ls 1 [(0, .ref (a 0))] := hl
  refine lv_aload_n hx hb d_St_tuples_0 rfl (lv_at hl 0 rfl) ?_
  refine va_get (D := D) (ci := 0) (v := .int (nI tp)) (C := R_St) (T := F_St) (N := 7) hx hb hts in_St hown hK hP 0 rfl rfl 5 (by decide) (hts _ tw_41) (fun _ h9 => h9) rfl d_St_tuples_1 ?_
  refine lv_aload_n hx hb d_St_tuples_4 rfl (lv_at hl 0 rfl) ?_
  refine va_get (D := D) (ci := 0) (v := .int (nI rc)) (C := R_St) (T := F_St) (N := 7) hx hb hts in_St hown hK hP 0 rfl rfl 4 (by decide) (hts _ tw_40) (fun _ h9 => h9) rfl d_St_tuples_5 ?_
  refine lv_isub hx hb d_St_tuples_8 ?_
  refine sn_topi (pk_sub (by omega)) ?_
  exact sx_ri hQ hx hb hrt hlk (rfl) d_St_tuples_9
set_option maxHeartbeats 4000000 in
set_option maxRecDepth 100000 in
theorem c_St_hasRoomFor (l : Launch) (D : va_G) (K : Nat → ClassId) (a : Nat → Nat) (rc : Nat) (tp : Nat) (uc : Nat) (n : Nat) (hu : uc ≤ 1200) (hn : n ≤ 16) : Met l y_St_hasRoomFor w_St_hasRoomFor ({ frames := 1, cells := 0, slots := 0, locals := 20 }) (va_Pc [.ref (a 0), .int (nI n)] (sn_B D K [ce0 a rc tp uc])) (sn_QR (some (.int (zb (decide (uc + (n + 2) ≤ 1200)))))) 0 0 (fun _ => False) := by
  refine sn_met (own := R_St) (by decide +kernel) rfl rfl (Nat.le_of_ble_eq_true rfl) ?_
  intro P9 E9 s9 m9 args below M9 c9 ls Q hQ hx hb hml hrt hlk hts hown hnm hl hB
  obtain ⟨hP, hK, hN⟩ := hB
  have hl : lv_has ls 2 [(0, .ref (a 0)), (1, .int (nI n))] := hl
  refine lv_aload_n hx hb d_St_hasRoomFor_0 rfl (lv_at hl 0 rfl) ?_
  refine va_get (D := D) (ci := 0) (v := .int (nI uc)) (C := R_St) (T := F_St) (N := 7) hx hb hts in_St hown hK hP 0 rfl rfl 6 (by decide) (hts _ tw_42) (fun _ h9 => h9) rfl d_St_hasRoomFor_1 ?_
  refine lv_iload_n hx hb d_St_hasRoomFor_4 rfl (lv_at hl 1 rfl) ?_
  refine sn_rd (st1 := [.int (nI (n + 2)), .int (nI uc)]) (va_runS (As := [.int (nI n)]) (rest := [.int (nI uc)]) ⟨hx, hb, hml, hown, hts⟩ (c_St_cellsFor l D K n) ⟨callB_of 1 hts (tw_in cm_St_cellsFor) rfl rfl rfl (hts _ gn_St) (hts _ tw_252) hd_St_cellsFor ⟨Nat.le_of_ble_eq_true rfl, Nat.le_of_ble_eq_true rfl⟩, hts _ gt_St_cellsFor⟩ (sn_preS hK hN hP [] rfl) rfl rfl hl.1 rfl (lv_room (Nat.le_of_ble_eq_true rfl)) d_St_hasRoomFor_5 ⟨Nat.zero_le _, Nat.zero_le _⟩) rfl ?_
  refine lv_iadd hx hb d_St_hasRoomFor_8 ?_
  refine sn_topi (nI_add _ _) ?_
  refine lv_sipush (v := nI 1200) hx hb d_St_hasRoomFor_9 (by decide) ?_
  refine sn_icmp_gt (by omega) (by omega) (tgt := 19) hx hb d_St_hasRoomFor_12 (by decide) (fun h1 => ?_) (fun h1 => ?_)
  · refine lv_iconst (v := nI 0) hx hb d_St_hasRoomFor_19 (by decide) ?_
    exact sx_rz hQ hx hb hrt hlk (zb_no (by omega)) d_St_hasRoomFor_20
  · refine lv_iconst (v := nI 1) hx hb d_St_hasRoomFor_15 (by decide) ?_
    refine lv_goto (tgt := 20) hx hb d_St_hasRoomFor_16 (by decide) ?_
    exact sx_rz hQ hx hb hrt hlk (zb_yes (by omega)) d_St_hasRoomFor_20
set_option maxHeartbeats 4000000 in
set_option maxRecDepth 100000 in
theorem c_St_placeAt (l : Launch) (D : va_G) (K : Nat → ClassId) (a : Nat → Nat) (L : Nat → Nat) (rc : Nat) (tp : Nat) (uc : Nat) (t : Nat) (ht : t < 9616) : Met l y_St_placeAt w_St_placeAt ({ frames := 0, cells := 0, slots := 0, locals := 0 }) (va_Pc [.ref (a 0), .int (nI t)] (sn_B D K [ce0 a rc tp uc, aI K (a 2) 9616 L])) (sn_QR (some (.int (nI (L t))))) 0 0 (fun _ => False) := by
  refine sn_met (own := R_St) (by decide +kernel) rfl rfl (Nat.le_of_ble_eq_true rfl) ?_
  intro P9 E9 s9 m9 args below M9 c9 ls Q hQ hx hb hml hrt hlk hts hown hnm hl hB
  obtain ⟨hP, hK, hN⟩ := hB
  have hl : lv_has ls 2 [(0, .ref (a 0)), (1, .int (nI t))] := hl
  refine lv_aload_n hx hb d_St_placeAt_0 rfl (lv_at hl 0 rfl) ?_
  refine va_get (D := D) (ci := 0) (v := .ref (a 2)) (C := R_St) (T := F_St) (N := 7) hx hb hts in_St hown hK hP 0 rfl rfl 1 (by decide) (hts _ tw_37) (fun _ h9 => h9) rfl d_St_placeAt_1 ?_
  refine lv_iload_n hx hb d_St_placeAt_4 rfl (lv_at hl 1 rfl) ?_
  refine sn_iald nI L t hx hb hK hP 1 rfl (by omega) (by decide) d_St_placeAt_5 ?_
  exact sx_ri hQ hx hb hrt hlk (rfl) d_St_placeAt_6
set_option maxHeartbeats 4000000 in
set_option maxRecDepth 100000 in
theorem c_St_numberAt (l : Launch) (D : va_G) (K : Nat → ClassId) (a : Nat → Nat) (N : Nat → Int64) (rc : Nat) (tp : Nat) (uc : Nat) (t : Nat) (ht : t < 9616) : Met l y_St_numberAt w_St_numberAt ({ frames := 0, cells := 0, slots := 0, locals := 0 }) (va_Pc [.ref (a 0), .int (nI t)] (sn_B D K [ce0 a rc tp uc, aL K (a 3) 9616 N])) (sn_QR (some (.long (N t)))) 0 0 (fun _ => False) := by
  refine sn_met (own := R_St) (by decide +kernel) rfl rfl (Nat.le_of_ble_eq_true rfl) ?_
  intro P9 E9 s9 m9 args below M9 c9 ls Q hQ hx hb hml hrt hlk hts hown hnm hl hB
  obtain ⟨hP, hK, hN⟩ := hB
  have hl : lv_has ls 2 [(0, .ref (a 0)), (1, .int (nI t))] := hl
  refine lv_aload_n hx hb d_St_numberAt_0 rfl (lv_at hl 0 rfl) ?_
  refine va_get (D := D) (ci := 0) (v := .ref (a 3)) (C := R_St) (T := F_St) (N := 7) hx hb hts in_St hown hK hP 0 rfl rfl 2 (by decide) (hts _ tw_38) (fun _ h9 => h9) rfl d_St_numberAt_1 ?_
  refine lv_iload_n hx hb d_St_numberAt_4 rfl (lv_at hl 1 rfl) ?_
  refine sn_lald N t hx hb hK hP 1 rfl (by omega) (by decide) d_St_numberAt_5 ?_
  exact sx_rl hQ hx hb hrt hlk rfl d_St_numberAt_6
set_option maxHeartbeats 4000000 in
set_option maxRecDepth 100000 in
theorem c_St_putNumber (l : Launch) (D : va_G) (K : Nat → ClassId) (a : Nat → Nat) (L : Nat → Nat) (N : Nat → Int64) (rc : Nat) (tp : Nat) (uc : Nat) (t : Nat) (v : Int64) (ht : t < 9616) : Met l y_St_putNumber w_St_putNumber ({ frames := 0, cells := 0, slots := 0, locals := 0 }) (va_Pc [.ref (a 0), .int (nI t), .long v] (sn_BW D K [ce0 a rc tp uc, aI K (a 2) 9616 L, aL K (a 3) 9616 N])) (sn_Q D [ce0 a rc tp uc, aI K (a 2) 9616 L, aL K (a 3) 9616 N] [ce0 a rc tp uc, aI K (a 2) 9616 (va_up L t 0), aL K (a 3) 9616 (va_up N t v)] none) 0 0 (sn_A [ce0 a rc tp uc, aI K (a 2) 9616 L, aL K (a 3) 9616 N]) := by
  refine sn_met (own := R_St) (by decide +kernel) rfl rfl (Nat.le_of_ble_eq_true rfl) ?_
  intro P9 E9 s9 m9 args below M9 c9 ls Q hQ hx hb hml hrt hlk hts hown hnm hl hB
  obtain ⟨⟨hP, hK, hN⟩, hD⟩ := hB
  have hl : lv_has ls 4 [(0, .ref (a 0)), (1, .int (nI t)), (2, .long v)] := hl
  have hD := sn_DA hD
  have hS : va_S (sn_A [ce0 a rc tp uc, aI K (a 2) 9616 L, aL K (a 3) 9616 N]) s9.heap s9.heap [] := va_S.rf
  generalize hAe : sn_A [ce0 a rc tp uc, aI K (a 2) 9616 L, aL K (a 3) 9616 N] = A at hD hS
  refine lv_aload_n hx hb d_St_putNumber_0 rfl (lv_at hl 0 rfl) ?_
  refine va_get (D := D) (ci := 0) (v := .ref (a 2)) (C := R_St) (T := F_St) (N := 7) hx hb hts in_St hown hK hP 0 rfl rfl 1 (by decide) (hts _ tw_37) (fun _ h9 => h9) rfl d_St_putNumber_1 ?_
  refine lv_iload_n hx hb d_St_putNumber_4 rfl (lv_at hl 1 rfl) ?_
  refine lv_iconst (v := nI 0) hx hb d_St_putNumber_5 (by decide) ?_
  refine sn_iast nI L t 0 hx hb hK hP hD hS 1 rfl (by omega) (by decide) d_St_putNumber_6 (fun H locs hP hD hS => ?_)
  have hP : va_P D classes [ce0 a rc tp uc, aI K (a 2) 9616 (va_up L t 0), aL K (a 3) 9616 N] H := hP
  have hD : va_D A [ce0 a rc tp uc, aI K (a 2) 9616 (va_up L t 0), aL K (a 3) 9616 N] := hD
  refine lv_aload_n hx hb d_St_putNumber_7 rfl (lv_at hl 0 rfl) ?_
  refine va_get (D := D) (ci := 0) (v := .ref (a 3)) (C := R_St) (T := F_St) (N := 7) hx hb hts in_St hown hK hP 0 rfl rfl 2 (by decide) (hts _ tw_38) (fun _ h9 => h9) rfl d_St_putNumber_8 ?_
  refine lv_iload_n hx hb d_St_putNumber_11 rfl (lv_at hl 1 rfl) ?_
  refine lv_lload_n hx hb d_St_putNumber_12 rfl (lv_at hl 2 rfl) ?_
  refine sn_last N t v hx hb hK hP hD hS 2 rfl (by omega) (by decide) d_St_putNumber_13 (fun H locs hP hD hS => ?_)
  have hP : va_P D classes [ce0 a rc tp uc, aI K (a 2) 9616 (va_up L t 0), aL K (a 3) 9616 (va_up N t v)] H := hP
  have hD : va_D A [ce0 a rc tp uc, aI K (a 2) 9616 (va_up L t 0), aL K (a 3) 9616 (va_up N t v)] := hD
  subst hAe
  exact sx_wv hQ hx hb hrt hlk hP hS d_St_putNumber_14
set_option maxHeartbeats 4000000 in
set_option maxRecDepth 100000 in
theorem c_St_putReference (l : Launch) (D : va_G) (K : Nat → ClassId) (a : Nat → Nat) (L : Nat → Nat) (N : Nat → Int64) (rc : Nat) (tp : Nat) (uc : Nat) (t : Nat) (q : Nat) (ht : t < 9616) : Met l y_St_putReference w_St_putReference ({ frames := 0, cells := 0, slots := 0, locals := 0 }) (va_Pc [.ref (a 0), .int (nI t), .int (nI q)] (sn_BW D K [ce0 a rc tp uc, aI K (a 2) 9616 L, aL K (a 3) 9616 N])) (sn_Q D [ce0 a rc tp uc, aI K (a 2) 9616 L, aL K (a 3) 9616 N] [ce0 a rc tp uc, aI K (a 2) 9616 (va_up L t q), aL K (a 3) 9616 (va_up N t 0)] none) 0 0 (sn_A [ce0 a rc tp uc, aI K (a 2) 9616 L, aL K (a 3) 9616 N]) := by
  refine sn_met (own := R_St) (by decide +kernel) rfl rfl (Nat.le_of_ble_eq_true rfl) ?_
  intro P9 E9 s9 m9 args below M9 c9 ls Q hQ hx hb hml hrt hlk hts hown hnm hl hB
  obtain ⟨⟨hP, hK, hN⟩, hD⟩ := hB
  have hl : lv_has ls 3 [(0, .ref (a 0)), (1, .int (nI t)), (2, .int (nI q))] := hl
  have hD := sn_DA hD
  have hS : va_S (sn_A [ce0 a rc tp uc, aI K (a 2) 9616 L, aL K (a 3) 9616 N]) s9.heap s9.heap [] := va_S.rf
  generalize hAe : sn_A [ce0 a rc tp uc, aI K (a 2) 9616 L, aL K (a 3) 9616 N] = A at hD hS
  refine lv_aload_n hx hb d_St_putReference_0 rfl (lv_at hl 0 rfl) ?_
  refine va_get (D := D) (ci := 0) (v := .ref (a 2)) (C := R_St) (T := F_St) (N := 7) hx hb hts in_St hown hK hP 0 rfl rfl 1 (by decide) (hts _ tw_37) (fun _ h9 => h9) rfl d_St_putReference_1 ?_
  refine lv_iload_n hx hb d_St_putReference_4 rfl (lv_at hl 1 rfl) ?_
  refine lv_iload_n hx hb d_St_putReference_5 rfl (lv_at hl 2 rfl) ?_
  refine sn_iast nI L t q hx hb hK hP hD hS 1 rfl (by omega) (by decide) d_St_putReference_6 (fun H locs hP hD hS => ?_)
  have hP : va_P D classes [ce0 a rc tp uc, aI K (a 2) 9616 (va_up L t q), aL K (a 3) 9616 N] H := hP
  have hD : va_D A [ce0 a rc tp uc, aI K (a 2) 9616 (va_up L t q), aL K (a 3) 9616 N] := hD
  refine lv_aload_n hx hb d_St_putReference_7 rfl (lv_at hl 0 rfl) ?_
  refine va_get (D := D) (ci := 0) (v := .ref (a 3)) (C := R_St) (T := F_St) (N := 7) hx hb hts in_St hown hK hP 0 rfl rfl 2 (by decide) (hts _ tw_38) (fun _ h9 => h9) rfl d_St_putReference_8 ?_
  refine lv_iload_n hx hb d_St_putReference_11 rfl (lv_at hl 1 rfl) ?_
  refine lv_lconst (v := 0) hx hb d_St_putReference_12 (by decide) ?_
  refine sn_last N t 0 hx hb hK hP hD hS 2 rfl (by omega) (by decide) d_St_putReference_13 (fun H locs hP hD hS => ?_)
  have hP : va_P D classes [ce0 a rc tp uc, aI K (a 2) 9616 (va_up L t q), aL K (a 3) 9616 (va_up N t 0)] H := hP
  have hD : va_D A [ce0 a rc tp uc, aI K (a 2) 9616 (va_up L t q), aL K (a 3) 9616 (va_up N t 0)] := hD
  subst hAe
  exact sx_wv hQ hx hb hrt hlk hP hS d_St_putReference_14
set_option maxHeartbeats 4000000 in
set_option maxRecDepth 100000 in
theorem c_St_move (l : Launch) (D : va_G) (K : Nat → ClassId) (a : Nat → Nat) (L : Nat → Nat) (N : Nat → Int64) (rc : Nat) (tp : Nat) (uc : Nat) (t : Nat) (u : Nat) (ht : t < 9616) (hu : u < 9616) : Met l y_St_move w_St_move ({ frames := 0, cells := 0, slots := 0, locals := 0 }) (va_Pc [.ref (a 0), .int (nI t), .int (nI u)] (sn_BW D K [ce0 a rc tp uc, aI K (a 2) 9616 L, aL K (a 3) 9616 N])) (sn_Q D [ce0 a rc tp uc, aI K (a 2) 9616 L, aL K (a 3) 9616 N] [ce0 a rc tp uc, aI K (a 2) 9616 (va_up L u (L t)), aL K (a 3) 9616 (va_up N u (N t))] none) 0 0 (sn_A [ce0 a rc tp uc, aI K (a 2) 9616 L, aL K (a 3) 9616 N]) := by
  refine sn_met (own := R_St) (by decide +kernel) rfl rfl (Nat.le_of_ble_eq_true rfl) ?_
  intro P9 E9 s9 m9 args below M9 c9 ls Q hQ hx hb hml hrt hlk hts hown hnm hl hB
  obtain ⟨⟨hP, hK, hN⟩, hD⟩ := hB
  have hl : lv_has ls 3 [(0, .ref (a 0)), (1, .int (nI t)), (2, .int (nI u))] := hl
  have hD := sn_DA hD
  have hS : va_S (sn_A [ce0 a rc tp uc, aI K (a 2) 9616 L, aL K (a 3) 9616 N]) s9.heap s9.heap [] := va_S.rf
  generalize hAe : sn_A [ce0 a rc tp uc, aI K (a 2) 9616 L, aL K (a 3) 9616 N] = A at hD hS
  refine lv_aload_n hx hb d_St_move_0 rfl (lv_at hl 0 rfl) ?_
  refine va_get (D := D) (ci := 0) (v := .ref (a 2)) (C := R_St) (T := F_St) (N := 7) hx hb hts in_St hown hK hP 0 rfl rfl 1 (by decide) (hts _ tw_37) (fun _ h9 => h9) rfl d_St_move_1 ?_
  refine lv_iload_n hx hb d_St_move_4 rfl (lv_at hl 2 rfl) ?_
  refine lv_aload_n hx hb d_St_move_5 rfl (lv_at hl 0 rfl) ?_
  refine va_get (D := D) (ci := 0) (v := .ref (a 2)) (C := R_St) (T := F_St) (N := 7) hx hb hts in_St hown hK hP 0 rfl rfl 1 (by decide) (hts _ tw_37) (fun _ h9 => h9) rfl d_St_move_6 ?_
  refine lv_iload_n hx hb d_St_move_9 rfl (lv_at hl 1 rfl) ?_
  refine sn_iald nI L t hx hb hK hP 1 rfl (by omega) (by decide) d_St_move_10 ?_
  refine sn_iast nI L u (L t) hx hb hK hP hD hS 1 rfl (by omega) (by decide) d_St_move_11 (fun H locs hP hD hS => ?_)
  have hP : va_P D classes [ce0 a rc tp uc, aI K (a 2) 9616 (va_up L u (L t)), aL K (a 3) 9616 N] H := hP
  have hD : va_D A [ce0 a rc tp uc, aI K (a 2) 9616 (va_up L u (L t)), aL K (a 3) 9616 N] := hD
  refine lv_aload_n hx hb d_St_move_12 rfl (lv_at hl 0 rfl) ?_
  refine va_get (D := D) (ci := 0) (v := .ref (a 3)) (C := R_St) (T := F_St) (N := 7) hx hb hts in_St hown hK hP 0 rfl rfl 2 (by decide) (hts _ tw_38) (fun _ h9 => h9) rfl d_St_move_13 ?_
  refine lv_iload_n hx hb d_St_move_16 rfl (lv_at hl 2 rfl) ?_
  refine lv_aload_n hx hb d_St_move_17 rfl (lv_at hl 0 rfl) ?_
  refine va_get (D := D) (ci := 0) (v := .ref (a 3)) (C := R_St) (T := F_St) (N := 7) hx hb hts in_St hown hK hP 0 rfl rfl 2 (by decide) (hts _ tw_38) (fun _ h9 => h9) rfl d_St_move_18 ?_
  refine lv_iload_n hx hb d_St_move_21 rfl (lv_at hl 1 rfl) ?_
  refine sn_lald N t hx hb hK hP 2 rfl (by omega) (by decide) d_St_move_22 ?_
  refine sn_last N u (N t) hx hb hK hP hD hS 2 rfl (by omega) (by decide) d_St_move_23 (fun H locs hP hD hS => ?_)
  have hP : va_P D classes [ce0 a rc tp uc, aI K (a 2) 9616 (va_up L u (L t)), aL K (a 3) 9616 (va_up N u (N t))] H := hP
  have hD : va_D A [ce0 a rc tp uc, aI K (a 2) 9616 (va_up L u (L t)), aL K (a 3) 9616 (va_up N u (N t))] := hD
  subst hAe
  exact sx_wv hQ hx hb hrt hlk hP hS d_St_move_24
set_option maxHeartbeats 4000000 in
set_option maxRecDepth 100000 in
theorem c_St_alike (l : Launch) (D : va_G) (K : Nat → ClassId) (a : Nat → Nat) (L : Nat → Nat) (N : Nat → Int64) (rc : Nat) (tp : Nat) (uc : Nat) (t : Nat) (u : Nat) (ht : t < 9616) (hu : u < 9616) (hL : ∀ s, L s ≤ 600) : Met l y_St_alike w_St_alike ({ frames := 0, cells := 0, slots := 0, locals := 0 }) (va_Pc [.ref (a 0), .int (nI t), .int (nI u)] (sn_B D K [ce0 a rc tp uc, aI K (a 2) 9616 L, aL K (a 3) 9616 N])) (sn_QR (some (.int (zb (decide (L t = L u ∧ N t = N u)))))) 0 0 (fun _ => False) := by
  refine sn_met (own := R_St) (by decide +kernel) rfl rfl (Nat.le_of_ble_eq_true rfl) ?_
  intro P9 E9 s9 m9 args below M9 c9 ls Q hQ hx hb hml hrt hlk hts hown hnm hl hB
  obtain ⟨hP, hK, hN⟩ := hB
  have hl : lv_has ls 3 [(0, .ref (a 0)), (1, .int (nI t)), (2, .int (nI u))] := hl
  have hLt := hL t
  have hLu := hL u
  refine lv_aload_n hx hb d_St_alike_0 rfl (lv_at hl 0 rfl) ?_
  refine va_get (D := D) (ci := 0) (v := .ref (a 2)) (C := R_St) (T := F_St) (N := 7) hx hb hts in_St hown hK hP 0 rfl rfl 1 (by decide) (hts _ tw_37) (fun _ h9 => h9) rfl d_St_alike_1 ?_
  refine lv_iload_n hx hb d_St_alike_4 rfl (lv_at hl 1 rfl) ?_
  refine sn_iald nI L t hx hb hK hP 1 rfl (by omega) (by decide) d_St_alike_5 ?_
  refine lv_aload_n hx hb d_St_alike_6 rfl (lv_at hl 0 rfl) ?_
  refine va_get (D := D) (ci := 0) (v := .ref (a 2)) (C := R_St) (T := F_St) (N := 7) hx hb hts in_St hown hK hP 0 rfl rfl 1 (by decide) (hts _ tw_37) (fun _ h9 => h9) rfl d_St_alike_7 ?_
  refine lv_iload_n hx hb d_St_alike_10 rfl (lv_at hl 2 rfl) ?_
  refine sn_iald nI L u hx hb hK hP 1 rfl (by omega) (by decide) d_St_alike_11 ?_
  refine sn_icmp_ne (by omega) (by omega) (tgt := 35) hx hb d_St_alike_12 (by decide) (fun h1 => ?_) (fun h1 => ?_)
  · refine lv_iconst (v := nI 0) hx hb d_St_alike_35 (by decide) ?_
    exact sx_rz hQ hx hb hrt hlk (zb_no (by first | exact fun h9 => h1 h9.1 | exact fun h9 => h2 h9.2)) d_St_alike_36
  · refine lv_aload_n hx hb d_St_alike_15 rfl (lv_at hl 0 rfl) ?_
    refine va_get (D := D) (ci := 0) (v := .ref (a 3)) (C := R_St) (T := F_St) (N := 7) hx hb hts in_St hown hK hP 0 rfl rfl 2 (by decide) (hts _ tw_38) (fun _ h9 => h9) rfl d_St_alike_16 ?_
    refine lv_iload_n hx hb d_St_alike_19 rfl (lv_at hl 1 rfl) ?_
    refine sn_lald N t hx hb hK hP 2 rfl (by omega) (by decide) d_St_alike_20 ?_
    refine lv_aload_n hx hb d_St_alike_21 rfl (lv_at hl 0 rfl) ?_
    refine va_get (D := D) (ci := 0) (v := .ref (a 3)) (C := R_St) (T := F_St) (N := 7) hx hb hts in_St hown hK hP 0 rfl rfl 2 (by decide) (hts _ tw_38) (fun _ h9 => h9) rfl d_St_alike_22 ?_
    refine lv_iload_n hx hb d_St_alike_25 rfl (lv_at hl 2 rfl) ?_
    refine sn_lald N u hx hb hK hP 2 rfl (by omega) (by decide) d_St_alike_26 ?_
    refine W.lcmp hx hb d_St_alike_27 ?_
    refine sn_ifc_ne (tgt := 35) hx hb d_St_alike_28 (by decide) (fun h2 => ?_) (fun h2 => ?_)
    · refine lv_iconst (v := nI 0) hx hb d_St_alike_35 (by decide) ?_
      exact sx_rz hQ hx hb hrt hlk (zb_no (by first | exact fun h9 => h1 h9.1 | exact fun h9 => h2 h9.2)) d_St_alike_36
    · refine lv_iconst (v := nI 1) hx hb d_St_alike_31 (by decide) ?_
      refine lv_goto (tgt := 36) hx hb d_St_alike_32 (by decide) ?_
      exact sx_rz hQ hx hb hrt hlk (zb_yes (⟨h1, h2⟩)) d_St_alike_36
set_option maxHeartbeats 4000000 in
set_option maxRecDepth 100000 in
theorem c_St_takeFreePlace (l : Launch) (D : va_G) (K : Nat → ClassId) (a : Nat → Nat) (rl : Nat → Nat) (rc : Nat) (tp : Nat) (uc : Nat) (pl : Nat) (rc1 : Nat) (tp1 : Nat) (htk : (0 < rc ∧ pl = rl (rc - 1) ∧ rc1 = rc - 1 ∧ tp1 = tp) ∨ (rc = 0 ∧ tp < 600 ∧ pl = tp + 1 ∧ rc1 = 0 ∧ tp1 = tp + 1)) (hrc : rc ≤ 600) (htp : tp ≤ 600) : Met l y_St_takeFreePlace w_St_takeFreePlace ({ frames := 0, cells := 0, slots := 0, locals := 0 }) (va_Pc [.ref (a 0)] (sn_BW D K [ce0 a rc tp uc, aI K (a 4) 600 rl])) (sn_Q D [ce0 a rc tp uc, aI K (a 4) 600 rl] [ce0 a rc1 tp1 uc, aI K (a 4) 600 rl] (some (.int (nI pl)))) 0 0 (sn_A [ce0 a rc tp uc, aI K (a 4) 600 rl]) := by
  refine sn_met (own := R_St) (by decide +kernel) rfl rfl (Nat.le_of_ble_eq_true rfl) ?_
  intro P9 E9 s9 m9 args below M9 c9 ls Q hQ hx hb hml hrt hlk hts hown hnm hl hB
  obtain ⟨⟨hP, hK, hN⟩, hD⟩ := hB
  have hl : lv_has ls 1 [(0, .ref (a 0))] := hl
  have hD := sn_DA hD
  have hS : va_S (sn_A [ce0 a rc tp uc, aI K (a 4) 600 rl]) s9.heap s9.heap [] := va_S.rf
  generalize hAe : sn_A [ce0 a rc tp uc, aI K (a 4) 600 rl] = A at hD hS
  refine lv_aload_n hx hb d_St_takeFreePlace_0 rfl (lv_at hl 0 rfl) ?_
  refine va_get (D := D) (ci := 0) (v := .int (nI rc)) (C := R_St) (T := F_St) (N := 7) hx hb hts in_St hown hK hP 0 rfl rfl 4 (by decide) (hts _ tw_40) (fun _ h9 => h9) rfl d_St_takeFreePlace_1 ?_
  refine sn_if_le (by omega) (tgt := 27) hx hb d_St_takeFreePlace_4 (by decide) (fun h1 => ?_) (fun h1 => ?_)
  · refine lv_aload_n hx hb d_St_takeFreePlace_27 rfl (lv_at hl 0 rfl) ?_
    refine va_get (D := D) (ci := 0) (v := .int (nI tp)) (C := R_St) (T := F_St) (N := 7) hx hb hts in_St hown hK hP 0 rfl rfl 5 (by decide) (hts _ tw_41) (fun _ h9 => h9) rfl d_St_takeFreePlace_28 ?_
    refine lv_sipush (v := nI 600) hx hb d_St_takeFreePlace_31 (by decide) ?_
    refine sn_icmp_ge (by omega) (by omega) (tgt := 52) hx hb d_St_takeFreePlace_34 (by decide) (fun h2 => ?_) (fun h2 => ?_)
    · omega
    · refine lv_aload_n hx hb d_St_takeFreePlace_37 rfl (lv_at hl 0 rfl) ?_
      refine lv_dup hx hb d_St_takeFreePlace_38 rfl ?_
      refine va_get (D := D) (ci := 0) (v := .int (nI tp)) (C := R_St) (T := F_St) (N := 7) hx hb hts in_St hown hK hP 0 rfl rfl 5 (by decide) (hts _ tw_41) (fun _ h9 => h9) rfl d_St_takeFreePlace_39 ?_
      refine lv_iconst (v := nI 1) hx hb d_St_takeFreePlace_42 (by decide) ?_
      refine lv_iadd hx hb d_St_takeFreePlace_43 ?_
      refine sn_topi (nI_add _ _) ?_
      refine va_put (D := D) (ci := 0) (v := .int (nI (tp + 1))) (ty := .int) (C := R_St) (T := F_St) (N := 7) hx hb hts in_St t_St t_St_ok n_St hown hK hP hD hS 0 rfl rfl 5 (by decide) (hts _ tw_41) (fun _ h9 => h9) rfl (by decide +kernel) rfl rfl (Nat.le_of_ble_eq_true rfl) d_St_takeFreePlace_44 (fun H locs hP hD hS => ?_)
      have hP : va_P D classes [ce0 a rc (tp + 1) uc, aI K (a 4) 600 rl] H := hP
      have hD : va_D A [ce0 a rc (tp + 1) uc, aI K (a 4) 600 rl] := hD
      refine lv_aload_n hx hb d_St_takeFreePlace_47 rfl (lv_at hl 0 rfl) ?_
      refine va_get (D := D) (ci := 0) (v := .int (nI (tp + 1))) (C := R_St) (T := F_St) (N := 7) hx hb hts in_St hown hK hP 0 rfl rfl 5 (by decide) (hts _ tw_41) (fun _ h9 => h9) rfl d_St_takeFreePlace_48 ?_
      rcases htk with ⟨_, e1, e2, e3⟩ | ⟨e0, _, e1, e2, e3⟩ <;> first | (exfalso; omega) | skip
      all_goals subst e1 e2 e3
      subst e0
      subst hAe
      exact sx_wi hQ hx hb hrt hlk (rfl) hP hS d_St_takeFreePlace_51
  · refine lv_aload_n hx hb d_St_takeFreePlace_7 rfl (lv_at hl 0 rfl) ?_
    refine lv_dup hx hb d_St_takeFreePlace_8 rfl ?_
    refine va_get (D := D) (ci := 0) (v := .int (nI rc)) (C := R_St) (T := F_St) (N := 7) hx hb hts in_St hown hK hP 0 rfl rfl 4 (by decide) (hts _ tw_40) (fun _ h9 => h9) rfl d_St_takeFreePlace_9 ?_
    refine lv_iconst (v := nI 1) hx hb d_St_takeFreePlace_12 (by decide) ?_
    refine lv_isub hx hb d_St_takeFreePlace_13 ?_
    refine sn_topi (pk_sub (by omega)) ?_
    refine va_put (D := D) (ci := 0) (v := .int (nI (rc - 1))) (ty := .int) (C := R_St) (T := F_St) (N := 7) hx hb hts in_St t_St t_St_ok n_St hown hK hP hD hS 0 rfl rfl 4 (by decide) (hts _ tw_40) (fun _ h9 => h9) rfl (by decide +kernel) rfl rfl (Nat.le_of_ble_eq_true rfl) d_St_takeFreePlace_14 (fun H locs hP hD hS => ?_)
    have hP : va_P D classes [ce0 a (rc - 1) tp uc, aI K (a 4) 600 rl] H := hP
    have hD : va_D A [ce0 a (rc - 1) tp uc, aI K (a 4) 600 rl] := hD
    refine lv_aload_n hx hb d_St_takeFreePlace_17 rfl (lv_at hl 0 rfl) ?_
    refine va_get (D := D) (ci := 0) (v := .ref (a 4)) (C := R_St) (T := F_St) (N := 7) hx hb hts in_St hown hK hP 0 rfl rfl 3 (by decide) (hts _ tw_39) (fun _ h9 => h9) rfl d_St_takeFreePlace_18 ?_
    refine lv_aload_n hx hb d_St_takeFreePlace_21 rfl (lv_at hl 0 rfl) ?_
    refine va_get (D := D) (ci := 0) (v := .int (nI (rc - 1))) (C := R_St) (T := F_St) (N := 7) hx hb hts in_St hown hK hP 0 rfl rfl 4 (by decide) (hts _ tw_40) (fun _ h9 => h9) rfl d_St_takeFreePlace_22 ?_
    refine sn_iald nI rl (rc - 1) hx hb hK hP 1 rfl (by omega) (by decide) d_St_takeFreePlace_25 ?_
    rcases htk with ⟨_, e1, e2, e3⟩ | ⟨e0, _, e1, e2, e3⟩ <;> first | (exfalso; omega) | skip
    all_goals subst e1 e2 e3
    subst hAe
    exact sx_wi hQ hx hb hrt hlk (rfl) hP hS d_St_takeFreePlace_26
set_option maxHeartbeats 4000000 in
set_option maxRecDepth 100000 in
theorem c_St_take (l : Launch) (D : va_G) (K : Nat → ClassId) (a : Nat → Nat) (S : Nat → Option Nat) (L : Nat → Nat) (N : Nat → Int64) (rl : Nat → Nat) (rc : Nat) (tp : Nat) (uc : Nat) (n : Nat) (pl : Nat) (rc1 : Nat) (tp1 : Nat) (hn : n ≤ 16) (hr : uc + n + 2 ≤ 1200) (htk : (0 < rc ∧ pl = rl (rc - 1) ∧ rc1 = rc - 1 ∧ tp1 = tp) ∨ (rc = 0 ∧ tp < 600 ∧ pl = tp + 1 ∧ rc1 = 0 ∧ tp1 = tp + 1)) (hrc : rc ≤ 600) (htp : tp ≤ 600) (h0 : 0 < pl) (h6 : pl ≤ 600) (hf : S pl = none) (hSz : ∀ q n, S q = some n → n ≤ 16) : Met l y_St_take w_St_take ({ frames := 2, cells := 0, slots := 0, locals := 42 }) (va_Pc [.ref (a 0), .int (nI n)] (sn_BW D K [ce0 a rc tp uc, aS K (a 1) 601 S, aI K (a 2) 9616 L, aL K (a 3) 9616 N, aI K (a 4) 600 rl])) (sn_Q D [ce0 a rc tp uc, aS K (a 1) 601 S, aI K (a 2) 9616 L, aL K (a 3) 9616 N, aI K (a 4) 600 rl] [ce0 a rc1 tp1 (uc + (n + 2)), aS K (a 1) 601 (va_up S pl (some n)), aI K (a 2) 9616 (sn_clr L (16 * pl) n 0), aL K (a 3) 9616 (sn_clr N (16 * pl) n 0), aI K (a 4) 600 rl] (some (.int (nI pl)))) 0 0 (sn_A [ce0 a rc tp uc, aS K (a 1) 601 S, aI K (a 2) 9616 L, aL K (a 3) 9616 N, aI K (a 4) 600 rl]) := by
  refine sn_met (own := R_St) (by decide +kernel) rfl rfl (Nat.le_of_ble_eq_true rfl) ?_
  intro P9 E9 s9 m9 args below M9 c9 ls Q hQ hx hb hml hrt hlk hts hown hnm hl hB
  obtain ⟨⟨hP, hK, hN⟩, hD⟩ := hB
  have hl : lv_has ls 4 [(0, .ref (a 0)), (1, .int (nI n))] := hl
  have hD := sn_DA hD
  have hS : va_S (sn_A [ce0 a rc tp uc, aS K (a 1) 601 S, aI K (a 2) 9616 L, aL K (a 3) 9616 N, aI K (a 4) 600 rl]) s9.heap s9.heap [] := va_S.rf
  generalize hAe : sn_A [ce0 a rc tp uc, aS K (a 1) 601 S, aI K (a 2) 9616 L, aL K (a 3) 9616 N, aI K (a 4) 600 rl] = A at hD hS
  refine lv_iload_n hx hb d_St_take_0 rfl (lv_at hl 1 rfl) ?_
  refine sn_if_lt (by omega) (tgt := 18) hx hb d_St_take_1 (by decide) ?_
  refine lv_iload_n hx hb d_St_take_4 rfl (lv_at hl 1 rfl) ?_
  refine lv_bipush (v := nI 16) hx hb d_St_take_5 (by decide) ?_
  refine sn_icmp_gt (by omega) (by omega) (tgt := 18) hx hb d_St_take_7 (by decide) (fun h2 => ?_) (fun h2 => ?_)
  · omega
  · refine lv_aload_n hx hb d_St_take_10 rfl (lv_at hl 0 rfl) ?_
    refine lv_iload_n hx hb d_St_take_11 rfl (lv_at hl 1 rfl) ?_
    refine sn_rd (st1 := [.int (zb (decide (uc + (n + 2) ≤ 1200)))]) (va_runV (As := [.int (nI n)]) (rest := []) ⟨hx, hb, hml, hown, hts⟩ (c_St_hasRoomFor l D K a rc tp uc n (by omega) (by omega)) ⟨callB_of 1 hts (tw_in cm_St_hasRoomFor) rfl rfl rfl (hts _ gn_St) (hts _ tw_515) hd_St_hasRoomFor ⟨Nat.le_of_ble_eq_true rfl, Nat.le_of_ble_eq_true rfl⟩, hts _ gi_St_hasRoomFor, hts _ gs_St_hasRoomFor⟩ (sn_preV hK hN hP 0 rfl rfl [0] rfl) rfl rfl hl.1 rfl (lv_room (Nat.le_of_ble_eq_true rfl)) d_St_take_12 ⟨Nat.zero_le _, Nat.zero_le _⟩) rfl ?_
    refine sn_ifz_ne (tgt := 20) hx hb d_St_take_15 (by decide) (fun h3 => ?_) (fun h3 => ?_)
    · refine lv_aload_n hx hb d_St_take_20 rfl (lv_at hl 0 rfl) ?_
      refine sn_wrt (st1 := [.int (nI pl)]) (w1 := [ce0 a rc1 tp1 uc, aI K (a 4) 600 rl]) (va_runV (As := []) (rest := []) ⟨hx, hb, hml, hown, hts⟩ (c_St_takeFreePlace l D K a rl rc tp uc pl rc1 tp1 (htk) (by omega) (by omega)) ⟨callB_of 0 hts (tw_in cm_St_takeFreePlace) rfl rfl rfl (hts _ gn_St) (hts _ tw_516) hd_St_takeFreePlace ⟨Nat.le_of_ble_eq_true rfl, Nat.le_of_ble_eq_true rfl⟩, hts _ gi_St_takeFreePlace, hts _ gs_St_takeFreePlace⟩ (sn_preVW hK hN hP hD 0 rfl rfl [0, 4] rfl rfl) rfl rfl hl.1 rfl (lv_room (Nat.le_of_ble_eq_true rfl)) d_St_take_21 ⟨Nat.zero_le _, Nat.zero_le _⟩) rfl hP hD hS [0, 4] rfl rfl (fun H locs hP hD hS => ?_)
      have hP : va_P D classes [ce0 a rc1 tp1 uc, aS K (a 1) 601 S, aI K (a 2) 9616 L, aL K (a 3) 9616 N, aI K (a 4) 600 rl] H := hP
      have hD : va_D A [ce0 a rc1 tp1 uc, aS K (a 1) 601 S, aI K (a 2) 9616 L, aL K (a 3) 9616 N, aI K (a 4) 600 rl] := hD
      refine lv_istore_n (lv' := [(2, .int (nI pl)), (0, .ref (a 0)), (1, .int (nI n))]) hx hb d_St_take_24 rfl hl (by decide) rfl (fun ls hl => ?_)
      refine lv_aload_n hx hb d_St_take_25 rfl (lv_at hl 1 rfl) ?_
      refine lv_iload_n hx hb d_St_take_26 rfl (lv_at hl 0 rfl) ?_
      refine sn_rd (st1 := [.int (zb (decide (0 < pl ∧ pl ≤ 600 ∧ S pl = none)))]) (va_runV (As := [.int (nI pl)]) (rest := []) ⟨hx, hb, hml, hown, hts⟩ (c_St_isFree l D K a S rc1 tp1 uc pl (by omega) (hSz)) ⟨callB_of 1 hts (tw_in cm_St_isFree) rfl rfl rfl (hts _ gn_St) (hts _ tw_335) hd_St_isFree ⟨Nat.le_of_ble_eq_true rfl, Nat.le_of_ble_eq_true rfl⟩, hts _ gi_St_isFree, hts _ gs_St_isFree⟩ (sn_preV hK hN hP 0 rfl rfl [0, 1] rfl) rfl rfl hl.1 rfl (lv_room (Nat.le_of_ble_eq_true rfl)) d_St_take_27 ⟨Nat.zero_le _, Nat.zero_le _⟩) rfl ?_
      refine sn_ifz_ne (tgt := 35) hx hb d_St_take_30 (by decide) (fun h4 => ?_) (fun h4 => ?_)
      · refine lv_aload_n hx hb d_St_take_35 rfl (lv_at hl 1 rfl) ?_
        refine va_get (D := D) (ci := 0) (v := .ref (a 1)) (C := R_St) (T := F_St) (N := 7) hx hb hts in_St hown hK hP 0 rfl rfl 0 (by decide) (hts _ tw_36) (fun _ h9 => h9) rfl d_St_take_36 ?_
        refine lv_iload_n hx hb d_St_take_39 rfl (lv_at hl 0 rfl) ?_
        refine lv_iload_n hx hb d_St_take_40 rfl (lv_at hl 2 rfl) ?_
        refine sn_iast sn_i S pl (some n) hx hb hK hP hD hS 1 rfl (by omega) (by decide) d_St_take_41 (fun H locs hP hD hS => ?_)
        have hP : va_P D classes [ce0 a rc1 tp1 uc, aS K (a 1) 601 (va_up S pl (some n)), aI K (a 2) 9616 L, aL K (a 3) 9616 N, aI K (a 4) 600 rl] H := hP
        have hD : va_D A [ce0 a rc1 tp1 uc, aS K (a 1) 601 (va_up S pl (some n)), aI K (a 2) 9616 L, aL K (a 3) 9616 N, aI K (a 4) 600 rl] := hD
        refine lv_aload_n hx hb d_St_take_42 rfl (lv_at hl 1 rfl) ?_
        refine lv_dup hx hb d_St_take_43 rfl ?_
        refine va_get (D := D) (ci := 0) (v := .int (nI uc)) (C := R_St) (T := F_St) (N := 7) hx hb hts in_St hown hK hP 0 rfl rfl 6 (by decide) (hts _ tw_42) (fun _ h9 => h9) rfl d_St_take_44 ?_
        refine lv_iload_n hx hb d_St_take_47 rfl (lv_at hl 2 rfl) ?_
        refine sn_rd (st1 := [.int (nI (n + 2)), .int (nI uc), .ref (a 0)]) (va_runS (As := [.int (nI n)]) (rest := [.int (nI uc), .ref (a 0)]) ⟨hx, hb, hml, hown, hts⟩ (c_St_cellsFor l D K n) ⟨callB_of 1 hts (tw_in cm_St_cellsFor) rfl rfl rfl (hts _ gn_St) (hts _ tw_252) hd_St_cellsFor ⟨Nat.le_of_ble_eq_true rfl, Nat.le_of_ble_eq_true rfl⟩, hts _ gt_St_cellsFor⟩ (sn_preS hK hN hP [] rfl) rfl rfl hl.1 rfl (lv_room (Nat.le_of_ble_eq_true rfl)) d_St_take_48 ⟨Nat.zero_le _, Nat.zero_le _⟩) rfl ?_
        refine lv_iadd hx hb d_St_take_51 ?_
        refine sn_topi (nI_add _ _) ?_
        refine va_put (D := D) (ci := 0) (v := .int (nI (uc + (n + 2)))) (ty := .int) (C := R_St) (T := F_St) (N := 7) hx hb hts in_St t_St t_St_ok n_St hown hK hP hD hS 0 rfl rfl 6 (by decide) (hts _ tw_42) (fun _ h9 => h9) rfl (by decide +kernel) rfl rfl (Nat.le_of_ble_eq_true rfl) d_St_take_52 (fun H locs hP hD hS => ?_)
        have hP : va_P D classes [ce0 a rc1 tp1 (uc + (n + 2)), aS K (a 1) 601 (va_up S pl (some n)), aI K (a 2) 9616 L, aL K (a 3) 9616 N, aI K (a 4) 600 rl] H := hP
        have hD : va_D A [ce0 a rc1 tp1 (uc + (n + 2)), aS K (a 1) 601 (va_up S pl (some n)), aI K (a 2) 9616 L, aL K (a 3) 9616 N, aI K (a 4) 600 rl] := hD
        refine lv_iconst (v := nI 0) hx hb d_St_take_55 (by decide) ?_
        refine lv_istore_n (lv' := [(3, .int (nI 0)), (2, .int (nI pl)), (0, .ref (a 0)), (1, .int (nI n))]) hx hb d_St_take_56 rfl hl (by decide) rfl (fun ls hl => ?_)
        have loop0 : ∀ (nn : Nat) (i : Nat) (ls : Array Slot) (H : Heap) (locs : List Loc), n - i < nn → i ≤ n → lv_has ls 4 [(0, .ref (a 0)), (1, .int (nI n)), (2, .int (nI pl)), (3, .int (nI i))] → va_P D classes [ce0 a rc1 tp1 (uc + (n + 2)), aS K (a 1) 601 (va_up S pl (some n)), aI K (a 2) 9616 (sn_clr L (16 * pl) i 0), aL K (a 3) 9616 (sn_clr N (16 * pl) i 0), aI K (a 4) 600 rl] H → va_D A [ce0 a rc1 tp1 (uc + (n + 2)), aS K (a 1) 601 (va_up S pl (some n)), aI K (a 2) 9616 (sn_clr L (16 * pl) i 0), aL K (a 3) 9616 (sn_clr N (16 * pl) i 0), aI K (a 4) 600 rl] → va_S A s9.heap H locs → W P9 l E9 ({ frames := 2, cells := 0, slots := 0, locals := 42 }) s9 m9 args below M9 c9 H locs 0 0 Q (F0 m9 57 ls []) := by
          intro nn
          induction nn with
          | zero => intro i ls H locs hn; exact absurd hn (Nat.not_lt_zero _)
          | succ nn ih =>
            intro i ls H locs hmu hi hl hP hD hS
            refine lv_iload_n hx hb d_St_take_57 rfl (lv_at hl 3 rfl) ?_
            refine lv_iload_n hx hb d_St_take_58 rfl (lv_at hl 1 rfl) ?_
            refine sn_icmp_ge (by omega) (by omega) (tgt := 78) hx hb d_St_take_59 (by decide) (fun h5 => ?_) (fun h5 => ?_)
            · have ei : i = n := by omega
              subst ei
              refine lv_iload_n hx hb d_St_take_78 rfl (lv_at hl 2 rfl) ?_
              subst hAe
              exact sx_wi hQ hx hb hrt hlk (rfl) hP hS d_St_take_79
            · refine lv_aload_n hx hb d_St_take_62 rfl (lv_at hl 0 rfl) ?_
              refine lv_iload_n hx hb d_St_take_63 rfl (lv_at hl 2 rfl) ?_
              refine lv_iload_n hx hb d_St_take_64 rfl (lv_at hl 3 rfl) ?_
              refine sn_rd (st1 := [.int (nI (16 * pl + i)), .ref (a 0)]) (va_runSN (As := [.int (nI pl), .int (nI i)]) (rest := [.ref (a 0)]) ⟨hx, hb, hml, hown, hts⟩ (c_Sh_slotOf l D K pl i) ⟨va_cnB 2 hts (tw_in cm_Sh_slotOf) rfl rfl rfl hN.2.2 (hts _ gn_Sh) hd_Sh_slotOf ⟨Nat.le_of_ble_eq_true rfl, Nat.le_of_ble_eq_true rfl⟩, hts _ gt_Sh_slotOf, trivial⟩ (sn_preS hK hN hP [] rfl) rfl rfl hl.1 rfl (lv_room (Nat.le_of_ble_eq_true rfl)) d_St_take_65 ⟨Nat.zero_le _, Nat.zero_le _⟩) rfl ?_
              refine lv_lconst (v := 0) hx hb d_St_take_68 (by decide) ?_
              refine sn_wrt (st1 := []) (w1 := [ce0 a rc1 tp1 (uc + (n + 2)), aI K (a 2) 9616 (va_up (sn_clr L (16 * pl) i 0) (16 * pl + i) 0), aL K (a 3) 9616 (va_up (sn_clr N (16 * pl) i 0) (16 * pl + i) 0)]) (va_runV (As := [.int (nI (16 * pl + i)), .long 0]) (rest := []) ⟨hx, hb, hml, hown, hts⟩ (c_St_putNumber l D K a (sn_clr L (16 * pl) i 0) (sn_clr N (16 * pl) i 0) rc1 tp1 (uc + (n + 2)) (16 * pl + i) 0 (by omega)) ⟨callB_of 2 hts (tw_in cm_St_putNumber) rfl rfl rfl (hts _ gn_St) (hts _ tw_521) hd_St_putNumber ⟨Nat.le_of_ble_eq_true rfl, Nat.le_of_ble_eq_true rfl⟩, hts _ gi_St_putNumber, hts _ gs_St_putNumber⟩ (sn_preVW hK hN hP hD 0 rfl rfl [0, 2, 3] rfl rfl) rfl rfl hl.1 rfl (lv_room (Nat.le_of_ble_eq_true rfl)) d_St_take_69 ⟨Nat.zero_le _, Nat.zero_le _⟩) rfl hP hD hS [0, 2, 3] rfl rfl (fun H locs hP hD hS => ?_)
              have hP : va_P D classes [ce0 a rc1 tp1 (uc + (n + 2)), aS K (a 1) 601 (va_up S pl (some n)), aI K (a 2) 9616 (va_up (sn_clr L (16 * pl) i 0) (16 * pl + i) 0), aL K (a 3) 9616 (va_up (sn_clr N (16 * pl) i 0) (16 * pl + i) 0), aI K (a 4) 600 rl] H := hP
              have hD : va_D A [ce0 a rc1 tp1 (uc + (n + 2)), aS K (a 1) 601 (va_up S pl (some n)), aI K (a 2) 9616 (va_up (sn_clr L (16 * pl) i 0) (16 * pl + i) 0), aL K (a 3) 9616 (va_up (sn_clr N (16 * pl) i 0) (16 * pl + i) 0), aI K (a 4) 600 rl] := hD
              refine lv_iinc (k := 3) (v := nI (i + 1)) (lv' := [(3, .int (nI (i + 1))), (0, .ref (a 0)), (1, .int (nI n)), (2, .int (nI pl))]) hx hb d_St_take_72 hl rfl (sn_inc _) (by decide) rfl (fun ls hl => ?_)
              refine lv_goto (tgt := 57) hx hb d_St_take_75 (by decide) ?_
              have hP : va_P D classes [ce0 a rc1 tp1 (uc + (n + 2)), aS K (a 1) 601 (va_up S pl (some n)), aI K (a 2) 9616 (sn_clr L (16 * pl) (i + 1) 0), aL K (a 3) 9616 (sn_clr N (16 * pl) (i + 1) 0), aI K (a 4) 600 rl] H := by rw [← sn_clr_s, ← sn_clr_s]; exact hP
              have hD : va_D A [ce0 a rc1 tp1 (uc + (n + 2)), aS K (a 1) 601 (va_up S pl (some n)), aI K (a 2) 9616 (sn_clr L (16 * pl) (i + 1) 0), aL K (a 3) 9616 (sn_clr N (16 * pl) (i + 1) 0), aI K (a 4) 600 rl] := by rw [← sn_clr_s, ← sn_clr_s]; exact hD
              have hl := lv_sub (l' := [(0, .ref (a 0)), (1, .int (nI n)), (2, .int (nI pl)), (3, .int (nI (i + 1)))]) hl [1, 2, 3, 0] rfl
              exact ih (i + 1) _ _ _ (by omega) (by omega) hl hP hD hS
        have hP : va_P D classes [ce0 a rc1 tp1 (uc + (n + 2)), aS K (a 1) 601 (va_up S pl (some n)), aI K (a 2) 9616 (sn_clr L (16 * pl) 0 0), aL K (a 3) 9616 (sn_clr N (16 * pl) 0 0), aI K (a 4) 600 rl] H := by rw [sn_clr_0, sn_clr_0]; exact hP
        have hD : va_D A [ce0 a rc1 tp1 (uc + (n + 2)), aS K (a 1) 601 (va_up S pl (some n)), aI K (a 2) 9616 (sn_clr L (16 * pl) 0 0), aL K (a 3) 9616 (sn_clr N (16 * pl) 0 0), aI K (a 4) 600 rl] := by rw [sn_clr_0, sn_clr_0]; exact hD
        have hl := lv_sub (l' := [(0, .ref (a 0)), (1, .int (nI n)), (2, .int (nI pl)), (3, .int (nI 0))]) hl [2, 3, 1, 0] rfl
        exact loop0 _ 0 _ _ _ (Nat.lt_succ_self _) (by omega) hl hP hD hS
      · exact absurd ⟨h0, h6, hf⟩ h4
    · omega
set_option maxHeartbeats 4000000 in
set_option maxRecDepth 100000 in
theorem c_St_release (l : Launch) (D : va_G) (K : Nat → ClassId) (a : Nat → Nat) (S : Nat → Option Nat) (rl : Nat → Nat) (rc : Nat) (tp : Nat) (uc : Nat) (p : Nat) (h0 : 0 < p) (h6 : p ≤ 600) (hrc : rc < 600) (hu : sn_sz S p + 2 ≤ uc) (hSz : ∀ q n, S q = some n → n ≤ 16) : Met l y_St_release w_St_release ({ frames := 1, cells := 0, slots := 0, locals := 21 }) (va_Pc [.ref (a 0), .int (nI p)] (sn_BW D K [ce0 a rc tp uc, aS K (a 1) 601 S, aI K (a 4) 600 rl])) (sn_Q D [ce0 a rc tp uc, aS K (a 1) 601 S, aI K (a 4) 600 rl] [ce0 a (rc + 1) tp (uc - (sn_sz S p + 2)), aS K (a 1) 601 (va_up S p none), aI K (a 4) 600 (va_up rl rc p)] none) 0 0 (sn_A [ce0 a rc tp uc, aS K (a 1) 601 S, aI K (a 4) 600 rl]) := by
  refine sn_met (own := R_St) (by decide +kernel) rfl rfl (Nat.le_of_ble_eq_true rfl) ?_
  intro P9 E9 s9 m9 args below M9 c9 ls Q hQ hx hb hml hrt hlk hts hown hnm hl hB
  obtain ⟨⟨hP, hK, hN⟩, hD⟩ := hB
  have hl : lv_has ls 2 [(0, .ref (a 0)), (1, .int (nI p))] := hl
  have hD := sn_DA hD
  have hS : va_S (sn_A [ce0 a rc tp uc, aS K (a 1) 601 S, aI K (a 4) 600 rl]) s9.heap s9.heap [] := va_S.rf
  generalize hAe : sn_A [ce0 a rc tp uc, aS K (a 1) 601 S, aI K (a 4) 600 rl] = A at hD hS
  refine lv_aload_n hx hb d_St_release_0 rfl (lv_at hl 0 rfl) ?_
  refine lv_iload_n hx hb d_St_release_1 rfl (lv_at hl 1 rfl) ?_
  refine sn_rd (st1 := [.int (zb (decide (0 < p ∧ p ≤ 600)))]) (va_runV (As := [.int (nI p)]) (rest := []) ⟨hx, hb, hml, hown, hts⟩ (c_St_isTuplePlace l D K a p (by omega)) ⟨callB_of 1 hts (tw_in cm_St_isTuplePlace) rfl rfl rfl (hts _ gn_St) (hts _ tw_246) hd_St_isTuplePlace ⟨Nat.le_of_ble_eq_true rfl, Nat.le_of_ble_eq_true rfl⟩, hts _ gi_St_isTuplePlace, hts _ gs_St_isTuplePlace⟩ (sn_preV hK hN hP 0 rfl rfl [] rfl) rfl rfl hl.1 rfl (lv_room (Nat.le_of_ble_eq_true rfl)) d_St_release_2 ⟨Nat.zero_le _, Nat.zero_le _⟩) rfl ?_
  refine sn_ifz_eq (tgt := 64) hx hb d_St_release_5 (by decide) (fun h1 => ?_) (fun h1 => ?_)
  · exact absurd ⟨h0, h6⟩ h1
  · refine lv_aload_n hx hb d_St_release_8 rfl (lv_at hl 0 rfl) ?_
    refine va_get (D := D) (ci := 0) (v := .int (nI rc)) (C := R_St) (T := F_St) (N := 7) hx hb hts in_St hown hK hP 0 rfl rfl 4 (by decide) (hts _ tw_40) (fun _ h9 => h9) rfl d_St_release_9 ?_
    refine lv_aload_n hx hb d_St_release_12 rfl (lv_at hl 0 rfl) ?_
    refine va_get (D := D) (ci := 0) (v := .ref (a 4)) (C := R_St) (T := F_St) (N := 7) hx hb hts in_St hown hK hP 0 rfl rfl 3 (by decide) (hts _ tw_39) (fun _ h9 => h9) rfl d_St_release_13 ?_
    refine va_alen (v := nI 600) hx hb hK hP 2 0 rfl rfl rfl d_St_release_16 ?_
    refine sn_icmp_ge (by omega) (by omega) (tgt := 64) hx hb d_St_release_17 (by decide) (fun h2 => ?_) (fun h2 => ?_)
    · omega
    · refine lv_aload_n hx hb d_St_release_20 rfl (lv_at hl 0 rfl) ?_
      refine lv_dup hx hb d_St_release_21 rfl ?_
      refine va_get (D := D) (ci := 0) (v := .int (nI uc)) (C := R_St) (T := F_St) (N := 7) hx hb hts in_St hown hK hP 0 rfl rfl 6 (by decide) (hts _ tw_42) (fun _ h9 => h9) rfl d_St_release_22 ?_
      refine lv_aload_n hx hb d_St_release_25 rfl (lv_at hl 0 rfl) ?_
      refine lv_iload_n hx hb d_St_release_26 rfl (lv_at hl 1 rfl) ?_
      refine sn_rd (st1 := [.int (nI (sn_sz S p)), .int (nI uc), .ref (a 0)]) (va_runV (As := [.int (nI p)]) (rest := [.int (nI uc), .ref (a 0)]) ⟨hx, hb, hml, hown, hts⟩ (c_St_valuesOf l D K a S rc tp uc p (by omega) (hSz)) ⟨callB_of 1 hts (tw_in cm_St_valuesOf) rfl rfl rfl (hts _ gn_St) (hts _ tw_251) hd_St_valuesOf ⟨Nat.le_of_ble_eq_true rfl, Nat.le_of_ble_eq_true rfl⟩, hts _ gi_St_valuesOf, hts _ gs_St_valuesOf⟩ (sn_preV hK hN hP 0 rfl rfl [0, 1] rfl) rfl rfl hl.1 rfl (lv_room (Nat.le_of_ble_eq_true rfl)) d_St_release_27 ⟨Nat.zero_le _, Nat.zero_le _⟩) rfl ?_
      refine sn_rd (st1 := [.int (nI (sn_sz S p + 2)), .int (nI uc), .ref (a 0)]) (va_runS (As := [.int (nI (sn_sz S p))]) (rest := [.int (nI uc), .ref (a 0)]) ⟨hx, hb, hml, hown, hts⟩ (c_St_cellsFor l D K (sn_sz S p)) ⟨callB_of 1 hts (tw_in cm_St_cellsFor) rfl rfl rfl (hts _ gn_St) (hts _ tw_252) hd_St_cellsFor ⟨Nat.le_of_ble_eq_true rfl, Nat.le_of_ble_eq_true rfl⟩, hts _ gt_St_cellsFor⟩ (sn_preS hK hN hP [] rfl) rfl rfl hl.1 rfl (lv_room (Nat.le_of_ble_eq_true rfl)) d_St_release_30 ⟨Nat.zero_le _, Nat.zero_le _⟩) rfl ?_
      refine lv_isub hx hb d_St_release_33 ?_
      refine sn_topi (pk_sub (by omega)) ?_
      refine va_put (D := D) (ci := 0) (v := .int (nI (uc - (sn_sz S p + 2)))) (ty := .int) (C := R_St) (T := F_St) (N := 7) hx hb hts in_St t_St t_St_ok n_St hown hK hP hD hS 0 rfl rfl 6 (by decide) (hts _ tw_42) (fun _ h9 => h9) rfl (by decide +kernel) rfl rfl (Nat.le_of_ble_eq_true rfl) d_St_release_34 (fun H locs hP hD hS => ?_)
      have hP : va_P D classes [ce0 a rc tp (uc - (sn_sz S p + 2)), aS K (a 1) 601 S, aI K (a 4) 600 rl] H := hP
      have hD : va_D A [ce0 a rc tp (uc - (sn_sz S p + 2)), aS K (a 1) 601 S, aI K (a 4) 600 rl] := hD
      refine lv_aload_n hx hb d_St_release_37 rfl (lv_at hl 0 rfl) ?_
      refine va_get (D := D) (ci := 0) (v := .ref (a 1)) (C := R_St) (T := F_St) (N := 7) hx hb hts in_St hown hK hP 0 rfl rfl 0 (by decide) (hts _ tw_36) (fun _ h9 => h9) rfl d_St_release_38 ?_
      refine lv_iload_n hx hb d_St_release_41 rfl (lv_at hl 1 rfl) ?_
      refine lv_iconst (v := (-1)) hx hb d_St_release_42 (by decide) ?_
      refine sn_iast sn_i S p none hx hb hK hP hD hS 1 rfl (by omega) (by decide) d_St_release_43 (fun H locs hP hD hS => ?_)
      have hP : va_P D classes [ce0 a rc tp (uc - (sn_sz S p + 2)), aS K (a 1) 601 (va_up S p none), aI K (a 4) 600 rl] H := hP
      have hD : va_D A [ce0 a rc tp (uc - (sn_sz S p + 2)), aS K (a 1) 601 (va_up S p none), aI K (a 4) 600 rl] := hD
      refine lv_aload_n hx hb d_St_release_44 rfl (lv_at hl 0 rfl) ?_
      refine va_get (D := D) (ci := 0) (v := .ref (a 4)) (C := R_St) (T := F_St) (N := 7) hx hb hts in_St hown hK hP 0 rfl rfl 3 (by decide) (hts _ tw_39) (fun _ h9 => h9) rfl d_St_release_45 ?_
      refine lv_aload_n hx hb d_St_release_48 rfl (lv_at hl 0 rfl) ?_
      refine va_get (D := D) (ci := 0) (v := .int (nI rc)) (C := R_St) (T := F_St) (N := 7) hx hb hts in_St hown hK hP 0 rfl rfl 4 (by decide) (hts _ tw_40) (fun _ h9 => h9) rfl d_St_release_49 ?_
      refine lv_iload_n hx hb d_St_release_52 rfl (lv_at hl 1 rfl) ?_
      refine sn_iast nI rl rc p hx hb hK hP hD hS 2 rfl (by omega) (by decide) d_St_release_53 (fun H locs hP hD hS => ?_)
      have hP : va_P D classes [ce0 a rc tp (uc - (sn_sz S p + 2)), aS K (a 1) 601 (va_up S p none), aI K (a 4) 600 (va_up rl rc p)] H := hP
      have hD : va_D A [ce0 a rc tp (uc - (sn_sz S p + 2)), aS K (a 1) 601 (va_up S p none), aI K (a 4) 600 (va_up rl rc p)] := hD
      refine lv_aload_n hx hb d_St_release_54 rfl (lv_at hl 0 rfl) ?_
      refine lv_dup hx hb d_St_release_55 rfl ?_
      refine va_get (D := D) (ci := 0) (v := .int (nI rc)) (C := R_St) (T := F_St) (N := 7) hx hb hts in_St hown hK hP 0 rfl rfl 4 (by decide) (hts _ tw_40) (fun _ h9 => h9) rfl d_St_release_56 ?_
      refine lv_iconst (v := nI 1) hx hb d_St_release_59 (by decide) ?_
      refine lv_iadd hx hb d_St_release_60 ?_
      refine sn_topi (nI_add _ _) ?_
      refine va_put (D := D) (ci := 0) (v := .int (nI (rc + 1))) (ty := .int) (C := R_St) (T := F_St) (N := 7) hx hb hts in_St t_St t_St_ok n_St hown hK hP hD hS 0 rfl rfl 4 (by decide) (hts _ tw_40) (fun _ h9 => h9) rfl (by decide +kernel) rfl rfl (Nat.le_of_ble_eq_true rfl) d_St_release_61 (fun H locs hP hD hS => ?_)
      have hP : va_P D classes [ce0 a (rc + 1) tp (uc - (sn_sz S p + 2)), aS K (a 1) 601 (va_up S p none), aI K (a 4) 600 (va_up rl rc p)] H := hP
      have hD : va_D A [ce0 a (rc + 1) tp (uc - (sn_sz S p + 2)), aS K (a 1) 601 (va_up S p none), aI K (a 4) 600 (va_up rl rc p)] := hD
      subst hAe
      exact sx_wv hQ hx hb hrt hlk hP hS d_St_release_64
end
section
set_option maxHeartbeats 4000000 in
set_option maxRecDepth 100000 in
theorem c_Ar_fill (l : Launch) (D : va_G) (K : Nat → ClassId) (α : Type) (g : α → Int32) (f : Nat → α) (v : α) (x : Nat) (n : Nat) (hn : n < 2 ^ 31) : Met l y_Ar_fill w_Ar_fill ({ frames := 0, cells := 0, slots := 0, locals := 0 }) (va_Pc [.ref x, .int (g v)] (sn_BW D K [aG K g x n f])) (sn_Q D [aG K g x n f] [aG K g x n (fun _ => v)] none) 0 0 (sn_A [aG K g x n f]) := by
  refine sn_met (own := R_Ar) (by decide +kernel) rfl rfl (Nat.le_of_ble_eq_true rfl) ?_
  intro P9 E9 s9 m9 args below M9 c9 ls Q hQ hx hb hml hrt hlk hts hown hnm hl hB
  obtain ⟨⟨hP, hK, hN⟩, hD⟩ := hB
  have hl : lv_has ls 4 [(0, .ref x), (1, .int (g v))] := hl
  have hD := sn_DA hD
  have hS : va_S (sn_A [aG K g x n f]) s9.heap s9.heap [] := va_S.rf
  generalize hAe : sn_A [aG K g x n f] = A at hD hS
  refine lv_iconst (v := nI 0) hx hb d_Ar_fill_0 (by decide) ?_
  refine lv_istore_n (lv' := [(2, .int (nI 0)), (0, .ref x), (1, .int (g v))]) hx hb d_Ar_fill_1 rfl hl (by decide) rfl (fun ls hl => ?_)
  refine lv_aload_n hx hb d_Ar_fill_2 rfl (lv_at hl 1 rfl) ?_
  refine va_alen (v := nI n) hx hb hK hP 0 0 rfl rfl rfl d_Ar_fill_3 ?_
  refine lv_istore_n (lv' := [(3, .int (nI n)), (2, .int (nI 0)), (0, .ref x), (1, .int (g v))]) hx hb d_Ar_fill_4 rfl hl (by decide) rfl (fun ls hl => ?_)
  have loop0 : ∀ (nn : Nat) (i : Nat) (ls : Array Slot) (H : Heap) (locs : List Loc), n - i < nn → i ≤ n → lv_has ls 4 [(0, .ref x), (1, .int (g v)), (2, .int (nI i)), (3, .int (nI n))] → va_P D classes [aG K g x n (sn_clr f 0 i v)] H → va_D A [aG K g x n (sn_clr f 0 i v)] → va_S A s9.heap H locs → W P9 l E9 ({ frames := 0, cells := 0, slots := 0, locals := 0 }) s9 m9 args below M9 c9 H locs 0 0 Q (F0 m9 5 ls []) := by
    intro nn
    induction nn with
    | zero => intro i ls H locs hn; exact absurd hn (Nat.not_lt_zero _)
    | succ nn ih =>
      intro i ls H locs hmu hi hl hP hD hS
      refine lv_iload_n hx hb d_Ar_fill_5 rfl (lv_at hl 2 rfl) ?_
      refine lv_iload_n hx hb d_Ar_fill_6 rfl (lv_at hl 3 rfl) ?_
      refine sn_icmp_ge (by omega) (by omega) (tgt := 20) hx hb d_Ar_fill_7 (by decide) (fun h1 => ?_) (fun h1 => ?_)
      · obtain ⟨hP, hD⟩ := sn_reG (g := fun _ => v) hP hD 0 rfl (fun j hj => by unfold sn_clr; rw [if_pos (by omega)])
        have hP : va_P D classes [aG K g x n (fun _ => v)] H := hP
        have hD : va_D A [aG K g x n (fun _ => v)] := hD
        subst hAe
        exact sx_wv hQ hx hb hrt hlk hP hS d_Ar_fill_20
      · refine lv_aload_n hx hb d_Ar_fill_10 rfl (lv_at hl 0 rfl) ?_
        refine lv_iload_n hx hb d_Ar_fill_11 rfl (lv_at hl 2 rfl) ?_
        refine lv_iload_n hx hb d_Ar_fill_12 rfl (lv_at hl 1 rfl) ?_
        refine sn_iast g (sn_clr f 0 i v) i v hx hb hK hP hD hS 0 rfl (by omega) (by omega) d_Ar_fill_13 (fun H locs hP hD hS => ?_)
        have hP : va_P D classes [aG K g x n (va_up (sn_clr f 0 i v) i v)] H := hP
        have hD : va_D A [aG K g x n (va_up (sn_clr f 0 i v) i v)] := hD
        refine lv_iinc (k := 2) (v := nI (i + 1)) (lv' := [(2, .int (nI (i + 1))), (0, .ref x), (1, .int (g v)), (3, .int (nI n))]) hx hb d_Ar_fill_14 hl rfl (sn_inc _) (by decide) rfl (fun ls hl => ?_)
        refine lv_goto (tgt := 5) hx hb d_Ar_fill_17 (by decide) ?_
        have hP : va_P D classes [aG K g x n (sn_clr f 0 (i + 1) v)] H := by rw [← sn_clr_s0]; exact hP
        have hD : va_D A [aG K g x n (sn_clr f 0 (i + 1) v)] := by rw [← sn_clr_s0]; exact hD
        have hl := lv_sub (l' := [(0, .ref x), (1, .int (g v)), (2, .int (nI (i + 1))), (3, .int (nI n))]) hl [1, 2, 0, 3] rfl
        exact ih (i + 1) _ _ _ (by omega) (by omega) hl hP hD hS
  have hP : va_P D classes [aG K g x n (sn_clr f 0 0 v)] s9.heap := by rw [sn_clr_0]; exact hP
  have hD : va_D A [aG K g x n (sn_clr f 0 0 v)] := by rw [sn_clr_0]; exact hD
  have hl := lv_sub (l' := [(0, .ref x), (1, .int (g v)), (2, .int (nI 0)), (3, .int (nI n))]) hl [2, 3, 1, 0] rfl
  exact loop0 _ 0 _ _ _ (Nat.lt_succ_self _) (by omega) hl hP hD hS
set_option maxHeartbeats 4000000 in
set_option maxRecDepth 100000 in
theorem c_Ma_isDone (l : Launch) (D : va_G) (K : Nat → ClassId) (a : Nat → Nat) (o : Nat) (c : Nat) (w : Nat) (wc : Nat) (hw : wc ≤ 600) : Met l y_Ma_isDone w_Ma_isDone ({ frames := 0, cells := 0, slots := 0, locals := 0 }) (va_Pc [.ref o] (sn_B D K [cm0 a o c w wc])) (sn_QR (some (.int (zb (decide (wc = 0)))))) 0 0 (fun _ => False) := by
  refine sn_met (own := R_Ma) (by decide +kernel) rfl rfl (Nat.le_of_ble_eq_true rfl) ?_
  intro P9 E9 s9 m9 args below M9 c9 ls Q hQ hx hb hml hrt hlk hts hown hnm hl hB
  obtain ⟨hP, hK, hN⟩ := hB
  have hl : lv_has ls 1 [(0, .ref o)] := hl
  refine lv_aload_n hx hb d_Ma_isDone_0 rfl (lv_at hl 0 rfl) ?_
  refine va_get (D := D) (ci := 1) (v := .int (nI wc)) (C := R_Ma) (T := F_Ma) (N := 4) hx hb hts in_Ma hown hK hP 0 rfl rfl 3 (by decide) (hts _ tw_75) (fun _ h9 => h9) rfl d_Ma_isDone_1 ?_
  refine sn_if_ne (by omega) (tgt := 11) hx hb d_Ma_isDone_4 (by decide) (fun h1 => ?_) (fun h1 => ?_)
  · refine lv_iconst (v := nI 0) hx hb d_Ma_isDone_11 (by decide) ?_
    exact sx_rz hQ hx hb hrt hlk (zb_no (by omega)) d_Ma_isDone_12
  · refine lv_iconst (v := nI 1) hx hb d_Ma_isDone_7 (by decide) ?_
    refine lv_goto (tgt := 12) hx hb d_Ma_isDone_8 (by decide) ?_
    exact sx_rz hQ hx hb hrt hlk (zb_yes (h1)) d_Ma_isDone_12
set_option maxHeartbeats 4000000 in
set_option maxRecDepth 100000 in
theorem c_Ma_isWhite (l : Launch) (D : va_G) (K : Nat → ClassId) (a : Nat → Nat) (o : Nat) (c : Nat) (w : Nat) (C : Nat → Nat) (wc : Nat) (rc : Nat) (tp : Nat) (uc : Nat) (p : Nat) (hC : ∀ q, C q ≤ 2) (hp : p < 2 ^ 31) : Met l y_Ma_isWhite w_Ma_isWhite ({ frames := 1, cells := 0, slots := 0, locals := 21 }) (va_Pc [.ref o, .int (nI p)] (sn_B D K [ce0 a rc tp uc, cm0 a o c w wc, aI K c 601 C])) (sn_QR (some (.int (zb (decide (0 < p ∧ p ≤ 600 ∧ C p = 0)))))) 0 0 (fun _ => False) := by
  refine sn_met (own := R_Ma) (by decide +kernel) rfl rfl (Nat.le_of_ble_eq_true rfl) ?_
  intro P9 E9 s9 m9 args below M9 c9 ls Q hQ hx hb hml hrt hlk hts hown hnm hl hB
  obtain ⟨hP, hK, hN⟩ := hB
  have hl : lv_has ls 2 [(0, .ref o), (1, .int (nI p))] := hl
  have hCp := hC p
  refine lv_aload_n hx hb d_Ma_isWhite_0 rfl (lv_at hl 0 rfl) ?_
  refine va_get (D := D) (ci := 1) (v := .ref (a 0)) (C := R_Ma) (T := F_Ma) (N := 4) hx hb hts in_Ma hown hK hP 1 rfl rfl 0 (by decide) (hts _ tw_72) (fun _ h9 => h9) rfl d_Ma_isWhite_1 ?_
  refine lv_iload_n hx hb d_Ma_isWhite_4 rfl (lv_at hl 1 rfl) ?_
  refine sn_rd (st1 := [.int (zb (decide (0 < p ∧ p ≤ 600)))]) (va_runV (As := [.int (nI p)]) (rest := []) ⟨hx, hb, hml, hown, hts⟩ (c_St_isTuplePlace l D K a p (by omega)) ⟨callB_of 1 hts (tw_in cm_St_isTuplePlace) rfl rfl rfl (hts _ gn_St) (hts _ tw_211) hd_St_isTuplePlace ⟨Nat.le_of_ble_eq_true rfl, Nat.le_of_ble_eq_true rfl⟩, hts _ gi_St_isTuplePlace, hts _ gs_St_isTuplePlace⟩ (sn_preV hK hN hP 0 rfl rfl [] rfl) rfl rfl hl.1 rfl (lv_room (Nat.le_of_ble_eq_true rfl)) d_Ma_isWhite_5 ⟨Nat.zero_le _, Nat.zero_le _⟩) rfl ?_
  refine sn_ifz_eq (tgt := 24) hx hb d_Ma_isWhite_8 (by decide) (fun h1 => ?_) (fun h1 => ?_)
  · refine lv_iconst (v := nI 0) hx hb d_Ma_isWhite_24 (by decide) ?_
    exact sx_rz hQ hx hb hrt hlk (zb_no (by first | exact fun h9 => h1 ⟨h9.1, h9.2.1⟩ | omega)) d_Ma_isWhite_25
  · refine lv_aload_n hx hb d_Ma_isWhite_11 rfl (lv_at hl 0 rfl) ?_
    refine va_get (D := D) (ci := 1) (v := .ref c) (C := R_Ma) (T := F_Ma) (N := 4) hx hb hts in_Ma hown hK hP 1 rfl rfl 1 (by decide) (hts _ tw_73) (fun _ h9 => h9) rfl d_Ma_isWhite_12 ?_
    refine lv_iload_n hx hb d_Ma_isWhite_15 rfl (lv_at hl 1 rfl) ?_
    refine sn_iald nI C p hx hb hK hP 2 rfl (by omega) (by decide) d_Ma_isWhite_16 ?_
    refine sn_if_ne (by omega) (tgt := 24) hx hb d_Ma_isWhite_17 (by decide) (fun h2 => ?_) (fun h2 => ?_)
    · refine lv_iconst (v := nI 0) hx hb d_Ma_isWhite_24 (by decide) ?_
      exact sx_rz hQ hx hb hrt hlk (zb_no (by first | exact fun h9 => h1 ⟨h9.1, h9.2.1⟩ | omega)) d_Ma_isWhite_25
    · refine lv_iconst (v := nI 1) hx hb d_Ma_isWhite_20 (by decide) ?_
      refine lv_goto (tgt := 25) hx hb d_Ma_isWhite_21 (by decide) ?_
      exact sx_rz hQ hx hb hrt hlk (zb_yes (⟨h1.1, h1.2, h2⟩)) d_Ma_isWhite_25
set_option maxHeartbeats 4000000 in
set_option maxRecDepth 100000 in
theorem c_Ma_isGrey (l : Launch) (D : va_G) (K : Nat → ClassId) (a : Nat → Nat) (o : Nat) (c : Nat) (w : Nat) (C : Nat → Nat) (wc : Nat) (rc : Nat) (tp : Nat) (uc : Nat) (p : Nat) (hC : ∀ q, C q ≤ 2) (hp : p < 2 ^ 31) : Met l y_Ma_isGrey w_Ma_isGrey ({ frames := 1, cells := 0, slots := 0, locals := 21 }) (va_Pc [.ref o, .int (nI p)] (sn_B D K [ce0 a rc tp uc, cm0 a o c w wc, aI K c 601 C])) (sn_QR (some (.int (zb (decide (0 < p ∧ p ≤ 600 ∧ C p = 1)))))) 0 0 (fun _ => False) := by
  refine sn_met (own := R_Ma) (by decide +kernel) rfl rfl (Nat.le_of_ble_eq_true rfl) ?_
  intro P9 E9 s9 m9 args below M9 c9 ls Q hQ hx hb hml hrt hlk hts hown hnm hl hB
  obtain ⟨hP, hK, hN⟩ := hB
  have hl : lv_has ls 2 [(0, .ref o), (1, .int (nI p))] := hl
  have hCp := hC p
  refine lv_aload_n hx hb d_Ma_isGrey_0 rfl (lv_at hl 0 rfl) ?_
  refine va_get (D := D) (ci := 1) (v := .ref (a 0)) (C := R_Ma) (T := F_Ma) (N := 4) hx hb hts in_Ma hown hK hP 1 rfl rfl 0 (by decide) (hts _ tw_72) (fun _ h9 => h9) rfl d_Ma_isGrey_1 ?_
  refine lv_iload_n hx hb d_Ma_isGrey_4 rfl (lv_at hl 1 rfl) ?_
  refine sn_rd (st1 := [.int (zb (decide (0 < p ∧ p ≤ 600)))]) (va_runV (As := [.int (nI p)]) (rest := []) ⟨hx, hb, hml, hown, hts⟩ (c_St_isTuplePlace l D K a p (by omega)) ⟨callB_of 1 hts (tw_in cm_St_isTuplePlace) rfl rfl rfl (hts _ gn_St) (hts _ tw_211) hd_St_isTuplePlace ⟨Nat.le_of_ble_eq_true rfl, Nat.le_of_ble_eq_true rfl⟩, hts _ gi_St_isTuplePlace, hts _ gs_St_isTuplePlace⟩ (sn_preV hK hN hP 0 rfl rfl [] rfl) rfl rfl hl.1 rfl (lv_room (Nat.le_of_ble_eq_true rfl)) d_Ma_isGrey_5 ⟨Nat.zero_le _, Nat.zero_le _⟩) rfl ?_
  refine sn_ifz_eq (tgt := 25) hx hb d_Ma_isGrey_8 (by decide) (fun h1 => ?_) (fun h1 => ?_)
  · refine lv_iconst (v := nI 0) hx hb d_Ma_isGrey_25 (by decide) ?_
    exact sx_rz hQ hx hb hrt hlk (zb_no (by first | exact fun h9 => h1 ⟨h9.1, h9.2.1⟩ | omega)) d_Ma_isGrey_26
  · refine lv_aload_n hx hb d_Ma_isGrey_11 rfl (lv_at hl 0 rfl) ?_
    refine va_get (D := D) (ci := 1) (v := .ref c) (C := R_Ma) (T := F_Ma) (N := 4) hx hb hts in_Ma hown hK hP 1 rfl rfl 1 (by decide) (hts _ tw_73) (fun _ h9 => h9) rfl d_Ma_isGrey_12 ?_
    refine lv_iload_n hx hb d_Ma_isGrey_15 rfl (lv_at hl 1 rfl) ?_
    refine sn_iald nI C p hx hb hK hP 2 rfl (by omega) (by decide) d_Ma_isGrey_16 ?_
    refine lv_iconst (v := nI 1) hx hb d_Ma_isGrey_17 (by decide) ?_
    refine sn_icmp_ne (by omega) (by omega) (tgt := 25) hx hb d_Ma_isGrey_18 (by decide) (fun h2 => ?_) (fun h2 => ?_)
    · refine lv_iconst (v := nI 0) hx hb d_Ma_isGrey_25 (by decide) ?_
      exact sx_rz hQ hx hb hrt hlk (zb_no (by first | exact fun h9 => h1 ⟨h9.1, h9.2.1⟩ | omega)) d_Ma_isGrey_26
    · refine lv_iconst (v := nI 1) hx hb d_Ma_isGrey_21 (by decide) ?_
      refine lv_goto (tgt := 26) hx hb d_Ma_isGrey_22 (by decide) ?_
      exact sx_rz hQ hx hb hrt hlk (zb_yes (⟨h1.1, h1.2, h2⟩)) d_Ma_isGrey_26
set_option maxHeartbeats 4000000 in
set_option maxRecDepth 100000 in
theorem c_Ma_isBlack (l : Launch) (D : va_G) (K : Nat → ClassId) (a : Nat → Nat) (o : Nat) (c : Nat) (w : Nat) (C : Nat → Nat) (wc : Nat) (rc : Nat) (tp : Nat) (uc : Nat) (p : Nat) (hC : ∀ q, C q ≤ 2) (hp : p < 2 ^ 31) : Met l y_Ma_isBlack w_Ma_isBlack ({ frames := 1, cells := 0, slots := 0, locals := 21 }) (va_Pc [.ref o, .int (nI p)] (sn_B D K [ce0 a rc tp uc, cm0 a o c w wc, aI K c 601 C])) (sn_QR (some (.int (zb (decide (0 < p ∧ p ≤ 600 ∧ C p = 2)))))) 0 0 (fun _ => False) := by
  refine sn_met (own := R_Ma) (by decide +kernel) rfl rfl (Nat.le_of_ble_eq_true rfl) ?_
  intro P9 E9 s9 m9 args below M9 c9 ls Q hQ hx hb hml hrt hlk hts hown hnm hl hB
  obtain ⟨hP, hK, hN⟩ := hB
  have hl : lv_has ls 2 [(0, .ref o), (1, .int (nI p))] := hl
  have hCp := hC p
  refine lv_aload_n hx hb d_Ma_isBlack_0 rfl (lv_at hl 0 rfl) ?_
  refine va_get (D := D) (ci := 1) (v := .ref (a 0)) (C := R_Ma) (T := F_Ma) (N := 4) hx hb hts in_Ma hown hK hP 1 rfl rfl 0 (by decide) (hts _ tw_72) (fun _ h9 => h9) rfl d_Ma_isBlack_1 ?_
  refine lv_iload_n hx hb d_Ma_isBlack_4 rfl (lv_at hl 1 rfl) ?_
  refine sn_rd (st1 := [.int (zb (decide (0 < p ∧ p ≤ 600)))]) (va_runV (As := [.int (nI p)]) (rest := []) ⟨hx, hb, hml, hown, hts⟩ (c_St_isTuplePlace l D K a p (by omega)) ⟨callB_of 1 hts (tw_in cm_St_isTuplePlace) rfl rfl rfl (hts _ gn_St) (hts _ tw_211) hd_St_isTuplePlace ⟨Nat.le_of_ble_eq_true rfl, Nat.le_of_ble_eq_true rfl⟩, hts _ gi_St_isTuplePlace, hts _ gs_St_isTuplePlace⟩ (sn_preV hK hN hP 0 rfl rfl [] rfl) rfl rfl hl.1 rfl (lv_room (Nat.le_of_ble_eq_true rfl)) d_Ma_isBlack_5 ⟨Nat.zero_le _, Nat.zero_le _⟩) rfl ?_
  refine sn_ifz_eq (tgt := 25) hx hb d_Ma_isBlack_8 (by decide) (fun h1 => ?_) (fun h1 => ?_)
  · refine lv_iconst (v := nI 0) hx hb d_Ma_isBlack_25 (by decide) ?_
    exact sx_rz hQ hx hb hrt hlk (zb_no (by first | exact fun h9 => h1 ⟨h9.1, h9.2.1⟩ | omega)) d_Ma_isBlack_26
  · refine lv_aload_n hx hb d_Ma_isBlack_11 rfl (lv_at hl 0 rfl) ?_
    refine va_get (D := D) (ci := 1) (v := .ref c) (C := R_Ma) (T := F_Ma) (N := 4) hx hb hts in_Ma hown hK hP 1 rfl rfl 1 (by decide) (hts _ tw_73) (fun _ h9 => h9) rfl d_Ma_isBlack_12 ?_
    refine lv_iload_n hx hb d_Ma_isBlack_15 rfl (lv_at hl 1 rfl) ?_
    refine sn_iald nI C p hx hb hK hP 2 rfl (by omega) (by decide) d_Ma_isBlack_16 ?_
    refine lv_iconst (v := nI 2) hx hb d_Ma_isBlack_17 (by decide) ?_
    refine sn_icmp_ne (by omega) (by omega) (tgt := 25) hx hb d_Ma_isBlack_18 (by decide) (fun h2 => ?_) (fun h2 => ?_)
    · refine lv_iconst (v := nI 0) hx hb d_Ma_isBlack_25 (by decide) ?_
      exact sx_rz hQ hx hb hrt hlk (zb_no (by first | exact fun h9 => h1 ⟨h9.1, h9.2.1⟩ | omega)) d_Ma_isBlack_26
    · refine lv_iconst (v := nI 1) hx hb d_Ma_isBlack_21 (by decide) ?_
      refine lv_goto (tgt := 26) hx hb d_Ma_isBlack_22 (by decide) ?_
      exact sx_rz hQ hx hb hrt hlk (zb_yes (⟨h1.1, h1.2, h2⟩)) d_Ma_isBlack_26
set_option maxHeartbeats 4000000 in
set_option maxRecDepth 100000 in
theorem c_Ma_whiten (l : Launch) (D : va_G) (K : Nat → ClassId) (a : Nat → Nat) (o : Nat) (c : Nat) (w : Nat) (C : Nat → Nat) (wc : Nat) (rc : Nat) (tp : Nat) (uc : Nat) (p : Nat) (h0 : 0 < p) (h6 : p ≤ 600) : Met l y_Ma_whiten w_Ma_whiten ({ frames := 1, cells := 0, slots := 0, locals := 21 }) (va_Pc [.ref o, .int (nI p)] (sn_BW D K [ce0 a rc tp uc, cm0 a o c w wc, aI K c 601 C])) (sn_Q D [ce0 a rc tp uc, cm0 a o c w wc, aI K c 601 C] [ce0 a rc tp uc, cm0 a o c w wc, aI K c 601 (va_up C p 0)] none) 0 0 (sn_A [ce0 a rc tp uc, cm0 a o c w wc, aI K c 601 C]) := by
  refine sn_met (own := R_Ma) (by decide +kernel) rfl rfl (Nat.le_of_ble_eq_true rfl) ?_
  intro P9 E9 s9 m9 args below M9 c9 ls Q hQ hx hb hml hrt hlk hts hown hnm hl hB
  obtain ⟨⟨hP, hK, hN⟩, hD⟩ := hB
  have hl : lv_has ls 2 [(0, .ref o), (1, .int (nI p))] := hl
  have hD := sn_DA hD
  have hS : va_S (sn_A [ce0 a rc tp uc, cm0 a o c w wc, aI K c 601 C]) s9.heap s9.heap [] := va_S.rf
  generalize hAe : sn_A [ce0 a rc tp uc, cm0 a o c w wc, aI K c 601 C] = A at hD hS
  refine lv_aload_n hx hb d_Ma_whiten_0 rfl (lv_at hl 0 rfl) ?_
  refine va_get (D := D) (ci := 1) (v := .ref (a 0)) (C := R_Ma) (T := F_Ma) (N := 4) hx hb hts in_Ma hown hK hP 1 rfl rfl 0 (by decide) (hts _ tw_72) (fun _ h9 => h9) rfl d_Ma_whiten_1 ?_
  refine lv_iload_n hx hb d_Ma_whiten_4 rfl (lv_at hl 1 rfl) ?_
  refine sn_rd (st1 := [.int (zb (decide (0 < p ∧ p ≤ 600)))]) (va_runV (As := [.int (nI p)]) (rest := []) ⟨hx, hb, hml, hown, hts⟩ (c_St_isTuplePlace l D K a p (by omega)) ⟨callB_of 1 hts (tw_in cm_St_isTuplePlace) rfl rfl rfl (hts _ gn_St) (hts _ tw_211) hd_St_isTuplePlace ⟨Nat.le_of_ble_eq_true rfl, Nat.le_of_ble_eq_true rfl⟩, hts _ gi_St_isTuplePlace, hts _ gs_St_isTuplePlace⟩ (sn_preV hK hN hP 0 rfl rfl [] rfl) rfl rfl hl.1 rfl (lv_room (Nat.le_of_ble_eq_true rfl)) d_Ma_whiten_5 ⟨Nat.zero_le _, Nat.zero_le _⟩) rfl ?_
  refine sn_ifz_eq (tgt := 18) hx hb d_Ma_whiten_8 (by decide) (fun h1 => ?_) (fun h1 => ?_)
  · exact absurd ⟨h0, h6⟩ h1
  · refine lv_aload_n hx hb d_Ma_whiten_11 rfl (lv_at hl 0 rfl) ?_
    refine va_get (D := D) (ci := 1) (v := .ref c) (C := R_Ma) (T := F_Ma) (N := 4) hx hb hts in_Ma hown hK hP 1 rfl rfl 1 (by decide) (hts _ tw_73) (fun _ h9 => h9) rfl d_Ma_whiten_12 ?_
    refine lv_iload_n hx hb d_Ma_whiten_15 rfl (lv_at hl 1 rfl) ?_
    refine lv_iconst (v := nI 0) hx hb d_Ma_whiten_16 (by decide) ?_
    refine sn_iast nI C p 0 hx hb hK hP hD hS 2 rfl (by omega) (by decide) d_Ma_whiten_17 (fun H locs hP hD hS => ?_)
    have hP : va_P D classes [ce0 a rc tp uc, cm0 a o c w wc, aI K c 601 (va_up C p 0)] H := hP
    have hD : va_D A [ce0 a rc tp uc, cm0 a o c w wc, aI K c 601 (va_up C p 0)] := hD
    subst hAe
    exact sx_wv hQ hx hb hrt hlk hP hS d_Ma_whiten_18
set_option maxHeartbeats 4000000 in
set_option maxRecDepth 100000 in
theorem c_Ma_blacken (l : Launch) (D : va_G) (K : Nat → ClassId) (a : Nat → Nat) (o : Nat) (c : Nat) (w : Nat) (C : Nat → Nat) (wc : Nat) (rc : Nat) (tp : Nat) (uc : Nat) (p : Nat) (h0 : 0 < p) (h6 : p ≤ 600) : Met l y_Ma_blacken w_Ma_blacken ({ frames := 1, cells := 0, slots := 0, locals := 21 }) (va_Pc [.ref o, .int (nI p)] (sn_BW D K [ce0 a rc tp uc, cm0 a o c w wc, aI K c 601 C])) (sn_Q D [ce0 a rc tp uc, cm0 a o c w wc, aI K c 601 C] [ce0 a rc tp uc, cm0 a o c w wc, aI K c 601 (va_up C p 2)] none) 0 0 (sn_A [ce0 a rc tp uc, cm0 a o c w wc, aI K c 601 C]) := by
  refine sn_met (own := R_Ma) (by decide +kernel) rfl rfl (Nat.le_of_ble_eq_true rfl) ?_
  intro P9 E9 s9 m9 args below M9 c9 ls Q hQ hx hb hml hrt hlk hts hown hnm hl hB
  obtain ⟨⟨hP, hK, hN⟩, hD⟩ := hB
  have hl : lv_has ls 2 [(0, .ref o), (1, .int (nI p))] := hl
  have hD := sn_DA hD
  have hS : va_S (sn_A [ce0 a rc tp uc, cm0 a o c w wc, aI K c 601 C]) s9.heap s9.heap [] := va_S.rf
  generalize hAe : sn_A [ce0 a rc tp uc, cm0 a o c w wc, aI K c 601 C] = A at hD hS
  refine lv_aload_n hx hb d_Ma_blacken_0 rfl (lv_at hl 0 rfl) ?_
  refine va_get (D := D) (ci := 1) (v := .ref (a 0)) (C := R_Ma) (T := F_Ma) (N := 4) hx hb hts in_Ma hown hK hP 1 rfl rfl 0 (by decide) (hts _ tw_72) (fun _ h9 => h9) rfl d_Ma_blacken_1 ?_
  refine lv_iload_n hx hb d_Ma_blacken_4 rfl (lv_at hl 1 rfl) ?_
  refine sn_rd (st1 := [.int (zb (decide (0 < p ∧ p ≤ 600)))]) (va_runV (As := [.int (nI p)]) (rest := []) ⟨hx, hb, hml, hown, hts⟩ (c_St_isTuplePlace l D K a p (by omega)) ⟨callB_of 1 hts (tw_in cm_St_isTuplePlace) rfl rfl rfl (hts _ gn_St) (hts _ tw_211) hd_St_isTuplePlace ⟨Nat.le_of_ble_eq_true rfl, Nat.le_of_ble_eq_true rfl⟩, hts _ gi_St_isTuplePlace, hts _ gs_St_isTuplePlace⟩ (sn_preV hK hN hP 0 rfl rfl [] rfl) rfl rfl hl.1 rfl (lv_room (Nat.le_of_ble_eq_true rfl)) d_Ma_blacken_5 ⟨Nat.zero_le _, Nat.zero_le _⟩) rfl ?_
  refine sn_ifz_eq (tgt := 18) hx hb d_Ma_blacken_8 (by decide) (fun h1 => ?_) (fun h1 => ?_)
  · exact absurd ⟨h0, h6⟩ h1
  · refine lv_aload_n hx hb d_Ma_blacken_11 rfl (lv_at hl 0 rfl) ?_
    refine va_get (D := D) (ci := 1) (v := .ref c) (C := R_Ma) (T := F_Ma) (N := 4) hx hb hts in_Ma hown hK hP 1 rfl rfl 1 (by decide) (hts _ tw_73) (fun _ h9 => h9) rfl d_Ma_blacken_12 ?_
    refine lv_iload_n hx hb d_Ma_blacken_15 rfl (lv_at hl 1 rfl) ?_
    refine lv_iconst (v := nI 2) hx hb d_Ma_blacken_16 (by decide) ?_
    refine sn_iast nI C p 2 hx hb hK hP hD hS 2 rfl (by omega) (by decide) d_Ma_blacken_17 (fun H locs hP hD hS => ?_)
    have hP : va_P D classes [ce0 a rc tp uc, cm0 a o c w wc, aI K c 601 (va_up C p 2)] H := hP
    have hD : va_D A [ce0 a rc tp uc, cm0 a o c w wc, aI K c 601 (va_up C p 2)] := hD
    subst hAe
    exact sx_wv hQ hx hb hrt hlk hP hS d_Ma_blacken_18
set_option maxHeartbeats 4000000 in
set_option maxRecDepth 100000 in
theorem c_Ma_shade (l : Launch) (D : va_G) (K : Nat → ClassId) (a : Nat → Nat) (o : Nat) (c : Nat) (w : Nat) (X : SnM) (rc : Nat) (tp : Nat) (uc : Nat) (p : Nat) (hX : (∀ q, X.1 q ≤ 2) ∧ X.2.2 ≤ 600) (hp : p < 2 ^ 31) : Met l y_Ma_shade w_Ma_shade ({ frames := 1, cells := 0, slots := 0, locals := 21 }) (va_Pc [.ref o, .int (nI p)] (sn_BW D K [ce0 a rc tp uc, cm0 a o c w X.2.2, aI K c 601 X.1, aI K w 600 X.2.1])) (sn_Q D [ce0 a rc tp uc, cm0 a o c w X.2.2, aI K c 601 X.1, aI K w 600 X.2.1] [ce0 a rc tp uc, cm0 a o c w ((sn_shade 600 X p).2.2), aI K c 601 ((sn_shade 600 X p).1), aI K w 600 ((sn_shade 600 X p).2.1)] none) 0 0 (sn_A [ce0 a rc tp uc, cm0 a o c w X.2.2, aI K c 601 X.1, aI K w 600 X.2.1]) := by
  refine sn_met (own := R_Ma) (by decide +kernel) rfl rfl (Nat.le_of_ble_eq_true rfl) ?_
  intro P9 E9 s9 m9 args below M9 c9 ls Q hQ hx hb hml hrt hlk hts hown hnm hl hB
  obtain ⟨⟨hP, hK, hN⟩, hD⟩ := hB
  have hl : lv_has ls 2 [(0, .ref o), (1, .int (nI p))] := hl
  have hD := sn_DA hD
  have hS : va_S (sn_A [ce0 a rc tp uc, cm0 a o c w X.2.2, aI K c 601 X.1, aI K w 600 X.2.1]) s9.heap s9.heap [] := va_S.rf
  generalize hAe : sn_A [ce0 a rc tp uc, cm0 a o c w X.2.2, aI K c 601 X.1, aI K w 600 X.2.1] = A at hD hS
  obtain ⟨hC, hw⟩ := hX
  have hCp := hC p
  refine lv_aload_n hx hb d_Ma_shade_0 rfl (lv_at hl 0 rfl) ?_
  refine va_get (D := D) (ci := 1) (v := .ref (a 0)) (C := R_Ma) (T := F_Ma) (N := 4) hx hb hts in_Ma hown hK hP 1 rfl rfl 0 (by decide) (hts _ tw_72) (fun _ h9 => h9) rfl d_Ma_shade_1 ?_
  refine lv_iload_n hx hb d_Ma_shade_4 rfl (lv_at hl 1 rfl) ?_
  refine sn_rd (st1 := [.int (zb (decide (0 < p ∧ p ≤ 600)))]) (va_runV (As := [.int (nI p)]) (rest := []) ⟨hx, hb, hml, hown, hts⟩ (c_St_isTuplePlace l D K a p (by omega)) ⟨callB_of 1 hts (tw_in cm_St_isTuplePlace) rfl rfl rfl (hts _ gn_St) (hts _ tw_211) hd_St_isTuplePlace ⟨Nat.le_of_ble_eq_true rfl, Nat.le_of_ble_eq_true rfl⟩, hts _ gi_St_isTuplePlace, hts _ gs_St_isTuplePlace⟩ (sn_preV hK hN hP 0 rfl rfl [] rfl) rfl rfl hl.1 rfl (lv_room (Nat.le_of_ble_eq_true rfl)) d_Ma_shade_5 ⟨Nat.zero_le _, Nat.zero_le _⟩) rfl ?_
  refine sn_ifz_eq (tgt := 59) hx hb d_Ma_shade_8 (by decide) (fun h1 => ?_) (fun h1 => ?_)
  · rw [show sn_shade 600 X p = X from if_neg (by omega)] at hQ
    subst hAe
    exact sx_wv hQ hx hb hrt hlk hP hS d_Ma_shade_59
  · refine lv_aload_n hx hb d_Ma_shade_11 rfl (lv_at hl 0 rfl) ?_
    refine va_get (D := D) (ci := 1) (v := .ref c) (C := R_Ma) (T := F_Ma) (N := 4) hx hb hts in_Ma hown hK hP 1 rfl rfl 1 (by decide) (hts _ tw_73) (fun _ h9 => h9) rfl d_Ma_shade_12 ?_
    refine lv_iload_n hx hb d_Ma_shade_15 rfl (lv_at hl 1 rfl) ?_
    refine sn_iald nI X.1 p hx hb hK hP 2 rfl (by omega) (by decide) d_Ma_shade_16 ?_
    refine sn_if_ne (by omega) (tgt := 59) hx hb d_Ma_shade_17 (by decide) (fun h2 => ?_) (fun h2 => ?_)
    · rw [show sn_shade 600 X p = X from if_neg (by omega)] at hQ
      subst hAe
      exact sx_wv hQ hx hb hrt hlk hP hS d_Ma_shade_59
    · refine lv_aload_n hx hb d_Ma_shade_20 rfl (lv_at hl 0 rfl) ?_
      refine va_get (D := D) (ci := 1) (v := .int (nI X.2.2)) (C := R_Ma) (T := F_Ma) (N := 4) hx hb hts in_Ma hown hK hP 1 rfl rfl 3 (by decide) (hts _ tw_75) (fun _ h9 => h9) rfl d_Ma_shade_21 ?_
      refine lv_aload_n hx hb d_Ma_shade_24 rfl (lv_at hl 0 rfl) ?_
      refine va_get (D := D) (ci := 1) (v := .ref w) (C := R_Ma) (T := F_Ma) (N := 4) hx hb hts in_Ma hown hK hP 1 rfl rfl 2 (by decide) (hts _ tw_74) (fun _ h9 => h9) rfl d_Ma_shade_25 ?_
      refine va_alen (v := nI 600) hx hb hK hP 3 0 rfl rfl rfl d_Ma_shade_28 ?_
      refine sn_icmp_ge (by omega) (by omega) (tgt := 59) hx hb d_Ma_shade_29 (by decide) (fun h3 => ?_) (fun h3 => ?_)
      · rw [show sn_shade 600 X p = X from if_neg (by omega)] at hQ
        subst hAe
        exact sx_wv hQ hx hb hrt hlk hP hS d_Ma_shade_59
      · refine lv_aload_n hx hb d_Ma_shade_32 rfl (lv_at hl 0 rfl) ?_
        refine va_get (D := D) (ci := 1) (v := .ref c) (C := R_Ma) (T := F_Ma) (N := 4) hx hb hts in_Ma hown hK hP 1 rfl rfl 1 (by decide) (hts _ tw_73) (fun _ h9 => h9) rfl d_Ma_shade_33 ?_
        refine lv_iload_n hx hb d_Ma_shade_36 rfl (lv_at hl 1 rfl) ?_
        refine lv_iconst (v := nI 1) hx hb d_Ma_shade_37 (by decide) ?_
        refine sn_iast nI X.1 p 1 hx hb hK hP hD hS 2 rfl (by omega) (by decide) d_Ma_shade_38 (fun H locs hP hD hS => ?_)
        have hP : va_P D classes [ce0 a rc tp uc, cm0 a o c w X.2.2, aI K c 601 (va_up X.1 p 1), aI K w 600 X.2.1] H := hP
        have hD : va_D A [ce0 a rc tp uc, cm0 a o c w X.2.2, aI K c 601 (va_up X.1 p 1), aI K w 600 X.2.1] := hD
        refine lv_aload_n hx hb d_Ma_shade_39 rfl (lv_at hl 0 rfl) ?_
        refine va_get (D := D) (ci := 1) (v := .ref w) (C := R_Ma) (T := F_Ma) (N := 4) hx hb hts in_Ma hown hK hP 1 rfl rfl 2 (by decide) (hts _ tw_74) (fun _ h9 => h9) rfl d_Ma_shade_40 ?_
        refine lv_aload_n hx hb d_Ma_shade_43 rfl (lv_at hl 0 rfl) ?_
        refine va_get (D := D) (ci := 1) (v := .int (nI X.2.2)) (C := R_Ma) (T := F_Ma) (N := 4) hx hb hts in_Ma hown hK hP 1 rfl rfl 3 (by decide) (hts _ tw_75) (fun _ h9 => h9) rfl d_Ma_shade_44 ?_
        refine lv_iload_n hx hb d_Ma_shade_47 rfl (lv_at hl 1 rfl) ?_
        refine sn_iast nI X.2.1 X.2.2 p hx hb hK hP hD hS 3 rfl (by omega) (by decide) d_Ma_shade_48 (fun H locs hP hD hS => ?_)
        have hP : va_P D classes [ce0 a rc tp uc, cm0 a o c w X.2.2, aI K c 601 (va_up X.1 p 1), aI K w 600 (va_up X.2.1 X.2.2 p)] H := hP
        have hD : va_D A [ce0 a rc tp uc, cm0 a o c w X.2.2, aI K c 601 (va_up X.1 p 1), aI K w 600 (va_up X.2.1 X.2.2 p)] := hD
        refine lv_aload_n hx hb d_Ma_shade_49 rfl (lv_at hl 0 rfl) ?_
        refine lv_dup hx hb d_Ma_shade_50 rfl ?_
        refine va_get (D := D) (ci := 1) (v := .int (nI X.2.2)) (C := R_Ma) (T := F_Ma) (N := 4) hx hb hts in_Ma hown hK hP 1 rfl rfl 3 (by decide) (hts _ tw_75) (fun _ h9 => h9) rfl d_Ma_shade_51 ?_
        refine lv_iconst (v := nI 1) hx hb d_Ma_shade_54 (by decide) ?_
        refine lv_iadd hx hb d_Ma_shade_55 ?_
        refine sn_topi (nI_add _ _) ?_
        refine va_put (D := D) (ci := 1) (v := .int (nI (X.2.2 + 1))) (ty := .int) (C := R_Ma) (T := F_Ma) (N := 4) hx hb hts in_Ma t_Ma t_Ma_ok n_Ma hown hK hP hD hS 1 rfl rfl 3 (by decide) (hts _ tw_75) (fun _ h9 => h9) rfl (by decide +kernel) rfl rfl (Nat.le_of_ble_eq_true rfl) d_Ma_shade_56 (fun H locs hP hD hS => ?_)
        have hP : va_P D classes [ce0 a rc tp uc, cm0 a o c w (X.2.2 + 1), aI K c 601 (va_up X.1 p 1), aI K w 600 (va_up X.2.1 X.2.2 p)] H := hP
        have hD : va_D A [ce0 a rc tp uc, cm0 a o c w (X.2.2 + 1), aI K c 601 (va_up X.1 p 1), aI K w 600 (va_up X.2.1 X.2.2 p)] := hD
        rw [show sn_shade 600 X p = (va_up X.1 p 1, va_up X.2.1 X.2.2 p, X.2.2 + 1) from if_pos ⟨h1.1, h1.2, h2, h3⟩] at hQ
        subst hAe
        exact sx_wv hQ hx hb hrt hlk hP hS d_Ma_shade_59
set_option maxHeartbeats 4000000 in
set_option maxRecDepth 100000 in
theorem c_Ma_shadeValuesOf (l : Launch) (D : va_G) (K : Nat → ClassId) (a : Nat → Nat) (S : Nat → Option Nat) (L : Nat → Nat) (rc : Nat) (tp : Nat) (uc : Nat) (o : Nat) (c : Nat) (w : Nat) (X : SnM) (p : Nat) (hX : (∀ q, X.1 q ≤ 2) ∧ X.2.2 ≤ 600) (hp : p ≤ 600) (hSz : ∀ q n, S q = some n → n ≤ 16) (hL : ∀ s, L s ≤ 600) : Met l y_Ma_shadeValuesOf w_Ma_shadeValuesOf ({ frames := 2, cells := 0, slots := 0, locals := 42 }) (va_Pc [.ref o, .int (nI p)] (sn_BW D K [ce0 a rc tp uc, aS K (a 1) 601 S, aI K (a 2) 9616 L, cm0 a o c w X.2.2, aI K c 601 X.1, aI K w 600 X.2.1])) (sn_Q D [ce0 a rc tp uc, aS K (a 1) 601 S, aI K (a 2) 9616 L, cm0 a o c w X.2.2, aI K c 601 X.1, aI K w 600 X.2.1] [ce0 a rc tp uc, aS K (a 1) 601 S, aI K (a 2) 9616 L, cm0 a o c w ((sn_shv 600 L (16 * p) (sn_sz S p) X).2.2), aI K c 601 ((sn_shv 600 L (16 * p) (sn_sz S p) X).1), aI K w 600 ((sn_shv 600 L (16 * p) (sn_sz S p) X).2.1)] none) 0 0 (sn_A [ce0 a rc tp uc, aS K (a 1) 601 S, aI K (a 2) 9616 L, cm0 a o c w X.2.2, aI K c 601 X.1, aI K w 600 X.2.1]) := by
  refine sn_met (own := R_Ma) (by decide +kernel) rfl rfl (Nat.le_of_ble_eq_true rfl) ?_
  intro P9 E9 s9 m9 args below M9 c9 ls Q hQ hx hb hml hrt hlk hts hown hnm hl hB
  obtain ⟨⟨hP, hK, hN⟩, hD⟩ := hB
  have hl : lv_has ls 4 [(0, .ref o), (1, .int (nI p))] := hl
  have hD := sn_DA hD
  have hS : va_S (sn_A [ce0 a rc tp uc, aS K (a 1) 601 S, aI K (a 2) 9616 L, cm0 a o c w X.2.2, aI K c 601 X.1, aI K w 600 X.2.1]) s9.heap s9.heap [] := va_S.rf
  generalize hAe : sn_A [ce0 a rc tp uc, aS K (a 1) 601 S, aI K (a 2) 9616 L, cm0 a o c w X.2.2, aI K c 601 X.1, aI K w 600 X.2.1] = A at hD hS
  refine lv_aload_n hx hb d_Ma_shadeValuesOf_0 rfl (lv_at hl 0 rfl) ?_
  refine va_get (D := D) (ci := 1) (v := .ref (a 0)) (C := R_Ma) (T := F_Ma) (N := 4) hx hb hts in_Ma hown hK hP 3 rfl rfl 0 (by decide) (hts _ tw_72) (fun _ h9 => h9) rfl d_Ma_shadeValuesOf_1 ?_
  refine lv_iload_n hx hb d_Ma_shadeValuesOf_4 rfl (lv_at hl 1 rfl) ?_
  refine sn_rd (st1 := [.int (nI (sn_sz S p))]) (va_runV (As := [.int (nI p)]) (rest := []) ⟨hx, hb, hml, hown, hts⟩ (c_St_valuesOf l D K a S rc tp uc p (by omega) (hSz)) ⟨callB_of 1 hts (tw_in cm_St_valuesOf) rfl rfl rfl (hts _ gn_St) (hts _ tw_196) hd_St_valuesOf ⟨Nat.le_of_ble_eq_true rfl, Nat.le_of_ble_eq_true rfl⟩, hts _ gi_St_valuesOf, hts _ gs_St_valuesOf⟩ (sn_preV hK hN hP 0 rfl rfl [0, 1] rfl) rfl rfl hl.1 rfl (lv_room (Nat.le_of_ble_eq_true rfl)) d_Ma_shadeValuesOf_5 ⟨Nat.zero_le _, Nat.zero_le _⟩) rfl ?_
  refine lv_istore_n (lv' := [(2, .int (nI (sn_sz S p))), (0, .ref o), (1, .int (nI p))]) hx hb d_Ma_shadeValuesOf_8 rfl hl (by decide) rfl (fun ls hl => ?_)
  refine lv_iconst (v := nI 0) hx hb d_Ma_shadeValuesOf_9 (by decide) ?_
  refine lv_istore_n (lv' := [(3, .int (nI 0)), (2, .int (nI (sn_sz S p))), (0, .ref o), (1, .int (nI p))]) hx hb d_Ma_shadeValuesOf_10 rfl hl (by decide) rfl (fun ls hl => ?_)
  have hz : sn_sz S p ≤ 16 := sn_sz_le hSz p
  have loop0 : ∀ (nn : Nat) (i : Nat) (ls : Array Slot) (H : Heap) (locs : List Loc), sn_sz S p - i < nn → i ≤ sn_sz S p → lv_has ls 4 [(0, .ref o), (1, .int (nI p)), (2, .int (nI (sn_sz S p))), (3, .int (nI i))] → va_P D classes [ce0 a rc tp uc, aS K (a 1) 601 S, aI K (a 2) 9616 L, cm0 a o c w ((sn_shv 600 L (16 * p) i X).2.2), aI K c 601 ((sn_shv 600 L (16 * p) i X).1), aI K w 600 ((sn_shv 600 L (16 * p) i X).2.1)] H → va_D A [ce0 a rc tp uc, aS K (a 1) 601 S, aI K (a 2) 9616 L, cm0 a o c w ((sn_shv 600 L (16 * p) i X).2.2), aI K c 601 ((sn_shv 600 L (16 * p) i X).1), aI K w 600 ((sn_shv 600 L (16 * p) i X).2.1)] → va_S A s9.heap H locs → W P9 l E9 ({ frames := 2, cells := 0, slots := 0, locals := 42 }) s9 m9 args below M9 c9 H locs 0 0 Q (F0 m9 11 ls []) := by
    intro nn
    induction nn with
    | zero => intro i ls H locs hn; exact absurd hn (Nat.not_lt_zero _)
    | succ nn ih =>
      intro i ls H locs hmu hi hl hP hD hS
      have hXi := sn_shv_le hX L (16 * p) i
      refine lv_iload_n hx hb d_Ma_shadeValuesOf_11 rfl (lv_at hl 3 rfl) ?_
      refine lv_iload_n hx hb d_Ma_shadeValuesOf_12 rfl (lv_at hl 2 rfl) ?_
      refine sn_icmp_ge (by omega) (by omega) (tgt := 38) hx hb d_Ma_shadeValuesOf_13 (by decide) (fun h1 => ?_) (fun h1 => ?_)
      · have ei : i = sn_sz S p := by omega
        subst ei
        subst hAe
        exact sx_wv hQ hx hb hrt hlk hP hS d_Ma_shadeValuesOf_38
      · refine lv_aload_n hx hb d_Ma_shadeValuesOf_16 rfl (lv_at hl 0 rfl) ?_
        refine lv_aload_n hx hb d_Ma_shadeValuesOf_17 rfl (lv_at hl 0 rfl) ?_
        refine va_get (D := D) (ci := 1) (v := .ref (a 0)) (C := R_Ma) (T := F_Ma) (N := 4) hx hb hts in_Ma hown hK hP 3 rfl rfl 0 (by decide) (hts _ tw_72) (fun _ h9 => h9) rfl d_Ma_shadeValuesOf_18 ?_
        refine lv_iload_n hx hb d_Ma_shadeValuesOf_21 rfl (lv_at hl 1 rfl) ?_
        refine lv_iload_n hx hb d_Ma_shadeValuesOf_22 rfl (lv_at hl 3 rfl) ?_
        refine sn_rd (st1 := [.int (nI (16 * p + i)), .ref (a 0), .ref o]) (va_runSN (As := [.int (nI p), .int (nI i)]) (rest := [.ref (a 0), .ref o]) ⟨hx, hb, hml, hown, hts⟩ (c_Sh_slotOf l D K p i) ⟨va_cnB 2 hts (tw_in cm_Sh_slotOf) rfl rfl rfl hN.1 (hts _ gn_Sh) hd_Sh_slotOf ⟨Nat.le_of_ble_eq_true rfl, Nat.le_of_ble_eq_true rfl⟩, hts _ gt_Sh_slotOf, trivial⟩ (sn_preS hK hN hP [] rfl) rfl rfl hl.1 rfl (lv_room (Nat.le_of_ble_eq_true rfl)) d_Ma_shadeValuesOf_23 ⟨Nat.zero_le _, Nat.zero_le _⟩) rfl ?_
        refine sn_rd (st1 := [.int (nI (L (16 * p + i))), .ref o]) (va_runV (As := [.int (nI (16 * p + i))]) (rest := [.ref o]) ⟨hx, hb, hml, hown, hts⟩ (c_St_placeAt l D K a L rc tp uc (16 * p + i) (by omega)) ⟨callB_of 1 hts (tw_in cm_St_placeAt) rfl rfl rfl (hts _ gn_St) (hts _ tw_203) hd_St_placeAt ⟨Nat.le_of_ble_eq_true rfl, Nat.le_of_ble_eq_true rfl⟩, hts _ gi_St_placeAt, hts _ gs_St_placeAt⟩ (sn_preV hK hN hP 0 rfl rfl [0, 2] rfl) rfl rfl hl.1 rfl (lv_room (Nat.le_of_ble_eq_true rfl)) d_Ma_shadeValuesOf_26 ⟨Nat.zero_le _, Nat.zero_le _⟩) rfl ?_
        refine sn_wrt (st1 := []) (w1 := [ce0 a rc tp uc, cm0 a o c w ((sn_shade 600 (sn_shv 600 L (16 * p) i X) (L (16 * p + i))).2.2), aI K c 601 ((sn_shade 600 (sn_shv 600 L (16 * p) i X) (L (16 * p + i))).1), aI K w 600 ((sn_shade 600 (sn_shv 600 L (16 * p) i X) (L (16 * p + i))).2.1)]) (va_runV (As := [.int (nI (L (16 * p + i)))]) (rest := []) ⟨hx, hb, hml, hown, hts⟩ (c_Ma_shade l D K a o c w (sn_shv 600 L (16 * p) i X) rc tp uc (L (16 * p + i)) (hXi) (by have := hL (16 * p + i); omega)) ⟨callB_of 1 hts (tw_in cm_Ma_shade) rfl rfl rfl (hts _ gn_Ma) (hts _ tw_207) hd_Ma_shade ⟨Nat.le_of_ble_eq_true rfl, Nat.le_of_ble_eq_true rfl⟩, hts _ gi_Ma_shade, hts _ gs_Ma_shade⟩ (sn_preVW hK hN hP hD 3 rfl rfl [0, 3, 4, 5] rfl rfl) rfl rfl hl.1 rfl (lv_room (Nat.le_of_ble_eq_true rfl)) d_Ma_shadeValuesOf_29 ⟨Nat.zero_le _, Nat.zero_le _⟩) rfl hP hD hS [0, 3, 4, 5] rfl rfl (fun H locs hP hD hS => ?_)
        have hP : va_P D classes [ce0 a rc tp uc, aS K (a 1) 601 S, aI K (a 2) 9616 L, cm0 a o c w ((sn_shade 600 (sn_shv 600 L (16 * p) i X) (L (16 * p + i))).2.2), aI K c 601 ((sn_shade 600 (sn_shv 600 L (16 * p) i X) (L (16 * p + i))).1), aI K w 600 ((sn_shade 600 (sn_shv 600 L (16 * p) i X) (L (16 * p + i))).2.1)] H := hP
        have hD : va_D A [ce0 a rc tp uc, aS K (a 1) 601 S, aI K (a 2) 9616 L, cm0 a o c w ((sn_shade 600 (sn_shv 600 L (16 * p) i X) (L (16 * p + i))).2.2), aI K c 601 ((sn_shade 600 (sn_shv 600 L (16 * p) i X) (L (16 * p + i))).1), aI K w 600 ((sn_shade 600 (sn_shv 600 L (16 * p) i X) (L (16 * p + i))).2.1)] := hD
        refine lv_iinc (k := 3) (v := nI (i + 1)) (lv' := [(3, .int (nI (i + 1))), (0, .ref o), (1, .int (nI p)), (2, .int (nI (sn_sz S p)))]) hx hb d_Ma_shadeValuesOf_32 hl rfl (sn_inc _) (by decide) rfl (fun ls hl => ?_)
        refine lv_goto (tgt := 11) hx hb d_Ma_shadeValuesOf_35 (by decide) ?_
        have hP : va_P D classes [ce0 a rc tp uc, aS K (a 1) 601 S, aI K (a 2) 9616 L, cm0 a o c w ((sn_shv 600 L (16 * p) (i + 1) X).2.2), aI K c 601 ((sn_shv 600 L (16 * p) (i + 1) X).1), aI K w 600 ((sn_shv 600 L (16 * p) (i + 1) X).2.1)] H := hP
        have hD : va_D A [ce0 a rc tp uc, aS K (a 1) 601 S, aI K (a 2) 9616 L, cm0 a o c w ((sn_shv 600 L (16 * p) (i + 1) X).2.2), aI K c 601 ((sn_shv 600 L (16 * p) (i + 1) X).1), aI K w 600 ((sn_shv 600 L (16 * p) (i + 1) X).2.1)] := hD
        have hl := lv_sub (l' := [(0, .ref o), (1, .int (nI p)), (2, .int (nI (sn_sz S p))), (3, .int (nI (i + 1)))]) hl [1, 2, 3, 0] rfl
        exact ih (i + 1) _ _ _ (by omega) (by omega) hl hP hD hS
  have hP : va_P D classes [ce0 a rc tp uc, aS K (a 1) 601 S, aI K (a 2) 9616 L, cm0 a o c w ((sn_shv 600 L (16 * p) 0 X).2.2), aI K c 601 ((sn_shv 600 L (16 * p) 0 X).1), aI K w 600 ((sn_shv 600 L (16 * p) 0 X).2.1)] s9.heap := hP
  have hD : va_D A [ce0 a rc tp uc, aS K (a 1) 601 S, aI K (a 2) 9616 L, cm0 a o c w ((sn_shv 600 L (16 * p) 0 X).2.2), aI K c 601 ((sn_shv 600 L (16 * p) 0 X).1), aI K w 600 ((sn_shv 600 L (16 * p) 0 X).2.1)] := hD
  have hl := lv_sub (l' := [(0, .ref o), (1, .int (nI p)), (2, .int (nI (sn_sz S p))), (3, .int (nI 0))]) hl [2, 3, 1, 0] rfl
  exact loop0 _ 0 _ _ _ (Nat.lt_succ_self _) (by omega) hl hP hD hS
set_option maxHeartbeats 4000000 in
set_option maxRecDepth 100000 in
theorem c_Ma_markOne (l : Launch) (D : va_G) (K : Nat → ClassId) (a : Nat → Nat) (S : Nat → Option Nat) (L : Nat → Nat) (rc : Nat) (tp : Nat) (uc : Nat) (o : Nat) (c : Nat) (w : Nat) (X : SnM) (hX : (∀ q, X.1 q ≤ 2) ∧ X.2.2 ≤ 600) (h0 : 0 < X.2.2) (hp0 : 0 < X.2.1 (X.2.2 - 1)) (hp6 : X.2.1 (X.2.2 - 1) ≤ 600) (hSz : ∀ q n, S q = some n → n ≤ 16) (hL : ∀ s, L s ≤ 600) : Met l y_Ma_markOne w_Ma_markOne ({ frames := 3, cells := 0, slots := 0, locals := 65 }) (va_Pc [.ref o] (sn_BW D K [ce0 a rc tp uc, aS K (a 1) 601 S, aI K (a 2) 9616 L, cm0 a o c w X.2.2, aI K c 601 X.1, aI K w 600 X.2.1])) (sn_Q D [ce0 a rc tp uc, aS K (a 1) 601 S, aI K (a 2) 9616 L, cm0 a o c w X.2.2, aI K c 601 X.1, aI K w 600 X.2.1] [ce0 a rc tp uc, aS K (a 1) 601 S, aI K (a 2) 9616 L, cm0 a o c w ((sn_mark1 600 S L X).2.2), aI K c 601 ((sn_mark1 600 S L X).1), aI K w 600 ((sn_mark1 600 S L X).2.1)] none) 0 0 (sn_A [ce0 a rc tp uc, aS K (a 1) 601 S, aI K (a 2) 9616 L, cm0 a o c w X.2.2, aI K c 601 X.1, aI K w 600 X.2.1]) := by
  refine sn_met (own := R_Ma) (by decide +kernel) rfl rfl (Nat.le_of_ble_eq_true rfl) ?_
  intro P9 E9 s9 m9 args below M9 c9 ls Q hQ hx hb hml hrt hlk hts hown hnm hl hB
  obtain ⟨⟨hP, hK, hN⟩, hD⟩ := hB
  have hl : lv_has ls 2 [(0, .ref o)] := hl
  have hD := sn_DA hD
  have hS : va_S (sn_A [ce0 a rc tp uc, aS K (a 1) 601 S, aI K (a 2) 9616 L, cm0 a o c w X.2.2, aI K c 601 X.1, aI K w 600 X.2.1]) s9.heap s9.heap [] := va_S.rf
  generalize hAe : sn_A [ce0 a rc tp uc, aS K (a 1) 601 S, aI K (a 2) 9616 L, cm0 a o c w X.2.2, aI K c 601 X.1, aI K w 600 X.2.1] = A at hD hS
  obtain ⟨hC, hw⟩ := hX
  refine lv_aload_n hx hb d_Ma_markOne_0 rfl (lv_at hl 0 rfl) ?_
  refine va_get (D := D) (ci := 1) (v := .int (nI X.2.2)) (C := R_Ma) (T := F_Ma) (N := 4) hx hb hts in_Ma hown hK hP 3 rfl rfl 3 (by decide) (hts _ tw_75) (fun _ h9 => h9) rfl d_Ma_markOne_1 ?_
  refine sn_if_le (by omega) (tgt := 37) hx hb d_Ma_markOne_4 (by decide) (fun h1 => ?_) (fun h1 => ?_)
  · omega
  · refine lv_aload_n hx hb d_Ma_markOne_7 rfl (lv_at hl 0 rfl) ?_
    refine lv_dup hx hb d_Ma_markOne_8 rfl ?_
    refine va_get (D := D) (ci := 1) (v := .int (nI X.2.2)) (C := R_Ma) (T := F_Ma) (N := 4) hx hb hts in_Ma hown hK hP 3 rfl rfl 3 (by decide) (hts _ tw_75) (fun _ h9 => h9) rfl d_Ma_markOne_9 ?_
    refine lv_iconst (v := nI 1) hx hb d_Ma_markOne_12 (by decide) ?_
    refine lv_isub hx hb d_Ma_markOne_13 ?_
    refine sn_topi (pk_sub (by omega)) ?_
    refine va_put (D := D) (ci := 1) (v := .int (nI (X.2.2 - 1))) (ty := .int) (C := R_Ma) (T := F_Ma) (N := 4) hx hb hts in_Ma t_Ma t_Ma_ok n_Ma hown hK hP hD hS 3 rfl rfl 3 (by decide) (hts _ tw_75) (fun _ h9 => h9) rfl (by decide +kernel) rfl rfl (Nat.le_of_ble_eq_true rfl) d_Ma_markOne_14 (fun H locs hP hD hS => ?_)
    have hP : va_P D classes [ce0 a rc tp uc, aS K (a 1) 601 S, aI K (a 2) 9616 L, cm0 a o c w (X.2.2 - 1), aI K c 601 X.1, aI K w 600 X.2.1] H := hP
    have hD : va_D A [ce0 a rc tp uc, aS K (a 1) 601 S, aI K (a 2) 9616 L, cm0 a o c w (X.2.2 - 1), aI K c 601 X.1, aI K w 600 X.2.1] := hD
    refine lv_aload_n hx hb d_Ma_markOne_17 rfl (lv_at hl 0 rfl) ?_
    refine va_get (D := D) (ci := 1) (v := .ref w) (C := R_Ma) (T := F_Ma) (N := 4) hx hb hts in_Ma hown hK hP 3 rfl rfl 2 (by decide) (hts _ tw_74) (fun _ h9 => h9) rfl d_Ma_markOne_18 ?_
    refine lv_aload_n hx hb d_Ma_markOne_21 rfl (lv_at hl 0 rfl) ?_
    refine va_get (D := D) (ci := 1) (v := .int (nI (X.2.2 - 1))) (C := R_Ma) (T := F_Ma) (N := 4) hx hb hts in_Ma hown hK hP 3 rfl rfl 3 (by decide) (hts _ tw_75) (fun _ h9 => h9) rfl d_Ma_markOne_22 ?_
    refine sn_iald nI X.2.1 (X.2.2 - 1) hx hb hK hP 5 rfl (by omega) (by decide) d_Ma_markOne_25 ?_
    refine lv_istore_n (lv' := [(1, .int (nI (X.2.1 (X.2.2 - 1)))), (0, .ref o)]) hx hb d_Ma_markOne_26 rfl hl (by decide) rfl (fun ls hl => ?_)
    refine lv_aload_n hx hb d_Ma_markOne_27 rfl (lv_at hl 1 rfl) ?_
    refine lv_iload_n hx hb d_Ma_markOne_28 rfl (lv_at hl 0 rfl) ?_
    refine sn_wrt (st1 := []) (w1 := [ce0 a rc tp uc, cm0 a o c w (X.2.2 - 1), aI K c 601 (va_up X.1 (X.2.1 (X.2.2 - 1)) 2)]) (va_runV (As := [.int (nI (X.2.1 (X.2.2 - 1)))]) (rest := []) ⟨hx, hb, hml, hown, hts⟩ (c_Ma_blacken l D K a o c w X.1 (X.2.2 - 1) rc tp uc (X.2.1 (X.2.2 - 1)) (hp0) (hp6)) ⟨callB_of 1 hts (tw_in cm_Ma_blacken) rfl rfl rfl (hts _ gn_Ma) (hts _ tw_225) hd_Ma_blacken ⟨Nat.le_of_ble_eq_true rfl, Nat.le_of_ble_eq_true rfl⟩, hts _ gi_Ma_blacken, hts _ gs_Ma_blacken⟩ (sn_preVW hK hN hP hD 3 rfl rfl [0, 3, 4] rfl rfl) rfl rfl hl.1 rfl (lv_room (Nat.le_of_ble_eq_true rfl)) d_Ma_markOne_29 ⟨Nat.zero_le _, Nat.zero_le _⟩) rfl hP hD hS [0, 3, 4] rfl rfl (fun H locs hP hD hS => ?_)
    have hP : va_P D classes [ce0 a rc tp uc, aS K (a 1) 601 S, aI K (a 2) 9616 L, cm0 a o c w (X.2.2 - 1), aI K c 601 (va_up X.1 (X.2.1 (X.2.2 - 1)) 2), aI K w 600 X.2.1] H := hP
    have hD : va_D A [ce0 a rc tp uc, aS K (a 1) 601 S, aI K (a 2) 9616 L, cm0 a o c w (X.2.2 - 1), aI K c 601 (va_up X.1 (X.2.1 (X.2.2 - 1)) 2), aI K w 600 X.2.1] := hD
    have hXb : (∀ q, (va_up X.1 (X.2.1 (X.2.2 - 1)) 2, X.2.1, X.2.2 - 1).1 q ≤ 2) ∧ (va_up X.1 (X.2.1 (X.2.2 - 1)) 2, X.2.1, X.2.2 - 1).2.2 ≤ 600 := ⟨fun q => by show va_up X.1 (X.2.1 (X.2.2 - 1)) 2 q ≤ 2; unfold va_up; split; exact Nat.le_refl _; exact hC q, by show X.2.2 - 1 ≤ 600; omega⟩
    have hP : va_P D classes [ce0 a rc tp uc, aS K (a 1) 601 S, aI K (a 2) 9616 L, cm0 a o c w ((va_up X.1 (X.2.1 (X.2.2 - 1)) 2, X.2.1, X.2.2 - 1).2.2), aI K c 601 ((va_up X.1 (X.2.1 (X.2.2 - 1)) 2, X.2.1, X.2.2 - 1).1), aI K w 600 ((va_up X.1 (X.2.1 (X.2.2 - 1)) 2, X.2.1, X.2.2 - 1).2.1)] H := hP
    have hD : va_D A [ce0 a rc tp uc, aS K (a 1) 601 S, aI K (a 2) 9616 L, cm0 a o c w ((va_up X.1 (X.2.1 (X.2.2 - 1)) 2, X.2.1, X.2.2 - 1).2.2), aI K c 601 ((va_up X.1 (X.2.1 (X.2.2 - 1)) 2, X.2.1, X.2.2 - 1).1), aI K w 600 ((va_up X.1 (X.2.1 (X.2.2 - 1)) 2, X.2.1, X.2.2 - 1).2.1)] := hD
    refine lv_aload_n hx hb d_Ma_markOne_32 rfl (lv_at hl 1 rfl) ?_
    refine lv_iload_n hx hb d_Ma_markOne_33 rfl (lv_at hl 0 rfl) ?_
    refine sn_wrt (st1 := []) (w1 := [ce0 a rc tp uc, aS K (a 1) 601 S, aI K (a 2) 9616 L, cm0 a o c w ((sn_shv 600 L (16 * (X.2.1 (X.2.2 - 1))) (sn_sz S (X.2.1 (X.2.2 - 1))) (va_up X.1 (X.2.1 (X.2.2 - 1)) 2, X.2.1, X.2.2 - 1)).2.2), aI K c 601 ((sn_shv 600 L (16 * (X.2.1 (X.2.2 - 1))) (sn_sz S (X.2.1 (X.2.2 - 1))) (va_up X.1 (X.2.1 (X.2.2 - 1)) 2, X.2.1, X.2.2 - 1)).1), aI K w 600 ((sn_shv 600 L (16 * (X.2.1 (X.2.2 - 1))) (sn_sz S (X.2.1 (X.2.2 - 1))) (va_up X.1 (X.2.1 (X.2.2 - 1)) 2, X.2.1, X.2.2 - 1)).2.1)]) (va_runV (As := [.int (nI (X.2.1 (X.2.2 - 1)))]) (rest := []) ⟨hx, hb, hml, hown, hts⟩ (c_Ma_shadeValuesOf l D K a S L rc tp uc o c w (va_up X.1 (X.2.1 (X.2.2 - 1)) 2, X.2.1, X.2.2 - 1) (X.2.1 (X.2.2 - 1)) (hXb) (hp6) (hSz) (hL)) ⟨callB_of 1 hts (tw_in cm_Ma_shadeValuesOf) rfl rfl rfl (hts _ gn_Ma) (hts _ tw_229) hd_Ma_shadeValuesOf ⟨Nat.le_of_ble_eq_true rfl, Nat.le_of_ble_eq_true rfl⟩, hts _ gi_Ma_shadeValuesOf, hts _ gs_Ma_shadeValuesOf⟩ (sn_preVW hK hN hP hD 3 rfl rfl [0, 1, 2, 3, 4, 5] rfl rfl) rfl rfl hl.1 rfl (lv_room (Nat.le_of_ble_eq_true rfl)) d_Ma_markOne_34 ⟨Nat.zero_le _, Nat.zero_le _⟩) rfl hP hD hS [0, 1, 2, 3, 4, 5] rfl rfl (fun H locs hP hD hS => ?_)
    have hP : va_P D classes [ce0 a rc tp uc, aS K (a 1) 601 S, aI K (a 2) 9616 L, cm0 a o c w ((sn_shv 600 L (16 * (X.2.1 (X.2.2 - 1))) (sn_sz S (X.2.1 (X.2.2 - 1))) (va_up X.1 (X.2.1 (X.2.2 - 1)) 2, X.2.1, X.2.2 - 1)).2.2), aI K c 601 ((sn_shv 600 L (16 * (X.2.1 (X.2.2 - 1))) (sn_sz S (X.2.1 (X.2.2 - 1))) (va_up X.1 (X.2.1 (X.2.2 - 1)) 2, X.2.1, X.2.2 - 1)).1), aI K w 600 ((sn_shv 600 L (16 * (X.2.1 (X.2.2 - 1))) (sn_sz S (X.2.1 (X.2.2 - 1))) (va_up X.1 (X.2.1 (X.2.2 - 1)) 2, X.2.1, X.2.2 - 1)).2.1)] H := hP
    have hD : va_D A [ce0 a rc tp uc, aS K (a 1) 601 S, aI K (a 2) 9616 L, cm0 a o c w ((sn_shv 600 L (16 * (X.2.1 (X.2.2 - 1))) (sn_sz S (X.2.1 (X.2.2 - 1))) (va_up X.1 (X.2.1 (X.2.2 - 1)) 2, X.2.1, X.2.2 - 1)).2.2), aI K c 601 ((sn_shv 600 L (16 * (X.2.1 (X.2.2 - 1))) (sn_sz S (X.2.1 (X.2.2 - 1))) (va_up X.1 (X.2.1 (X.2.2 - 1)) 2, X.2.1, X.2.2 - 1)).1), aI K w 600 ((sn_shv 600 L (16 * (X.2.1 (X.2.2 - 1))) (sn_sz S (X.2.1 (X.2.2 - 1))) (va_up X.1 (X.2.1 (X.2.2 - 1)) 2, X.2.1, X.2.2 - 1)).2.1)] := hD
    rw [show sn_mark1 600 S L X = sn_shv 600 L (16 * X.2.1 (X.2.2 - 1)) ((S (X.2.1 (X.2.2 - 1))).getD 0) (sn_black 600 (X.1, X.2.1, X.2.2 - 1) (X.2.1 (X.2.2 - 1))) from if_pos h0, show sn_black 600 (X.1, X.2.1, X.2.2 - 1) (X.2.1 (X.2.2 - 1)) = (va_up X.1 (X.2.1 (X.2.2 - 1)) 2, X.2.1, X.2.2 - 1) from if_pos ⟨hp0, hp6⟩] at hQ
    subst hAe
    exact sx_wv hQ hx hb hrt hlk hP hS d_Ma_markOne_37
set_option maxHeartbeats 4000000 in
set_option maxRecDepth 100000 in
theorem c_Ma_reset (l : Launch) (D : va_G) (K : Nat → ClassId) (a : Nat → Nat) (o : Nat) (c : Nat) (w : Nat) (X : SnM)  : Met l y_Ma_reset w_Ma_reset ({ frames := 1, cells := 0, slots := 0, locals := 23 }) (va_Pc [.ref o] (sn_BW D K [cm0 a o c w X.2.2, aI K c 601 X.1, aI K w 600 X.2.1])) (sn_Q D [cm0 a o c w X.2.2, aI K c 601 X.1, aI K w 600 X.2.1] [cm0 a o c w (((fun _ => 0, X.2.1, 0) : SnM).2.2), aI K c 601 (((fun _ => 0, X.2.1, 0) : SnM).1), aI K w 600 (((fun _ => 0, X.2.1, 0) : SnM).2.1)] none) 0 0 (sn_A [cm0 a o c w X.2.2, aI K c 601 X.1, aI K w 600 X.2.1]) := by
  refine sn_met (own := R_Ma) (by decide +kernel) rfl rfl (Nat.le_of_ble_eq_true rfl) ?_
  intro P9 E9 s9 m9 args below M9 c9 ls Q hQ hx hb hml hrt hlk hts hown hnm hl hB
  obtain ⟨⟨hP, hK, hN⟩, hD⟩ := hB
  have hl : lv_has ls 1 [(0, .ref o)] := hl
  have hD := sn_DA hD
  have hS : va_S (sn_A [cm0 a o c w X.2.2, aI K c 601 X.1, aI K w 600 X.2.1]) s9.heap s9.heap [] := va_S.rf
  generalize hAe : sn_A [cm0 a o c w X.2.2, aI K c 601 X.1, aI K w 600 X.2.1] = A at hD hS
  refine lv_aload_n hx hb d_Ma_reset_0 rfl (lv_at hl 0 rfl) ?_
  refine va_get (D := D) (ci := 1) (v := .ref c) (C := R_Ma) (T := F_Ma) (N := 4) hx hb hts in_Ma hown hK hP 0 rfl rfl 1 (by decide) (hts _ tw_73) (fun _ h9 => h9) rfl d_Ma_reset_1 ?_
  refine lv_iconst (v := nI 0) hx hb d_Ma_reset_4 (by decide) ?_
  refine sn_wrt (st1 := []) (w1 := [aI K c 601 (fun _ => 0)]) (va_runS (As := [.ref c, .int (nI 0)]) (rest := []) ⟨hx, hb, hml, hown, hts⟩ (c_Ar_fill l D K Nat nI X.1 0 c 601 (by decide)) ⟨callB_of 2 hts (tw_in cm_Ar_fill) rfl rfl rfl (hts _ gn_Ar) (hts _ tw_317) hd_Ar_fill ⟨Nat.le_of_ble_eq_true rfl, Nat.le_of_ble_eq_true rfl⟩, hts _ gt_Ar_fill⟩ (sn_preSW hK hN hP hD [1] rfl rfl) rfl rfl hl.1 rfl (lv_room (Nat.le_of_ble_eq_true rfl)) d_Ma_reset_5 ⟨Nat.zero_le _, Nat.zero_le _⟩) rfl hP hD hS [1] rfl rfl (fun H locs hP hD hS => ?_)
  have hP : va_P D classes [cm0 a o c w X.2.2, aI K c 601 (fun _ => 0), aI K w 600 X.2.1] H := hP
  have hD : va_D A [cm0 a o c w X.2.2, aI K c 601 (fun _ => 0), aI K w 600 X.2.1] := hD
  refine lv_aload_n hx hb d_Ma_reset_8 rfl (lv_at hl 0 rfl) ?_
  refine lv_iconst (v := nI 0) hx hb d_Ma_reset_9 (by decide) ?_
  refine va_put (D := D) (ci := 1) (v := .int (nI 0)) (ty := .int) (C := R_Ma) (T := F_Ma) (N := 4) hx hb hts in_Ma t_Ma t_Ma_ok n_Ma hown hK hP hD hS 0 rfl rfl 3 (by decide) (hts _ tw_75) (fun _ h9 => h9) rfl (by decide +kernel) rfl rfl (Nat.le_of_ble_eq_true rfl) d_Ma_reset_10 (fun H locs hP hD hS => ?_)
  have hP : va_P D classes [cm0 a o c w 0, aI K c 601 (fun _ => 0), aI K w 600 X.2.1] H := hP
  have hD : va_D A [cm0 a o c w 0, aI K c 601 (fun _ => 0), aI K w 600 X.2.1] := hD
  subst hAe
  exact sx_wv hQ hx hb hrt hlk hP hS d_Ma_reset_13
set_option maxHeartbeats 4000000 in
set_option maxRecDepth 100000 in
theorem c_Ma_imitate (l : Launch) (D : va_G) (K : Nat → ClassId) (a : Nat → Nat) (o : Nat) (c : Nat) (w : Nat) (X : SnM) (o2 : Nat) (c2 : Nat) (w2 : Nat) (Y : SnM)  : Met l y_Ma_imitate w_Ma_imitate ({ frames := 1, cells := 0, slots := 0, locals := 40 }) (va_Pc [.ref o, .ref o2] (sn_BW D K [cm0 a o c w X.2.2, aI K c 601 X.1, aI K w 600 X.2.1, cm0 a o2 c2 w2 Y.2.2, aI K c2 601 Y.1, aI K w2 600 Y.2.1])) (sn_Q D [cm0 a o c w X.2.2, aI K c 601 X.1, aI K w 600 X.2.1, cm0 a o2 c2 w2 Y.2.2, aI K c2 601 Y.1, aI K w2 600 Y.2.1] [cm0 a o c w Y.2.2, aI K c 601 Y.1, aI K w 600 Y.2.1, cm0 a o2 c2 w2 Y.2.2, aI K c2 601 Y.1, aI K w2 600 Y.2.1] none) 0 0 (sn_A [cm0 a o c w X.2.2, aI K c 601 X.1, aI K w 600 X.2.1, cm0 a o2 c2 w2 Y.2.2, aI K c2 601 Y.1, aI K w2 600 Y.2.1]) := by
  refine sn_met (own := R_Ma) (by decide +kernel) rfl rfl (Nat.le_of_ble_eq_true rfl) ?_
  intro P9 E9 s9 m9 args below M9 c9 ls Q hQ hx hb hml hrt hlk hts hown hnm hl hB
  obtain ⟨⟨hP, hK, hN⟩, hD⟩ := hB
  have hl : lv_has ls 2 [(0, .ref o), (1, .ref o2)] := hl
  have hD := sn_DA hD
  have hS : va_S (sn_A [cm0 a o c w X.2.2, aI K c 601 X.1, aI K w 600 X.2.1, cm0 a o2 c2 w2 Y.2.2, aI K c2 601 Y.1, aI K w2 600 Y.2.1]) s9.heap s9.heap [] := va_S.rf
  generalize hAe : sn_A [cm0 a o c w X.2.2, aI K c 601 X.1, aI K w 600 X.2.1, cm0 a o2 c2 w2 Y.2.2, aI K c2 601 Y.1, aI K w2 600 Y.2.1] = A at hD hS
  refine lv_aload_n hx hb d_Ma_imitate_0 rfl (lv_at hl 1 rfl) ?_
  refine va_get (D := D) (ci := 1) (v := .ref c2) (C := R_Ma) (T := F_Ma) (N := 4) hx hb hts in_Ma hown hK hP 3 rfl rfl 1 (by decide) (hts _ tw_73) (fun _ h9 => h9) rfl d_Ma_imitate_1 ?_
  refine lv_iconst (v := nI 0) hx hb d_Ma_imitate_4 (by decide) ?_
  refine lv_aload_n hx hb d_Ma_imitate_5 rfl (lv_at hl 0 rfl) ?_
  refine va_get (D := D) (ci := 1) (v := .ref c) (C := R_Ma) (T := F_Ma) (N := 4) hx hb hts in_Ma hown hK hP 0 rfl rfl 1 (by decide) (hts _ tw_73) (fun _ h9 => h9) rfl d_Ma_imitate_6 ?_
  refine lv_iconst (v := nI 0) hx hb d_Ma_imitate_9 (by decide) ?_
  refine lv_aload_n hx hb d_Ma_imitate_10 rfl (lv_at hl 0 rfl) ?_
  refine va_get (D := D) (ci := 1) (v := .ref c) (C := R_Ma) (T := F_Ma) (N := 4) hx hb hts in_Ma hown hK hP 0 rfl rfl 1 (by decide) (hts _ tw_73) (fun _ h9 => h9) rfl d_Ma_imitate_11 ?_
  refine va_alen (v := nI 601) hx hb hK hP 1 0 rfl rfl rfl d_Ma_imitate_14 ?_
  refine sn_copy (rest := []) hx hb (hml.trans hl.1.symm) hown (hts _ tw_348) (hts _ tw_350) (hts _ tw_349) (hts _ gn_Sy) hK hP hD hS 4 1 rfl rfl (by decide) (Nat.le_of_ble_eq_true rfl) (Nat.le_of_ble_eq_true rfl) d_Ma_imitate_15 (fun H locs hP hD hS => ?_)
  have hP : va_P D classes [cm0 a o c w X.2.2, aI K c 601 Y.1, aI K w 600 X.2.1, cm0 a o2 c2 w2 Y.2.2, aI K c2 601 Y.1, aI K w2 600 Y.2.1] H := hP
  have hD : va_D A [cm0 a o c w X.2.2, aI K c 601 Y.1, aI K w 600 X.2.1, cm0 a o2 c2 w2 Y.2.2, aI K c2 601 Y.1, aI K w2 600 Y.2.1] := hD
  refine lv_aload_n hx hb d_Ma_imitate_18 rfl (lv_at hl 1 rfl) ?_
  refine va_get (D := D) (ci := 1) (v := .ref w2) (C := R_Ma) (T := F_Ma) (N := 4) hx hb hts in_Ma hown hK hP 3 rfl rfl 2 (by decide) (hts _ tw_74) (fun _ h9 => h9) rfl d_Ma_imitate_19 ?_
  refine lv_iconst (v := nI 0) hx hb d_Ma_imitate_22 (by decide) ?_
  refine lv_aload_n hx hb d_Ma_imitate_23 rfl (lv_at hl 0 rfl) ?_
  refine va_get (D := D) (ci := 1) (v := .ref w) (C := R_Ma) (T := F_Ma) (N := 4) hx hb hts in_Ma hown hK hP 0 rfl rfl 2 (by decide) (hts _ tw_74) (fun _ h9 => h9) rfl d_Ma_imitate_24 ?_
  refine lv_iconst (v := nI 0) hx hb d_Ma_imitate_27 (by decide) ?_
  refine lv_aload_n hx hb d_Ma_imitate_28 rfl (lv_at hl 0 rfl) ?_
  refine va_get (D := D) (ci := 1) (v := .ref w) (C := R_Ma) (T := F_Ma) (N := 4) hx hb hts in_Ma hown hK hP 0 rfl rfl 2 (by decide) (hts _ tw_74) (fun _ h9 => h9) rfl d_Ma_imitate_29 ?_
  refine va_alen (v := nI 600) hx hb hK hP 2 0 rfl rfl rfl d_Ma_imitate_32 ?_
  refine sn_copy (rest := []) hx hb (hml.trans hl.1.symm) hown (hts _ tw_348) (hts _ tw_350) (hts _ tw_349) (hts _ gn_Sy) hK hP hD hS 5 2 rfl rfl (by decide) (Nat.le_of_ble_eq_true rfl) (Nat.le_of_ble_eq_true rfl) d_Ma_imitate_33 (fun H locs hP hD hS => ?_)
  have hP : va_P D classes [cm0 a o c w X.2.2, aI K c 601 Y.1, aI K w 600 Y.2.1, cm0 a o2 c2 w2 Y.2.2, aI K c2 601 Y.1, aI K w2 600 Y.2.1] H := hP
  have hD : va_D A [cm0 a o c w X.2.2, aI K c 601 Y.1, aI K w 600 Y.2.1, cm0 a o2 c2 w2 Y.2.2, aI K c2 601 Y.1, aI K w2 600 Y.2.1] := hD
  refine lv_aload_n hx hb d_Ma_imitate_36 rfl (lv_at hl 0 rfl) ?_
  refine lv_aload_n hx hb d_Ma_imitate_37 rfl (lv_at hl 1 rfl) ?_
  refine va_get (D := D) (ci := 1) (v := .int (nI Y.2.2)) (C := R_Ma) (T := F_Ma) (N := 4) hx hb hts in_Ma hown hK hP 3 rfl rfl 3 (by decide) (hts _ tw_75) (fun _ h9 => h9) rfl d_Ma_imitate_38 ?_
  refine va_put (D := D) (ci := 1) (v := .int (nI Y.2.2)) (ty := .int) (C := R_Ma) (T := F_Ma) (N := 4) hx hb hts in_Ma t_Ma t_Ma_ok n_Ma hown hK hP hD hS 0 rfl rfl 3 (by decide) (hts _ tw_75) (fun _ h9 => h9) rfl (by decide +kernel) rfl rfl (Nat.le_of_ble_eq_true rfl) d_Ma_imitate_41 (fun H locs hP hD hS => ?_)
  have hP : va_P D classes [cm0 a o c w Y.2.2, aI K c 601 Y.1, aI K w 600 Y.2.1, cm0 a o2 c2 w2 Y.2.2, aI K c2 601 Y.1, aI K w2 600 Y.2.1] H := hP
  have hD : va_D A [cm0 a o c w Y.2.2, aI K c 601 Y.1, aI K w 600 Y.2.1, cm0 a o2 c2 w2 Y.2.2, aI K c2 601 Y.1, aI K w2 600 Y.2.1] := hD
  subst hAe
  exact sx_wv hQ hx hb hrt hlk hP hS d_Ma_imitate_44
end
section
set_option maxHeartbeats 4000000 in
set_option maxRecDepth 100000 in
theorem c_Co_phase (l : Launch) (D : va_G) (K : Nat → ClassId) (ad : Nat → Nat) (a : Nat → Nat) (ph : Nat) (cu : Nat)  : Met l y_Co_phase w_Co_phase ({ frames := 0, cells := 0, slots := 0, locals := 0 }) (va_Pc [.ref (a 8)] (sn_B D K [cc0 a ad ph cu])) (sn_QR (some (.ref (ad ph)))) 0 0 (fun _ => False) := by
  refine sn_met (own := R_Co) (by decide +kernel) rfl rfl (Nat.le_of_ble_eq_true rfl) ?_
  intro P9 E9 s9 m9 args below M9 c9 ls Q hQ hx hb hml hrt hlk hts hown hnm hl hB
  obtain ⟨hP, hK, hN⟩ := hB
  have hl : lv_has ls 1 [(0, .ref (a 8))] := hl
  refine lv_aload_n hx hb d_Co_phase_0 rfl (lv_at hl 0 rfl) ?_
  refine va_get (D := D) (ci := 2) (v := .ref (ad ph)) (C := R_Co) (T := F_Co) (N := 4) hx hb hts in_Co hown hK hP 0 rfl rfl 2 (by decide) (hts _ tw_89) (fun _ h9 => h9) rfl d_Co_phase_1 ?_
  exact sx_ra hQ hx hb hrt hlk d_Co_phase_4
set_option maxHeartbeats 4000000 in
set_option maxRecDepth 100000 in
theorem c_Co_marking (l : Launch) (D : va_G) (K : Nat → ClassId) (ad : Nat → Nat) (a : Nat → Nat) (ph : Nat) (cu : Nat)  : Met l y_Co_marking w_Co_marking ({ frames := 0, cells := 0, slots := 0, locals := 0 }) (va_Pc [.ref (a 8)] (sn_B D K [cc0 a ad ph cu])) (sn_QR (some (.ref (a 5)))) 0 0 (fun _ => False) := by
  refine sn_met (own := R_Co) (by decide +kernel) rfl rfl (Nat.le_of_ble_eq_true rfl) ?_
  intro P9 E9 s9 m9 args below M9 c9 ls Q hQ hx hb hml hrt hlk hts hown hnm hl hB
  obtain ⟨hP, hK, hN⟩ := hB
  have hl : lv_has ls 1 [(0, .ref (a 8))] := hl
  refine lv_aload_n hx hb d_Co_marking_0 rfl (lv_at hl 0 rfl) ?_
  refine va_get (D := D) (ci := 2) (v := .ref (a 5)) (C := R_Co) (T := F_Co) (N := 4) hx hb hts in_Co hown hK hP 0 rfl rfl 1 (by decide) (hts _ tw_88) (fun _ h9 => h9) rfl d_Co_marking_1 ?_
  exact sx_ra hQ hx hb hrt hlk d_Co_marking_4
set_option maxHeartbeats 4000000 in
set_option maxRecDepth 100000 in
theorem c_Co_isYetToBeSwept (l : Launch) (D : va_G) (K : Nat → ClassId) (ad : Nat → Nat) (a : Nat → Nat) (ph : Nat) (cu : Nat) (p : Nat) (hph : ph < 3) (hcu : ph = 2 → cu < 2 ^ 31) (hp : p < 2 ^ 31) : Met l y_Co_isYetToBeSwept w_Co_isYetToBeSwept ({ frames := 0, cells := 0, slots := 0, locals := 0 }) (va_Pc [.ref (a 8), .int (nI p)] (sn_BP D K ad [cc0 a ad ph cu])) (sn_QR (some (.int (zb (decide (ph = 2 ∧ cu ≤ p)))))) 0 0 (fun _ => False) := by
  refine sn_met (own := R_Co) (by decide +kernel) rfl rfl (Nat.le_of_ble_eq_true rfl) ?_
  intro P9 E9 s9 m9 args below M9 c9 ls Q hQ hx hb hml hrt hlk hts hown hnm hl hB
  obtain ⟨⟨hP, hK, hN⟩, hE⟩ := hB
  have hl : lv_has ls 2 [(0, .ref (a 8)), (1, .int (nI p))] := hl
  have hS : va_S (fun _ => False) s9.heap s9.heap [] := va_S.rf
  refine lv_aload_n hx hb d_Co_isYetToBeSwept_0 rfl (lv_at hl 0 rfl) ?_
  refine va_get (D := D) (ci := 2) (v := .ref (ad ph)) (C := R_Co) (T := F_Co) (N := 4) hx hb hts in_Co hown hK hP 0 rfl rfl 2 (by decide) (hts _ tw_89) (fun _ h9 => h9) rfl d_Co_isYetToBeSwept_1 ?_
  refine va_gets (C := "SnapshotHeap$Phase") (n := "SWEEPING") (d := "LSnapshotHeap$Phase;") (v := .ref (ad 2)) hx hb (hE.1 2 (by decide)).1 hS hown (hts _ tw_219) (fun _ h9 => h9) d_Co_isYetToBeSwept_4 ?_
  refine lv_acmp_ne (rx := some (ad ph)) (ry := some (ad 2)) (tgt := 22) hx hb d_Co_isYetToBeSwept_7 (by decide) (fun h1 => ?_) (fun h1 => ?_)
  · have h1 : ph ≠ 2 := fun h9 => h1 (by rw [h9])
    refine lv_iconst (v := nI 0) hx hb d_Co_isYetToBeSwept_22 (by decide) ?_
    exact sx_rz hQ hx hb hrt hlk (zb_no (by omega)) d_Co_isYetToBeSwept_23
  · have h1 : ph = 2 := hE.2 _ _ (by show _ < 3; omega) (by show _ < 3; omega) (Option.some.inj h1)
    have hcu := hcu h1
    refine lv_iload_n hx hb d_Co_isYetToBeSwept_10 rfl (lv_at hl 1 rfl) ?_
    refine lv_aload_n hx hb d_Co_isYetToBeSwept_11 rfl (lv_at hl 0 rfl) ?_
    refine va_get (D := D) (ci := 2) (v := .int (nI cu)) (C := R_Co) (T := F_Co) (N := 4) hx hb hts in_Co hown hK hP 0 rfl rfl 3 (by decide) (hts _ tw_90) (fun _ h9 => h9) rfl d_Co_isYetToBeSwept_12 ?_
    refine sn_icmp_lt (by omega) (by omega) (tgt := 22) hx hb d_Co_isYetToBeSwept_15 (by decide) (fun h2 => ?_) (fun h2 => ?_)
    · refine lv_iconst (v := nI 0) hx hb d_Co_isYetToBeSwept_22 (by decide) ?_
      exact sx_rz hQ hx hb hrt hlk (zb_no (by omega)) d_Co_isYetToBeSwept_23
    · refine lv_iconst (v := nI 1) hx hb d_Co_isYetToBeSwept_18 (by decide) ?_
      refine lv_goto (tgt := 23) hx hb d_Co_isYetToBeSwept_19 (by decide) ?_
      exact sx_rz hQ hx hb hrt hlk (zb_yes (⟨h1, h2⟩)) d_Co_isYetToBeSwept_23
set_option maxHeartbeats 4000000 in
set_option maxRecDepth 100000 in
theorem c_Co_begin (l : Launch) (D : va_G) (K : Nat → ClassId) (ad : Nat → Nat) (a : Nat → Nat) (x : SnG) (hX : (∀ q, x.2.1.1 q ≤ 2) ∧ x.2.1.2.2 ≤ 600) (hSz : ∀ q n, sn_S x.1 q = some n → n ≤ 16) (hL : ∀ s, sn_L x.1 s ≤ 600) : Met l y_Co_begin w_Co_begin ({ frames := 3, cells := 0, slots := 0, locals := 65 }) (va_Pc [.ref (a 8)] (sn_BE D K ad [ce0 a (sn_rc x.1) (sn_tp x.1) (sn_uc x.1), aS K (a 1) 601 (sn_S x.1), aI K (a 2) 9616 (sn_L x.1), aL K (a 3) 9616 (sn_Nm x.1), aI K (a 4) 600 (sn_rl x.1), cm0 a (a 5) (a 6) (a 7) x.2.1.2.2, aI K (a 6) 601 x.2.1.1, aI K (a 7) 600 x.2.1.2.1, cc0 a ad x.2.2.1 x.2.2.2])) (sn_Q D [ce0 a (sn_rc x.1) (sn_tp x.1) (sn_uc x.1), aS K (a 1) 601 (sn_S x.1), aI K (a 2) 9616 (sn_L x.1), aL K (a 3) 9616 (sn_Nm x.1), aI K (a 4) 600 (sn_rl x.1), cm0 a (a 5) (a 6) (a 7) x.2.1.2.2, aI K (a 6) 601 x.2.1.1, aI K (a 7) 600 x.2.1.2.1, cc0 a ad x.2.2.1 x.2.2.2] [ce0 a (sn_rc x.1) (sn_tp x.1) (sn_uc x.1), aS K (a 1) 601 (sn_S x.1), aI K (a 2) 9616 (sn_L x.1), aL K (a 3) 9616 (sn_Nm x.1), aI K (a 4) 600 (sn_rl x.1), cm0 a (a 5) (a 6) (a 7) ((sn_shv 600 (sn_L x.1) 0 (sn_sz (sn_S x.1) 0) x.2.1).2.2), aI K (a 6) 601 ((sn_shv 600 (sn_L x.1) 0 (sn_sz (sn_S x.1) 0) x.2.1).1), aI K (a 7) 600 ((sn_shv 600 (sn_L x.1) 0 (sn_sz (sn_S x.1) 0) x.2.1).2.1), cc0 a ad 1 x.2.2.2] none) 0 0 (sn_A [ce0 a (sn_rc x.1) (sn_tp x.1) (sn_uc x.1), aS K (a 1) 601 (sn_S x.1), aI K (a 2) 9616 (sn_L x.1), aL K (a 3) 9616 (sn_Nm x.1), aI K (a 4) 600 (sn_rl x.1), cm0 a (a 5) (a 6) (a 7) x.2.1.2.2, aI K (a 6) 601 x.2.1.1, aI K (a 7) 600 x.2.1.2.1, cc0 a ad x.2.2.1 x.2.2.2]) := by
  refine sn_met (own := R_Co) (by decide +kernel) rfl rfl (Nat.le_of_ble_eq_true rfl) ?_
  intro P9 E9 s9 m9 args below M9 c9 ls Q hQ hx hb hml hrt hlk hts hown hnm hl hB
  obtain ⟨⟨⟨hP, hK, hN⟩, hD⟩, hE⟩ := hB
  have hl : lv_has ls 1 [(0, .ref (a 8))] := hl
  have hD := sn_DA hD
  have hS : va_S (sn_A [ce0 a (sn_rc x.1) (sn_tp x.1) (sn_uc x.1), aS K (a 1) 601 (sn_S x.1), aI K (a 2) 9616 (sn_L x.1), aL K (a 3) 9616 (sn_Nm x.1), aI K (a 4) 600 (sn_rl x.1), cm0 a (a 5) (a 6) (a 7) x.2.1.2.2, aI K (a 6) 601 x.2.1.1, aI K (a 7) 600 x.2.1.2.1, cc0 a ad x.2.2.1 x.2.2.2]) s9.heap s9.heap [] := va_S.rf
  generalize hAe : sn_A [ce0 a (sn_rc x.1) (sn_tp x.1) (sn_uc x.1), aS K (a 1) 601 (sn_S x.1), aI K (a 2) 9616 (sn_L x.1), aL K (a 3) 9616 (sn_Nm x.1), aI K (a 4) 600 (sn_rl x.1), cm0 a (a 5) (a 6) (a 7) x.2.1.2.2, aI K (a 6) 601 x.2.1.1, aI K (a 7) 600 x.2.1.2.1, cc0 a ad x.2.2.1 x.2.2.2] = A at hE hD hS
  refine lv_aload_n hx hb d_Co_begin_0 rfl (lv_at hl 0 rfl) ?_
  refine va_gets (C := "SnapshotHeap$Phase") (n := "MARKING") (d := "LSnapshotHeap$Phase;") (v := .ref (ad 1)) hx hb (hE.1 1 (by decide)).1 hS hown (hts _ tw_190) (fun _ h9 => h9) d_Co_begin_1 ?_
  refine va_put (D := D) (ci := 2) (v := .ref (ad 1)) (ty := (.object "SnapshotHeap$Phase")) (C := R_Co) (T := F_Co) (N := 4) hx hb hts in_Co t_Co t_Co_ok n_Co hown hK hP hD hS 8 rfl rfl 2 (by decide) (hts _ tw_89) (fun _ h9 => h9) rfl (by decide +kernel) rfl rfl (Nat.le_of_ble_eq_true rfl) d_Co_begin_4 (fun H locs hP hD hS => ?_)
  have hP : va_P D classes [ce0 a (sn_rc x.1) (sn_tp x.1) (sn_uc x.1), aS K (a 1) 601 (sn_S x.1), aI K (a 2) 9616 (sn_L x.1), aL K (a 3) 9616 (sn_Nm x.1), aI K (a 4) 600 (sn_rl x.1), cm0 a (a 5) (a 6) (a 7) x.2.1.2.2, aI K (a 6) 601 x.2.1.1, aI K (a 7) 600 x.2.1.2.1, cc0 a ad 1 x.2.2.2] H := hP
  have hD : va_D A [ce0 a (sn_rc x.1) (sn_tp x.1) (sn_uc x.1), aS K (a 1) 601 (sn_S x.1), aI K (a 2) 9616 (sn_L x.1), aL K (a 3) 9616 (sn_Nm x.1), aI K (a 4) 600 (sn_rl x.1), cm0 a (a 5) (a 6) (a 7) x.2.1.2.2, aI K (a 6) 601 x.2.1.1, aI K (a 7) 600 x.2.1.2.1, cc0 a ad 1 x.2.2.2] := hD
  refine lv_aload_n hx hb d_Co_begin_7 rfl (lv_at hl 0 rfl) ?_
  refine va_get (D := D) (ci := 2) (v := .ref (a 5)) (C := R_Co) (T := F_Co) (N := 4) hx hb hts in_Co hown hK hP 8 rfl rfl 1 (by decide) (hts _ tw_88) (fun _ h9 => h9) rfl d_Co_begin_8 ?_
  refine lv_iconst (v := nI 0) hx hb d_Co_begin_11 (by decide) ?_
  refine sn_wrt (st1 := []) (w1 := [ce0 a (sn_rc x.1) (sn_tp x.1) (sn_uc x.1), aS K (a 1) 601 (sn_S x.1), aI K (a 2) 9616 (sn_L x.1), cm0 a (a 5) (a 6) (a 7) ((sn_shv 600 (sn_L x.1) (16 * 0) (sn_sz (sn_S x.1) 0) x.2.1).2.2), aI K (a 6) 601 ((sn_shv 600 (sn_L x.1) (16 * 0) (sn_sz (sn_S x.1) 0) x.2.1).1), aI K (a 7) 600 ((sn_shv 600 (sn_L x.1) (16 * 0) (sn_sz (sn_S x.1) 0) x.2.1).2.1)]) (va_runV (As := [.int (nI 0)]) (rest := []) ⟨hx, hb, hml, hown, hts⟩ (c_Ma_shadeValuesOf l D K a (sn_S x.1) (sn_L x.1) (sn_rc x.1) (sn_tp x.1) (sn_uc x.1) (a 5) (a 6) (a 7) x.2.1 0 (hX) (by omega) (hSz) (hL)) ⟨callB_of 1 hts (tw_in cm_Ma_shadeValuesOf) rfl rfl rfl (hts _ gn_Ma) (hts _ tw_192) hd_Ma_shadeValuesOf ⟨Nat.le_of_ble_eq_true rfl, Nat.le_of_ble_eq_true rfl⟩, hts _ gi_Ma_shadeValuesOf, hts _ gs_Ma_shadeValuesOf⟩ (sn_preVW hK hN hP hD 5 rfl rfl [0, 1, 2, 5, 6, 7] rfl rfl) rfl rfl hl.1 rfl (lv_room (Nat.le_of_ble_eq_true rfl)) d_Co_begin_12 ⟨Nat.zero_le _, Nat.zero_le _⟩) rfl hP hD hS [0, 1, 2, 5, 6, 7] rfl rfl (fun H locs hP hD hS => ?_)
  have hP : va_P D classes [ce0 a (sn_rc x.1) (sn_tp x.1) (sn_uc x.1), aS K (a 1) 601 (sn_S x.1), aI K (a 2) 9616 (sn_L x.1), aL K (a 3) 9616 (sn_Nm x.1), aI K (a 4) 600 (sn_rl x.1), cm0 a (a 5) (a 6) (a 7) ((sn_shv 600 (sn_L x.1) (16 * 0) (sn_sz (sn_S x.1) 0) x.2.1).2.2), aI K (a 6) 601 ((sn_shv 600 (sn_L x.1) (16 * 0) (sn_sz (sn_S x.1) 0) x.2.1).1), aI K (a 7) 600 ((sn_shv 600 (sn_L x.1) (16 * 0) (sn_sz (sn_S x.1) 0) x.2.1).2.1), cc0 a ad 1 x.2.2.2] H := hP
  have hD : va_D A [ce0 a (sn_rc x.1) (sn_tp x.1) (sn_uc x.1), aS K (a 1) 601 (sn_S x.1), aI K (a 2) 9616 (sn_L x.1), aL K (a 3) 9616 (sn_Nm x.1), aI K (a 4) 600 (sn_rl x.1), cm0 a (a 5) (a 6) (a 7) ((sn_shv 600 (sn_L x.1) (16 * 0) (sn_sz (sn_S x.1) 0) x.2.1).2.2), aI K (a 6) 601 ((sn_shv 600 (sn_L x.1) (16 * 0) (sn_sz (sn_S x.1) 0) x.2.1).1), aI K (a 7) 600 ((sn_shv 600 (sn_L x.1) (16 * 0) (sn_sz (sn_S x.1) 0) x.2.1).2.1), cc0 a ad 1 x.2.2.2] := hD
  subst hAe
  exact sx_wv hQ hx hb hrt hlk hP hS d_Co_begin_15
set_option maxHeartbeats 4000000 in
set_option maxRecDepth 100000 in
theorem c_Co_beforeOverwrite (l : Launch) (D : va_G) (K : Nat → ClassId) (ad : Nat → Nat) (a : Nat → Nat) (x : SnG) (t : Nat) (hg : sn_gc x) (ht : t < 9616) : Met l y_Co_beforeOverwrite w_Co_beforeOverwrite ({ frames := 2, cells := 0, slots := 0, locals := 42 }) (va_Pc [.ref (a 8), .int (nI t)] (sn_BE D K ad [ce0 a (sn_rc x.1) (sn_tp x.1) (sn_uc x.1), aS K (a 1) 601 (sn_S x.1), aI K (a 2) 9616 (sn_L x.1), aL K (a 3) 9616 (sn_Nm x.1), aI K (a 4) 600 (sn_rl x.1), cm0 a (a 5) (a 6) (a 7) x.2.1.2.2, aI K (a 6) 601 x.2.1.1, aI K (a 7) 600 x.2.1.2.1, cc0 a ad x.2.2.1 x.2.2.2])) (sn_Q D [ce0 a (sn_rc x.1) (sn_tp x.1) (sn_uc x.1), aS K (a 1) 601 (sn_S x.1), aI K (a 2) 9616 (sn_L x.1), aL K (a 3) 9616 (sn_Nm x.1), aI K (a 4) 600 (sn_rl x.1), cm0 a (a 5) (a 6) (a 7) x.2.1.2.2, aI K (a 6) 601 x.2.1.1, aI K (a 7) 600 x.2.1.2.1, cc0 a ad x.2.2.1 x.2.2.2] [ce0 a (sn_rc x.1) (sn_tp x.1) (sn_uc x.1), aS K (a 1) 601 (sn_S x.1), aI K (a 2) 9616 (sn_L x.1), aL K (a 3) 9616 (sn_Nm x.1), aI K (a 4) 600 (sn_rl x.1), cm0 a (a 5) (a 6) (a 7) ((sn_setm x t).2.2), aI K (a 6) 601 ((sn_setm x t).1), aI K (a 7) 600 ((sn_setm x t).2.1), cc0 a ad x.2.2.1 x.2.2.2] none) 0 0 (sn_A [ce0 a (sn_rc x.1) (sn_tp x.1) (sn_uc x.1), aS K (a 1) 601 (sn_S x.1), aI K (a 2) 9616 (sn_L x.1), aL K (a 3) 9616 (sn_Nm x.1), aI K (a 4) 600 (sn_rl x.1), cm0 a (a 5) (a 6) (a 7) x.2.1.2.2, aI K (a 6) 601 x.2.1.1, aI K (a 7) 600 x.2.1.2.1, cc0 a ad x.2.2.1 x.2.2.2]) := by
  refine sn_met (own := R_Co) (by decide +kernel) rfl rfl (Nat.le_of_ble_eq_true rfl) ?_
  intro P9 E9 s9 m9 args below M9 c9 ls Q hQ hx hb hml hrt hlk hts hown hnm hl hB
  obtain ⟨⟨⟨hP, hK, hN⟩, hD⟩, hE⟩ := hB
  have hl : lv_has ls 2 [(0, .ref (a 8)), (1, .int (nI t))] := hl
  have hD := sn_DA hD
  have hS : va_S (sn_A [ce0 a (sn_rc x.1) (sn_tp x.1) (sn_uc x.1), aS K (a 1) 601 (sn_S x.1), aI K (a 2) 9616 (sn_L x.1), aL K (a 3) 9616 (sn_Nm x.1), aI K (a 4) 600 (sn_rl x.1), cm0 a (a 5) (a 6) (a 7) x.2.1.2.2, aI K (a 6) 601 x.2.1.1, aI K (a 7) 600 x.2.1.2.1, cc0 a ad x.2.2.1 x.2.2.2]) s9.heap s9.heap [] := va_S.rf
  generalize hAe : sn_A [ce0 a (sn_rc x.1) (sn_tp x.1) (sn_uc x.1), aS K (a 1) 601 (sn_S x.1), aI K (a 2) 9616 (sn_L x.1), aL K (a 3) 9616 (sn_Nm x.1), aI K (a 4) 600 (sn_rl x.1), cm0 a (a 5) (a 6) (a 7) x.2.1.2.2, aI K (a 6) 601 x.2.1.1, aI K (a 7) 600 x.2.1.2.1, cc0 a ad x.2.2.1 x.2.2.2] = A at hE hD hS
  have hSz := sn_gc_hSz hg
  have hL := sn_gc_hL hg
  have hX := sn_gc_hX hg
  have hph := sn_gc_ph hg
  have hC := hX.1
  have hw := hX.2
  refine lv_aload_n hx hb d_Co_beforeOverwrite_0 rfl (lv_at hl 0 rfl) ?_
  refine va_get (D := D) (ci := 2) (v := .ref (ad x.2.2.1)) (C := R_Co) (T := F_Co) (N := 4) hx hb hts in_Co hown hK hP 8 rfl rfl 2 (by decide) (hts _ tw_89) (fun _ h9 => h9) rfl d_Co_beforeOverwrite_1 ?_
  refine va_gets (C := "SnapshotHeap$Phase") (n := "MARKING") (d := "LSnapshotHeap$Phase;") (v := .ref (ad 1)) hx hb (hE.1 1 (by decide)).1 hS hown (hts _ tw_190) (fun _ h9 => h9) d_Co_beforeOverwrite_4 ?_
  refine lv_acmp_ne (rx := some (ad x.2.2.1)) (ry := some (ad 1)) (tgt := 25) hx hb d_Co_beforeOverwrite_7 (by decide) (fun h1 => ?_) (fun h1 => ?_)
  · have h1 : x.2.2.1 ≠ 1 := fun h9 => h1 (by rw [h9])
    rw [show sn_setm x t = x.2.1 from if_neg h1] at hQ
    subst hAe
    exact sx_wv hQ hx hb hrt hlk hP hS d_Co_beforeOverwrite_25
  · have h1 : x.2.2.1 = 1 := hE.2 _ _ (by show _ < 3; omega) (by show _ < 3; omega) (Option.some.inj h1)
    refine lv_aload_n hx hb d_Co_beforeOverwrite_10 rfl (lv_at hl 0 rfl) ?_
    refine va_get (D := D) (ci := 2) (v := .ref (a 5)) (C := R_Co) (T := F_Co) (N := 4) hx hb hts in_Co hown hK hP 8 rfl rfl 1 (by decide) (hts _ tw_88) (fun _ h9 => h9) rfl d_Co_beforeOverwrite_11 ?_
    refine lv_aload_n hx hb d_Co_beforeOverwrite_14 rfl (lv_at hl 0 rfl) ?_
    refine va_get (D := D) (ci := 2) (v := .ref (a 0)) (C := R_Co) (T := F_Co) (N := 4) hx hb hts in_Co hown hK hP 8 rfl rfl 0 (by decide) (hts _ tw_87) (fun _ h9 => h9) rfl d_Co_beforeOverwrite_15 ?_
    refine lv_iload_n hx hb d_Co_beforeOverwrite_18 rfl (lv_at hl 1 rfl) ?_
    refine sn_rd (st1 := [.int (nI ((sn_L x.1) t)), .ref (a 5)]) (va_runV (As := [.int (nI t)]) (rest := [.ref (a 5)]) ⟨hx, hb, hml, hown, hts⟩ (c_St_placeAt l D K a (sn_L x.1) (sn_rc x.1) (sn_tp x.1) (sn_uc x.1) t (by omega)) ⟨callB_of 1 hts (tw_in cm_St_placeAt) rfl rfl rfl (hts _ gn_St) (hts _ tw_591) hd_St_placeAt ⟨Nat.le_of_ble_eq_true rfl, Nat.le_of_ble_eq_true rfl⟩, hts _ gi_St_placeAt, hts _ gs_St_placeAt⟩ (sn_preV hK hN hP 0 rfl rfl [0, 2] rfl) rfl rfl hl.1 rfl (lv_room (Nat.le_of_ble_eq_true rfl)) d_Co_beforeOverwrite_19 ⟨Nat.zero_le _, Nat.zero_le _⟩) rfl ?_
    refine sn_wrt (st1 := []) (w1 := [ce0 a (sn_rc x.1) (sn_tp x.1) (sn_uc x.1), cm0 a (a 5) (a 6) (a 7) ((sn_shade 600 x.2.1 ((sn_L x.1) t)).2.2), aI K (a 6) 601 ((sn_shade 600 x.2.1 ((sn_L x.1) t)).1), aI K (a 7) 600 ((sn_shade 600 x.2.1 ((sn_L x.1) t)).2.1)]) (va_runV (As := [.int (nI ((sn_L x.1) t))]) (rest := []) ⟨hx, hb, hml, hown, hts⟩ (c_Ma_shade l D K a (a 5) (a 6) (a 7) x.2.1 (sn_rc x.1) (sn_tp x.1) (sn_uc x.1) ((sn_L x.1) t) (hX) (by have := hL t; omega)) ⟨callB_of 1 hts (tw_in cm_Ma_shade) rfl rfl rfl (hts _ gn_Ma) (hts _ tw_592) hd_Ma_shade ⟨Nat.le_of_ble_eq_true rfl, Nat.le_of_ble_eq_true rfl⟩, hts _ gi_Ma_shade, hts _ gs_Ma_shade⟩ (sn_preVW hK hN hP hD 5 rfl rfl [0, 5, 6, 7] rfl rfl) rfl rfl hl.1 rfl (lv_room (Nat.le_of_ble_eq_true rfl)) d_Co_beforeOverwrite_22 ⟨Nat.zero_le _, Nat.zero_le _⟩) rfl hP hD hS [0, 5, 6, 7] rfl rfl (fun H locs hP hD hS => ?_)
    have hP : va_P D classes [ce0 a (sn_rc x.1) (sn_tp x.1) (sn_uc x.1), aS K (a 1) 601 (sn_S x.1), aI K (a 2) 9616 (sn_L x.1), aL K (a 3) 9616 (sn_Nm x.1), aI K (a 4) 600 (sn_rl x.1), cm0 a (a 5) (a 6) (a 7) ((sn_shade 600 x.2.1 ((sn_L x.1) t)).2.2), aI K (a 6) 601 ((sn_shade 600 x.2.1 ((sn_L x.1) t)).1), aI K (a 7) 600 ((sn_shade 600 x.2.1 ((sn_L x.1) t)).2.1), cc0 a ad x.2.2.1 x.2.2.2] H := hP
    have hD : va_D A [ce0 a (sn_rc x.1) (sn_tp x.1) (sn_uc x.1), aS K (a 1) 601 (sn_S x.1), aI K (a 2) 9616 (sn_L x.1), aL K (a 3) 9616 (sn_Nm x.1), aI K (a 4) 600 (sn_rl x.1), cm0 a (a 5) (a 6) (a 7) ((sn_shade 600 x.2.1 ((sn_L x.1) t)).2.2), aI K (a 6) 601 ((sn_shade 600 x.2.1 ((sn_L x.1) t)).1), aI K (a 7) 600 ((sn_shade 600 x.2.1 ((sn_L x.1) t)).2.1), cc0 a ad x.2.2.1 x.2.2.2] := hD
    rw [show sn_setm x t = sn_shade 600 x.2.1 (sn_L x.1 t) from if_pos h1] at hQ
    subst hAe
    exact sx_wv hQ hx hb hrt hlk hP hS d_Co_beforeOverwrite_25
set_option maxHeartbeats 4000000 in
set_option maxRecDepth 100000 in
theorem c_Co_sweepOne (l : Launch) (D : va_G) (K : Nat → ClassId) (ad : Nat → Nat) (a : Nat → Nat) (x : SnG) (hg : sn_gc x) (h2p : x.2.2.1 = 2) : Met l y_Co_sweepOne w_Co_sweepOne ({ frames := 2, cells := 0, slots := 0, locals := 42 }) (va_Pc [.ref (a 8)] (sn_BE D K ad [ce0 a (sn_rc x.1) (sn_tp x.1) (sn_uc x.1), aS K (a 1) 601 (sn_S x.1), aI K (a 2) 9616 (sn_L x.1), aL K (a 3) 9616 (sn_Nm x.1), aI K (a 4) 600 (sn_rl x.1), cm0 a (a 5) (a 6) (a 7) x.2.1.2.2, aI K (a 6) 601 x.2.1.1, aI K (a 7) 600 x.2.1.2.1, cc0 a ad x.2.2.1 x.2.2.2])) (sn_Q D [ce0 a (sn_rc x.1) (sn_tp x.1) (sn_uc x.1), aS K (a 1) 601 (sn_S x.1), aI K (a 2) 9616 (sn_L x.1), aL K (a 3) 9616 (sn_Nm x.1), aI K (a 4) 600 (sn_rl x.1), cm0 a (a 5) (a 6) (a 7) x.2.1.2.2, aI K (a 6) 601 x.2.1.1, aI K (a 7) 600 x.2.1.2.1, cc0 a ad x.2.2.1 x.2.2.2] [ce0 a (sn_rc ((sn_sweep x).1)) (sn_tp ((sn_sweep x).1)) (sn_uc ((sn_sweep x).1)), aS K (a 1) 601 (sn_S ((sn_sweep x).1)), aI K (a 2) 9616 (sn_L ((sn_sweep x).1)), aL K (a 3) 9616 (sn_Nm ((sn_sweep x).1)), aI K (a 4) 600 (sn_rl ((sn_sweep x).1)), cm0 a (a 5) (a 6) (a 7) (((sn_sweep x).2.1).2.2), aI K (a 6) 601 (((sn_sweep x).2.1).1), aI K (a 7) 600 (((sn_sweep x).2.1).2.1), cc0 a ad ((sn_sweep x).2.2.1) ((sn_sweep x).2.2.2)] none) 0 0 (sn_A [ce0 a (sn_rc x.1) (sn_tp x.1) (sn_uc x.1), aS K (a 1) 601 (sn_S x.1), aI K (a 2) 9616 (sn_L x.1), aL K (a 3) 9616 (sn_Nm x.1), aI K (a 4) 600 (sn_rl x.1), cm0 a (a 5) (a 6) (a 7) x.2.1.2.2, aI K (a 6) 601 x.2.1.1, aI K (a 7) 600 x.2.1.2.1, cc0 a ad x.2.2.1 x.2.2.2]) := by
  refine sn_met (own := R_Co) (by decide +kernel) rfl rfl (Nat.le_of_ble_eq_true rfl) ?_
  intro P9 E9 s9 m9 args below M9 c9 ls Q hQ hx hb hml hrt hlk hts hown hnm hl hB
  obtain ⟨⟨⟨hP, hK, hN⟩, hD⟩, hE⟩ := hB
  have hl : lv_has ls 1 [(0, .ref (a 8))] := hl
  have hD := sn_DA hD
  have hS : va_S (sn_A [ce0 a (sn_rc x.1) (sn_tp x.1) (sn_uc x.1), aS K (a 1) 601 (sn_S x.1), aI K (a 2) 9616 (sn_L x.1), aL K (a 3) 9616 (sn_Nm x.1), aI K (a 4) 600 (sn_rl x.1), cm0 a (a 5) (a 6) (a 7) x.2.1.2.2, aI K (a 6) 601 x.2.1.1, aI K (a 7) 600 x.2.1.2.1, cc0 a ad x.2.2.1 x.2.2.2]) s9.heap s9.heap [] := va_S.rf
  generalize hAe : sn_A [ce0 a (sn_rc x.1) (sn_tp x.1) (sn_uc x.1), aS K (a 1) 601 (sn_S x.1), aI K (a 2) 9616 (sn_L x.1), aL K (a 3) 9616 (sn_Nm x.1), aI K (a 4) 600 (sn_rl x.1), cm0 a (a 5) (a 6) (a 7) x.2.1.2.2, aI K (a 6) 601 x.2.1.1, aI K (a 7) 600 x.2.1.2.1, cc0 a ad x.2.2.1 x.2.2.2] = A at hE hD hS
  have hSz := sn_gc_hSz hg
  have hL := sn_gc_hL hg
  have hX := sn_gc_hX hg
  have hph := sn_gc_ph hg
  have hC := hX.1
  have hw := hX.2
  have hcu := sn_gc_cu hg h2p
  have htp := hg.1.2.2.1
  refine lv_aload_n hx hb d_Co_sweepOne_0 rfl (lv_at hl 0 rfl) ?_
  refine va_get (D := D) (ci := 2) (v := .ref (a 5)) (C := R_Co) (T := F_Co) (N := 4) hx hb hts in_Co hown hK hP 8 rfl rfl 1 (by decide) (hts _ tw_88) (fun _ h9 => h9) rfl d_Co_sweepOne_1 ?_
  refine lv_aload_n hx hb d_Co_sweepOne_4 rfl (lv_at hl 0 rfl) ?_
  refine va_get (D := D) (ci := 2) (v := .int (nI x.2.2.2)) (C := R_Co) (T := F_Co) (N := 4) hx hb hts in_Co hown hK hP 8 rfl rfl 3 (by decide) (hts _ tw_90) (fun _ h9 => h9) rfl d_Co_sweepOne_5 ?_
  refine sn_rd (st1 := [.int (zb (decide (0 < x.2.2.2 ∧ x.2.2.2 ≤ 600 ∧ x.2.1.1 x.2.2.2 = 2)))]) (va_runV (As := [.int (nI x.2.2.2)]) (rest := []) ⟨hx, hb, hml, hown, hts⟩ (c_Ma_isBlack l D K a (a 5) (a 6) (a 7) x.2.1.1 x.2.1.2.2 (sn_rc x.1) (sn_tp x.1) (sn_uc x.1) x.2.2.2 (hC) (by omega)) ⟨callB_of 1 hts (tw_in cm_Ma_isBlack) rfl rfl rfl (hts _ gn_Ma) (hts _ tw_234) hd_Ma_isBlack ⟨Nat.le_of_ble_eq_true rfl, Nat.le_of_ble_eq_true rfl⟩, hts _ gi_Ma_isBlack, hts _ gs_Ma_isBlack⟩ (sn_preV hK hN hP 5 rfl rfl [0, 5, 6] rfl) rfl rfl hl.1 rfl (lv_room (Nat.le_of_ble_eq_true rfl)) d_Co_sweepOne_8 ⟨Nat.zero_le _, Nat.zero_le _⟩) rfl ?_
  refine sn_ifz_eq (tgt := 28) hx hb d_Co_sweepOne_11 (by decide) (fun h1 => ?_) (fun h1 => ?_)
  · refine lv_aload_n hx hb d_Co_sweepOne_28 rfl (lv_at hl 0 rfl) ?_
    refine va_get (D := D) (ci := 2) (v := .ref (a 0)) (C := R_Co) (T := F_Co) (N := 4) hx hb hts in_Co hown hK hP 8 rfl rfl 0 (by decide) (hts _ tw_87) (fun _ h9 => h9) rfl d_Co_sweepOne_29 ?_
    refine lv_aload_n hx hb d_Co_sweepOne_32 rfl (lv_at hl 0 rfl) ?_
    refine va_get (D := D) (ci := 2) (v := .int (nI x.2.2.2)) (C := R_Co) (T := F_Co) (N := 4) hx hb hts in_Co hown hK hP 8 rfl rfl 3 (by decide) (hts _ tw_90) (fun _ h9 => h9) rfl d_Co_sweepOne_33 ?_
    refine sn_rd (st1 := [.int (zb (decide (0 < x.2.2.2 ∧ x.2.2.2 ≤ 600 ∧ (sn_S x.1) x.2.2.2 = none)))]) (va_runV (As := [.int (nI x.2.2.2)]) (rest := []) ⟨hx, hb, hml, hown, hts⟩ (c_St_isFree l D K a (sn_S x.1) (sn_rc x.1) (sn_tp x.1) (sn_uc x.1) x.2.2.2 (by omega) (hSz)) ⟨callB_of 1 hts (tw_in cm_St_isFree) rfl rfl rfl (hts _ gn_St) (hts _ tw_242) hd_St_isFree ⟨Nat.le_of_ble_eq_true rfl, Nat.le_of_ble_eq_true rfl⟩, hts _ gi_St_isFree, hts _ gs_St_isFree⟩ (sn_preV hK hN hP 0 rfl rfl [0, 1] rfl) rfl rfl hl.1 rfl (lv_room (Nat.le_of_ble_eq_true rfl)) d_Co_sweepOne_36 ⟨Nat.zero_le _, Nat.zero_le _⟩) rfl ?_
    refine sn_ifz_ne (tgt := 53) hx hb d_Co_sweepOne_39 (by decide) (fun h2 => ?_) (fun h2 => ?_)
    · refine lv_aload_n hx hb d_Co_sweepOne_53 rfl (lv_at hl 0 rfl) ?_
      refine lv_dup hx hb d_Co_sweepOne_54 rfl ?_
      refine va_get (D := D) (ci := 2) (v := .int (nI x.2.2.2)) (C := R_Co) (T := F_Co) (N := 4) hx hb hts in_Co hown hK hP 8 rfl rfl 3 (by decide) (hts _ tw_90) (fun _ h9 => h9) rfl d_Co_sweepOne_55 ?_
      refine lv_iconst (v := nI 1) hx hb d_Co_sweepOne_58 (by decide) ?_
      refine lv_iadd hx hb d_Co_sweepOne_59 ?_
      refine sn_topi (nI_add _ _) ?_
      refine va_put (D := D) (ci := 2) (v := .int (nI (x.2.2.2 + 1))) (ty := .int) (C := R_Co) (T := F_Co) (N := 4) hx hb hts in_Co t_Co t_Co_ok n_Co hown hK hP hD hS 8 rfl rfl 3 (by decide) (hts _ tw_90) (fun _ h9 => h9) rfl (by decide +kernel) rfl rfl (Nat.le_of_ble_eq_true rfl) d_Co_sweepOne_60 (fun H locs hP hD hS => ?_)
      have hP : va_P D classes [ce0 a (sn_rc x.1) (sn_tp x.1) (sn_uc x.1), aS K (a 1) 601 (sn_S x.1), aI K (a 2) 9616 (sn_L x.1), aL K (a 3) 9616 (sn_Nm x.1), aI K (a 4) 600 (sn_rl x.1), cm0 a (a 5) (a 6) (a 7) x.2.1.2.2, aI K (a 6) 601 x.2.1.1, aI K (a 7) 600 x.2.1.2.1, cc0 a ad x.2.2.1 (x.2.2.2 + 1)] H := hP
      have hD : va_D A [ce0 a (sn_rc x.1) (sn_tp x.1) (sn_uc x.1), aS K (a 1) 601 (sn_S x.1), aI K (a 2) 9616 (sn_L x.1), aL K (a 3) 9616 (sn_Nm x.1), aI K (a 4) 600 (sn_rl x.1), cm0 a (a 5) (a 6) (a 7) x.2.1.2.2, aI K (a 6) 601 x.2.1.1, aI K (a 7) 600 x.2.1.2.1, cc0 a ad x.2.2.1 (x.2.2.2 + 1)] := hD
      refine lv_aload_n hx hb d_Co_sweepOne_63 rfl (lv_at hl 0 rfl) ?_
      refine va_get (D := D) (ci := 2) (v := .int (nI (x.2.2.2 + 1))) (C := R_Co) (T := F_Co) (N := 4) hx hb hts in_Co hown hK hP 8 rfl rfl 3 (by decide) (hts _ tw_90) (fun _ h9 => h9) rfl d_Co_sweepOne_64 ?_
      refine lv_aload_n hx hb d_Co_sweepOne_67 rfl (lv_at hl 0 rfl) ?_
      refine va_get (D := D) (ci := 2) (v := .ref (a 0)) (C := R_Co) (T := F_Co) (N := 4) hx hb hts in_Co hown hK hP 8 rfl rfl 0 (by decide) (hts _ tw_87) (fun _ h9 => h9) rfl d_Co_sweepOne_68 ?_
      refine sn_rd (st1 := [.int (nI (sn_tp x.1)), .int (nI (x.2.2.2 + 1))]) (va_runV (As := []) (rest := [.int (nI (x.2.2.2 + 1))]) ⟨hx, hb, hml, hown, hts⟩ (c_St_top l D K a (sn_rc x.1) (sn_tp x.1) (sn_uc x.1)) ⟨callB_of 0 hts (tw_in cm_St_top) rfl rfl rfl (hts _ gn_St) (hts _ tw_255) hd_St_top ⟨Nat.le_of_ble_eq_true rfl, Nat.le_of_ble_eq_true rfl⟩, hts _ gi_St_top, hts _ gs_St_top⟩ (sn_preV hK hN hP 0 rfl rfl [0] rfl) rfl rfl hl.1 rfl (lv_room (Nat.le_of_ble_eq_true rfl)) d_Co_sweepOne_71 ⟨Nat.zero_le _, Nat.zero_le _⟩) rfl ?_
      refine sn_icmp_le (by omega) (by omega) (tgt := 84) hx hb d_Co_sweepOne_74 (by decide) (fun h3 => ?_) (fun h3 => ?_)
      · rw [show sn_sweep x = (x.1, x.2.1, x.2.2.1, x.2.2.2 + 1) from by unfold sn_sweep; rw [if_neg h1, if_neg h1, if_pos h2, if_neg (by omega)]] at hQ
        subst hAe
        exact sx_wv hQ hx hb hrt hlk hP hS d_Co_sweepOne_84
      · refine lv_aload_n hx hb d_Co_sweepOne_77 rfl (lv_at hl 0 rfl) ?_
        refine va_gets (C := "SnapshotHeap$Phase") (n := "REST") (d := "LSnapshotHeap$Phase;") (v := .ref (ad 0)) hx hb (hE.1 0 (by decide)).1 hS hown (hts _ tw_85) (fun _ h9 => h9) d_Co_sweepOne_78 ?_
        refine va_put (D := D) (ci := 2) (v := .ref (ad 0)) (ty := (.object "SnapshotHeap$Phase")) (C := R_Co) (T := F_Co) (N := 4) hx hb hts in_Co t_Co t_Co_ok n_Co hown hK hP hD hS 8 rfl rfl 2 (by decide) (hts _ tw_89) (fun _ h9 => h9) rfl (by decide +kernel) rfl rfl (Nat.le_of_ble_eq_true rfl) d_Co_sweepOne_81 (fun H locs hP hD hS => ?_)
        have hP : va_P D classes [ce0 a (sn_rc x.1) (sn_tp x.1) (sn_uc x.1), aS K (a 1) 601 (sn_S x.1), aI K (a 2) 9616 (sn_L x.1), aL K (a 3) 9616 (sn_Nm x.1), aI K (a 4) 600 (sn_rl x.1), cm0 a (a 5) (a 6) (a 7) x.2.1.2.2, aI K (a 6) 601 x.2.1.1, aI K (a 7) 600 x.2.1.2.1, cc0 a ad 0 (x.2.2.2 + 1)] H := hP
        have hD : va_D A [ce0 a (sn_rc x.1) (sn_tp x.1) (sn_uc x.1), aS K (a 1) 601 (sn_S x.1), aI K (a 2) 9616 (sn_L x.1), aL K (a 3) 9616 (sn_Nm x.1), aI K (a 4) 600 (sn_rl x.1), cm0 a (a 5) (a 6) (a 7) x.2.1.2.2, aI K (a 6) 601 x.2.1.1, aI K (a 7) 600 x.2.1.2.1, cc0 a ad 0 (x.2.2.2 + 1)] := hD
        rw [show sn_sweep x = (x.1, x.2.1, 0, x.2.2.2 + 1) from by unfold sn_sweep; rw [if_neg h1, if_neg h1, if_pos h2, if_pos h3]] at hQ
        subst hAe
        exact sx_wv hQ hx hb hrt hlk hP hS d_Co_sweepOne_84
    · have hus := sn_st_use hg.1 (p := x.2.2.2) (by omega) (fun h9 => h2 ⟨by omega, by omega, h9⟩)
      refine lv_aload_n hx hb d_Co_sweepOne_42 rfl (lv_at hl 0 rfl) ?_
      refine va_get (D := D) (ci := 2) (v := .ref (a 0)) (C := R_Co) (T := F_Co) (N := 4) hx hb hts in_Co hown hK hP 8 rfl rfl 0 (by decide) (hts _ tw_87) (fun _ h9 => h9) rfl d_Co_sweepOne_43 ?_
      refine lv_aload_n hx hb d_Co_sweepOne_46 rfl (lv_at hl 0 rfl) ?_
      refine va_get (D := D) (ci := 2) (v := .int (nI x.2.2.2)) (C := R_Co) (T := F_Co) (N := 4) hx hb hts in_Co hown hK hP 8 rfl rfl 3 (by decide) (hts _ tw_90) (fun _ h9 => h9) rfl d_Co_sweepOne_47 ?_
      refine sn_wrt (st1 := []) (w1 := [ce0 a ((sn_rc x.1) + 1) (sn_tp x.1) ((sn_uc x.1) - (sn_sz (sn_S x.1) x.2.2.2 + 2)), aS K (a 1) 601 (va_up (sn_S x.1) x.2.2.2 none), aI K (a 4) 600 (va_up (sn_rl x.1) (sn_rc x.1) x.2.2.2)]) (va_runV (As := [.int (nI x.2.2.2)]) (rest := []) ⟨hx, hb, hml, hown, hts⟩ (c_St_release l D K a (sn_S x.1) (sn_rl x.1) (sn_rc x.1) (sn_tp x.1) (sn_uc x.1) x.2.2.2 (by omega) (by omega) (hus.1) (hus.2) (by omega)) ⟨callB_of 1 hts (tw_in cm_St_release) rfl rfl rfl (hts _ gn_St) (hts _ tw_247) hd_St_release ⟨Nat.le_of_ble_eq_true rfl, Nat.le_of_ble_eq_true rfl⟩, hts _ gi_St_release, hts _ gs_St_release⟩ (sn_preVW hK hN hP hD 0 rfl rfl [0, 1, 4] rfl rfl) rfl rfl hl.1 rfl (lv_room (Nat.le_of_ble_eq_true rfl)) d_Co_sweepOne_50 ⟨Nat.zero_le _, Nat.zero_le _⟩) rfl hP hD hS [0, 1, 4] rfl rfl (fun H locs hP hD hS => ?_)
      have hP : va_P D classes [ce0 a ((sn_rc x.1) + 1) (sn_tp x.1) ((sn_uc x.1) - (sn_sz (sn_S x.1) x.2.2.2 + 2)), aS K (a 1) 601 (va_up (sn_S x.1) x.2.2.2 none), aI K (a 2) 9616 (sn_L x.1), aL K (a 3) 9616 (sn_Nm x.1), aI K (a 4) 600 (va_up (sn_rl x.1) (sn_rc x.1) x.2.2.2), cm0 a (a 5) (a 6) (a 7) x.2.1.2.2, aI K (a 6) 601 x.2.1.1, aI K (a 7) 600 x.2.1.2.1, cc0 a ad x.2.2.1 x.2.2.2] H := hP
      have hD : va_D A [ce0 a ((sn_rc x.1) + 1) (sn_tp x.1) ((sn_uc x.1) - (sn_sz (sn_S x.1) x.2.2.2 + 2)), aS K (a 1) 601 (va_up (sn_S x.1) x.2.2.2 none), aI K (a 2) 9616 (sn_L x.1), aL K (a 3) 9616 (sn_Nm x.1), aI K (a 4) 600 (va_up (sn_rl x.1) (sn_rc x.1) x.2.2.2), cm0 a (a 5) (a 6) (a 7) x.2.1.2.2, aI K (a 6) 601 x.2.1.1, aI K (a 7) 600 x.2.1.2.1, cc0 a ad x.2.2.1 x.2.2.2] := hD
      refine lv_aload_n hx hb d_Co_sweepOne_53 rfl (lv_at hl 0 rfl) ?_
      refine lv_dup hx hb d_Co_sweepOne_54 rfl ?_
      refine va_get (D := D) (ci := 2) (v := .int (nI x.2.2.2)) (C := R_Co) (T := F_Co) (N := 4) hx hb hts in_Co hown hK hP 8 rfl rfl 3 (by decide) (hts _ tw_90) (fun _ h9 => h9) rfl d_Co_sweepOne_55 ?_
      refine lv_iconst (v := nI 1) hx hb d_Co_sweepOne_58 (by decide) ?_
      refine lv_iadd hx hb d_Co_sweepOne_59 ?_
      refine sn_topi (nI_add _ _) ?_
      refine va_put (D := D) (ci := 2) (v := .int (nI (x.2.2.2 + 1))) (ty := .int) (C := R_Co) (T := F_Co) (N := 4) hx hb hts in_Co t_Co t_Co_ok n_Co hown hK hP hD hS 8 rfl rfl 3 (by decide) (hts _ tw_90) (fun _ h9 => h9) rfl (by decide +kernel) rfl rfl (Nat.le_of_ble_eq_true rfl) d_Co_sweepOne_60 (fun H locs hP hD hS => ?_)
      have hP : va_P D classes [ce0 a ((sn_rc x.1) + 1) (sn_tp x.1) ((sn_uc x.1) - (sn_sz (sn_S x.1) x.2.2.2 + 2)), aS K (a 1) 601 (va_up (sn_S x.1) x.2.2.2 none), aI K (a 2) 9616 (sn_L x.1), aL K (a 3) 9616 (sn_Nm x.1), aI K (a 4) 600 (va_up (sn_rl x.1) (sn_rc x.1) x.2.2.2), cm0 a (a 5) (a 6) (a 7) x.2.1.2.2, aI K (a 6) 601 x.2.1.1, aI K (a 7) 600 x.2.1.2.1, cc0 a ad x.2.2.1 (x.2.2.2 + 1)] H := hP
      have hD : va_D A [ce0 a ((sn_rc x.1) + 1) (sn_tp x.1) ((sn_uc x.1) - (sn_sz (sn_S x.1) x.2.2.2 + 2)), aS K (a 1) 601 (va_up (sn_S x.1) x.2.2.2 none), aI K (a 2) 9616 (sn_L x.1), aL K (a 3) 9616 (sn_Nm x.1), aI K (a 4) 600 (va_up (sn_rl x.1) (sn_rc x.1) x.2.2.2), cm0 a (a 5) (a 6) (a 7) x.2.1.2.2, aI K (a 6) 601 x.2.1.1, aI K (a 7) 600 x.2.1.2.1, cc0 a ad x.2.2.1 (x.2.2.2 + 1)] := hD
      refine lv_aload_n hx hb d_Co_sweepOne_63 rfl (lv_at hl 0 rfl) ?_
      refine va_get (D := D) (ci := 2) (v := .int (nI (x.2.2.2 + 1))) (C := R_Co) (T := F_Co) (N := 4) hx hb hts in_Co hown hK hP 8 rfl rfl 3 (by decide) (hts _ tw_90) (fun _ h9 => h9) rfl d_Co_sweepOne_64 ?_
      refine lv_aload_n hx hb d_Co_sweepOne_67 rfl (lv_at hl 0 rfl) ?_
      refine va_get (D := D) (ci := 2) (v := .ref (a 0)) (C := R_Co) (T := F_Co) (N := 4) hx hb hts in_Co hown hK hP 8 rfl rfl 0 (by decide) (hts _ tw_87) (fun _ h9 => h9) rfl d_Co_sweepOne_68 ?_
      refine sn_rd (st1 := [.int (nI (sn_tp x.1)), .int (nI (x.2.2.2 + 1))]) (va_runV (As := []) (rest := [.int (nI (x.2.2.2 + 1))]) ⟨hx, hb, hml, hown, hts⟩ (c_St_top l D K a ((sn_rc x.1) + 1) (sn_tp x.1) ((sn_uc x.1) - (sn_sz (sn_S x.1) x.2.2.2 + 2))) ⟨callB_of 0 hts (tw_in cm_St_top) rfl rfl rfl (hts _ gn_St) (hts _ tw_255) hd_St_top ⟨Nat.le_of_ble_eq_true rfl, Nat.le_of_ble_eq_true rfl⟩, hts _ gi_St_top, hts _ gs_St_top⟩ (sn_preV hK hN hP 0 rfl rfl [0] rfl) rfl rfl hl.1 rfl (lv_room (Nat.le_of_ble_eq_true rfl)) d_Co_sweepOne_71 ⟨Nat.zero_le _, Nat.zero_le _⟩) rfl ?_
      refine sn_icmp_le (by omega) (by omega) (tgt := 84) hx hb d_Co_sweepOne_74 (by decide) (fun h3 => ?_) (fun h3 => ?_)
      · rw [show sn_sweep x = (sn_release x.1 x.2.2.2, x.2.1, x.2.2.1, x.2.2.2 + 1) from by unfold sn_sweep; rw [if_neg h1, if_neg h1, if_neg h2, if_neg (by omega)]] at hQ
        rw [show sn_release x.1 x.2.2.2 = (va_up (sn_S x.1) x.2.2.2 none, sn_L x.1, sn_Nm x.1, va_up (sn_rl x.1) (sn_rc x.1) x.2.2.2, sn_rc x.1 + 1, sn_tp x.1, sn_uc x.1 - (sn_sz (sn_S x.1) x.2.2.2 + 2)) from if_pos ⟨by omega, by omega, hus.1⟩] at hQ
        subst hAe
        exact sx_wv hQ hx hb hrt hlk hP hS d_Co_sweepOne_84
      · refine lv_aload_n hx hb d_Co_sweepOne_77 rfl (lv_at hl 0 rfl) ?_
        refine va_gets (C := "SnapshotHeap$Phase") (n := "REST") (d := "LSnapshotHeap$Phase;") (v := .ref (ad 0)) hx hb (hE.1 0 (by decide)).1 hS hown (hts _ tw_85) (fun _ h9 => h9) d_Co_sweepOne_78 ?_
        refine va_put (D := D) (ci := 2) (v := .ref (ad 0)) (ty := (.object "SnapshotHeap$Phase")) (C := R_Co) (T := F_Co) (N := 4) hx hb hts in_Co t_Co t_Co_ok n_Co hown hK hP hD hS 8 rfl rfl 2 (by decide) (hts _ tw_89) (fun _ h9 => h9) rfl (by decide +kernel) rfl rfl (Nat.le_of_ble_eq_true rfl) d_Co_sweepOne_81 (fun H locs hP hD hS => ?_)
        have hP : va_P D classes [ce0 a ((sn_rc x.1) + 1) (sn_tp x.1) ((sn_uc x.1) - (sn_sz (sn_S x.1) x.2.2.2 + 2)), aS K (a 1) 601 (va_up (sn_S x.1) x.2.2.2 none), aI K (a 2) 9616 (sn_L x.1), aL K (a 3) 9616 (sn_Nm x.1), aI K (a 4) 600 (va_up (sn_rl x.1) (sn_rc x.1) x.2.2.2), cm0 a (a 5) (a 6) (a 7) x.2.1.2.2, aI K (a 6) 601 x.2.1.1, aI K (a 7) 600 x.2.1.2.1, cc0 a ad 0 (x.2.2.2 + 1)] H := hP
        have hD : va_D A [ce0 a ((sn_rc x.1) + 1) (sn_tp x.1) ((sn_uc x.1) - (sn_sz (sn_S x.1) x.2.2.2 + 2)), aS K (a 1) 601 (va_up (sn_S x.1) x.2.2.2 none), aI K (a 2) 9616 (sn_L x.1), aL K (a 3) 9616 (sn_Nm x.1), aI K (a 4) 600 (va_up (sn_rl x.1) (sn_rc x.1) x.2.2.2), cm0 a (a 5) (a 6) (a 7) x.2.1.2.2, aI K (a 6) 601 x.2.1.1, aI K (a 7) 600 x.2.1.2.1, cc0 a ad 0 (x.2.2.2 + 1)] := hD
        rw [show sn_sweep x = (sn_release x.1 x.2.2.2, x.2.1, 0, x.2.2.2 + 1) from by unfold sn_sweep; rw [if_neg h1, if_neg h1, if_neg h2, if_pos h3]] at hQ
        rw [show sn_release x.1 x.2.2.2 = (va_up (sn_S x.1) x.2.2.2 none, sn_L x.1, sn_Nm x.1, va_up (sn_rl x.1) (sn_rc x.1) x.2.2.2, sn_rc x.1 + 1, sn_tp x.1, sn_uc x.1 - (sn_sz (sn_S x.1) x.2.2.2 + 2)) from if_pos ⟨by omega, by omega, hus.1⟩] at hQ
        subst hAe
        exact sx_wv hQ hx hb hrt hlk hP hS d_Co_sweepOne_84
  · refine lv_aload_n hx hb d_Co_sweepOne_14 rfl (lv_at hl 0 rfl) ?_
    refine va_get (D := D) (ci := 2) (v := .ref (a 5)) (C := R_Co) (T := F_Co) (N := 4) hx hb hts in_Co hown hK hP 8 rfl rfl 1 (by decide) (hts _ tw_88) (fun _ h9 => h9) rfl d_Co_sweepOne_15 ?_
    refine lv_aload_n hx hb d_Co_sweepOne_18 rfl (lv_at hl 0 rfl) ?_
    refine va_get (D := D) (ci := 2) (v := .int (nI x.2.2.2)) (C := R_Co) (T := F_Co) (N := 4) hx hb hts in_Co hown hK hP 8 rfl rfl 3 (by decide) (hts _ tw_90) (fun _ h9 => h9) rfl d_Co_sweepOne_19 ?_
    refine sn_wrt (st1 := []) (w1 := [ce0 a (sn_rc x.1) (sn_tp x.1) (sn_uc x.1), cm0 a (a 5) (a 6) (a 7) x.2.1.2.2, aI K (a 6) 601 (va_up x.2.1.1 x.2.2.2 0)]) (va_runV (As := [.int (nI x.2.2.2)]) (rest := []) ⟨hx, hb, hml, hown, hts⟩ (c_Ma_whiten l D K a (a 5) (a 6) (a 7) x.2.1.1 x.2.1.2.2 (sn_rc x.1) (sn_tp x.1) (sn_uc x.1) x.2.2.2 (h1.1) (h1.2.1)) ⟨callB_of 1 hts (tw_in cm_Ma_whiten) rfl rfl rfl (hts _ gn_Ma) (hts _ tw_238) hd_Ma_whiten ⟨Nat.le_of_ble_eq_true rfl, Nat.le_of_ble_eq_true rfl⟩, hts _ gi_Ma_whiten, hts _ gs_Ma_whiten⟩ (sn_preVW hK hN hP hD 5 rfl rfl [0, 5, 6] rfl rfl) rfl rfl hl.1 rfl (lv_room (Nat.le_of_ble_eq_true rfl)) d_Co_sweepOne_22 ⟨Nat.zero_le _, Nat.zero_le _⟩) rfl hP hD hS [0, 5, 6] rfl rfl (fun H locs hP hD hS => ?_)
    have hP : va_P D classes [ce0 a (sn_rc x.1) (sn_tp x.1) (sn_uc x.1), aS K (a 1) 601 (sn_S x.1), aI K (a 2) 9616 (sn_L x.1), aL K (a 3) 9616 (sn_Nm x.1), aI K (a 4) 600 (sn_rl x.1), cm0 a (a 5) (a 6) (a 7) x.2.1.2.2, aI K (a 6) 601 (va_up x.2.1.1 x.2.2.2 0), aI K (a 7) 600 x.2.1.2.1, cc0 a ad x.2.2.1 x.2.2.2] H := hP
    have hD : va_D A [ce0 a (sn_rc x.1) (sn_tp x.1) (sn_uc x.1), aS K (a 1) 601 (sn_S x.1), aI K (a 2) 9616 (sn_L x.1), aL K (a 3) 9616 (sn_Nm x.1), aI K (a 4) 600 (sn_rl x.1), cm0 a (a 5) (a 6) (a 7) x.2.1.2.2, aI K (a 6) 601 (va_up x.2.1.1 x.2.2.2 0), aI K (a 7) 600 x.2.1.2.1, cc0 a ad x.2.2.1 x.2.2.2] := hD
    refine lv_goto (tgt := 53) hx hb d_Co_sweepOne_25 (by decide) ?_
    refine lv_aload_n hx hb d_Co_sweepOne_53 rfl (lv_at hl 0 rfl) ?_
    refine lv_dup hx hb d_Co_sweepOne_54 rfl ?_
    refine va_get (D := D) (ci := 2) (v := .int (nI x.2.2.2)) (C := R_Co) (T := F_Co) (N := 4) hx hb hts in_Co hown hK hP 8 rfl rfl 3 (by decide) (hts _ tw_90) (fun _ h9 => h9) rfl d_Co_sweepOne_55 ?_
    refine lv_iconst (v := nI 1) hx hb d_Co_sweepOne_58 (by decide) ?_
    refine lv_iadd hx hb d_Co_sweepOne_59 ?_
    refine sn_topi (nI_add _ _) ?_
    refine va_put (D := D) (ci := 2) (v := .int (nI (x.2.2.2 + 1))) (ty := .int) (C := R_Co) (T := F_Co) (N := 4) hx hb hts in_Co t_Co t_Co_ok n_Co hown hK hP hD hS 8 rfl rfl 3 (by decide) (hts _ tw_90) (fun _ h9 => h9) rfl (by decide +kernel) rfl rfl (Nat.le_of_ble_eq_true rfl) d_Co_sweepOne_60 (fun H locs hP hD hS => ?_)
    have hP : va_P D classes [ce0 a (sn_rc x.1) (sn_tp x.1) (sn_uc x.1), aS K (a 1) 601 (sn_S x.1), aI K (a 2) 9616 (sn_L x.1), aL K (a 3) 9616 (sn_Nm x.1), aI K (a 4) 600 (sn_rl x.1), cm0 a (a 5) (a 6) (a 7) x.2.1.2.2, aI K (a 6) 601 (va_up x.2.1.1 x.2.2.2 0), aI K (a 7) 600 x.2.1.2.1, cc0 a ad x.2.2.1 (x.2.2.2 + 1)] H := hP
    have hD : va_D A [ce0 a (sn_rc x.1) (sn_tp x.1) (sn_uc x.1), aS K (a 1) 601 (sn_S x.1), aI K (a 2) 9616 (sn_L x.1), aL K (a 3) 9616 (sn_Nm x.1), aI K (a 4) 600 (sn_rl x.1), cm0 a (a 5) (a 6) (a 7) x.2.1.2.2, aI K (a 6) 601 (va_up x.2.1.1 x.2.2.2 0), aI K (a 7) 600 x.2.1.2.1, cc0 a ad x.2.2.1 (x.2.2.2 + 1)] := hD
    refine lv_aload_n hx hb d_Co_sweepOne_63 rfl (lv_at hl 0 rfl) ?_
    refine va_get (D := D) (ci := 2) (v := .int (nI (x.2.2.2 + 1))) (C := R_Co) (T := F_Co) (N := 4) hx hb hts in_Co hown hK hP 8 rfl rfl 3 (by decide) (hts _ tw_90) (fun _ h9 => h9) rfl d_Co_sweepOne_64 ?_
    refine lv_aload_n hx hb d_Co_sweepOne_67 rfl (lv_at hl 0 rfl) ?_
    refine va_get (D := D) (ci := 2) (v := .ref (a 0)) (C := R_Co) (T := F_Co) (N := 4) hx hb hts in_Co hown hK hP 8 rfl rfl 0 (by decide) (hts _ tw_87) (fun _ h9 => h9) rfl d_Co_sweepOne_68 ?_
    refine sn_rd (st1 := [.int (nI (sn_tp x.1)), .int (nI (x.2.2.2 + 1))]) (va_runV (As := []) (rest := [.int (nI (x.2.2.2 + 1))]) ⟨hx, hb, hml, hown, hts⟩ (c_St_top l D K a (sn_rc x.1) (sn_tp x.1) (sn_uc x.1)) ⟨callB_of 0 hts (tw_in cm_St_top) rfl rfl rfl (hts _ gn_St) (hts _ tw_255) hd_St_top ⟨Nat.le_of_ble_eq_true rfl, Nat.le_of_ble_eq_true rfl⟩, hts _ gi_St_top, hts _ gs_St_top⟩ (sn_preV hK hN hP 0 rfl rfl [0] rfl) rfl rfl hl.1 rfl (lv_room (Nat.le_of_ble_eq_true rfl)) d_Co_sweepOne_71 ⟨Nat.zero_le _, Nat.zero_le _⟩) rfl ?_
    refine sn_icmp_le (by omega) (by omega) (tgt := 84) hx hb d_Co_sweepOne_74 (by decide) (fun h2 => ?_) (fun h2 => ?_)
    · rw [show sn_sweep x = (x.1, (va_up (sn_C x) x.2.2.2 0, x.2.1.2), x.2.2.1, x.2.2.2 + 1) from by unfold sn_sweep; rw [if_pos h1, if_pos h1, if_neg (by omega)]] at hQ
      subst hAe
      exact sx_wv hQ hx hb hrt hlk hP hS d_Co_sweepOne_84
    · refine lv_aload_n hx hb d_Co_sweepOne_77 rfl (lv_at hl 0 rfl) ?_
      refine va_gets (C := "SnapshotHeap$Phase") (n := "REST") (d := "LSnapshotHeap$Phase;") (v := .ref (ad 0)) hx hb (hE.1 0 (by decide)).1 hS hown (hts _ tw_85) (fun _ h9 => h9) d_Co_sweepOne_78 ?_
      refine va_put (D := D) (ci := 2) (v := .ref (ad 0)) (ty := (.object "SnapshotHeap$Phase")) (C := R_Co) (T := F_Co) (N := 4) hx hb hts in_Co t_Co t_Co_ok n_Co hown hK hP hD hS 8 rfl rfl 2 (by decide) (hts _ tw_89) (fun _ h9 => h9) rfl (by decide +kernel) rfl rfl (Nat.le_of_ble_eq_true rfl) d_Co_sweepOne_81 (fun H locs hP hD hS => ?_)
      have hP : va_P D classes [ce0 a (sn_rc x.1) (sn_tp x.1) (sn_uc x.1), aS K (a 1) 601 (sn_S x.1), aI K (a 2) 9616 (sn_L x.1), aL K (a 3) 9616 (sn_Nm x.1), aI K (a 4) 600 (sn_rl x.1), cm0 a (a 5) (a 6) (a 7) x.2.1.2.2, aI K (a 6) 601 (va_up x.2.1.1 x.2.2.2 0), aI K (a 7) 600 x.2.1.2.1, cc0 a ad 0 (x.2.2.2 + 1)] H := hP
      have hD : va_D A [ce0 a (sn_rc x.1) (sn_tp x.1) (sn_uc x.1), aS K (a 1) 601 (sn_S x.1), aI K (a 2) 9616 (sn_L x.1), aL K (a 3) 9616 (sn_Nm x.1), aI K (a 4) 600 (sn_rl x.1), cm0 a (a 5) (a 6) (a 7) x.2.1.2.2, aI K (a 6) 601 (va_up x.2.1.1 x.2.2.2 0), aI K (a 7) 600 x.2.1.2.1, cc0 a ad 0 (x.2.2.2 + 1)] := hD
      rw [show sn_sweep x = (x.1, (va_up (sn_C x) x.2.2.2 0, x.2.1.2), 0, x.2.2.2 + 1) from by unfold sn_sweep; rw [if_pos h1, if_pos h1, if_pos h2]] at hQ
      subst hAe
      exact sx_wv hQ hx hb hrt hlk hP hS d_Co_sweepOne_84
set_option maxHeartbeats 4000000 in
set_option maxRecDepth 100000 in
theorem c_Co_advance (l : Launch) (D : va_G) (K : Nat → ClassId) (ad : Nat → Nat) (a : Nat → Nat) (x : SnG) (hg : sn_gc x) : Met l y_Co_advance w_Co_advance ({ frames := 4, cells := 0, slots := 0, locals := 86 }) (va_Pc [.ref (a 8)] (sn_BE D K ad [ce0 a (sn_rc x.1) (sn_tp x.1) (sn_uc x.1), aS K (a 1) 601 (sn_S x.1), aI K (a 2) 9616 (sn_L x.1), aL K (a 3) 9616 (sn_Nm x.1), aI K (a 4) 600 (sn_rl x.1), cm0 a (a 5) (a 6) (a 7) x.2.1.2.2, aI K (a 6) 601 x.2.1.1, aI K (a 7) 600 x.2.1.2.1, cc0 a ad x.2.2.1 x.2.2.2])) (sn_Q D [ce0 a (sn_rc x.1) (sn_tp x.1) (sn_uc x.1), aS K (a 1) 601 (sn_S x.1), aI K (a 2) 9616 (sn_L x.1), aL K (a 3) 9616 (sn_Nm x.1), aI K (a 4) 600 (sn_rl x.1), cm0 a (a 5) (a 6) (a 7) x.2.1.2.2, aI K (a 6) 601 x.2.1.1, aI K (a 7) 600 x.2.1.2.1, cc0 a ad x.2.2.1 x.2.2.2] [ce0 a (sn_rc ((sn_adv x).1)) (sn_tp ((sn_adv x).1)) (sn_uc ((sn_adv x).1)), aS K (a 1) 601 (sn_S ((sn_adv x).1)), aI K (a 2) 9616 (sn_L ((sn_adv x).1)), aL K (a 3) 9616 (sn_Nm ((sn_adv x).1)), aI K (a 4) 600 (sn_rl ((sn_adv x).1)), cm0 a (a 5) (a 6) (a 7) (((sn_adv x).2.1).2.2), aI K (a 6) 601 (((sn_adv x).2.1).1), aI K (a 7) 600 (((sn_adv x).2.1).2.1), cc0 a ad ((sn_adv x).2.2.1) ((sn_adv x).2.2.2)] none) 0 0 (sn_A [ce0 a (sn_rc x.1) (sn_tp x.1) (sn_uc x.1), aS K (a 1) 601 (sn_S x.1), aI K (a 2) 9616 (sn_L x.1), aL K (a 3) 9616 (sn_Nm x.1), aI K (a 4) 600 (sn_rl x.1), cm0 a (a 5) (a 6) (a 7) x.2.1.2.2, aI K (a 6) 601 x.2.1.1, aI K (a 7) 600 x.2.1.2.1, cc0 a ad x.2.2.1 x.2.2.2]) := by
  refine sn_met (own := R_Co) (by decide +kernel) rfl rfl (Nat.le_of_ble_eq_true rfl) ?_
  intro P9 E9 s9 m9 args below M9 c9 ls Q hQ hx hb hml hrt hlk hts hown hnm hl hB
  obtain ⟨⟨⟨hP, hK, hN⟩, hD⟩, hE⟩ := hB
  have hl : lv_has ls 1 [(0, .ref (a 8))] := hl
  have hD := sn_DA hD
  have hS : va_S (sn_A [ce0 a (sn_rc x.1) (sn_tp x.1) (sn_uc x.1), aS K (a 1) 601 (sn_S x.1), aI K (a 2) 9616 (sn_L x.1), aL K (a 3) 9616 (sn_Nm x.1), aI K (a 4) 600 (sn_rl x.1), cm0 a (a 5) (a 6) (a 7) x.2.1.2.2, aI K (a 6) 601 x.2.1.1, aI K (a 7) 600 x.2.1.2.1, cc0 a ad x.2.2.1 x.2.2.2]) s9.heap s9.heap [] := va_S.rf
  generalize hAe : sn_A [ce0 a (sn_rc x.1) (sn_tp x.1) (sn_uc x.1), aS K (a 1) 601 (sn_S x.1), aI K (a 2) 9616 (sn_L x.1), aL K (a 3) 9616 (sn_Nm x.1), aI K (a 4) 600 (sn_rl x.1), cm0 a (a 5) (a 6) (a 7) x.2.1.2.2, aI K (a 6) 601 x.2.1.1, aI K (a 7) 600 x.2.1.2.1, cc0 a ad x.2.2.1 x.2.2.2] = A at hE hD hS
  have hSz := sn_gc_hSz hg
  have hL := sn_gc_hL hg
  have hX := sn_gc_hX hg
  have hph := sn_gc_ph hg
  have hC := hX.1
  have hw := hX.2
  have cut46 : ∀ (z : SnG) (ls : Array Slot) (H : Heap) (locs : List Loc), z = sn_trn (sn_beg x) → lv_has ls 1 [(0, .ref (a 8))] → va_P D classes [ce0 a (sn_rc z.1) (sn_tp z.1) (sn_uc z.1), aS K (a 1) 601 (sn_S z.1), aI K (a 2) 9616 (sn_L z.1), aL K (a 3) 9616 (sn_Nm z.1), aI K (a 4) 600 (sn_rl z.1), cm0 a (a 5) (a 6) (a 7) z.2.1.2.2, aI K (a 6) 601 z.2.1.1, aI K (a 7) 600 z.2.1.2.1, cc0 a ad z.2.2.1 z.2.2.2] H → va_D A [ce0 a (sn_rc z.1) (sn_tp z.1) (sn_uc z.1), aS K (a 1) 601 (sn_S z.1), aI K (a 2) 9616 (sn_L z.1), aL K (a 3) 9616 (sn_Nm z.1), aI K (a 4) 600 (sn_rl z.1), cm0 a (a 5) (a 6) (a 7) z.2.1.2.2, aI K (a 6) 601 z.2.1.1, aI K (a 7) 600 z.2.1.2.1, cc0 a ad z.2.2.1 z.2.2.2] → va_S A s9.heap H locs → W P9 l E9 ({ frames := 4, cells := 0, slots := 0, locals := 86 }) s9 m9 args below M9 c9 H locs 0 0 Q (F0 m9 46 ls []) := by
    intro z ls H locs ez hl hP hD hS
    have hgz : sn_gc z := by rw [ez]; exact (sn_trn_gc (sn_beg_gc hg).1 (sn_beg_gc hg).2.2).1
    have hz : z.2.2.1 = 1 ∧ 0 < z.2.1.2.2 ∨ z.2.2.1 = 2 := by rw [ez]; exact (sn_trn_gc (sn_beg_gc hg).1 (sn_beg_gc hg).2.2).2.2.2
    have hSz := sn_gc_hSz hgz
    have hL := sn_gc_hL hgz
    have hX := sn_gc_hX hgz
    have hph := sn_gc_ph hgz
    refine lv_aload_n hx hb d_Co_advance_46 rfl (lv_at hl 0 rfl) ?_
    refine va_get (D := D) (ci := 2) (v := .ref (ad z.2.2.1)) (C := R_Co) (T := F_Co) (N := 4) hx hb hts in_Co hown hK hP 8 rfl rfl 2 (by decide) (hts _ tw_89) (fun _ h9 => h9) rfl d_Co_advance_47 ?_
    refine va_gets (C := "SnapshotHeap$Phase") (n := "MARKING") (d := "LSnapshotHeap$Phase;") (v := .ref (ad 1)) hx hb (hE.1 1 (by decide)).1 hS hown (hts _ tw_190) (fun _ h9 => h9) d_Co_advance_50 ?_
    refine lv_acmp_ne (rx := some (ad z.2.2.1)) (ry := some (ad 1)) (tgt := 66) hx hb d_Co_advance_53 (by decide) (fun h1 => ?_) (fun h1 => ?_)
    · have h1 : z.2.2.1 ≠ 1 := fun h9 => h1 (by rw [h9])
      have h2p : z.2.2.1 = 2 := by omega
      refine lv_aload_n hx hb d_Co_advance_66 rfl (lv_at hl 0 rfl) ?_
      refine sn_wrt (st1 := []) (w1 := [ce0 a (sn_rc ((sn_sweep z).1)) (sn_tp ((sn_sweep z).1)) (sn_uc ((sn_sweep z).1)), aS K (a 1) 601 (sn_S ((sn_sweep z).1)), aI K (a 2) 9616 (sn_L ((sn_sweep z).1)), aL K (a 3) 9616 (sn_Nm ((sn_sweep z).1)), aI K (a 4) 600 (sn_rl ((sn_sweep z).1)), cm0 a (a 5) (a 6) (a 7) (((sn_sweep z).2.1).2.2), aI K (a 6) 601 (((sn_sweep z).2.1).1), aI K (a 7) 600 (((sn_sweep z).2.1).2.1), cc0 a ad ((sn_sweep z).2.2.1) ((sn_sweep z).2.2.2)]) (va_runV (As := []) (rest := []) ⟨hx, hb, hml, hown, hts⟩ (c_Co_sweepOne l D K ad a z (hgz) (h2p)) ⟨callB_of 0 hts (tw_in cm_Co_sweepOne) rfl rfl rfl (hts _ gn_Co) (hts _ tw_230) hd_Co_sweepOne ⟨Nat.le_of_ble_eq_true rfl, Nat.le_of_ble_eq_true rfl⟩, hts _ gi_Co_sweepOne, hts _ gs_Co_sweepOne⟩ (sn_preVE hK hN hP hD hE hS 8 rfl rfl [0, 1, 2, 3, 4, 5, 6, 7, 8] rfl rfl) rfl rfl hl.1 rfl (lv_room (Nat.le_of_ble_eq_true rfl)) d_Co_advance_67 ⟨Nat.zero_le _, Nat.zero_le _⟩) rfl hP hD hS [0, 1, 2, 3, 4, 5, 6, 7, 8] rfl rfl (fun H locs hP hD hS => ?_)
      have hP : va_P D classes [ce0 a (sn_rc ((sn_sweep z).1)) (sn_tp ((sn_sweep z).1)) (sn_uc ((sn_sweep z).1)), aS K (a 1) 601 (sn_S ((sn_sweep z).1)), aI K (a 2) 9616 (sn_L ((sn_sweep z).1)), aL K (a 3) 9616 (sn_Nm ((sn_sweep z).1)), aI K (a 4) 600 (sn_rl ((sn_sweep z).1)), cm0 a (a 5) (a 6) (a 7) (((sn_sweep z).2.1).2.2), aI K (a 6) 601 (((sn_sweep z).2.1).1), aI K (a 7) 600 (((sn_sweep z).2.1).2.1), cc0 a ad ((sn_sweep z).2.2.1) ((sn_sweep z).2.2.2)] H := hP
      have hD : va_D A [ce0 a (sn_rc ((sn_sweep z).1)) (sn_tp ((sn_sweep z).1)) (sn_uc ((sn_sweep z).1)), aS K (a 1) 601 (sn_S ((sn_sweep z).1)), aI K (a 2) 9616 (sn_L ((sn_sweep z).1)), aL K (a 3) 9616 (sn_Nm ((sn_sweep z).1)), aI K (a 4) 600 (sn_rl ((sn_sweep z).1)), cm0 a (a 5) (a 6) (a 7) (((sn_sweep z).2.1).2.2), aI K (a 6) 601 (((sn_sweep z).2.1).1), aI K (a 7) 600 (((sn_sweep z).2.1).2.1), cc0 a ad ((sn_sweep z).2.2.1) ((sn_sweep z).2.2.2)] := hD
      rw [sn_adv_sweep ez h1] at hQ
      subst hAe
      exact sx_wv hQ hx hb hrt hlk hP hS d_Co_advance_70
    · have h1 : z.2.2.1 = 1 := hE.2 _ _ (by show _ < 3; omega) (by show _ < 3; omega) (Option.some.inj h1)
      have hw0 : 0 < z.2.1.2.2 := by omega
      have htop := sn_gc_top hgz h1 hw0
      refine lv_aload_n hx hb d_Co_advance_56 rfl (lv_at hl 0 rfl) ?_
      refine va_get (D := D) (ci := 2) (v := .ref (a 5)) (C := R_Co) (T := F_Co) (N := 4) hx hb hts in_Co hown hK hP 8 rfl rfl 1 (by decide) (hts _ tw_88) (fun _ h9 => h9) rfl d_Co_advance_57 ?_
      refine sn_wrt (st1 := []) (w1 := [ce0 a (sn_rc z.1) (sn_tp z.1) (sn_uc z.1), aS K (a 1) 601 (sn_S z.1), aI K (a 2) 9616 (sn_L z.1), cm0 a (a 5) (a 6) (a 7) ((sn_mark1 600 (sn_S z.1) (sn_L z.1) z.2.1).2.2), aI K (a 6) 601 ((sn_mark1 600 (sn_S z.1) (sn_L z.1) z.2.1).1), aI K (a 7) 600 ((sn_mark1 600 (sn_S z.1) (sn_L z.1) z.2.1).2.1)]) (va_runV (As := []) (rest := []) ⟨hx, hb, hml, hown, hts⟩ (c_Ma_markOne l D K a (sn_S z.1) (sn_L z.1) (sn_rc z.1) (sn_tp z.1) (sn_uc z.1) (a 5) (a 6) (a 7) z.2.1 (hX) (hw0) (htop.1) (htop.2) (hSz) (hL)) ⟨callB_of 0 hts (tw_in cm_Ma_markOne) rfl rfl rfl (hts _ gn_Ma) (hts _ tw_221) hd_Ma_markOne ⟨Nat.le_of_ble_eq_true rfl, Nat.le_of_ble_eq_true rfl⟩, hts _ gi_Ma_markOne, hts _ gs_Ma_markOne⟩ (sn_preVW hK hN hP hD 5 rfl rfl [0, 1, 2, 5, 6, 7] rfl rfl) rfl rfl hl.1 rfl (lv_room (Nat.le_of_ble_eq_true rfl)) d_Co_advance_60 ⟨Nat.zero_le _, Nat.zero_le _⟩) rfl hP hD hS [0, 1, 2, 5, 6, 7] rfl rfl (fun H locs hP hD hS => ?_)
      have hP : va_P D classes [ce0 a (sn_rc z.1) (sn_tp z.1) (sn_uc z.1), aS K (a 1) 601 (sn_S z.1), aI K (a 2) 9616 (sn_L z.1), aL K (a 3) 9616 (sn_Nm z.1), aI K (a 4) 600 (sn_rl z.1), cm0 a (a 5) (a 6) (a 7) ((sn_mark1 600 (sn_S z.1) (sn_L z.1) z.2.1).2.2), aI K (a 6) 601 ((sn_mark1 600 (sn_S z.1) (sn_L z.1) z.2.1).1), aI K (a 7) 600 ((sn_mark1 600 (sn_S z.1) (sn_L z.1) z.2.1).2.1), cc0 a ad z.2.2.1 z.2.2.2] H := hP
      have hD : va_D A [ce0 a (sn_rc z.1) (sn_tp z.1) (sn_uc z.1), aS K (a 1) 601 (sn_S z.1), aI K (a 2) 9616 (sn_L z.1), aL K (a 3) 9616 (sn_Nm z.1), aI K (a 4) 600 (sn_rl z.1), cm0 a (a 5) (a 6) (a 7) ((sn_mark1 600 (sn_S z.1) (sn_L z.1) z.2.1).2.2), aI K (a 6) 601 ((sn_mark1 600 (sn_S z.1) (sn_L z.1) z.2.1).1), aI K (a 7) 600 ((sn_mark1 600 (sn_S z.1) (sn_L z.1) z.2.1).2.1), cc0 a ad z.2.2.1 z.2.2.2] := hD
      refine lv_goto (tgt := 70) hx hb d_Co_advance_63 (by decide) ?_
      rw [sn_adv_mark ez h1] at hQ
      subst hAe
      exact sx_wv hQ hx hb hrt hlk hP hS d_Co_advance_70
  have cut14 : ∀ (y : SnG) (ls : Array Slot) (H : Heap) (locs : List Loc), y = sn_beg x → lv_has ls 1 [(0, .ref (a 8))] → va_P D classes [ce0 a (sn_rc y.1) (sn_tp y.1) (sn_uc y.1), aS K (a 1) 601 (sn_S y.1), aI K (a 2) 9616 (sn_L y.1), aL K (a 3) 9616 (sn_Nm y.1), aI K (a 4) 600 (sn_rl y.1), cm0 a (a 5) (a 6) (a 7) y.2.1.2.2, aI K (a 6) 601 y.2.1.1, aI K (a 7) 600 y.2.1.2.1, cc0 a ad y.2.2.1 y.2.2.2] H → va_D A [ce0 a (sn_rc y.1) (sn_tp y.1) (sn_uc y.1), aS K (a 1) 601 (sn_S y.1), aI K (a 2) 9616 (sn_L y.1), aL K (a 3) 9616 (sn_Nm y.1), aI K (a 4) 600 (sn_rl y.1), cm0 a (a 5) (a 6) (a 7) y.2.1.2.2, aI K (a 6) 601 y.2.1.1, aI K (a 7) 600 y.2.1.2.1, cc0 a ad y.2.2.1 y.2.2.2] → va_S A s9.heap H locs → W P9 l E9 ({ frames := 4, cells := 0, slots := 0, locals := 86 }) s9 m9 args below M9 c9 H locs 0 0 Q (F0 m9 14 ls []) := by
    intro y ls H locs ey hl hP hD hS
    have hgy : sn_gc y := by rw [ey]; exact (sn_beg_gc hg).1
    have hy0 : y.2.2.1 ≠ 0 := by rw [ey]; exact (sn_beg_gc hg).2.2
    have hph := sn_gc_ph hgy
    have hX := sn_gc_hX hgy
    have hw := hX.2
    refine lv_aload_n hx hb d_Co_advance_14 rfl (lv_at hl 0 rfl) ?_
    refine va_get (D := D) (ci := 2) (v := .ref (ad y.2.2.1)) (C := R_Co) (T := F_Co) (N := 4) hx hb hts in_Co hown hK hP 8 rfl rfl 2 (by decide) (hts _ tw_89) (fun _ h9 => h9) rfl d_Co_advance_15 ?_
    refine va_gets (C := "SnapshotHeap$Phase") (n := "MARKING") (d := "LSnapshotHeap$Phase;") (v := .ref (ad 1)) hx hb (hE.1 1 (by decide)).1 hS hown (hts _ tw_190) (fun _ h9 => h9) d_Co_advance_18 ?_
    refine lv_acmp_ne (rx := some (ad y.2.2.1)) (ry := some (ad 1)) (tgt := 46) hx hb d_Co_advance_21 (by decide) (fun h1 => ?_) (fun h1 => ?_)
    · have h1 : y.2.2.1 ≠ 1 := fun h9 => h1 (by rw [h9])
      have hl := lv_sub (l' := [(0, .ref (a 8))]) hl [0] rfl
      exact cut46 y _ _ _ (by rw [← ey]; exact (if_neg (fun h9 => by first | exact h1 h9.1 | exact h2 h9.2)).symm) hl hP hD hS
    · have h1 : y.2.2.1 = 1 := hE.2 _ _ (by show _ < 3; omega) (by show _ < 3; omega) (Option.some.inj h1)
      refine lv_aload_n hx hb d_Co_advance_24 rfl (lv_at hl 0 rfl) ?_
      refine va_get (D := D) (ci := 2) (v := .ref (a 5)) (C := R_Co) (T := F_Co) (N := 4) hx hb hts in_Co hown hK hP 8 rfl rfl 1 (by decide) (hts _ tw_88) (fun _ h9 => h9) rfl d_Co_advance_25 ?_
      refine sn_rd (st1 := [.int (zb (decide (y.2.1.2.2 = 0)))]) (va_runV (As := []) (rest := []) ⟨hx, hb, hml, hown, hts⟩ (c_Ma_isDone l D K a (a 5) (a 6) (a 7) y.2.1.2.2 (hw)) ⟨callB_of 0 hts (tw_in cm_Ma_isDone) rfl rfl rfl (hts _ gn_Ma) (hts _ tw_215) hd_Ma_isDone ⟨Nat.le_of_ble_eq_true rfl, Nat.le_of_ble_eq_true rfl⟩, hts _ gi_Ma_isDone, hts _ gs_Ma_isDone⟩ (sn_preV hK hN hP 5 rfl rfl [5] rfl) rfl rfl hl.1 rfl (lv_room (Nat.le_of_ble_eq_true rfl)) d_Co_advance_28 ⟨Nat.zero_le _, Nat.zero_le _⟩) rfl ?_
      refine sn_ifz_eq (tgt := 46) hx hb d_Co_advance_31 (by decide) (fun h2 => ?_) (fun h2 => ?_)
      · have hl := lv_sub (l' := [(0, .ref (a 8))]) hl [0] rfl
        exact cut46 y _ _ _ (by rw [← ey]; exact (if_neg (fun h9 => by first | exact h1 h9.1 | exact h2 h9.2)).symm) hl hP hD hS
      · refine lv_aload_n hx hb d_Co_advance_34 rfl (lv_at hl 0 rfl) ?_
        refine va_gets (C := "SnapshotHeap$Phase") (n := "SWEEPING") (d := "LSnapshotHeap$Phase;") (v := .ref (ad 2)) hx hb (hE.1 2 (by decide)).1 hS hown (hts _ tw_219) (fun _ h9 => h9) d_Co_advance_35 ?_
        refine va_put (D := D) (ci := 2) (v := .ref (ad 2)) (ty := (.object "SnapshotHeap$Phase")) (C := R_Co) (T := F_Co) (N := 4) hx hb hts in_Co t_Co t_Co_ok n_Co hown hK hP hD hS 8 rfl rfl 2 (by decide) (hts _ tw_89) (fun _ h9 => h9) rfl (by decide +kernel) rfl rfl (Nat.le_of_ble_eq_true rfl) d_Co_advance_38 (fun H locs hP hD hS => ?_)
        have hP : va_P D classes [ce0 a (sn_rc y.1) (sn_tp y.1) (sn_uc y.1), aS K (a 1) 601 (sn_S y.1), aI K (a 2) 9616 (sn_L y.1), aL K (a 3) 9616 (sn_Nm y.1), aI K (a 4) 600 (sn_rl y.1), cm0 a (a 5) (a 6) (a 7) y.2.1.2.2, aI K (a 6) 601 y.2.1.1, aI K (a 7) 600 y.2.1.2.1, cc0 a ad 2 y.2.2.2] H := hP
        have hD : va_D A [ce0 a (sn_rc y.1) (sn_tp y.1) (sn_uc y.1), aS K (a 1) 601 (sn_S y.1), aI K (a 2) 9616 (sn_L y.1), aL K (a 3) 9616 (sn_Nm y.1), aI K (a 4) 600 (sn_rl y.1), cm0 a (a 5) (a 6) (a 7) y.2.1.2.2, aI K (a 6) 601 y.2.1.1, aI K (a 7) 600 y.2.1.2.1, cc0 a ad 2 y.2.2.2] := hD
        refine lv_aload_n hx hb d_Co_advance_41 rfl (lv_at hl 0 rfl) ?_
        refine lv_iconst (v := nI 1) hx hb d_Co_advance_42 (by decide) ?_
        refine va_put (D := D) (ci := 2) (v := .int (nI 1)) (ty := .int) (C := R_Co) (T := F_Co) (N := 4) hx hb hts in_Co t_Co t_Co_ok n_Co hown hK hP hD hS 8 rfl rfl 3 (by decide) (hts _ tw_90) (fun _ h9 => h9) rfl (by decide +kernel) rfl rfl (Nat.le_of_ble_eq_true rfl) d_Co_advance_43 (fun H locs hP hD hS => ?_)
        have hP : va_P D classes [ce0 a (sn_rc y.1) (sn_tp y.1) (sn_uc y.1), aS K (a 1) 601 (sn_S y.1), aI K (a 2) 9616 (sn_L y.1), aL K (a 3) 9616 (sn_Nm y.1), aI K (a 4) 600 (sn_rl y.1), cm0 a (a 5) (a 6) (a 7) y.2.1.2.2, aI K (a 6) 601 y.2.1.1, aI K (a 7) 600 y.2.1.2.1, cc0 a ad 2 1] H := hP
        have hD : va_D A [ce0 a (sn_rc y.1) (sn_tp y.1) (sn_uc y.1), aS K (a 1) 601 (sn_S y.1), aI K (a 2) 9616 (sn_L y.1), aL K (a 3) 9616 (sn_Nm y.1), aI K (a 4) 600 (sn_rl y.1), cm0 a (a 5) (a 6) (a 7) y.2.1.2.2, aI K (a 6) 601 y.2.1.1, aI K (a 7) 600 y.2.1.2.1, cc0 a ad 2 1] := hD
        have hP : va_P D classes [ce0 a (sn_rc (((y.1, y.2.1, 2, 1) : SnG).1)) (sn_tp (((y.1, y.2.1, 2, 1) : SnG).1)) (sn_uc (((y.1, y.2.1, 2, 1) : SnG).1)), aS K (a 1) 601 (sn_S (((y.1, y.2.1, 2, 1) : SnG).1)), aI K (a 2) 9616 (sn_L (((y.1, y.2.1, 2, 1) : SnG).1)), aL K (a 3) 9616 (sn_Nm (((y.1, y.2.1, 2, 1) : SnG).1)), aI K (a 4) 600 (sn_rl (((y.1, y.2.1, 2, 1) : SnG).1)), cm0 a (a 5) (a 6) (a 7) ((((y.1, y.2.1, 2, 1) : SnG).2.1).2.2), aI K (a 6) 601 ((((y.1, y.2.1, 2, 1) : SnG).2.1).1), aI K (a 7) 600 ((((y.1, y.2.1, 2, 1) : SnG).2.1).2.1), cc0 a ad (((y.1, y.2.1, 2, 1) : SnG).2.2.1) (((y.1, y.2.1, 2, 1) : SnG).2.2.2)] H := hP
        have hD : va_D A [ce0 a (sn_rc (((y.1, y.2.1, 2, 1) : SnG).1)) (sn_tp (((y.1, y.2.1, 2, 1) : SnG).1)) (sn_uc (((y.1, y.2.1, 2, 1) : SnG).1)), aS K (a 1) 601 (sn_S (((y.1, y.2.1, 2, 1) : SnG).1)), aI K (a 2) 9616 (sn_L (((y.1, y.2.1, 2, 1) : SnG).1)), aL K (a 3) 9616 (sn_Nm (((y.1, y.2.1, 2, 1) : SnG).1)), aI K (a 4) 600 (sn_rl (((y.1, y.2.1, 2, 1) : SnG).1)), cm0 a (a 5) (a 6) (a 7) ((((y.1, y.2.1, 2, 1) : SnG).2.1).2.2), aI K (a 6) 601 ((((y.1, y.2.1, 2, 1) : SnG).2.1).1), aI K (a 7) 600 ((((y.1, y.2.1, 2, 1) : SnG).2.1).2.1), cc0 a ad (((y.1, y.2.1, 2, 1) : SnG).2.2.1) (((y.1, y.2.1, 2, 1) : SnG).2.2.2)] := hD
        have hl := lv_sub (l' := [(0, .ref (a 8))]) hl [0] rfl
        exact cut46 ((y.1, y.2.1, 2, 1) : SnG) _ _ _ (by rw [← ey]; exact (if_pos ⟨h1, h2⟩).symm) hl hP hD hS
  refine lv_aload_n hx hb d_Co_advance_0 rfl (lv_at hl 0 rfl) ?_
  refine va_get (D := D) (ci := 2) (v := .ref (ad x.2.2.1)) (C := R_Co) (T := F_Co) (N := 4) hx hb hts in_Co hown hK hP 8 rfl rfl 2 (by decide) (hts _ tw_89) (fun _ h9 => h9) rfl d_Co_advance_1 ?_
  refine va_gets (C := "SnapshotHeap$Phase") (n := "REST") (d := "LSnapshotHeap$Phase;") (v := .ref (ad 0)) hx hb (hE.1 0 (by decide)).1 hS hown (hts _ tw_85) (fun _ h9 => h9) d_Co_advance_4 ?_
  refine lv_acmp_ne (rx := some (ad x.2.2.1)) (ry := some (ad 0)) (tgt := 14) hx hb d_Co_advance_7 (by decide) (fun h1 => ?_) (fun h1 => ?_)
  · have h1 : x.2.2.1 ≠ 0 := fun h9 => h1 (by rw [h9])
    have hl := lv_sub (l' := [(0, .ref (a 8))]) hl [0] rfl
    exact cut14 x _ _ _ ((if_neg h1).symm) hl hP hD hS
  · have h1 : x.2.2.1 = 0 := hE.2 _ _ (by show _ < 3; omega) (by show _ < 3; omega) (Option.some.inj h1)
    refine lv_aload_n hx hb d_Co_advance_10 rfl (lv_at hl 0 rfl) ?_
    refine sn_wrt (st1 := []) (w1 := [ce0 a (sn_rc x.1) (sn_tp x.1) (sn_uc x.1), aS K (a 1) 601 (sn_S x.1), aI K (a 2) 9616 (sn_L x.1), aL K (a 3) 9616 (sn_Nm x.1), aI K (a 4) 600 (sn_rl x.1), cm0 a (a 5) (a 6) (a 7) ((sn_shv 600 (sn_L x.1) 0 (sn_sz (sn_S x.1) 0) x.2.1).2.2), aI K (a 6) 601 ((sn_shv 600 (sn_L x.1) 0 (sn_sz (sn_S x.1) 0) x.2.1).1), aI K (a 7) 600 ((sn_shv 600 (sn_L x.1) 0 (sn_sz (sn_S x.1) 0) x.2.1).2.1), cc0 a ad 1 x.2.2.2]) (va_runV (As := []) (rest := []) ⟨hx, hb, hml, hown, hts⟩ (c_Co_begin l D K ad a x (hX) (hSz) (hL)) ⟨callB_of 0 hts (tw_in cm_Co_begin) rfl rfl rfl (hts _ gn_Co) (hts _ tw_186) hd_Co_begin ⟨Nat.le_of_ble_eq_true rfl, Nat.le_of_ble_eq_true rfl⟩, hts _ gi_Co_begin, hts _ gs_Co_begin⟩ (sn_preVE hK hN hP hD hE hS 8 rfl rfl [0, 1, 2, 3, 4, 5, 6, 7, 8] rfl rfl) rfl rfl hl.1 rfl (lv_room (Nat.le_of_ble_eq_true rfl)) d_Co_advance_11 ⟨Nat.zero_le _, Nat.zero_le _⟩) rfl hP hD hS [0, 1, 2, 3, 4, 5, 6, 7, 8] rfl rfl (fun H locs hP hD hS => ?_)
    have hP : va_P D classes [ce0 a (sn_rc x.1) (sn_tp x.1) (sn_uc x.1), aS K (a 1) 601 (sn_S x.1), aI K (a 2) 9616 (sn_L x.1), aL K (a 3) 9616 (sn_Nm x.1), aI K (a 4) 600 (sn_rl x.1), cm0 a (a 5) (a 6) (a 7) ((sn_shv 600 (sn_L x.1) 0 (sn_sz (sn_S x.1) 0) x.2.1).2.2), aI K (a 6) 601 ((sn_shv 600 (sn_L x.1) 0 (sn_sz (sn_S x.1) 0) x.2.1).1), aI K (a 7) 600 ((sn_shv 600 (sn_L x.1) 0 (sn_sz (sn_S x.1) 0) x.2.1).2.1), cc0 a ad 1 x.2.2.2] H := hP
    have hD : va_D A [ce0 a (sn_rc x.1) (sn_tp x.1) (sn_uc x.1), aS K (a 1) 601 (sn_S x.1), aI K (a 2) 9616 (sn_L x.1), aL K (a 3) 9616 (sn_Nm x.1), aI K (a 4) 600 (sn_rl x.1), cm0 a (a 5) (a 6) (a 7) ((sn_shv 600 (sn_L x.1) 0 (sn_sz (sn_S x.1) 0) x.2.1).2.2), aI K (a 6) 601 ((sn_shv 600 (sn_L x.1) 0 (sn_sz (sn_S x.1) 0) x.2.1).1), aI K (a 7) 600 ((sn_shv 600 (sn_L x.1) 0 (sn_sz (sn_S x.1) 0) x.2.1).2.1), cc0 a ad 1 x.2.2.2] := hD
    have hP : va_P D classes [ce0 a (sn_rc (((x.1, sn_shv 600 (sn_L x.1) 0 (sn_sz (sn_S x.1) 0) x.2.1, 1, x.2.2.2) : SnG).1)) (sn_tp (((x.1, sn_shv 600 (sn_L x.1) 0 (sn_sz (sn_S x.1) 0) x.2.1, 1, x.2.2.2) : SnG).1)) (sn_uc (((x.1, sn_shv 600 (sn_L x.1) 0 (sn_sz (sn_S x.1) 0) x.2.1, 1, x.2.2.2) : SnG).1)), aS K (a 1) 601 (sn_S (((x.1, sn_shv 600 (sn_L x.1) 0 (sn_sz (sn_S x.1) 0) x.2.1, 1, x.2.2.2) : SnG).1)), aI K (a 2) 9616 (sn_L (((x.1, sn_shv 600 (sn_L x.1) 0 (sn_sz (sn_S x.1) 0) x.2.1, 1, x.2.2.2) : SnG).1)), aL K (a 3) 9616 (sn_Nm (((x.1, sn_shv 600 (sn_L x.1) 0 (sn_sz (sn_S x.1) 0) x.2.1, 1, x.2.2.2) : SnG).1)), aI K (a 4) 600 (sn_rl (((x.1, sn_shv 600 (sn_L x.1) 0 (sn_sz (sn_S x.1) 0) x.2.1, 1, x.2.2.2) : SnG).1)), cm0 a (a 5) (a 6) (a 7) ((((x.1, sn_shv 600 (sn_L x.1) 0 (sn_sz (sn_S x.1) 0) x.2.1, 1, x.2.2.2) : SnG).2.1).2.2), aI K (a 6) 601 ((((x.1, sn_shv 600 (sn_L x.1) 0 (sn_sz (sn_S x.1) 0) x.2.1, 1, x.2.2.2) : SnG).2.1).1), aI K (a 7) 600 ((((x.1, sn_shv 600 (sn_L x.1) 0 (sn_sz (sn_S x.1) 0) x.2.1, 1, x.2.2.2) : SnG).2.1).2.1), cc0 a ad (((x.1, sn_shv 600 (sn_L x.1) 0 (sn_sz (sn_S x.1) 0) x.2.1, 1, x.2.2.2) : SnG).2.2.1) (((x.1, sn_shv 600 (sn_L x.1) 0 (sn_sz (sn_S x.1) 0) x.2.1, 1, x.2.2.2) : SnG).2.2.2)] H := hP
    have hD : va_D A [ce0 a (sn_rc (((x.1, sn_shv 600 (sn_L x.1) 0 (sn_sz (sn_S x.1) 0) x.2.1, 1, x.2.2.2) : SnG).1)) (sn_tp (((x.1, sn_shv 600 (sn_L x.1) 0 (sn_sz (sn_S x.1) 0) x.2.1, 1, x.2.2.2) : SnG).1)) (sn_uc (((x.1, sn_shv 600 (sn_L x.1) 0 (sn_sz (sn_S x.1) 0) x.2.1, 1, x.2.2.2) : SnG).1)), aS K (a 1) 601 (sn_S (((x.1, sn_shv 600 (sn_L x.1) 0 (sn_sz (sn_S x.1) 0) x.2.1, 1, x.2.2.2) : SnG).1)), aI K (a 2) 9616 (sn_L (((x.1, sn_shv 600 (sn_L x.1) 0 (sn_sz (sn_S x.1) 0) x.2.1, 1, x.2.2.2) : SnG).1)), aL K (a 3) 9616 (sn_Nm (((x.1, sn_shv 600 (sn_L x.1) 0 (sn_sz (sn_S x.1) 0) x.2.1, 1, x.2.2.2) : SnG).1)), aI K (a 4) 600 (sn_rl (((x.1, sn_shv 600 (sn_L x.1) 0 (sn_sz (sn_S x.1) 0) x.2.1, 1, x.2.2.2) : SnG).1)), cm0 a (a 5) (a 6) (a 7) ((((x.1, sn_shv 600 (sn_L x.1) 0 (sn_sz (sn_S x.1) 0) x.2.1, 1, x.2.2.2) : SnG).2.1).2.2), aI K (a 6) 601 ((((x.1, sn_shv 600 (sn_L x.1) 0 (sn_sz (sn_S x.1) 0) x.2.1, 1, x.2.2.2) : SnG).2.1).1), aI K (a 7) 600 ((((x.1, sn_shv 600 (sn_L x.1) 0 (sn_sz (sn_S x.1) 0) x.2.1, 1, x.2.2.2) : SnG).2.1).2.1), cc0 a ad (((x.1, sn_shv 600 (sn_L x.1) 0 (sn_sz (sn_S x.1) 0) x.2.1, 1, x.2.2.2) : SnG).2.2.1) (((x.1, sn_shv 600 (sn_L x.1) 0 (sn_sz (sn_S x.1) 0) x.2.1, 1, x.2.2.2) : SnG).2.2.2)] := hD
    have hl := lv_sub (l' := [(0, .ref (a 8))]) hl [0] rfl
    exact cut14 ((x.1, sn_shv 600 (sn_L x.1) 0 (sn_sz (sn_S x.1) 0) x.2.1, 1, x.2.2.2) : SnG) _ _ _ ((if_pos h1).symm) hl hP hD hS
set_option maxHeartbeats 4000000 in
set_option maxRecDepth 100000 in
theorem c_Co_work (l : Launch) (D : va_G) (K : Nat → ClassId) (ad : Nat → Nat) (a : Nat → Nat) (x : SnG) (u : Nat) (hg : sn_gc x) (hu : u < 2 ^ 30) : Met l y_Co_work w_Co_work ({ frames := 5, cells := 0, slots := 0, locals := 106 }) (va_Pc [.ref (a 8), .int (nI u)] (sn_BE D K ad [ce0 a (sn_rc x.1) (sn_tp x.1) (sn_uc x.1), aS K (a 1) 601 (sn_S x.1), aI K (a 2) 9616 (sn_L x.1), aL K (a 3) 9616 (sn_Nm x.1), aI K (a 4) 600 (sn_rl x.1), cm0 a (a 5) (a 6) (a 7) x.2.1.2.2, aI K (a 6) 601 x.2.1.1, aI K (a 7) 600 x.2.1.2.1, cc0 a ad x.2.2.1 x.2.2.2])) (sn_Q D [ce0 a (sn_rc x.1) (sn_tp x.1) (sn_uc x.1), aS K (a 1) 601 (sn_S x.1), aI K (a 2) 9616 (sn_L x.1), aL K (a 3) 9616 (sn_Nm x.1), aI K (a 4) 600 (sn_rl x.1), cm0 a (a 5) (a 6) (a 7) x.2.1.2.2, aI K (a 6) 601 x.2.1.1, aI K (a 7) 600 x.2.1.2.1, cc0 a ad x.2.2.1 x.2.2.2] [ce0 a (sn_rc ((sn_work u x).1)) (sn_tp ((sn_work u x).1)) (sn_uc ((sn_work u x).1)), aS K (a 1) 601 (sn_S ((sn_work u x).1)), aI K (a 2) 9616 (sn_L ((sn_work u x).1)), aL K (a 3) 9616 (sn_Nm ((sn_work u x).1)), aI K (a 4) 600 (sn_rl ((sn_work u x).1)), cm0 a (a 5) (a 6) (a 7) (((sn_work u x).2.1).2.2), aI K (a 6) 601 (((sn_work u x).2.1).1), aI K (a 7) 600 (((sn_work u x).2.1).2.1), cc0 a ad ((sn_work u x).2.2.1) ((sn_work u x).2.2.2)] none) 0 0 (sn_A [ce0 a (sn_rc x.1) (sn_tp x.1) (sn_uc x.1), aS K (a 1) 601 (sn_S x.1), aI K (a 2) 9616 (sn_L x.1), aL K (a 3) 9616 (sn_Nm x.1), aI K (a 4) 600 (sn_rl x.1), cm0 a (a 5) (a 6) (a 7) x.2.1.2.2, aI K (a 6) 601 x.2.1.1, aI K (a 7) 600 x.2.1.2.1, cc0 a ad x.2.2.1 x.2.2.2]) := by
  refine sn_met (own := R_Co) (by decide +kernel) rfl rfl (Nat.le_of_ble_eq_true rfl) ?_
  intro P9 E9 s9 m9 args below M9 c9 ls Q hQ hx hb hml hrt hlk hts hown hnm hl hB
  obtain ⟨⟨⟨hP, hK, hN⟩, hD⟩, hE⟩ := hB
  have hl : lv_has ls 3 [(0, .ref (a 8)), (1, .int (nI u))] := hl
  have hD := sn_DA hD
  have hS : va_S (sn_A [ce0 a (sn_rc x.1) (sn_tp x.1) (sn_uc x.1), aS K (a 1) 601 (sn_S x.1), aI K (a 2) 9616 (sn_L x.1), aL K (a 3) 9616 (sn_Nm x.1), aI K (a 4) 600 (sn_rl x.1), cm0 a (a 5) (a 6) (a 7) x.2.1.2.2, aI K (a 6) 601 x.2.1.1, aI K (a 7) 600 x.2.1.2.1, cc0 a ad x.2.2.1 x.2.2.2]) s9.heap s9.heap [] := va_S.rf
  generalize hAe : sn_A [ce0 a (sn_rc x.1) (sn_tp x.1) (sn_uc x.1), aS K (a 1) 601 (sn_S x.1), aI K (a 2) 9616 (sn_L x.1), aL K (a 3) 9616 (sn_Nm x.1), aI K (a 4) 600 (sn_rl x.1), cm0 a (a 5) (a 6) (a 7) x.2.1.2.2, aI K (a 6) 601 x.2.1.1, aI K (a 7) 600 x.2.1.2.1, cc0 a ad x.2.2.1 x.2.2.2] = A at hE hD hS
  refine lv_iconst (v := nI 0) hx hb d_Co_work_0 (by decide) ?_
  refine lv_istore_n (lv' := [(2, .int (nI 0)), (0, .ref (a 8)), (1, .int (nI u))]) hx hb d_Co_work_1 rfl hl (by decide) rfl (fun ls hl => ?_)
  have loop0 : ∀ (nn : Nat) (i : Nat) (y : SnG) (ls : Array Slot) (H : Heap) (locs : List Loc), u - i < nn → i ≤ u → sn_gc y → sn_work (u - i) y = sn_work u x → lv_has ls 3 [(0, .ref (a 8)), (1, .int (nI u)), (2, .int (nI i))] → va_P D classes [ce0 a (sn_rc y.1) (sn_tp y.1) (sn_uc y.1), aS K (a 1) 601 (sn_S y.1), aI K (a 2) 9616 (sn_L y.1), aL K (a 3) 9616 (sn_Nm y.1), aI K (a 4) 600 (sn_rl y.1), cm0 a (a 5) (a 6) (a 7) y.2.1.2.2, aI K (a 6) 601 y.2.1.1, aI K (a 7) 600 y.2.1.2.1, cc0 a ad y.2.2.1 y.2.2.2] H → va_D A [ce0 a (sn_rc y.1) (sn_tp y.1) (sn_uc y.1), aS K (a 1) 601 (sn_S y.1), aI K (a 2) 9616 (sn_L y.1), aL K (a 3) 9616 (sn_Nm y.1), aI K (a 4) 600 (sn_rl y.1), cm0 a (a 5) (a 6) (a 7) y.2.1.2.2, aI K (a 6) 601 y.2.1.1, aI K (a 7) 600 y.2.1.2.1, cc0 a ad y.2.2.1 y.2.2.2] → va_S A s9.heap H locs → W P9 l E9 ({ frames := 5, cells := 0, slots := 0, locals := 106 }) s9 m9 args below M9 c9 H locs 0 0 Q (F0 m9 2 ls []) := by
    intro nn
    induction nn with
    | zero => intro i y ls H locs hn; exact absurd hn (Nat.not_lt_zero _)
    | succ nn ih =>
      intro i y ls H locs hmu hi hy ew hl hP hD hS
      refine lv_iload_n hx hb d_Co_work_2 rfl (lv_at hl 2 rfl) ?_
      refine lv_iload_n hx hb d_Co_work_3 rfl (lv_at hl 1 rfl) ?_
      refine sn_icmp_ge (by omega) (by omega) (tgt := 17) hx hb d_Co_work_4 (by decide) (fun h1 => ?_) (fun h1 => ?_)
      · have ei : i = u := by omega
        rw [ei, Nat.sub_self] at ew
        have ew : y = sn_work u x := ew
        rw [← ew] at hQ
        subst hAe
        exact sx_wv hQ hx hb hrt hlk hP hS d_Co_work_17
      · refine lv_aload_n hx hb d_Co_work_7 rfl (lv_at hl 0 rfl) ?_
        refine sn_wrt (st1 := []) (w1 := [ce0 a (sn_rc ((sn_adv y).1)) (sn_tp ((sn_adv y).1)) (sn_uc ((sn_adv y).1)), aS K (a 1) 601 (sn_S ((sn_adv y).1)), aI K (a 2) 9616 (sn_L ((sn_adv y).1)), aL K (a 3) 9616 (sn_Nm ((sn_adv y).1)), aI K (a 4) 600 (sn_rl ((sn_adv y).1)), cm0 a (a 5) (a 6) (a 7) (((sn_adv y).2.1).2.2), aI K (a 6) 601 (((sn_adv y).2.1).1), aI K (a 7) 600 (((sn_adv y).2.1).2.1), cc0 a ad ((sn_adv y).2.2.1) ((sn_adv y).2.2.2)]) (va_runV (As := []) (rest := []) ⟨hx, hb, hml, hown, hts⟩ (c_Co_advance l D K ad a y (hy)) ⟨callB_of 0 hts (tw_in cm_Co_advance) rfl rfl rfl (hts _ gn_Co) (hts _ tw_182) hd_Co_advance ⟨Nat.le_of_ble_eq_true rfl, Nat.le_of_ble_eq_true rfl⟩, hts _ gi_Co_advance, hts _ gs_Co_advance⟩ (sn_preVE hK hN hP hD hE hS 8 rfl rfl [0, 1, 2, 3, 4, 5, 6, 7, 8] rfl rfl) rfl rfl hl.1 rfl (lv_room (Nat.le_of_ble_eq_true rfl)) d_Co_work_8 ⟨Nat.zero_le _, Nat.zero_le _⟩) rfl hP hD hS [0, 1, 2, 3, 4, 5, 6, 7, 8] rfl rfl (fun H locs hP hD hS => ?_)
        have hP : va_P D classes [ce0 a (sn_rc ((sn_adv y).1)) (sn_tp ((sn_adv y).1)) (sn_uc ((sn_adv y).1)), aS K (a 1) 601 (sn_S ((sn_adv y).1)), aI K (a 2) 9616 (sn_L ((sn_adv y).1)), aL K (a 3) 9616 (sn_Nm ((sn_adv y).1)), aI K (a 4) 600 (sn_rl ((sn_adv y).1)), cm0 a (a 5) (a 6) (a 7) (((sn_adv y).2.1).2.2), aI K (a 6) 601 (((sn_adv y).2.1).1), aI K (a 7) 600 (((sn_adv y).2.1).2.1), cc0 a ad ((sn_adv y).2.2.1) ((sn_adv y).2.2.2)] H := hP
        have hD : va_D A [ce0 a (sn_rc ((sn_adv y).1)) (sn_tp ((sn_adv y).1)) (sn_uc ((sn_adv y).1)), aS K (a 1) 601 (sn_S ((sn_adv y).1)), aI K (a 2) 9616 (sn_L ((sn_adv y).1)), aL K (a 3) 9616 (sn_Nm ((sn_adv y).1)), aI K (a 4) 600 (sn_rl ((sn_adv y).1)), cm0 a (a 5) (a 6) (a 7) (((sn_adv y).2.1).2.2), aI K (a 6) 601 (((sn_adv y).2.1).1), aI K (a 7) 600 (((sn_adv y).2.1).2.1), cc0 a ad ((sn_adv y).2.2.1) ((sn_adv y).2.2.2)] := hD
        refine lv_iinc (k := 2) (v := nI (i + 1)) (lv' := [(2, .int (nI (i + 1))), (0, .ref (a 8)), (1, .int (nI u))]) hx hb d_Co_work_11 hl rfl (sn_inc _) (by decide) rfl (fun ls hl => ?_)
        refine lv_goto (tgt := 2) hx hb d_Co_work_14 (by decide) ?_
        have hl := lv_sub (l' := [(0, .ref (a 8)), (1, .int (nI u)), (2, .int (nI (i + 1)))]) hl [1, 2, 0] rfl
        exact ih (i + 1) (sn_adv y) _ _ _ (by omega) (by omega) ((sn_adv_gc hy).1) (by rw [← ew, show u - i = (u - (i + 1)) + 1 by omega]; rfl) hl hP hD hS
  have hl := lv_sub (l' := [(0, .ref (a 8)), (1, .int (nI u)), (2, .int (nI 0))]) hl [1, 2, 0] rfl
  exact loop0 _ 0 x _ _ _ (Nat.lt_succ_self _) (by omega) (hg) (rfl) hl hP hD hS
set_option maxHeartbeats 4000000 in
set_option maxRecDepth 100000 in
theorem c_Co_collectWhole (l : Launch) (D : va_G) (K : Nat → ClassId) (ad : Nat → Nat) (a : Nat → Nat) (x : SnG) (hg : sn_gc x) : Met l y_Co_collectWhole w_Co_collectWhole ({ frames := 5, cells := 0, slots := 0, locals := 106 }) (va_Pc [.ref (a 8)] (sn_BE D K ad [ce0 a (sn_rc x.1) (sn_tp x.1) (sn_uc x.1), aS K (a 1) 601 (sn_S x.1), aI K (a 2) 9616 (sn_L x.1), aL K (a 3) 9616 (sn_Nm x.1), aI K (a 4) 600 (sn_rl x.1), cm0 a (a 5) (a 6) (a 7) x.2.1.2.2, aI K (a 6) 601 x.2.1.1, aI K (a 7) 600 x.2.1.2.1, cc0 a ad x.2.2.1 x.2.2.2])) (sn_Q D [ce0 a (sn_rc x.1) (sn_tp x.1) (sn_uc x.1), aS K (a 1) 601 (sn_S x.1), aI K (a 2) 9616 (sn_L x.1), aL K (a 3) 9616 (sn_Nm x.1), aI K (a 4) 600 (sn_rl x.1), cm0 a (a 5) (a 6) (a 7) x.2.1.2.2, aI K (a 6) 601 x.2.1.1, aI K (a 7) 600 x.2.1.2.1, cc0 a ad x.2.2.1 x.2.2.2] [ce0 a (sn_rc ((sn_whole x).1)) (sn_tp ((sn_whole x).1)) (sn_uc ((sn_whole x).1)), aS K (a 1) 601 (sn_S ((sn_whole x).1)), aI K (a 2) 9616 (sn_L ((sn_whole x).1)), aL K (a 3) 9616 (sn_Nm ((sn_whole x).1)), aI K (a 4) 600 (sn_rl ((sn_whole x).1)), cm0 a (a 5) (a 6) (a 7) (((sn_whole x).2.1).2.2), aI K (a 6) 601 (((sn_whole x).2.1).1), aI K (a 7) 600 (((sn_whole x).2.1).2.1), cc0 a ad ((sn_whole x).2.2.1) ((sn_whole x).2.2.2)] none) 0 0 (sn_A [ce0 a (sn_rc x.1) (sn_tp x.1) (sn_uc x.1), aS K (a 1) 601 (sn_S x.1), aI K (a 2) 9616 (sn_L x.1), aL K (a 3) 9616 (sn_Nm x.1), aI K (a 4) 600 (sn_rl x.1), cm0 a (a 5) (a 6) (a 7) x.2.1.2.2, aI K (a 6) 601 x.2.1.1, aI K (a 7) 600 x.2.1.2.1, cc0 a ad x.2.2.1 x.2.2.2]) := by
  refine sn_met (own := R_Co) (by decide +kernel) rfl rfl (Nat.le_of_ble_eq_true rfl) ?_
  intro P9 E9 s9 m9 args below M9 c9 ls Q hQ hx hb hml hrt hlk hts hown hnm hl hB
  obtain ⟨⟨⟨hP, hK, hN⟩, hD⟩, hE⟩ := hB
  have hl : lv_has ls 2 [(0, .ref (a 8))] := hl
  have hD := sn_DA hD
  have hS : va_S (sn_A [ce0 a (sn_rc x.1) (sn_tp x.1) (sn_uc x.1), aS K (a 1) 601 (sn_S x.1), aI K (a 2) 9616 (sn_L x.1), aL K (a 3) 9616 (sn_Nm x.1), aI K (a 4) 600 (sn_rl x.1), cm0 a (a 5) (a 6) (a 7) x.2.1.2.2, aI K (a 6) 601 x.2.1.1, aI K (a 7) 600 x.2.1.2.1, cc0 a ad x.2.2.1 x.2.2.2]) s9.heap s9.heap [] := va_S.rf
  generalize hAe : sn_A [ce0 a (sn_rc x.1) (sn_tp x.1) (sn_uc x.1), aS K (a 1) 601 (sn_S x.1), aI K (a 2) 9616 (sn_L x.1), aL K (a 3) 9616 (sn_Nm x.1), aI K (a 4) 600 (sn_rl x.1), cm0 a (a 5) (a 6) (a 7) x.2.1.2.2, aI K (a 6) 601 x.2.1.1, aI K (a 7) 600 x.2.1.2.1, cc0 a ad x.2.2.1 x.2.2.2] = A at hE hD hS
  have hSz := sn_gc_hSz hg
  have hL := sn_gc_hL hg
  have hX := sn_gc_hX hg
  have hph := sn_gc_ph hg
  have hC := hX.1
  have hw := hX.2
  refine lv_aload_n hx hb d_Co_collectWhole_0 rfl (lv_at hl 0 rfl) ?_
  refine va_get (D := D) (ci := 2) (v := .ref (a 5)) (C := R_Co) (T := F_Co) (N := 4) hx hb hts in_Co hown hK hP 8 rfl rfl 1 (by decide) (hts _ tw_88) (fun _ h9 => h9) rfl d_Co_collectWhole_1 ?_
  refine sn_wrt (st1 := []) (w1 := [cm0 a (a 5) (a 6) (a 7) (((fun _ => 0, x.2.1.2.1, 0) : SnM).2.2), aI K (a 6) 601 (((fun _ => 0, x.2.1.2.1, 0) : SnM).1), aI K (a 7) 600 (((fun _ => 0, x.2.1.2.1, 0) : SnM).2.1)]) (va_runV (As := []) (rest := []) ⟨hx, hb, hml, hown, hts⟩ (c_Ma_reset l D K a (a 5) (a 6) (a 7) x.2.1) ⟨callB_of 0 hts (tw_in cm_Ma_reset) rfl rfl rfl (hts _ gn_Ma) (hts _ tw_313) hd_Ma_reset ⟨Nat.le_of_ble_eq_true rfl, Nat.le_of_ble_eq_true rfl⟩, hts _ gi_Ma_reset, hts _ gs_Ma_reset⟩ (sn_preVW hK hN hP hD 5 rfl rfl [5, 6, 7] rfl rfl) rfl rfl hl.1 rfl (lv_room (Nat.le_of_ble_eq_true rfl)) d_Co_collectWhole_4 ⟨Nat.zero_le _, Nat.zero_le _⟩) rfl hP hD hS [5, 6, 7] rfl rfl (fun H locs hP hD hS => ?_)
  have hP : va_P D classes [ce0 a (sn_rc x.1) (sn_tp x.1) (sn_uc x.1), aS K (a 1) 601 (sn_S x.1), aI K (a 2) 9616 (sn_L x.1), aL K (a 3) 9616 (sn_Nm x.1), aI K (a 4) 600 (sn_rl x.1), cm0 a (a 5) (a 6) (a 7) (((fun _ => 0, x.2.1.2.1, 0) : SnM).2.2), aI K (a 6) 601 (((fun _ => 0, x.2.1.2.1, 0) : SnM).1), aI K (a 7) 600 (((fun _ => 0, x.2.1.2.1, 0) : SnM).2.1), cc0 a ad x.2.2.1 x.2.2.2] H := hP
  have hD : va_D A [ce0 a (sn_rc x.1) (sn_tp x.1) (sn_uc x.1), aS K (a 1) 601 (sn_S x.1), aI K (a 2) 9616 (sn_L x.1), aL K (a 3) 9616 (sn_Nm x.1), aI K (a 4) 600 (sn_rl x.1), cm0 a (a 5) (a 6) (a 7) (((fun _ => 0, x.2.1.2.1, 0) : SnM).2.2), aI K (a 6) 601 (((fun _ => 0, x.2.1.2.1, 0) : SnM).1), aI K (a 7) 600 (((fun _ => 0, x.2.1.2.1, 0) : SnM).2.1), cc0 a ad x.2.2.1 x.2.2.2] := hD
  have hP : va_P D classes [ce0 a (sn_rc (((x.1, (fun _ => 0, x.2.1.2.1, 0), x.2.2) : SnG).1)) (sn_tp (((x.1, (fun _ => 0, x.2.1.2.1, 0), x.2.2) : SnG).1)) (sn_uc (((x.1, (fun _ => 0, x.2.1.2.1, 0), x.2.2) : SnG).1)), aS K (a 1) 601 (sn_S (((x.1, (fun _ => 0, x.2.1.2.1, 0), x.2.2) : SnG).1)), aI K (a 2) 9616 (sn_L (((x.1, (fun _ => 0, x.2.1.2.1, 0), x.2.2) : SnG).1)), aL K (a 3) 9616 (sn_Nm (((x.1, (fun _ => 0, x.2.1.2.1, 0), x.2.2) : SnG).1)), aI K (a 4) 600 (sn_rl (((x.1, (fun _ => 0, x.2.1.2.1, 0), x.2.2) : SnG).1)), cm0 a (a 5) (a 6) (a 7) ((((x.1, (fun _ => 0, x.2.1.2.1, 0), x.2.2) : SnG).2.1).2.2), aI K (a 6) 601 ((((x.1, (fun _ => 0, x.2.1.2.1, 0), x.2.2) : SnG).2.1).1), aI K (a 7) 600 ((((x.1, (fun _ => 0, x.2.1.2.1, 0), x.2.2) : SnG).2.1).2.1), cc0 a ad (((x.1, (fun _ => 0, x.2.1.2.1, 0), x.2.2) : SnG).2.2.1) (((x.1, (fun _ => 0, x.2.1.2.1, 0), x.2.2) : SnG).2.2.2)] H := hP
  have hD : va_D A [ce0 a (sn_rc (((x.1, (fun _ => 0, x.2.1.2.1, 0), x.2.2) : SnG).1)) (sn_tp (((x.1, (fun _ => 0, x.2.1.2.1, 0), x.2.2) : SnG).1)) (sn_uc (((x.1, (fun _ => 0, x.2.1.2.1, 0), x.2.2) : SnG).1)), aS K (a 1) 601 (sn_S (((x.1, (fun _ => 0, x.2.1.2.1, 0), x.2.2) : SnG).1)), aI K (a 2) 9616 (sn_L (((x.1, (fun _ => 0, x.2.1.2.1, 0), x.2.2) : SnG).1)), aL K (a 3) 9616 (sn_Nm (((x.1, (fun _ => 0, x.2.1.2.1, 0), x.2.2) : SnG).1)), aI K (a 4) 600 (sn_rl (((x.1, (fun _ => 0, x.2.1.2.1, 0), x.2.2) : SnG).1)), cm0 a (a 5) (a 6) (a 7) ((((x.1, (fun _ => 0, x.2.1.2.1, 0), x.2.2) : SnG).2.1).2.2), aI K (a 6) 601 ((((x.1, (fun _ => 0, x.2.1.2.1, 0), x.2.2) : SnG).2.1).1), aI K (a 7) 600 ((((x.1, (fun _ => 0, x.2.1.2.1, 0), x.2.2) : SnG).2.1).2.1), cc0 a ad (((x.1, (fun _ => 0, x.2.1.2.1, 0), x.2.2) : SnG).2.2.1) (((x.1, (fun _ => 0, x.2.1.2.1, 0), x.2.2) : SnG).2.2.2)] := hD
  refine lv_aload_n hx hb d_Co_collectWhole_7 rfl (lv_at hl 0 rfl) ?_
  refine sn_wrt (st1 := []) (w1 := [ce0 a (sn_rc (((x.1, (fun _ => 0, x.2.1.2.1, 0), x.2.2) : SnG).1)) (sn_tp (((x.1, (fun _ => 0, x.2.1.2.1, 0), x.2.2) : SnG).1)) (sn_uc (((x.1, (fun _ => 0, x.2.1.2.1, 0), x.2.2) : SnG).1)), aS K (a 1) 601 (sn_S (((x.1, (fun _ => 0, x.2.1.2.1, 0), x.2.2) : SnG).1)), aI K (a 2) 9616 (sn_L (((x.1, (fun _ => 0, x.2.1.2.1, 0), x.2.2) : SnG).1)), aL K (a 3) 9616 (sn_Nm (((x.1, (fun _ => 0, x.2.1.2.1, 0), x.2.2) : SnG).1)), aI K (a 4) 600 (sn_rl (((x.1, (fun _ => 0, x.2.1.2.1, 0), x.2.2) : SnG).1)), cm0 a (a 5) (a 6) (a 7) ((sn_shv 600 (sn_L ((x.1, (fun _ => 0, x.2.1.2.1, 0), x.2.2) : SnG).1) 0 (sn_sz (sn_S ((x.1, (fun _ => 0, x.2.1.2.1, 0), x.2.2) : SnG).1) 0) ((x.1, (fun _ => 0, x.2.1.2.1, 0), x.2.2) : SnG).2.1).2.2), aI K (a 6) 601 ((sn_shv 600 (sn_L ((x.1, (fun _ => 0, x.2.1.2.1, 0), x.2.2) : SnG).1) 0 (sn_sz (sn_S ((x.1, (fun _ => 0, x.2.1.2.1, 0), x.2.2) : SnG).1) 0) ((x.1, (fun _ => 0, x.2.1.2.1, 0), x.2.2) : SnG).2.1).1), aI K (a 7) 600 ((sn_shv 600 (sn_L ((x.1, (fun _ => 0, x.2.1.2.1, 0), x.2.2) : SnG).1) 0 (sn_sz (sn_S ((x.1, (fun _ => 0, x.2.1.2.1, 0), x.2.2) : SnG).1) 0) ((x.1, (fun _ => 0, x.2.1.2.1, 0), x.2.2) : SnG).2.1).2.1), cc0 a ad 1 (((x.1, (fun _ => 0, x.2.1.2.1, 0), x.2.2) : SnG).2.2.2)]) (va_runV (As := []) (rest := []) ⟨hx, hb, hml, hown, hts⟩ (c_Co_begin l D K ad a ((x.1, (fun _ => 0, x.2.1.2.1, 0), x.2.2) : SnG) (⟨fun _ => Nat.zero_le _, Nat.zero_le _⟩) (hSz) (hL)) ⟨callB_of 0 hts (tw_in cm_Co_begin) rfl rfl rfl (hts _ gn_Co) (hts _ tw_186) hd_Co_begin ⟨Nat.le_of_ble_eq_true rfl, Nat.le_of_ble_eq_true rfl⟩, hts _ gi_Co_begin, hts _ gs_Co_begin⟩ (sn_preVE hK hN hP hD hE hS 8 rfl rfl [0, 1, 2, 3, 4, 5, 6, 7, 8] rfl rfl) rfl rfl hl.1 rfl (lv_room (Nat.le_of_ble_eq_true rfl)) d_Co_collectWhole_8 ⟨Nat.zero_le _, Nat.zero_le _⟩) rfl hP hD hS [0, 1, 2, 3, 4, 5, 6, 7, 8] rfl rfl (fun H locs hP hD hS => ?_)
  have hP : va_P D classes [ce0 a (sn_rc (((x.1, (fun _ => 0, x.2.1.2.1, 0), x.2.2) : SnG).1)) (sn_tp (((x.1, (fun _ => 0, x.2.1.2.1, 0), x.2.2) : SnG).1)) (sn_uc (((x.1, (fun _ => 0, x.2.1.2.1, 0), x.2.2) : SnG).1)), aS K (a 1) 601 (sn_S (((x.1, (fun _ => 0, x.2.1.2.1, 0), x.2.2) : SnG).1)), aI K (a 2) 9616 (sn_L (((x.1, (fun _ => 0, x.2.1.2.1, 0), x.2.2) : SnG).1)), aL K (a 3) 9616 (sn_Nm (((x.1, (fun _ => 0, x.2.1.2.1, 0), x.2.2) : SnG).1)), aI K (a 4) 600 (sn_rl (((x.1, (fun _ => 0, x.2.1.2.1, 0), x.2.2) : SnG).1)), cm0 a (a 5) (a 6) (a 7) ((sn_shv 600 (sn_L ((x.1, (fun _ => 0, x.2.1.2.1, 0), x.2.2) : SnG).1) 0 (sn_sz (sn_S ((x.1, (fun _ => 0, x.2.1.2.1, 0), x.2.2) : SnG).1) 0) ((x.1, (fun _ => 0, x.2.1.2.1, 0), x.2.2) : SnG).2.1).2.2), aI K (a 6) 601 ((sn_shv 600 (sn_L ((x.1, (fun _ => 0, x.2.1.2.1, 0), x.2.2) : SnG).1) 0 (sn_sz (sn_S ((x.1, (fun _ => 0, x.2.1.2.1, 0), x.2.2) : SnG).1) 0) ((x.1, (fun _ => 0, x.2.1.2.1, 0), x.2.2) : SnG).2.1).1), aI K (a 7) 600 ((sn_shv 600 (sn_L ((x.1, (fun _ => 0, x.2.1.2.1, 0), x.2.2) : SnG).1) 0 (sn_sz (sn_S ((x.1, (fun _ => 0, x.2.1.2.1, 0), x.2.2) : SnG).1) 0) ((x.1, (fun _ => 0, x.2.1.2.1, 0), x.2.2) : SnG).2.1).2.1), cc0 a ad 1 (((x.1, (fun _ => 0, x.2.1.2.1, 0), x.2.2) : SnG).2.2.2)] H := hP
  have hD : va_D A [ce0 a (sn_rc (((x.1, (fun _ => 0, x.2.1.2.1, 0), x.2.2) : SnG).1)) (sn_tp (((x.1, (fun _ => 0, x.2.1.2.1, 0), x.2.2) : SnG).1)) (sn_uc (((x.1, (fun _ => 0, x.2.1.2.1, 0), x.2.2) : SnG).1)), aS K (a 1) 601 (sn_S (((x.1, (fun _ => 0, x.2.1.2.1, 0), x.2.2) : SnG).1)), aI K (a 2) 9616 (sn_L (((x.1, (fun _ => 0, x.2.1.2.1, 0), x.2.2) : SnG).1)), aL K (a 3) 9616 (sn_Nm (((x.1, (fun _ => 0, x.2.1.2.1, 0), x.2.2) : SnG).1)), aI K (a 4) 600 (sn_rl (((x.1, (fun _ => 0, x.2.1.2.1, 0), x.2.2) : SnG).1)), cm0 a (a 5) (a 6) (a 7) ((sn_shv 600 (sn_L ((x.1, (fun _ => 0, x.2.1.2.1, 0), x.2.2) : SnG).1) 0 (sn_sz (sn_S ((x.1, (fun _ => 0, x.2.1.2.1, 0), x.2.2) : SnG).1) 0) ((x.1, (fun _ => 0, x.2.1.2.1, 0), x.2.2) : SnG).2.1).2.2), aI K (a 6) 601 ((sn_shv 600 (sn_L ((x.1, (fun _ => 0, x.2.1.2.1, 0), x.2.2) : SnG).1) 0 (sn_sz (sn_S ((x.1, (fun _ => 0, x.2.1.2.1, 0), x.2.2) : SnG).1) 0) ((x.1, (fun _ => 0, x.2.1.2.1, 0), x.2.2) : SnG).2.1).1), aI K (a 7) 600 ((sn_shv 600 (sn_L ((x.1, (fun _ => 0, x.2.1.2.1, 0), x.2.2) : SnG).1) 0 (sn_sz (sn_S ((x.1, (fun _ => 0, x.2.1.2.1, 0), x.2.2) : SnG).1) 0) ((x.1, (fun _ => 0, x.2.1.2.1, 0), x.2.2) : SnG).2.1).2.1), cc0 a ad 1 (((x.1, (fun _ => 0, x.2.1.2.1, 0), x.2.2) : SnG).2.2.2)] := hD
  have hP : va_P D classes [ce0 a (sn_rc (((x.1, sn_shv 600 (sn_L x.1) 0 (sn_sz (sn_S x.1) 0) (fun _ => 0, x.2.1.2.1, 0), 1, x.2.2.2) : SnG).1)) (sn_tp (((x.1, sn_shv 600 (sn_L x.1) 0 (sn_sz (sn_S x.1) 0) (fun _ => 0, x.2.1.2.1, 0), 1, x.2.2.2) : SnG).1)) (sn_uc (((x.1, sn_shv 600 (sn_L x.1) 0 (sn_sz (sn_S x.1) 0) (fun _ => 0, x.2.1.2.1, 0), 1, x.2.2.2) : SnG).1)), aS K (a 1) 601 (sn_S (((x.1, sn_shv 600 (sn_L x.1) 0 (sn_sz (sn_S x.1) 0) (fun _ => 0, x.2.1.2.1, 0), 1, x.2.2.2) : SnG).1)), aI K (a 2) 9616 (sn_L (((x.1, sn_shv 600 (sn_L x.1) 0 (sn_sz (sn_S x.1) 0) (fun _ => 0, x.2.1.2.1, 0), 1, x.2.2.2) : SnG).1)), aL K (a 3) 9616 (sn_Nm (((x.1, sn_shv 600 (sn_L x.1) 0 (sn_sz (sn_S x.1) 0) (fun _ => 0, x.2.1.2.1, 0), 1, x.2.2.2) : SnG).1)), aI K (a 4) 600 (sn_rl (((x.1, sn_shv 600 (sn_L x.1) 0 (sn_sz (sn_S x.1) 0) (fun _ => 0, x.2.1.2.1, 0), 1, x.2.2.2) : SnG).1)), cm0 a (a 5) (a 6) (a 7) ((((x.1, sn_shv 600 (sn_L x.1) 0 (sn_sz (sn_S x.1) 0) (fun _ => 0, x.2.1.2.1, 0), 1, x.2.2.2) : SnG).2.1).2.2), aI K (a 6) 601 ((((x.1, sn_shv 600 (sn_L x.1) 0 (sn_sz (sn_S x.1) 0) (fun _ => 0, x.2.1.2.1, 0), 1, x.2.2.2) : SnG).2.1).1), aI K (a 7) 600 ((((x.1, sn_shv 600 (sn_L x.1) 0 (sn_sz (sn_S x.1) 0) (fun _ => 0, x.2.1.2.1, 0), 1, x.2.2.2) : SnG).2.1).2.1), cc0 a ad (((x.1, sn_shv 600 (sn_L x.1) 0 (sn_sz (sn_S x.1) 0) (fun _ => 0, x.2.1.2.1, 0), 1, x.2.2.2) : SnG).2.2.1) (((x.1, sn_shv 600 (sn_L x.1) 0 (sn_sz (sn_S x.1) 0) (fun _ => 0, x.2.1.2.1, 0), 1, x.2.2.2) : SnG).2.2.2)] H := hP
  have hD : va_D A [ce0 a (sn_rc (((x.1, sn_shv 600 (sn_L x.1) 0 (sn_sz (sn_S x.1) 0) (fun _ => 0, x.2.1.2.1, 0), 1, x.2.2.2) : SnG).1)) (sn_tp (((x.1, sn_shv 600 (sn_L x.1) 0 (sn_sz (sn_S x.1) 0) (fun _ => 0, x.2.1.2.1, 0), 1, x.2.2.2) : SnG).1)) (sn_uc (((x.1, sn_shv 600 (sn_L x.1) 0 (sn_sz (sn_S x.1) 0) (fun _ => 0, x.2.1.2.1, 0), 1, x.2.2.2) : SnG).1)), aS K (a 1) 601 (sn_S (((x.1, sn_shv 600 (sn_L x.1) 0 (sn_sz (sn_S x.1) 0) (fun _ => 0, x.2.1.2.1, 0), 1, x.2.2.2) : SnG).1)), aI K (a 2) 9616 (sn_L (((x.1, sn_shv 600 (sn_L x.1) 0 (sn_sz (sn_S x.1) 0) (fun _ => 0, x.2.1.2.1, 0), 1, x.2.2.2) : SnG).1)), aL K (a 3) 9616 (sn_Nm (((x.1, sn_shv 600 (sn_L x.1) 0 (sn_sz (sn_S x.1) 0) (fun _ => 0, x.2.1.2.1, 0), 1, x.2.2.2) : SnG).1)), aI K (a 4) 600 (sn_rl (((x.1, sn_shv 600 (sn_L x.1) 0 (sn_sz (sn_S x.1) 0) (fun _ => 0, x.2.1.2.1, 0), 1, x.2.2.2) : SnG).1)), cm0 a (a 5) (a 6) (a 7) ((((x.1, sn_shv 600 (sn_L x.1) 0 (sn_sz (sn_S x.1) 0) (fun _ => 0, x.2.1.2.1, 0), 1, x.2.2.2) : SnG).2.1).2.2), aI K (a 6) 601 ((((x.1, sn_shv 600 (sn_L x.1) 0 (sn_sz (sn_S x.1) 0) (fun _ => 0, x.2.1.2.1, 0), 1, x.2.2.2) : SnG).2.1).1), aI K (a 7) 600 ((((x.1, sn_shv 600 (sn_L x.1) 0 (sn_sz (sn_S x.1) 0) (fun _ => 0, x.2.1.2.1, 0), 1, x.2.2.2) : SnG).2.1).2.1), cc0 a ad (((x.1, sn_shv 600 (sn_L x.1) 0 (sn_sz (sn_S x.1) 0) (fun _ => 0, x.2.1.2.1, 0), 1, x.2.2.2) : SnG).2.2.1) (((x.1, sn_shv 600 (sn_L x.1) 0 (sn_sz (sn_S x.1) 0) (fun _ => 0, x.2.1.2.1, 0), 1, x.2.2.2) : SnG).2.2.2)] := hD
  refine lv_iconst (v := nI 0) hx hb d_Co_collectWhole_11 (by decide) ?_
  refine lv_istore_n (lv' := [(1, .int (nI 0)), (0, .ref (a 8))]) hx hb d_Co_collectWhole_12 rfl hl (by decide) rfl (fun ls hl => ?_)
  have loop0 : ∀ (nn : Nat) (i : Nat) (y : SnG) (ls : Array Slot) (H : Heap) (locs : List Loc), 1200 - i < nn → i ≤ 1200 → sn_gc y → sn_it (1200 - i) y = sn_whole x → lv_has ls 2 [(0, .ref (a 8)), (1, .int (nI i))] → va_P D classes [ce0 a (sn_rc y.1) (sn_tp y.1) (sn_uc y.1), aS K (a 1) 601 (sn_S y.1), aI K (a 2) 9616 (sn_L y.1), aL K (a 3) 9616 (sn_Nm y.1), aI K (a 4) 600 (sn_rl y.1), cm0 a (a 5) (a 6) (a 7) y.2.1.2.2, aI K (a 6) 601 y.2.1.1, aI K (a 7) 600 y.2.1.2.1, cc0 a ad y.2.2.1 y.2.2.2] H → va_D A [ce0 a (sn_rc y.1) (sn_tp y.1) (sn_uc y.1), aS K (a 1) 601 (sn_S y.1), aI K (a 2) 9616 (sn_L y.1), aL K (a 3) 9616 (sn_Nm y.1), aI K (a 4) 600 (sn_rl y.1), cm0 a (a 5) (a 6) (a 7) y.2.1.2.2, aI K (a 6) 601 y.2.1.1, aI K (a 7) 600 y.2.1.2.1, cc0 a ad y.2.2.1 y.2.2.2] → va_S A s9.heap H locs → W P9 l E9 ({ frames := 5, cells := 0, slots := 0, locals := 106 }) s9 m9 args below M9 c9 H locs 0 0 Q (F0 m9 13 ls []) := by
    intro nn
    induction nn with
    | zero => intro i y ls H locs hn; exact absurd hn (Nat.not_lt_zero _)
    | succ nn ih =>
      intro i y ls H locs hmu hi hy ew hl hP hD hS
      have hph := sn_gc_ph hy
      refine lv_iload_n hx hb d_Co_collectWhole_13 rfl (lv_at hl 1 rfl) ?_
      refine lv_sipush (v := nI 1200) hx hb d_Co_collectWhole_14 (by decide) ?_
      refine sn_icmp_ge (by omega) (by omega) (tgt := 40) hx hb d_Co_collectWhole_17 (by decide) (fun h1 => ?_) (fun h1 => ?_)
      · have ei : i = 1200 := by omega
        rw [ei, Nat.sub_self] at ew
        have ew : y = sn_whole x := ew
        rw [← ew] at hQ
        subst hAe
        exact sx_wv hQ hx hb hrt hlk hP hS d_Co_collectWhole_40
      · refine lv_aload_n hx hb d_Co_collectWhole_20 rfl (lv_at hl 0 rfl) ?_
        refine va_get (D := D) (ci := 2) (v := .ref (ad y.2.2.1)) (C := R_Co) (T := F_Co) (N := 4) hx hb hts in_Co hown hK hP 8 rfl rfl 2 (by decide) (hts _ tw_89) (fun _ h9 => h9) rfl d_Co_collectWhole_21 ?_
        refine va_gets (C := "SnapshotHeap$Phase") (n := "REST") (d := "LSnapshotHeap$Phase;") (v := .ref (ad 0)) hx hb (hE.1 0 (by decide)).1 hS hown (hts _ tw_85) (fun _ h9 => h9) d_Co_collectWhole_24 ?_
        refine lv_acmp_eq (rx := some (ad y.2.2.1)) (ry := some (ad 0)) (tgt := 40) hx hb d_Co_collectWhole_27 (by decide) (fun h2 => ?_) (fun h2 => ?_)
        · have h2 : y.2.2.1 = 0 := hE.2 _ _ (by show _ < 3; omega) (by show _ < 3; omega) (Option.some.inj h2)
          have ew2 : y = sn_whole x := by rw [← ew]; exact (sn_it_0 _ h2).symm
          rw [← ew2] at hQ
          subst hAe
          exact sx_wv hQ hx hb hrt hlk hP hS d_Co_collectWhole_40
        · have h2 : y.2.2.1 ≠ 0 := fun h9 => h2 (by rw [h9])
          refine lv_aload_n hx hb d_Co_collectWhole_30 rfl (lv_at hl 0 rfl) ?_
          refine sn_wrt (st1 := []) (w1 := [ce0 a (sn_rc ((sn_adv y).1)) (sn_tp ((sn_adv y).1)) (sn_uc ((sn_adv y).1)), aS K (a 1) 601 (sn_S ((sn_adv y).1)), aI K (a 2) 9616 (sn_L ((sn_adv y).1)), aL K (a 3) 9616 (sn_Nm ((sn_adv y).1)), aI K (a 4) 600 (sn_rl ((sn_adv y).1)), cm0 a (a 5) (a 6) (a 7) (((sn_adv y).2.1).2.2), aI K (a 6) 601 (((sn_adv y).2.1).1), aI K (a 7) 600 (((sn_adv y).2.1).2.1), cc0 a ad ((sn_adv y).2.2.1) ((sn_adv y).2.2.2)]) (va_runV (As := []) (rest := []) ⟨hx, hb, hml, hown, hts⟩ (c_Co_advance l D K ad a y (hy)) ⟨callB_of 0 hts (tw_in cm_Co_advance) rfl rfl rfl (hts _ gn_Co) (hts _ tw_182) hd_Co_advance ⟨Nat.le_of_ble_eq_true rfl, Nat.le_of_ble_eq_true rfl⟩, hts _ gi_Co_advance, hts _ gs_Co_advance⟩ (sn_preVE hK hN hP hD hE hS 8 rfl rfl [0, 1, 2, 3, 4, 5, 6, 7, 8] rfl rfl) rfl rfl hl.1 rfl (lv_room (Nat.le_of_ble_eq_true rfl)) d_Co_collectWhole_31 ⟨Nat.zero_le _, Nat.zero_le _⟩) rfl hP hD hS [0, 1, 2, 3, 4, 5, 6, 7, 8] rfl rfl (fun H locs hP hD hS => ?_)
          have hP : va_P D classes [ce0 a (sn_rc ((sn_adv y).1)) (sn_tp ((sn_adv y).1)) (sn_uc ((sn_adv y).1)), aS K (a 1) 601 (sn_S ((sn_adv y).1)), aI K (a 2) 9616 (sn_L ((sn_adv y).1)), aL K (a 3) 9616 (sn_Nm ((sn_adv y).1)), aI K (a 4) 600 (sn_rl ((sn_adv y).1)), cm0 a (a 5) (a 6) (a 7) (((sn_adv y).2.1).2.2), aI K (a 6) 601 (((sn_adv y).2.1).1), aI K (a 7) 600 (((sn_adv y).2.1).2.1), cc0 a ad ((sn_adv y).2.2.1) ((sn_adv y).2.2.2)] H := hP
          have hD : va_D A [ce0 a (sn_rc ((sn_adv y).1)) (sn_tp ((sn_adv y).1)) (sn_uc ((sn_adv y).1)), aS K (a 1) 601 (sn_S ((sn_adv y).1)), aI K (a 2) 9616 (sn_L ((sn_adv y).1)), aL K (a 3) 9616 (sn_Nm ((sn_adv y).1)), aI K (a 4) 600 (sn_rl ((sn_adv y).1)), cm0 a (a 5) (a 6) (a 7) (((sn_adv y).2.1).2.2), aI K (a 6) 601 (((sn_adv y).2.1).1), aI K (a 7) 600 (((sn_adv y).2.1).2.1), cc0 a ad ((sn_adv y).2.2.1) ((sn_adv y).2.2.2)] := hD
          refine lv_iinc (k := 1) (v := nI (i + 1)) (lv' := [(1, .int (nI (i + 1))), (0, .ref (a 8))]) hx hb d_Co_collectWhole_34 hl rfl (sn_inc _) (by decide) rfl (fun ls hl => ?_)
          refine lv_goto (tgt := 13) hx hb d_Co_collectWhole_37 (by decide) ?_
          have hl := lv_sub (l' := [(0, .ref (a 8)), (1, .int (nI (i + 1)))]) hl [1, 0] rfl
          exact ih (i + 1) (sn_adv y) _ _ _ (by omega) (by omega) ((sn_adv_gc hy).1) (by rw [← ew, show 1200 - i = (1200 - (i + 1)) + 1 by omega]; exact (if_neg h2).symm) hl hP hD hS
  have hl := lv_sub (l' := [(0, .ref (a 8)), (1, .int (nI 0))]) hl [1, 0] rfl
  exact loop0 _ 0 ((x.1, sn_shv 600 (sn_L x.1) 0 (sn_sz (sn_S x.1) 0) (fun _ => 0, x.2.1.2.1, 0), 1, x.2.2.2) : SnG) _ _ _ (Nat.lt_succ_self _) (by omega) (sn_whole_gc hg) (rfl) hl hP hD hS
set_option maxHeartbeats 4000000 in
set_option maxRecDepth 100000 in
theorem c_Co_allocate (l : Launch) (D : va_G) (K : Nat → ClassId) (ad : Nat → Nat) (a : Nat → Nat) (x : SnG) (n : Nat) (hg : sn_gc x) (hn : n ≤ 16) (hr : sn_uc x.1 + n + 2 ≤ 1200) : Met l y_Co_allocate w_Co_allocate ({ frames := 3, cells := 0, slots := 0, locals := 65 }) (va_Pc [.ref (a 8), .int (nI n)] (sn_BE D K ad [ce0 a (sn_rc x.1) (sn_tp x.1) (sn_uc x.1), aS K (a 1) 601 (sn_S x.1), aI K (a 2) 9616 (sn_L x.1), aL K (a 3) 9616 (sn_Nm x.1), aI K (a 4) 600 (sn_rl x.1), cm0 a (a 5) (a 6) (a 7) x.2.1.2.2, aI K (a 6) 601 x.2.1.1, aI K (a 7) 600 x.2.1.2.1, cc0 a ad x.2.2.1 x.2.2.2])) (sn_Q D [ce0 a (sn_rc x.1) (sn_tp x.1) (sn_uc x.1), aS K (a 1) 601 (sn_S x.1), aI K (a 2) 9616 (sn_L x.1), aL K (a 3) 9616 (sn_Nm x.1), aI K (a 4) 600 (sn_rl x.1), cm0 a (a 5) (a 6) (a 7) x.2.1.2.2, aI K (a 6) 601 x.2.1.1, aI K (a 7) 600 x.2.1.2.1, cc0 a ad x.2.2.1 x.2.2.2] [ce0 a (sn_rc (sn_take x.1 n)) (sn_tp (sn_take x.1 n)) (sn_uc (sn_take x.1 n)), aS K (a 1) 601 (sn_S (sn_take x.1 n)), aI K (a 2) 9616 (sn_L (sn_take x.1 n)), aL K (a 3) 9616 (sn_Nm (sn_take x.1 n)), aI K (a 4) 600 (sn_rl (sn_take x.1 n)), cm0 a (a 5) (a 6) (a 7) ((sn_allm x).2.2), aI K (a 6) 601 ((sn_allm x).1), aI K (a 7) 600 ((sn_allm x).2.1), cc0 a ad x.2.2.1 x.2.2.2] (some (.int (nI (sn_pl x.1))))) 0 0 (sn_A [ce0 a (sn_rc x.1) (sn_tp x.1) (sn_uc x.1), aS K (a 1) 601 (sn_S x.1), aI K (a 2) 9616 (sn_L x.1), aL K (a 3) 9616 (sn_Nm x.1), aI K (a 4) 600 (sn_rl x.1), cm0 a (a 5) (a 6) (a 7) x.2.1.2.2, aI K (a 6) 601 x.2.1.1, aI K (a 7) 600 x.2.1.2.1, cc0 a ad x.2.2.1 x.2.2.2]) := by
  refine sn_met (own := R_Co) (by decide +kernel) rfl rfl (Nat.le_of_ble_eq_true rfl) ?_
  intro P9 E9 s9 m9 args below M9 c9 ls Q hQ hx hb hml hrt hlk hts hown hnm hl hB
  obtain ⟨⟨⟨hP, hK, hN⟩, hD⟩, hE⟩ := hB
  have hl : lv_has ls 3 [(0, .ref (a 8)), (1, .int (nI n))] := hl
  have hD := sn_DA hD
  have hS : va_S (sn_A [ce0 a (sn_rc x.1) (sn_tp x.1) (sn_uc x.1), aS K (a 1) 601 (sn_S x.1), aI K (a 2) 9616 (sn_L x.1), aL K (a 3) 9616 (sn_Nm x.1), aI K (a 4) 600 (sn_rl x.1), cm0 a (a 5) (a 6) (a 7) x.2.1.2.2, aI K (a 6) 601 x.2.1.1, aI K (a 7) 600 x.2.1.2.1, cc0 a ad x.2.2.1 x.2.2.2]) s9.heap s9.heap [] := va_S.rf
  generalize hAe : sn_A [ce0 a (sn_rc x.1) (sn_tp x.1) (sn_uc x.1), aS K (a 1) 601 (sn_S x.1), aI K (a 2) 9616 (sn_L x.1), aL K (a 3) 9616 (sn_Nm x.1), aI K (a 4) 600 (sn_rl x.1), cm0 a (a 5) (a 6) (a 7) x.2.1.2.2, aI K (a 6) 601 x.2.1.1, aI K (a 7) 600 x.2.1.2.1, cc0 a ad x.2.2.1 x.2.2.2] = A at hE hD hS
  have hSz := sn_gc_hSz hg
  have hL := sn_gc_hL hg
  have hX := sn_gc_hX hg
  have hph := sn_gc_ph hg
  have hC := hX.1
  have hw := hX.2
  have hpl := sn_pl_ok hg.1 hr
  have hcu := sn_gc_cu2 hg
  have htk := sn_take_htk hg.1 hr
  have hrc := sn_st_rc hg.1
  have htp := hg.1.2.2.1
  refine lv_aload_n hx hb d_Co_allocate_0 rfl (lv_at hl 0 rfl) ?_
  refine va_get (D := D) (ci := 2) (v := .ref (a 0)) (C := R_Co) (T := F_Co) (N := 4) hx hb hts in_Co hown hK hP 8 rfl rfl 0 (by decide) (hts _ tw_87) (fun _ h9 => h9) rfl d_Co_allocate_1 ?_
  refine lv_iload_n hx hb d_Co_allocate_4 rfl (lv_at hl 1 rfl) ?_
  refine sn_wrt (st1 := [.int (nI (sn_pl x.1))]) (w1 := [ce0 a (sn_rc x.1 - 1) (if 0 < sn_rc x.1 then sn_tp x.1 else sn_tp x.1 + 1) ((sn_uc x.1) + (n + 2)), aS K (a 1) 601 (va_up (sn_S x.1) (sn_pl x.1) (some n)), aI K (a 2) 9616 (sn_clr (sn_L x.1) (16 * (sn_pl x.1)) n 0), aL K (a 3) 9616 (sn_clr (sn_Nm x.1) (16 * (sn_pl x.1)) n 0), aI K (a 4) 600 (sn_rl x.1)]) (va_runV (As := [.int (nI n)]) (rest := []) ⟨hx, hb, hml, hown, hts⟩ (c_St_take l D K a (sn_S x.1) (sn_L x.1) (sn_Nm x.1) (sn_rl x.1) (sn_rc x.1) (sn_tp x.1) (sn_uc x.1) n (sn_pl x.1) (sn_rc x.1 - 1) (if 0 < sn_rc x.1 then sn_tp x.1 else sn_tp x.1 + 1) (by omega) (by omega) (htk) (hrc) (by omega) (hpl.1) (hpl.2.1) (hpl.2.2) (hSz)) ⟨callB_of 1 hts (tw_in cm_St_take) rfl rfl rfl (hts _ gn_St) (hts _ tw_511) hd_St_take ⟨Nat.le_of_ble_eq_true rfl, Nat.le_of_ble_eq_true rfl⟩, hts _ gi_St_take, hts _ gs_St_take⟩ (sn_preVW hK hN hP hD 0 rfl rfl [0, 1, 2, 3, 4] rfl rfl) rfl rfl hl.1 rfl (lv_room (Nat.le_of_ble_eq_true rfl)) d_Co_allocate_5 ⟨Nat.zero_le _, Nat.zero_le _⟩) rfl hP hD hS [0, 1, 2, 3, 4] rfl rfl (fun H locs hP hD hS => ?_)
  have hP : va_P D classes [ce0 a (sn_rc x.1 - 1) (if 0 < sn_rc x.1 then sn_tp x.1 else sn_tp x.1 + 1) ((sn_uc x.1) + (n + 2)), aS K (a 1) 601 (va_up (sn_S x.1) (sn_pl x.1) (some n)), aI K (a 2) 9616 (sn_clr (sn_L x.1) (16 * (sn_pl x.1)) n 0), aL K (a 3) 9616 (sn_clr (sn_Nm x.1) (16 * (sn_pl x.1)) n 0), aI K (a 4) 600 (sn_rl x.1), cm0 a (a 5) (a 6) (a 7) x.2.1.2.2, aI K (a 6) 601 x.2.1.1, aI K (a 7) 600 x.2.1.2.1, cc0 a ad x.2.2.1 x.2.2.2] H := hP
  have hD : va_D A [ce0 a (sn_rc x.1 - 1) (if 0 < sn_rc x.1 then sn_tp x.1 else sn_tp x.1 + 1) ((sn_uc x.1) + (n + 2)), aS K (a 1) 601 (va_up (sn_S x.1) (sn_pl x.1) (some n)), aI K (a 2) 9616 (sn_clr (sn_L x.1) (16 * (sn_pl x.1)) n 0), aL K (a 3) 9616 (sn_clr (sn_Nm x.1) (16 * (sn_pl x.1)) n 0), aI K (a 4) 600 (sn_rl x.1), cm0 a (a 5) (a 6) (a 7) x.2.1.2.2, aI K (a 6) 601 x.2.1.1, aI K (a 7) 600 x.2.1.2.1, cc0 a ad x.2.2.1 x.2.2.2] := hD
  refine lv_istore_n (lv' := [(2, .int (nI (sn_pl x.1))), (0, .ref (a 8)), (1, .int (nI n))]) hx hb d_Co_allocate_8 rfl hl (by decide) rfl (fun ls hl => ?_)
  refine lv_aload_n hx hb d_Co_allocate_9 rfl (lv_at hl 1 rfl) ?_
  refine va_get (D := D) (ci := 2) (v := .ref (ad x.2.2.1)) (C := R_Co) (T := F_Co) (N := 4) hx hb hts in_Co hown hK hP 8 rfl rfl 2 (by decide) (hts _ tw_89) (fun _ h9 => h9) rfl d_Co_allocate_10 ?_
  refine va_gets (C := "SnapshotHeap$Phase") (n := "MARKING") (d := "LSnapshotHeap$Phase;") (v := .ref (ad 1)) hx hb (hE.1 1 (by decide)).1 hS hown (hts _ tw_190) (fun _ h9 => h9) d_Co_allocate_13 ?_
  refine lv_acmp_eq (rx := some (ad x.2.2.1)) (ry := some (ad 1)) (tgt := 27) hx hb d_Co_allocate_16 (by decide) (fun h1 => ?_) (fun h1 => ?_)
  · have h1 : x.2.2.1 = 1 := hE.2 _ _ (by show _ < 3; omega) (by show _ < 3; omega) (Option.some.inj h1)
    refine lv_aload_n hx hb d_Co_allocate_27 rfl (lv_at hl 1 rfl) ?_
    refine va_get (D := D) (ci := 2) (v := .ref (a 5)) (C := R_Co) (T := F_Co) (N := 4) hx hb hts in_Co hown hK hP 8 rfl rfl 1 (by decide) (hts _ tw_88) (fun _ h9 => h9) rfl d_Co_allocate_28 ?_
    refine lv_iload_n hx hb d_Co_allocate_31 rfl (lv_at hl 0 rfl) ?_
    refine sn_wrt (st1 := []) (w1 := [ce0 a (sn_rc x.1 - 1) (if 0 < sn_rc x.1 then sn_tp x.1 else sn_tp x.1 + 1) ((sn_uc x.1) + (n + 2)), cm0 a (a 5) (a 6) (a 7) x.2.1.2.2, aI K (a 6) 601 (va_up x.2.1.1 (sn_pl x.1) 2)]) (va_runV (As := [.int (nI (sn_pl x.1))]) (rest := []) ⟨hx, hb, hml, hown, hts⟩ (c_Ma_blacken l D K a (a 5) (a 6) (a 7) x.2.1.1 x.2.1.2.2 (sn_rc x.1 - 1) (if 0 < sn_rc x.1 then sn_tp x.1 else sn_tp x.1 + 1) ((sn_uc x.1) + (n + 2)) (sn_pl x.1) (hpl.1) (hpl.2.1)) ⟨callB_of 1 hts (tw_in cm_Ma_blacken) rfl rfl rfl (hts _ gn_Ma) (hts _ tw_526) hd_Ma_blacken ⟨Nat.le_of_ble_eq_true rfl, Nat.le_of_ble_eq_true rfl⟩, hts _ gi_Ma_blacken, hts _ gs_Ma_blacken⟩ (sn_preVW hK hN hP hD 5 rfl rfl [0, 5, 6] rfl rfl) rfl rfl hl.1 rfl (lv_room (Nat.le_of_ble_eq_true rfl)) d_Co_allocate_32 ⟨Nat.zero_le _, Nat.zero_le _⟩) rfl hP hD hS [0, 5, 6] rfl rfl (fun H locs hP hD hS => ?_)
    have hP : va_P D classes [ce0 a (sn_rc x.1 - 1) (if 0 < sn_rc x.1 then sn_tp x.1 else sn_tp x.1 + 1) ((sn_uc x.1) + (n + 2)), aS K (a 1) 601 (va_up (sn_S x.1) (sn_pl x.1) (some n)), aI K (a 2) 9616 (sn_clr (sn_L x.1) (16 * (sn_pl x.1)) n 0), aL K (a 3) 9616 (sn_clr (sn_Nm x.1) (16 * (sn_pl x.1)) n 0), aI K (a 4) 600 (sn_rl x.1), cm0 a (a 5) (a 6) (a 7) x.2.1.2.2, aI K (a 6) 601 (va_up x.2.1.1 (sn_pl x.1) 2), aI K (a 7) 600 x.2.1.2.1, cc0 a ad x.2.2.1 x.2.2.2] H := hP
    have hD : va_D A [ce0 a (sn_rc x.1 - 1) (if 0 < sn_rc x.1 then sn_tp x.1 else sn_tp x.1 + 1) ((sn_uc x.1) + (n + 2)), aS K (a 1) 601 (va_up (sn_S x.1) (sn_pl x.1) (some n)), aI K (a 2) 9616 (sn_clr (sn_L x.1) (16 * (sn_pl x.1)) n 0), aL K (a 3) 9616 (sn_clr (sn_Nm x.1) (16 * (sn_pl x.1)) n 0), aI K (a 4) 600 (sn_rl x.1), cm0 a (a 5) (a 6) (a 7) x.2.1.2.2, aI K (a 6) 601 (va_up x.2.1.1 (sn_pl x.1) 2), aI K (a 7) 600 x.2.1.2.1, cc0 a ad x.2.2.1 x.2.2.2] := hD
    refine lv_iload_n hx hb d_Co_allocate_35 rfl (lv_at hl 0 rfl) ?_
    rw [show sn_allm x = (va_up x.2.1.1 (sn_pl x.1) 2, x.2.1.2) from sn_allm_pos hpl.1 hpl.2.1 (by first | exact Or.inl h1 | exact Or.inr h2)] at hQ
    subst hAe
    exact sx_wi hQ hx hb hrt hlk (rfl) hP hS d_Co_allocate_36
  · have h1 : x.2.2.1 ≠ 1 := fun h9 => h1 (by rw [h9])
    refine lv_aload_n hx hb d_Co_allocate_19 rfl (lv_at hl 1 rfl) ?_
    refine lv_iload_n hx hb d_Co_allocate_20 rfl (lv_at hl 0 rfl) ?_
    refine sn_rd (st1 := [.int (zb (decide (x.2.2.1 = 2 ∧ x.2.2.2 ≤ (sn_pl x.1))))]) (va_runV (As := [.int (nI (sn_pl x.1))]) (rest := []) ⟨hx, hb, hml, hown, hts⟩ (c_Co_isYetToBeSwept l D K ad a x.2.2.1 x.2.2.2 (sn_pl x.1) (hph) (hcu) (by omega)) ⟨callB_of 1 hts (tw_in cm_Co_isYetToBeSwept) rfl rfl rfl (hts _ gn_Co) (hts _ tw_525) hd_Co_isYetToBeSwept ⟨Nat.le_of_ble_eq_true rfl, Nat.le_of_ble_eq_true rfl⟩, hts _ gi_Co_isYetToBeSwept, hts _ gs_Co_isYetToBeSwept⟩ (sn_preVP hK hN hP hE hS 8 rfl rfl [8] rfl) rfl rfl hl.1 rfl (lv_room (Nat.le_of_ble_eq_true rfl)) d_Co_allocate_21 ⟨Nat.zero_le _, Nat.zero_le _⟩) rfl ?_
    refine sn_ifz_eq (tgt := 35) hx hb d_Co_allocate_24 (by decide) (fun h2 => ?_) (fun h2 => ?_)
    · refine lv_iload_n hx hb d_Co_allocate_35 rfl (lv_at hl 0 rfl) ?_
      rw [show sn_allm x = x.2.1 from if_neg (fun h9 => h9.elim h1 h2)] at hQ
      subst hAe
      exact sx_wi hQ hx hb hrt hlk (rfl) hP hS d_Co_allocate_36
    · refine lv_aload_n hx hb d_Co_allocate_27 rfl (lv_at hl 1 rfl) ?_
      refine va_get (D := D) (ci := 2) (v := .ref (a 5)) (C := R_Co) (T := F_Co) (N := 4) hx hb hts in_Co hown hK hP 8 rfl rfl 1 (by decide) (hts _ tw_88) (fun _ h9 => h9) rfl d_Co_allocate_28 ?_
      refine lv_iload_n hx hb d_Co_allocate_31 rfl (lv_at hl 0 rfl) ?_
      refine sn_wrt (st1 := []) (w1 := [ce0 a (sn_rc x.1 - 1) (if 0 < sn_rc x.1 then sn_tp x.1 else sn_tp x.1 + 1) ((sn_uc x.1) + (n + 2)), cm0 a (a 5) (a 6) (a 7) x.2.1.2.2, aI K (a 6) 601 (va_up x.2.1.1 (sn_pl x.1) 2)]) (va_runV (As := [.int (nI (sn_pl x.1))]) (rest := []) ⟨hx, hb, hml, hown, hts⟩ (c_Ma_blacken l D K a (a 5) (a 6) (a 7) x.2.1.1 x.2.1.2.2 (sn_rc x.1 - 1) (if 0 < sn_rc x.1 then sn_tp x.1 else sn_tp x.1 + 1) ((sn_uc x.1) + (n + 2)) (sn_pl x.1) (hpl.1) (hpl.2.1)) ⟨callB_of 1 hts (tw_in cm_Ma_blacken) rfl rfl rfl (hts _ gn_Ma) (hts _ tw_526) hd_Ma_blacken ⟨Nat.le_of_ble_eq_true rfl, Nat.le_of_ble_eq_true rfl⟩, hts _ gi_Ma_blacken, hts _ gs_Ma_blacken⟩ (sn_preVW hK hN hP hD 5 rfl rfl [0, 5, 6] rfl rfl) rfl rfl hl.1 rfl (lv_room (Nat.le_of_ble_eq_true rfl)) d_Co_allocate_32 ⟨Nat.zero_le _, Nat.zero_le _⟩) rfl hP hD hS [0, 5, 6] rfl rfl (fun H locs hP hD hS => ?_)
      have hP : va_P D classes [ce0 a (sn_rc x.1 - 1) (if 0 < sn_rc x.1 then sn_tp x.1 else sn_tp x.1 + 1) ((sn_uc x.1) + (n + 2)), aS K (a 1) 601 (va_up (sn_S x.1) (sn_pl x.1) (some n)), aI K (a 2) 9616 (sn_clr (sn_L x.1) (16 * (sn_pl x.1)) n 0), aL K (a 3) 9616 (sn_clr (sn_Nm x.1) (16 * (sn_pl x.1)) n 0), aI K (a 4) 600 (sn_rl x.1), cm0 a (a 5) (a 6) (a 7) x.2.1.2.2, aI K (a 6) 601 (va_up x.2.1.1 (sn_pl x.1) 2), aI K (a 7) 600 x.2.1.2.1, cc0 a ad x.2.2.1 x.2.2.2] H := hP
      have hD : va_D A [ce0 a (sn_rc x.1 - 1) (if 0 < sn_rc x.1 then sn_tp x.1 else sn_tp x.1 + 1) ((sn_uc x.1) + (n + 2)), aS K (a 1) 601 (va_up (sn_S x.1) (sn_pl x.1) (some n)), aI K (a 2) 9616 (sn_clr (sn_L x.1) (16 * (sn_pl x.1)) n 0), aL K (a 3) 9616 (sn_clr (sn_Nm x.1) (16 * (sn_pl x.1)) n 0), aI K (a 4) 600 (sn_rl x.1), cm0 a (a 5) (a 6) (a 7) x.2.1.2.2, aI K (a 6) 601 (va_up x.2.1.1 (sn_pl x.1) 2), aI K (a 7) 600 x.2.1.2.1, cc0 a ad x.2.2.1 x.2.2.2] := hD
      refine lv_iload_n hx hb d_Co_allocate_35 rfl (lv_at hl 0 rfl) ?_
      rw [show sn_allm x = (va_up x.2.1.1 (sn_pl x.1) 2, x.2.1.2) from sn_allm_pos hpl.1 hpl.2.1 (by first | exact Or.inl h1 | exact Or.inr h2)] at hQ
      subst hAe
      exact sx_wi hQ hx hb hrt hlk (rfl) hP hS d_Co_allocate_36
end
section
set_option maxHeartbeats 4000000 in
set_option maxRecDepth 100000 in
theorem c_Wa_tuples (l : Launch) (D : va_G) (K : Nat → ClassId) (a : Nat → Nat) (d : Nat) (m : Nat) (c : Nat) (h : Int64)  : Met l y_Wa_tuples w_Wa_tuples ({ frames := 0, cells := 0, slots := 0, locals := 0 }) (va_Pc [.ref (a 9)] (sn_B D K [cw0 a d m c h])) (sn_QR (some (.int (nI m)))) 0 0 (fun _ => False) := by
  refine sn_met (own := R_Wa) (by decide +kernel) rfl rfl (Nat.le_of_ble_eq_true rfl) ?_
  intro P9 E9 s9 m9 args below M9 c9 ls Q hQ hx hb hml hrt hlk hts hown hnm hl hB
  obtain ⟨hP, hK, hN⟩ := hB
  have hl : lv_has ls 1 [(0, .ref (a 9))] := hl
  refine lv_aload_n hx hb d_Wa_tuples_0 rfl (lv_at hl 0 rfl) ?_
  refine va_get (D := D) (ci := 3) (v := .int (nI m)) (C := R_Wa) (T := F_Wa) (N := 8) hx hb hts in_Wa hown hK hP 0 rfl rfl 5 (by decide) (hts _ tw_111) (fun _ h9 => h9) rfl d_Wa_tuples_1 ?_
  exact sx_ri hQ hx hb hrt hlk (rfl) d_Wa_tuples_4
set_option maxHeartbeats 4000000 in
set_option maxRecDepth 100000 in
theorem c_Wa_cells (l : Launch) (D : va_G) (K : Nat → ClassId) (a : Nat → Nat) (d : Nat) (m : Nat) (c : Nat) (h : Int64)  : Met l y_Wa_cells w_Wa_cells ({ frames := 0, cells := 0, slots := 0, locals := 0 }) (va_Pc [.ref (a 9)] (sn_B D K [cw0 a d m c h])) (sn_QR (some (.int (nI c)))) 0 0 (fun _ => False) := by
  refine sn_met (own := R_Wa) (by decide +kernel) rfl rfl (Nat.le_of_ble_eq_true rfl) ?_
  intro P9 E9 s9 m9 args below M9 c9 ls Q hQ hx hb hml hrt hlk hts hown hnm hl hB
  obtain ⟨hP, hK, hN⟩ := hB
  have hl : lv_has ls 1 [(0, .ref (a 9))] := hl
  refine lv_aload_n hx hb d_Wa_cells_0 rfl (lv_at hl 0 rfl) ?_
  refine va_get (D := D) (ci := 3) (v := .int (nI c)) (C := R_Wa) (T := F_Wa) (N := 8) hx hb hts in_Wa hown hK hP 0 rfl rfl 6 (by decide) (hts _ tw_112) (fun _ h9 => h9) rfl d_Wa_cells_1 ?_
  exact sx_ri hQ hx hb hrt hlk (rfl) d_Wa_cells_4
set_option maxHeartbeats 4000000 in
set_option maxRecDepth 100000 in
theorem c_Wa_hash (l : Launch) (D : va_G) (K : Nat → ClassId) (a : Nat → Nat) (d : Nat) (m : Nat) (c : Nat) (h : Int64)  : Met l y_Wa_hash w_Wa_hash ({ frames := 0, cells := 0, slots := 0, locals := 0 }) (va_Pc [.ref (a 9)] (sn_B D K [cw0 a d m c h])) (sn_QR (some (.long h))) 0 0 (fun _ => False) := by
  refine sn_met (own := R_Wa) (by decide +kernel) rfl rfl (Nat.le_of_ble_eq_true rfl) ?_
  intro P9 E9 s9 m9 args below M9 c9 ls Q hQ hx hb hml hrt hlk hts hown hnm hl hB
  obtain ⟨hP, hK, hN⟩ := hB
  have hl : lv_has ls 1 [(0, .ref (a 9))] := hl
  refine lv_aload_n hx hb d_Wa_hash_0 rfl (lv_at hl 0 rfl) ?_
  refine va_get (D := D) (ci := 3) (v := .long h) (C := R_Wa) (T := F_Wa) (N := 8) hx hb hts in_Wa hown hK hP 0 rfl rfl 7 (by decide) (hts _ tw_113) (fun _ h9 => h9) rfl d_Wa_hash_1 ?_
  exact sx_rl hQ hx hb hrt hlk rfl d_Wa_hash_4
set_option maxHeartbeats 4000000 in
set_option maxRecDepth 100000 in
theorem c_Wa_hasMet (l : Launch) (D : va_G) (K : Nat → ClassId) (a : Nat → Nat) (d : Nat) (m : Nat) (c : Nat) (h : Int64) (F : Nat → Nat) (rc : Nat) (tp : Nat) (uc : Nat) (p : Nat) (hp : p < 2 ^ 31) (hF : F p < 2 ^ 31) : Met l y_Wa_hasMet w_Wa_hasMet ({ frames := 1, cells := 0, slots := 0, locals := 21 }) (va_Pc [.ref (a 9), .int (nI p)] (sn_B D K [ce0 a rc tp uc, cw0 a d m c h, aI K (a 10) 601 F])) (sn_QR (some (.int (zb (decide (0 < p ∧ p ≤ 600 ∧ 0 < F p)))))) 0 0 (fun _ => False) := by
  refine sn_met (own := R_Wa) (by decide +kernel) rfl rfl (Nat.le_of_ble_eq_true rfl) ?_
  intro P9 E9 s9 m9 args below M9 c9 ls Q hQ hx hb hml hrt hlk hts hown hnm hl hB
  obtain ⟨hP, hK, hN⟩ := hB
  have hl : lv_has ls 2 [(0, .ref (a 9)), (1, .int (nI p))] := hl
  refine lv_aload_n hx hb d_Wa_hasMet_0 rfl (lv_at hl 0 rfl) ?_
  refine va_get (D := D) (ci := 3) (v := .ref (a 0)) (C := R_Wa) (T := F_Wa) (N := 8) hx hb hts in_Wa hown hK hP 1 rfl rfl 0 (by decide) (hts _ tw_106) (fun _ h9 => h9) rfl d_Wa_hasMet_1 ?_
  refine lv_iload_n hx hb d_Wa_hasMet_4 rfl (lv_at hl 1 rfl) ?_
  refine sn_rd (st1 := [.int (zb (decide (0 < p ∧ p ≤ 600)))]) (va_runV (As := [.int (nI p)]) (rest := []) ⟨hx, hb, hml, hown, hts⟩ (c_St_isTuplePlace l D K a p (by omega)) ⟨callB_of 1 hts (tw_in cm_St_isTuplePlace) rfl rfl rfl (hts _ gn_St) (hts _ tw_280) hd_St_isTuplePlace ⟨Nat.le_of_ble_eq_true rfl, Nat.le_of_ble_eq_true rfl⟩, hts _ gi_St_isTuplePlace, hts _ gs_St_isTuplePlace⟩ (sn_preV hK hN hP 0 rfl rfl [] rfl) rfl rfl hl.1 rfl (lv_room (Nat.le_of_ble_eq_true rfl)) d_Wa_hasMet_5 ⟨Nat.zero_le _, Nat.zero_le _⟩) rfl ?_
  refine sn_ifz_eq (tgt := 24) hx hb d_Wa_hasMet_8 (by decide) (fun h1 => ?_) (fun h1 => ?_)
  · refine lv_iconst (v := nI 0) hx hb d_Wa_hasMet_24 (by decide) ?_
    exact sx_rz hQ hx hb hrt hlk (zb_no (by first | exact fun h9 => h1 ⟨h9.1, h9.2.1⟩ | omega)) d_Wa_hasMet_25
  · refine lv_aload_n hx hb d_Wa_hasMet_11 rfl (lv_at hl 0 rfl) ?_
    refine va_get (D := D) (ci := 3) (v := .ref (a 10)) (C := R_Wa) (T := F_Wa) (N := 8) hx hb hts in_Wa hown hK hP 1 rfl rfl 1 (by decide) (hts _ tw_107) (fun _ h9 => h9) rfl d_Wa_hasMet_12 ?_
    refine lv_iload_n hx hb d_Wa_hasMet_15 rfl (lv_at hl 1 rfl) ?_
    refine sn_iald nI F p hx hb hK hP 2 rfl (by omega) (by decide) d_Wa_hasMet_16 ?_
    refine sn_if_le (by omega) (tgt := 24) hx hb d_Wa_hasMet_17 (by decide) (fun h2 => ?_) (fun h2 => ?_)
    · refine lv_iconst (v := nI 0) hx hb d_Wa_hasMet_24 (by decide) ?_
      exact sx_rz hQ hx hb hrt hlk (zb_no (by first | exact fun h9 => h1 ⟨h9.1, h9.2.1⟩ | omega)) d_Wa_hasMet_25
    · refine lv_iconst (v := nI 1) hx hb d_Wa_hasMet_20 (by decide) ?_
      refine lv_goto (tgt := 25) hx hb d_Wa_hasMet_21 (by decide) ?_
      exact sx_rz hQ hx hb hrt hlk (zb_yes (⟨h1.1, h1.2, h2⟩)) d_Wa_hasMet_25
set_option maxHeartbeats 4000000 in
set_option maxRecDepth 100000 in
theorem c_Wa_mix (l : Launch) (D : va_G) (K : Nat → ClassId) (a : Nat → Nat) (d : Nat) (m : Nat) (c : Nat) (h : Int64) (v : Int64)  : Met l y_Wa_mix w_Wa_mix ({ frames := 0, cells := 0, slots := 0, locals := 0 }) (va_Pc [.ref (a 9), .long v] (sn_BW D K [cw0 a d m c h])) (sn_Q D [cw0 a d m c h] [cw0 a d m c ((31 * h) + v)] none) 0 0 (sn_A [cw0 a d m c h]) := by
  refine sn_met (own := R_Wa) (by decide +kernel) rfl rfl (Nat.le_of_ble_eq_true rfl) ?_
  intro P9 E9 s9 m9 args below M9 c9 ls Q hQ hx hb hml hrt hlk hts hown hnm hl hB
  obtain ⟨⟨hP, hK, hN⟩, hD⟩ := hB
  have hl : lv_has ls 3 [(0, .ref (a 9)), (1, .long v)] := hl
  have hD := sn_DA hD
  have hS : va_S (sn_A [cw0 a d m c h]) s9.heap s9.heap [] := va_S.rf
  generalize hAe : sn_A [cw0 a d m c h] = A at hD hS
  refine lv_aload_n hx hb d_Wa_mix_0 rfl (lv_at hl 0 rfl) ?_
  refine lv_ldc2 (v := 31) hx hb hown (hts _ tw_289) d_Wa_mix_1 ?_
  refine lv_aload_n hx hb d_Wa_mix_4 rfl (lv_at hl 0 rfl) ?_
  refine va_get (D := D) (ci := 3) (v := .long h) (C := R_Wa) (T := F_Wa) (N := 8) hx hb hts in_Wa hown hK hP 0 rfl rfl 7 (by decide) (hts _ tw_113) (fun _ h9 => h9) rfl d_Wa_mix_5 ?_
  refine lv_lmul hx hb d_Wa_mix_8 ?_
  refine lv_lload_n hx hb d_Wa_mix_9 rfl (lv_at hl 1 rfl) ?_
  refine lv_ladd hx hb d_Wa_mix_10 ?_
  refine va_put (D := D) (ci := 3) (v := .long ((31 * h) + v)) (ty := .long) (C := R_Wa) (T := F_Wa) (N := 8) hx hb hts in_Wa t_Wa t_Wa_ok n_Wa hown hK hP hD hS 0 rfl rfl 7 (by decide) (hts _ tw_113) (fun _ h9 => h9) rfl (by decide +kernel) rfl rfl (Nat.le_of_ble_eq_true rfl) d_Wa_mix_11 (fun H locs hP hD hS => ?_)
  have hP : va_P D classes [cw0 a d m c ((31 * h) + v)] H := hP
  have hD : va_D A [cw0 a d m c ((31 * h) + v)] := hD
  subst hAe
  exact sx_wv hQ hx hb hrt hlk hP hS d_Wa_mix_14
set_option maxHeartbeats 4000000 in
set_option maxRecDepth 100000 in
theorem c_Wa_goInto (l : Launch) (D : va_G) (K : Nat → ClassId) (a : Nat → Nat) (d : Nat) (m : Nat) (c : Nat) (h : Int64) (P : Nat → Nat) (V : Nat → Nat) (p : Nat) (hd : d < 601) : Met l y_Wa_goInto w_Wa_goInto ({ frames := 0, cells := 0, slots := 0, locals := 0 }) (va_Pc [.ref (a 9), .int (nI p)] (sn_BW D K [cw0 a d m c h, aI K (a 11) 601 P, aI K (a 12) 601 V])) (sn_Q D [cw0 a d m c h, aI K (a 11) 601 P, aI K (a 12) 601 V] [cw0 a (d + 1) m c h, aI K (a 11) 601 (va_up P d p), aI K (a 12) 601 (va_up V d 0)] none) 0 0 (sn_A [cw0 a d m c h, aI K (a 11) 601 P, aI K (a 12) 601 V]) := by
  refine sn_met (own := R_Wa) (by decide +kernel) rfl rfl (Nat.le_of_ble_eq_true rfl) ?_
  intro P9 E9 s9 m9 args below M9 c9 ls Q hQ hx hb hml hrt hlk hts hown hnm hl hB
  obtain ⟨⟨hP, hK, hN⟩, hD⟩ := hB
  have hl : lv_has ls 2 [(0, .ref (a 9)), (1, .int (nI p))] := hl
  have hD := sn_DA hD
  have hS : va_S (sn_A [cw0 a d m c h, aI K (a 11) 601 P, aI K (a 12) 601 V]) s9.heap s9.heap [] := va_S.rf
  generalize hAe : sn_A [cw0 a d m c h, aI K (a 11) 601 P, aI K (a 12) 601 V] = A at hD hS
  refine lv_aload_n hx hb d_Wa_goInto_0 rfl (lv_at hl 0 rfl) ?_
  refine va_get (D := D) (ci := 3) (v := .int (nI d)) (C := R_Wa) (T := F_Wa) (N := 8) hx hb hts in_Wa hown hK hP 0 rfl rfl 4 (by decide) (hts _ tw_110) (fun _ h9 => h9) rfl d_Wa_goInto_1 ?_
  refine lv_aload_n hx hb d_Wa_goInto_4 rfl (lv_at hl 0 rfl) ?_
  refine va_get (D := D) (ci := 3) (v := .ref (a 11)) (C := R_Wa) (T := F_Wa) (N := 8) hx hb hts in_Wa hown hK hP 0 rfl rfl 2 (by decide) (hts _ tw_108) (fun _ h9 => h9) rfl d_Wa_goInto_5 ?_
  refine va_alen (v := nI 601) hx hb hK hP 1 0 rfl rfl rfl d_Wa_goInto_8 ?_
  refine sn_icmp_ge (by omega) (by omega) (tgt := 42) hx hb d_Wa_goInto_9 (by decide) (fun h1 => ?_) (fun h1 => ?_)
  · omega
  · refine lv_aload_n hx hb d_Wa_goInto_12 rfl (lv_at hl 0 rfl) ?_
    refine va_get (D := D) (ci := 3) (v := .ref (a 11)) (C := R_Wa) (T := F_Wa) (N := 8) hx hb hts in_Wa hown hK hP 0 rfl rfl 2 (by decide) (hts _ tw_108) (fun _ h9 => h9) rfl d_Wa_goInto_13 ?_
    refine lv_aload_n hx hb d_Wa_goInto_16 rfl (lv_at hl 0 rfl) ?_
    refine va_get (D := D) (ci := 3) (v := .int (nI d)) (C := R_Wa) (T := F_Wa) (N := 8) hx hb hts in_Wa hown hK hP 0 rfl rfl 4 (by decide) (hts _ tw_110) (fun _ h9 => h9) rfl d_Wa_goInto_17 ?_
    refine lv_iload_n hx hb d_Wa_goInto_20 rfl (lv_at hl 1 rfl) ?_
    refine sn_iast nI P d p hx hb hK hP hD hS 1 rfl (by omega) (by decide) d_Wa_goInto_21 (fun H locs hP hD hS => ?_)
    have hP : va_P D classes [cw0 a d m c h, aI K (a 11) 601 (va_up P d p), aI K (a 12) 601 V] H := hP
    have hD : va_D A [cw0 a d m c h, aI K (a 11) 601 (va_up P d p), aI K (a 12) 601 V] := hD
    refine lv_aload_n hx hb d_Wa_goInto_22 rfl (lv_at hl 0 rfl) ?_
    refine va_get (D := D) (ci := 3) (v := .ref (a 12)) (C := R_Wa) (T := F_Wa) (N := 8) hx hb hts in_Wa hown hK hP 0 rfl rfl 3 (by decide) (hts _ tw_109) (fun _ h9 => h9) rfl d_Wa_goInto_23 ?_
    refine lv_aload_n hx hb d_Wa_goInto_26 rfl (lv_at hl 0 rfl) ?_
    refine va_get (D := D) (ci := 3) (v := .int (nI d)) (C := R_Wa) (T := F_Wa) (N := 8) hx hb hts in_Wa hown hK hP 0 rfl rfl 4 (by decide) (hts _ tw_110) (fun _ h9 => h9) rfl d_Wa_goInto_27 ?_
    refine lv_iconst (v := nI 0) hx hb d_Wa_goInto_30 (by decide) ?_
    refine sn_iast nI V d 0 hx hb hK hP hD hS 2 rfl (by omega) (by decide) d_Wa_goInto_31 (fun H locs hP hD hS => ?_)
    have hP : va_P D classes [cw0 a d m c h, aI K (a 11) 601 (va_up P d p), aI K (a 12) 601 (va_up V d 0)] H := hP
    have hD : va_D A [cw0 a d m c h, aI K (a 11) 601 (va_up P d p), aI K (a 12) 601 (va_up V d 0)] := hD
    refine lv_aload_n hx hb d_Wa_goInto_32 rfl (lv_at hl 0 rfl) ?_
    refine lv_dup hx hb d_Wa_goInto_33 rfl ?_
    refine va_get (D := D) (ci := 3) (v := .int (nI d)) (C := R_Wa) (T := F_Wa) (N := 8) hx hb hts in_Wa hown hK hP 0 rfl rfl 4 (by decide) (hts _ tw_110) (fun _ h9 => h9) rfl d_Wa_goInto_34 ?_
    refine lv_iconst (v := nI 1) hx hb d_Wa_goInto_37 (by decide) ?_
    refine lv_iadd hx hb d_Wa_goInto_38 ?_
    refine sn_topi (nI_add _ _) ?_
    refine va_put (D := D) (ci := 3) (v := .int (nI (d + 1))) (ty := .int) (C := R_Wa) (T := F_Wa) (N := 8) hx hb hts in_Wa t_Wa t_Wa_ok n_Wa hown hK hP hD hS 0 rfl rfl 4 (by decide) (hts _ tw_110) (fun _ h9 => h9) rfl (by decide +kernel) rfl rfl (Nat.le_of_ble_eq_true rfl) d_Wa_goInto_39 (fun H locs hP hD hS => ?_)
    have hP : va_P D classes [cw0 a (d + 1) m c h, aI K (a 11) 601 (va_up P d p), aI K (a 12) 601 (va_up V d 0)] H := hP
    have hD : va_D A [cw0 a (d + 1) m c h, aI K (a 11) 601 (va_up P d p), aI K (a 12) 601 (va_up V d 0)] := hD
    subst hAe
    exact sx_wv hQ hx hb hrt hlk hP hS d_Wa_goInto_42
set_option maxHeartbeats 4000000 in
set_option maxRecDepth 100000 in
theorem c_Wa_meetFirst (l : Launch) (D : va_G) (K : Nat → ClassId) (a : Nat → Nat) (d : Nat) (m : Nat) (c : Nat) (h : Int64) (F : Nat → Nat) (P : Nat → Nat) (V : Nat → Nat) (S : Nat → Option Nat) (rc : Nat) (tp : Nat) (uc : Nat) (p : Nat) (hp : p ≤ 600) (hd : d < 601) (hSz : ∀ q n, S q = some n → n ≤ 16) : Met l y_Wa_meetFirst w_Wa_meetFirst ({ frames := 1, cells := 0, slots := 0, locals := 22 }) (va_Pc [.ref (a 9), .int (nI p)] (sn_BW D K [ce0 a rc tp uc, aS K (a 1) 601 S, cw0 a d m c h, aI K (a 10) 601 F, aI K (a 11) 601 P, aI K (a 12) 601 V])) (sn_Q D [ce0 a rc tp uc, aS K (a 1) 601 S, cw0 a d m c h, aI K (a 10) 601 F, aI K (a 11) 601 P, aI K (a 12) 601 V] [ce0 a rc tp uc, aS K (a 1) 601 S, cw0 a (d + 1) (m + 1) (c + (sn_sz S p + 2)) ((31 * ((31 * h) + 3)) + lN (sn_sz S p)), aI K (a 10) 601 (va_up F p (m + 1)), aI K (a 11) 601 (va_up P d p), aI K (a 12) 601 (va_up V d 0)] none) 0 0 (sn_A [ce0 a rc tp uc, aS K (a 1) 601 S, cw0 a d m c h, aI K (a 10) 601 F, aI K (a 11) 601 P, aI K (a 12) 601 V]) := by
  refine sn_met (own := R_Wa) (by decide +kernel) rfl rfl (Nat.le_of_ble_eq_true rfl) ?_
  intro P9 E9 s9 m9 args below M9 c9 ls Q hQ hx hb hml hrt hlk hts hown hnm hl hB
  obtain ⟨⟨hP, hK, hN⟩, hD⟩ := hB
  have hl : lv_has ls 3 [(0, .ref (a 9)), (1, .int (nI p))] := hl
  have hD := sn_DA hD
  have hS : va_S (sn_A [ce0 a rc tp uc, aS K (a 1) 601 S, cw0 a d m c h, aI K (a 10) 601 F, aI K (a 11) 601 P, aI K (a 12) 601 V]) s9.heap s9.heap [] := va_S.rf
  generalize hAe : sn_A [ce0 a rc tp uc, aS K (a 1) 601 S, cw0 a d m c h, aI K (a 10) 601 F, aI K (a 11) 601 P, aI K (a 12) 601 V] = A at hD hS
  have hz := sn_sz_le hSz p
  refine lv_aload_n hx hb d_Wa_meetFirst_0 rfl (lv_at hl 0 rfl) ?_
  refine va_get (D := D) (ci := 3) (v := .ref (a 0)) (C := R_Wa) (T := F_Wa) (N := 8) hx hb hts in_Wa hown hK hP 2 rfl rfl 0 (by decide) (hts _ tw_106) (fun _ h9 => h9) rfl d_Wa_meetFirst_1 ?_
  refine lv_iload_n hx hb d_Wa_meetFirst_4 rfl (lv_at hl 1 rfl) ?_
  refine sn_rd (st1 := [.int (nI (sn_sz S p))]) (va_runV (As := [.int (nI p)]) (rest := []) ⟨hx, hb, hml, hown, hts⟩ (c_St_valuesOf l D K a S rc tp uc p (by omega) (hSz)) ⟨callB_of 1 hts (tw_in cm_St_valuesOf) rfl rfl rfl (hts _ gn_St) (hts _ tw_273) hd_St_valuesOf ⟨Nat.le_of_ble_eq_true rfl, Nat.le_of_ble_eq_true rfl⟩, hts _ gi_St_valuesOf, hts _ gs_St_valuesOf⟩ (sn_preV hK hN hP 0 rfl rfl [0, 1] rfl) rfl rfl hl.1 rfl (lv_room (Nat.le_of_ble_eq_true rfl)) d_Wa_meetFirst_5 ⟨Nat.zero_le _, Nat.zero_le _⟩) rfl ?_
  refine lv_istore_n (lv' := [(2, .int (nI (sn_sz S p))), (0, .ref (a 9)), (1, .int (nI p))]) hx hb d_Wa_meetFirst_8 rfl hl (by decide) rfl (fun ls hl => ?_)
  refine lv_aload_n hx hb d_Wa_meetFirst_9 rfl (lv_at hl 1 rfl) ?_
  refine lv_dup hx hb d_Wa_meetFirst_10 rfl ?_
  refine va_get (D := D) (ci := 3) (v := .int (nI m)) (C := R_Wa) (T := F_Wa) (N := 8) hx hb hts in_Wa hown hK hP 2 rfl rfl 5 (by decide) (hts _ tw_111) (fun _ h9 => h9) rfl d_Wa_meetFirst_11 ?_
  refine lv_iconst (v := nI 1) hx hb d_Wa_meetFirst_14 (by decide) ?_
  refine lv_iadd hx hb d_Wa_meetFirst_15 ?_
  refine sn_topi (nI_add _ _) ?_
  refine va_put (D := D) (ci := 3) (v := .int (nI (m + 1))) (ty := .int) (C := R_Wa) (T := F_Wa) (N := 8) hx hb hts in_Wa t_Wa t_Wa_ok n_Wa hown hK hP hD hS 2 rfl rfl 5 (by decide) (hts _ tw_111) (fun _ h9 => h9) rfl (by decide +kernel) rfl rfl (Nat.le_of_ble_eq_true rfl) d_Wa_meetFirst_16 (fun H locs hP hD hS => ?_)
  have hP : va_P D classes [ce0 a rc tp uc, aS K (a 1) 601 S, cw0 a d (m + 1) c h, aI K (a 10) 601 F, aI K (a 11) 601 P, aI K (a 12) 601 V] H := hP
  have hD : va_D A [ce0 a rc tp uc, aS K (a 1) 601 S, cw0 a d (m + 1) c h, aI K (a 10) 601 F, aI K (a 11) 601 P, aI K (a 12) 601 V] := hD
  refine lv_aload_n hx hb d_Wa_meetFirst_19 rfl (lv_at hl 1 rfl) ?_
  refine va_get (D := D) (ci := 3) (v := .ref (a 10)) (C := R_Wa) (T := F_Wa) (N := 8) hx hb hts in_Wa hown hK hP 2 rfl rfl 1 (by decide) (hts _ tw_107) (fun _ h9 => h9) rfl d_Wa_meetFirst_20 ?_
  refine lv_iload_n hx hb d_Wa_meetFirst_23 rfl (lv_at hl 2 rfl) ?_
  refine lv_aload_n hx hb d_Wa_meetFirst_24 rfl (lv_at hl 1 rfl) ?_
  refine va_get (D := D) (ci := 3) (v := .int (nI (m + 1))) (C := R_Wa) (T := F_Wa) (N := 8) hx hb hts in_Wa hown hK hP 2 rfl rfl 5 (by decide) (hts _ tw_111) (fun _ h9 => h9) rfl d_Wa_meetFirst_25 ?_
  refine sn_iast nI F p (m + 1) hx hb hK hP hD hS 3 rfl (by omega) (by decide) d_Wa_meetFirst_28 (fun H locs hP hD hS => ?_)
  have hP : va_P D classes [ce0 a rc tp uc, aS K (a 1) 601 S, cw0 a d (m + 1) c h, aI K (a 10) 601 (va_up F p (m + 1)), aI K (a 11) 601 P, aI K (a 12) 601 V] H := hP
  have hD : va_D A [ce0 a rc tp uc, aS K (a 1) 601 S, cw0 a d (m + 1) c h, aI K (a 10) 601 (va_up F p (m + 1)), aI K (a 11) 601 P, aI K (a 12) 601 V] := hD
  refine lv_aload_n hx hb d_Wa_meetFirst_29 rfl (lv_at hl 1 rfl) ?_
  refine lv_dup hx hb d_Wa_meetFirst_30 rfl ?_
  refine va_get (D := D) (ci := 3) (v := .int (nI c)) (C := R_Wa) (T := F_Wa) (N := 8) hx hb hts in_Wa hown hK hP 2 rfl rfl 6 (by decide) (hts _ tw_112) (fun _ h9 => h9) rfl d_Wa_meetFirst_31 ?_
  refine lv_iload_n hx hb d_Wa_meetFirst_34 rfl (lv_at hl 0 rfl) ?_
  refine sn_rd (st1 := [.int (nI (sn_sz S p + 2)), .int (nI c), .ref (a 9)]) (va_runS (As := [.int (nI (sn_sz S p))]) (rest := [.int (nI c), .ref (a 9)]) ⟨hx, hb, hml, hown, hts⟩ (c_St_cellsFor l D K (sn_sz S p)) ⟨callB_of 1 hts (tw_in cm_St_cellsFor) rfl rfl rfl (hts _ gn_St) (hts _ tw_299) hd_St_cellsFor ⟨Nat.le_of_ble_eq_true rfl, Nat.le_of_ble_eq_true rfl⟩, hts _ gt_St_cellsFor⟩ (sn_preS hK hN hP [] rfl) rfl rfl hl.1 rfl (lv_room (Nat.le_of_ble_eq_true rfl)) d_Wa_meetFirst_35 ⟨Nat.zero_le _, Nat.zero_le _⟩) rfl ?_
  refine lv_iadd hx hb d_Wa_meetFirst_38 ?_
  refine sn_topi (nI_add _ _) ?_
  refine va_put (D := D) (ci := 3) (v := .int (nI (c + (sn_sz S p + 2)))) (ty := .int) (C := R_Wa) (T := F_Wa) (N := 8) hx hb hts in_Wa t_Wa t_Wa_ok n_Wa hown hK hP hD hS 2 rfl rfl 6 (by decide) (hts _ tw_112) (fun _ h9 => h9) rfl (by decide +kernel) rfl rfl (Nat.le_of_ble_eq_true rfl) d_Wa_meetFirst_39 (fun H locs hP hD hS => ?_)
  have hP : va_P D classes [ce0 a rc tp uc, aS K (a 1) 601 S, cw0 a d (m + 1) (c + (sn_sz S p + 2)) h, aI K (a 10) 601 (va_up F p (m + 1)), aI K (a 11) 601 P, aI K (a 12) 601 V] H := hP
  have hD : va_D A [ce0 a rc tp uc, aS K (a 1) 601 S, cw0 a d (m + 1) (c + (sn_sz S p + 2)) h, aI K (a 10) 601 (va_up F p (m + 1)), aI K (a 11) 601 P, aI K (a 12) 601 V] := hD
  refine lv_aload_n hx hb d_Wa_meetFirst_42 rfl (lv_at hl 1 rfl) ?_
  refine lv_ldc2 (v := 3) hx hb hown (hts _ tw_300) d_Wa_meetFirst_43 ?_
  refine sn_wrt (st1 := []) (w1 := [cw0 a d (m + 1) (c + (sn_sz S p + 2)) ((31 * h) + 3)]) (va_runV (As := [.long 3]) (rest := []) ⟨hx, hb, hml, hown, hts⟩ (c_Wa_mix l D K a d (m + 1) (c + (sn_sz S p + 2)) h 3) ⟨callB_of 1 hts (tw_in cm_Wa_mix) rfl rfl rfl (hts _ gn_Wa) (hts _ tw_285) hd_Wa_mix ⟨Nat.le_of_ble_eq_true rfl, Nat.le_of_ble_eq_true rfl⟩, hts _ gi_Wa_mix, hts _ gs_Wa_mix⟩ (sn_preVW hK hN hP hD 2 rfl rfl [2] rfl rfl) rfl rfl hl.1 rfl (lv_room (Nat.le_of_ble_eq_true rfl)) d_Wa_meetFirst_46 ⟨Nat.zero_le _, Nat.zero_le _⟩) rfl hP hD hS [2] rfl rfl (fun H locs hP hD hS => ?_)
  have hP : va_P D classes [ce0 a rc tp uc, aS K (a 1) 601 S, cw0 a d (m + 1) (c + (sn_sz S p + 2)) ((31 * h) + 3), aI K (a 10) 601 (va_up F p (m + 1)), aI K (a 11) 601 P, aI K (a 12) 601 V] H := hP
  have hD : va_D A [ce0 a rc tp uc, aS K (a 1) 601 S, cw0 a d (m + 1) (c + (sn_sz S p + 2)) ((31 * h) + 3), aI K (a 10) 601 (va_up F p (m + 1)), aI K (a 11) 601 P, aI K (a 12) 601 V] := hD
  refine lv_aload_n hx hb d_Wa_meetFirst_49 rfl (lv_at hl 1 rfl) ?_
  refine lv_iload_n hx hb d_Wa_meetFirst_50 rfl (lv_at hl 0 rfl) ?_
  refine lv_i2l (v := lN (sn_sz S p)) hx hb d_Wa_meetFirst_51 (nI_l (by omega)) ?_
  refine sn_wrt (st1 := []) (w1 := [cw0 a d (m + 1) (c + (sn_sz S p + 2)) ((31 * ((31 * h) + 3)) + lN (sn_sz S p))]) (va_runV (As := [.long (lN (sn_sz S p))]) (rest := []) ⟨hx, hb, hml, hown, hts⟩ (c_Wa_mix l D K a d (m + 1) (c + (sn_sz S p + 2)) ((31 * h) + 3) (lN (sn_sz S p))) ⟨callB_of 1 hts (tw_in cm_Wa_mix) rfl rfl rfl (hts _ gn_Wa) (hts _ tw_285) hd_Wa_mix ⟨Nat.le_of_ble_eq_true rfl, Nat.le_of_ble_eq_true rfl⟩, hts _ gi_Wa_mix, hts _ gs_Wa_mix⟩ (sn_preVW hK hN hP hD 2 rfl rfl [2] rfl rfl) rfl rfl hl.1 rfl (lv_room (Nat.le_of_ble_eq_true rfl)) d_Wa_meetFirst_52 ⟨Nat.zero_le _, Nat.zero_le _⟩) rfl hP hD hS [2] rfl rfl (fun H locs hP hD hS => ?_)
  have hP : va_P D classes [ce0 a rc tp uc, aS K (a 1) 601 S, cw0 a d (m + 1) (c + (sn_sz S p + 2)) ((31 * ((31 * h) + 3)) + lN (sn_sz S p)), aI K (a 10) 601 (va_up F p (m + 1)), aI K (a 11) 601 P, aI K (a 12) 601 V] H := hP
  have hD : va_D A [ce0 a rc tp uc, aS K (a 1) 601 S, cw0 a d (m + 1) (c + (sn_sz S p + 2)) ((31 * ((31 * h) + 3)) + lN (sn_sz S p)), aI K (a 10) 601 (va_up F p (m + 1)), aI K (a 11) 601 P, aI K (a 12) 601 V] := hD
  refine lv_aload_n hx hb d_Wa_meetFirst_55 rfl (lv_at hl 1 rfl) ?_
  refine lv_iload_n hx hb d_Wa_meetFirst_56 rfl (lv_at hl 2 rfl) ?_
  refine sn_wrt (st1 := []) (w1 := [cw0 a (d + 1) (m + 1) (c + (sn_sz S p + 2)) ((31 * ((31 * h) + 3)) + lN (sn_sz S p)), aI K (a 11) 601 (va_up P d p), aI K (a 12) 601 (va_up V d 0)]) (va_runV (As := [.int (nI p)]) (rest := []) ⟨hx, hb, hml, hown, hts⟩ (c_Wa_goInto l D K a d (m + 1) (c + (sn_sz S p + 2)) ((31 * ((31 * h) + 3)) + lN (sn_sz S p)) P V p (by omega)) ⟨callB_of 1 hts (tw_in cm_Wa_goInto) rfl rfl rfl (hts _ gn_Wa) (hts _ tw_265) hd_Wa_goInto ⟨Nat.le_of_ble_eq_true rfl, Nat.le_of_ble_eq_true rfl⟩, hts _ gi_Wa_goInto, hts _ gs_Wa_goInto⟩ (sn_preVW hK hN hP hD 2 rfl rfl [2, 4, 5] rfl rfl) rfl rfl hl.1 rfl (lv_room (Nat.le_of_ble_eq_true rfl)) d_Wa_meetFirst_57 ⟨Nat.zero_le _, Nat.zero_le _⟩) rfl hP hD hS [2, 4, 5] rfl rfl (fun H locs hP hD hS => ?_)
  have hP : va_P D classes [ce0 a rc tp uc, aS K (a 1) 601 S, cw0 a (d + 1) (m + 1) (c + (sn_sz S p + 2)) ((31 * ((31 * h) + 3)) + lN (sn_sz S p)), aI K (a 10) 601 (va_up F p (m + 1)), aI K (a 11) 601 (va_up P d p), aI K (a 12) 601 (va_up V d 0)] H := hP
  have hD : va_D A [ce0 a rc tp uc, aS K (a 1) 601 S, cw0 a (d + 1) (m + 1) (c + (sn_sz S p + 2)) ((31 * ((31 * h) + 3)) + lN (sn_sz S p)), aI K (a 10) 601 (va_up F p (m + 1)), aI K (a 11) 601 (va_up P d p), aI K (a 12) 601 (va_up V d 0)] := hD
  subst hAe
  exact sx_wv hQ hx hb hrt hlk hP hS d_Wa_meetFirst_60
set_option maxHeartbeats 4000000 in
set_option maxRecDepth 100000 in
theorem c_Wa_meet (l : Launch) (D : va_G) (K : Nat → ClassId) (a : Nat → Nat) (S : Nat → Option Nat) (L : Nat → Nat) (N : Nat → Int64) (rc : Nat) (tp : Nat) (uc : Nat) (z : SnW) (t : Nat) (hL : ∀ s, L s ≤ 600) (hSz : ∀ q n, S q = some n → n ≤ 16) (hz : sn_wi z) (hwb : sn_wb z) (ht : t < 9616) : Met l y_Wa_meet w_Wa_meet ({ frames := 2, cells := 0, slots := 0, locals := 44 }) (va_Pc [.ref (a 9), .int (nI t)] (sn_BW D K [ce0 a rc tp uc, aS K (a 1) 601 S, aI K (a 2) 9616 L, aL K (a 3) 9616 N, cw0 a z.2.2.2.1 z.2.2.2.2.1 z.2.2.2.2.2.1 z.2.2.2.2.2.2, aI K (a 10) 601 z.1, aI K (a 11) 601 z.2.1, aI K (a 12) 601 z.2.2.1])) (sn_Q D [ce0 a rc tp uc, aS K (a 1) 601 S, aI K (a 2) 9616 L, aL K (a 3) 9616 N, cw0 a z.2.2.2.1 z.2.2.2.2.1 z.2.2.2.2.2.1 z.2.2.2.2.2.2, aI K (a 10) 601 z.1, aI K (a 11) 601 z.2.1, aI K (a 12) 601 z.2.2.1] [ce0 a rc tp uc, aS K (a 1) 601 S, aI K (a 2) 9616 L, aL K (a 3) 9616 N, cw0 a ((sn_wmeet S L N z t).2.2.2.1) ((sn_wmeet S L N z t).2.2.2.2.1) ((sn_wmeet S L N z t).2.2.2.2.2.1) ((sn_wmeet S L N z t).2.2.2.2.2.2), aI K (a 10) 601 ((sn_wmeet S L N z t).1), aI K (a 11) 601 ((sn_wmeet S L N z t).2.1), aI K (a 12) 601 ((sn_wmeet S L N z t).2.2.1)] none) 0 0 (sn_A [ce0 a rc tp uc, aS K (a 1) 601 S, aI K (a 2) 9616 L, aL K (a 3) 9616 N, cw0 a z.2.2.2.1 z.2.2.2.2.1 z.2.2.2.2.2.1 z.2.2.2.2.2.2, aI K (a 10) 601 z.1, aI K (a 11) 601 z.2.1, aI K (a 12) 601 z.2.2.1]) := by
  refine sn_met (own := R_Wa) (by decide +kernel) rfl rfl (Nat.le_of_ble_eq_true rfl) ?_
  intro P9 E9 s9 m9 args below M9 c9 ls Q hQ hx hb hml hrt hlk hts hown hnm hl hB
  obtain ⟨⟨hP, hK, hN⟩, hD⟩ := hB
  have hl : lv_has ls 3 [(0, .ref (a 9)), (1, .int (nI t))] := hl
  have hD := sn_DA hD
  have hS : va_S (sn_A [ce0 a rc tp uc, aS K (a 1) 601 S, aI K (a 2) 9616 L, aL K (a 3) 9616 N, cw0 a z.2.2.2.1 z.2.2.2.2.1 z.2.2.2.2.2.1 z.2.2.2.2.2.2, aI K (a 10) 601 z.1, aI K (a 11) 601 z.2.1, aI K (a 12) 601 z.2.2.1]) s9.heap s9.heap [] := va_S.rf
  generalize hAe : sn_A [ce0 a rc tp uc, aS K (a 1) 601 S, aI K (a 2) 9616 L, aL K (a 3) 9616 N, cw0 a z.2.2.2.1 z.2.2.2.2.1 z.2.2.2.2.2.1 z.2.2.2.2.2.2, aI K (a 10) 601 z.1, aI K (a 11) 601 z.2.1, aI K (a 12) 601 z.2.2.1] = A at hD hS
  have hLt := hL t
  have hFt := hwb.1 (L t)
  have hm6 := sn_wi_m hz
  refine lv_aload_n hx hb d_Wa_meet_0 rfl (lv_at hl 0 rfl) ?_
  refine va_get (D := D) (ci := 3) (v := .ref (a 0)) (C := R_Wa) (T := F_Wa) (N := 8) hx hb hts in_Wa hown hK hP 4 rfl rfl 0 (by decide) (hts _ tw_106) (fun _ h9 => h9) rfl d_Wa_meet_1 ?_
  refine lv_iload_n hx hb d_Wa_meet_4 rfl (lv_at hl 1 rfl) ?_
  refine sn_rd (st1 := [.int (nI (L t))]) (va_runV (As := [.int (nI t)]) (rest := []) ⟨hx, hb, hml, hown, hts⟩ (c_St_placeAt l D K a L rc tp uc t (by omega)) ⟨callB_of 1 hts (tw_in cm_St_placeAt) rfl rfl rfl (hts _ gn_St) (hts _ tw_279) hd_St_placeAt ⟨Nat.le_of_ble_eq_true rfl, Nat.le_of_ble_eq_true rfl⟩, hts _ gi_St_placeAt, hts _ gs_St_placeAt⟩ (sn_preV hK hN hP 0 rfl rfl [0, 2] rfl) rfl rfl hl.1 rfl (lv_room (Nat.le_of_ble_eq_true rfl)) d_Wa_meet_5 ⟨Nat.zero_le _, Nat.zero_le _⟩) rfl ?_
  refine lv_istore_n (lv' := [(2, .int (nI (L t))), (0, .ref (a 9)), (1, .int (nI t))]) hx hb d_Wa_meet_8 rfl hl (by decide) rfl (fun ls hl => ?_)
  refine lv_aload_n hx hb d_Wa_meet_9 rfl (lv_at hl 1 rfl) ?_
  refine va_get (D := D) (ci := 3) (v := .ref (a 0)) (C := R_Wa) (T := F_Wa) (N := 8) hx hb hts in_Wa hown hK hP 4 rfl rfl 0 (by decide) (hts _ tw_106) (fun _ h9 => h9) rfl d_Wa_meet_10 ?_
  refine lv_iload_n hx hb d_Wa_meet_13 rfl (lv_at hl 0 rfl) ?_
  refine sn_rd (st1 := [.int (zb (decide (0 < (L t) ∧ (L t) ≤ 600)))]) (va_runV (As := [.int (nI (L t))]) (rest := []) ⟨hx, hb, hml, hown, hts⟩ (c_St_isTuplePlace l D K a (L t) (by omega)) ⟨callB_of 1 hts (tw_in cm_St_isTuplePlace) rfl rfl rfl (hts _ gn_St) (hts _ tw_280) hd_St_isTuplePlace ⟨Nat.le_of_ble_eq_true rfl, Nat.le_of_ble_eq_true rfl⟩, hts _ gi_St_isTuplePlace, hts _ gs_St_isTuplePlace⟩ (sn_preV hK hN hP 0 rfl rfl [] rfl) rfl rfl hl.1 rfl (lv_room (Nat.le_of_ble_eq_true rfl)) d_Wa_meet_14 ⟨Nat.zero_le _, Nat.zero_le _⟩) rfl ?_
  refine sn_ifz_ne (tgt := 35) hx hb d_Wa_meet_17 (by decide) (fun h1 => ?_) (fun h1 => ?_)
  · refine lv_aload_n hx hb d_Wa_meet_35 rfl (lv_at hl 1 rfl) ?_
    refine lv_iload_n hx hb d_Wa_meet_36 rfl (lv_at hl 0 rfl) ?_
    refine sn_rd (st1 := [.int (zb (decide (0 < (L t) ∧ (L t) ≤ 600 ∧ 0 < z.1 (L t))))]) (va_runV (As := [.int (nI (L t))]) (rest := []) ⟨hx, hb, hml, hown, hts⟩ (c_Wa_hasMet l D K a z.2.2.2.1 z.2.2.2.2.1 z.2.2.2.2.2.1 z.2.2.2.2.2.2 z.1 rc tp uc (L t) (by omega) (by omega)) ⟨callB_of 1 hts (tw_in cm_Wa_hasMet) rfl rfl rfl (hts _ gn_Wa) (hts _ tw_290) hd_Wa_hasMet ⟨Nat.le_of_ble_eq_true rfl, Nat.le_of_ble_eq_true rfl⟩, hts _ gi_Wa_hasMet, hts _ gs_Wa_hasMet⟩ (sn_preV hK hN hP 4 rfl rfl [0, 4, 5] rfl) rfl rfl hl.1 rfl (lv_room (Nat.le_of_ble_eq_true rfl)) d_Wa_meet_37 ⟨Nat.zero_le _, Nat.zero_le _⟩) rfl ?_
    refine sn_ifz_eq (tgt := 61) hx hb d_Wa_meet_40 (by decide) (fun h2 => ?_) (fun h2 => ?_)
    · have hd6 := sn_wi_d hz (l := L t) h1 (fun h9 => h2 ⟨h1.1, h1.2, h9⟩)
      refine lv_aload_n hx hb d_Wa_meet_61 rfl (lv_at hl 1 rfl) ?_
      refine lv_iload_n hx hb d_Wa_meet_62 rfl (lv_at hl 0 rfl) ?_
      refine sn_wrt (st1 := []) (w1 := [ce0 a rc tp uc, aS K (a 1) 601 S, cw0 a (z.2.2.2.1 + 1) (z.2.2.2.2.1 + 1) (z.2.2.2.2.2.1 + (sn_sz S (L t) + 2)) ((31 * ((31 * z.2.2.2.2.2.2) + 3)) + lN (sn_sz S (L t))), aI K (a 10) 601 (va_up z.1 (L t) (z.2.2.2.2.1 + 1)), aI K (a 11) 601 (va_up z.2.1 z.2.2.2.1 (L t)), aI K (a 12) 601 (va_up z.2.2.1 z.2.2.2.1 0)]) (va_runV (As := [.int (nI (L t))]) (rest := []) ⟨hx, hb, hml, hown, hts⟩ (c_Wa_meetFirst l D K a z.2.2.2.1 z.2.2.2.2.1 z.2.2.2.2.2.1 z.2.2.2.2.2.2 z.1 z.2.1 z.2.2.1 S rc tp uc (L t) (by omega) (by omega) (hSz)) ⟨callB_of 1 hts (tw_in cm_Wa_meetFirst) rfl rfl rfl (hts _ gn_Wa) (hts _ tw_295) hd_Wa_meetFirst ⟨Nat.le_of_ble_eq_true rfl, Nat.le_of_ble_eq_true rfl⟩, hts _ gi_Wa_meetFirst, hts _ gs_Wa_meetFirst⟩ (sn_preVW hK hN hP hD 4 rfl rfl [0, 1, 4, 5, 6, 7] rfl rfl) rfl rfl hl.1 rfl (lv_room (Nat.le_of_ble_eq_true rfl)) d_Wa_meet_63 ⟨Nat.zero_le _, Nat.zero_le _⟩) rfl hP hD hS [0, 1, 4, 5, 6, 7] rfl rfl (fun H locs hP hD hS => ?_)
      have hP : va_P D classes [ce0 a rc tp uc, aS K (a 1) 601 S, aI K (a 2) 9616 L, aL K (a 3) 9616 N, cw0 a (z.2.2.2.1 + 1) (z.2.2.2.2.1 + 1) (z.2.2.2.2.2.1 + (sn_sz S (L t) + 2)) ((31 * ((31 * z.2.2.2.2.2.2) + 3)) + lN (sn_sz S (L t))), aI K (a 10) 601 (va_up z.1 (L t) (z.2.2.2.2.1 + 1)), aI K (a 11) 601 (va_up z.2.1 z.2.2.2.1 (L t)), aI K (a 12) 601 (va_up z.2.2.1 z.2.2.2.1 0)] H := hP
      have hD : va_D A [ce0 a rc tp uc, aS K (a 1) 601 S, aI K (a 2) 9616 L, aL K (a 3) 9616 N, cw0 a (z.2.2.2.1 + 1) (z.2.2.2.2.1 + 1) (z.2.2.2.2.2.1 + (sn_sz S (L t) + 2)) ((31 * ((31 * z.2.2.2.2.2.2) + 3)) + lN (sn_sz S (L t))), aI K (a 10) 601 (va_up z.1 (L t) (z.2.2.2.2.1 + 1)), aI K (a 11) 601 (va_up z.2.1 z.2.2.2.1 (L t)), aI K (a 12) 601 (va_up z.2.2.1 z.2.2.2.1 0)] := hD
      rw [sn_wmeet_new h1 (fun h9 => h2 ⟨h1.1, h1.2, h9⟩) hd6] at hQ
      subst hAe
      exact sx_wv hQ hx hb hrt hlk hP hS d_Wa_meet_66
    · refine lv_aload_n hx hb d_Wa_meet_43 rfl (lv_at hl 1 rfl) ?_
      refine lv_ldc2 (v := 2) hx hb hown (hts _ tw_294) d_Wa_meet_44 ?_
      refine lv_aload_n hx hb d_Wa_meet_47 rfl (lv_at hl 1 rfl) ?_
      refine va_get (D := D) (ci := 3) (v := .ref (a 10)) (C := R_Wa) (T := F_Wa) (N := 8) hx hb hts in_Wa hown hK hP 4 rfl rfl 1 (by decide) (hts _ tw_107) (fun _ h9 => h9) rfl d_Wa_meet_48 ?_
      refine lv_iload_n hx hb d_Wa_meet_51 rfl (lv_at hl 0 rfl) ?_
      refine sn_iald nI z.1 (L t) hx hb hK hP 5 rfl (by omega) (by decide) d_Wa_meet_52 ?_
      refine lv_i2l (v := lN (z.1 (L t))) hx hb d_Wa_meet_53 (nI_l (by omega)) ?_
      refine lv_ladd hx hb d_Wa_meet_54 ?_
      refine sn_wrt (st1 := []) (w1 := [cw0 a z.2.2.2.1 z.2.2.2.2.1 z.2.2.2.2.2.1 ((31 * z.2.2.2.2.2.2) + (2 + lN (z.1 (L t))))]) (va_runV (As := [.long (2 + lN (z.1 (L t)))]) (rest := []) ⟨hx, hb, hml, hown, hts⟩ (c_Wa_mix l D K a z.2.2.2.1 z.2.2.2.2.1 z.2.2.2.2.2.1 z.2.2.2.2.2.2 (2 + lN (z.1 (L t)))) ⟨callB_of 1 hts (tw_in cm_Wa_mix) rfl rfl rfl (hts _ gn_Wa) (hts _ tw_285) hd_Wa_mix ⟨Nat.le_of_ble_eq_true rfl, Nat.le_of_ble_eq_true rfl⟩, hts _ gi_Wa_mix, hts _ gs_Wa_mix⟩ (sn_preVW hK hN hP hD 4 rfl rfl [4] rfl rfl) rfl rfl hl.1 rfl (lv_room (Nat.le_of_ble_eq_true rfl)) d_Wa_meet_55 ⟨Nat.zero_le _, Nat.zero_le _⟩) rfl hP hD hS [4] rfl rfl (fun H locs hP hD hS => ?_)
      have hP : va_P D classes [ce0 a rc tp uc, aS K (a 1) 601 S, aI K (a 2) 9616 L, aL K (a 3) 9616 N, cw0 a z.2.2.2.1 z.2.2.2.2.1 z.2.2.2.2.2.1 ((31 * z.2.2.2.2.2.2) + (2 + lN (z.1 (L t)))), aI K (a 10) 601 z.1, aI K (a 11) 601 z.2.1, aI K (a 12) 601 z.2.2.1] H := hP
      have hD : va_D A [ce0 a rc tp uc, aS K (a 1) 601 S, aI K (a 2) 9616 L, aL K (a 3) 9616 N, cw0 a z.2.2.2.1 z.2.2.2.2.1 z.2.2.2.2.2.1 ((31 * z.2.2.2.2.2.2) + (2 + lN (z.1 (L t)))), aI K (a 10) 601 z.1, aI K (a 11) 601 z.2.1, aI K (a 12) 601 z.2.2.1] := hD
      refine lv_goto (tgt := 66) hx hb d_Wa_meet_58 (by decide) ?_
      rw [sn_wmeet_old h1 h2.2.2] at hQ
      subst hAe
      exact sx_wv hQ hx hb hrt hlk hP hS d_Wa_meet_66
  · refine lv_aload_n hx hb d_Wa_meet_20 rfl (lv_at hl 1 rfl) ?_
    refine lv_aload_n hx hb d_Wa_meet_21 rfl (lv_at hl 1 rfl) ?_
    refine va_get (D := D) (ci := 3) (v := .ref (a 0)) (C := R_Wa) (T := F_Wa) (N := 8) hx hb hts in_Wa hown hK hP 4 rfl rfl 0 (by decide) (hts _ tw_106) (fun _ h9 => h9) rfl d_Wa_meet_22 ?_
    refine lv_iload_n hx hb d_Wa_meet_25 rfl (lv_at hl 2 rfl) ?_
    refine sn_rd (st1 := [.long (N t), .ref (a 9)]) (va_runV (As := [.int (nI t)]) (rest := [.ref (a 9)]) ⟨hx, hb, hml, hown, hts⟩ (c_St_numberAt l D K a N rc tp uc t (by omega)) ⟨callB_of 1 hts (tw_in cm_St_numberAt) rfl rfl rfl (hts _ gn_St) (hts _ tw_281) hd_St_numberAt ⟨Nat.le_of_ble_eq_true rfl, Nat.le_of_ble_eq_true rfl⟩, hts _ gi_St_numberAt, hts _ gs_St_numberAt⟩ (sn_preV hK hN hP 0 rfl rfl [0, 3] rfl) rfl rfl hl.1 rfl (lv_room (Nat.le_of_ble_eq_true rfl)) d_Wa_meet_26 ⟨Nat.zero_le _, Nat.zero_le _⟩) rfl ?_
    refine sn_wrt (st1 := []) (w1 := [cw0 a z.2.2.2.1 z.2.2.2.2.1 z.2.2.2.2.2.1 ((31 * z.2.2.2.2.2.2) + N t)]) (va_runV (As := [.long (N t)]) (rest := []) ⟨hx, hb, hml, hown, hts⟩ (c_Wa_mix l D K a z.2.2.2.1 z.2.2.2.2.1 z.2.2.2.2.2.1 z.2.2.2.2.2.2 (N t)) ⟨callB_of 1 hts (tw_in cm_Wa_mix) rfl rfl rfl (hts _ gn_Wa) (hts _ tw_285) hd_Wa_mix ⟨Nat.le_of_ble_eq_true rfl, Nat.le_of_ble_eq_true rfl⟩, hts _ gi_Wa_mix, hts _ gs_Wa_mix⟩ (sn_preVW hK hN hP hD 4 rfl rfl [4] rfl rfl) rfl rfl hl.1 rfl (lv_room (Nat.le_of_ble_eq_true rfl)) d_Wa_meet_29 ⟨Nat.zero_le _, Nat.zero_le _⟩) rfl hP hD hS [4] rfl rfl (fun H locs hP hD hS => ?_)
    have hP : va_P D classes [ce0 a rc tp uc, aS K (a 1) 601 S, aI K (a 2) 9616 L, aL K (a 3) 9616 N, cw0 a z.2.2.2.1 z.2.2.2.2.1 z.2.2.2.2.2.1 ((31 * z.2.2.2.2.2.2) + N t), aI K (a 10) 601 z.1, aI K (a 11) 601 z.2.1, aI K (a 12) 601 z.2.2.1] H := hP
    have hD : va_D A [ce0 a rc tp uc, aS K (a 1) 601 S, aI K (a 2) 9616 L, aL K (a 3) 9616 N, cw0 a z.2.2.2.1 z.2.2.2.2.1 z.2.2.2.2.2.1 ((31 * z.2.2.2.2.2.2) + N t), aI K (a 10) 601 z.1, aI K (a 11) 601 z.2.1, aI K (a 12) 601 z.2.2.1] := hD
    refine lv_goto (tgt := 66) hx hb d_Wa_meet_32 (by decide) ?_
    rw [sn_wmeet_num h1] at hQ
    subst hAe
    exact sx_wv hQ hx hb hrt hlk hP hS d_Wa_meet_66
set_option maxHeartbeats 4000000 in
set_option maxRecDepth 100000 in
theorem c_Wa_goOn (l : Launch) (D : va_G) (K : Nat → ClassId) (a : Nat → Nat) (S : Nat → Option Nat) (L : Nat → Nat) (N : Nat → Int64) (rc : Nat) (tp : Nat) (uc : Nat) (z : SnW) (hL : ∀ s, L s ≤ 600) (hSz : ∀ q n, S q = some n → n ≤ 16) (hz : sn_wi z) (hwb : sn_wb z) (hd0 : 0 < z.2.2.2.1) : Met l y_Wa_goOn w_Wa_goOn ({ frames := 3, cells := 0, slots := 0, locals := 66 }) (va_Pc [.ref (a 9)] (sn_BW D K [ce0 a rc tp uc, aS K (a 1) 601 S, aI K (a 2) 9616 L, aL K (a 3) 9616 N, cw0 a z.2.2.2.1 z.2.2.2.2.1 z.2.2.2.2.2.1 z.2.2.2.2.2.2, aI K (a 10) 601 z.1, aI K (a 11) 601 z.2.1, aI K (a 12) 601 z.2.2.1])) (sn_Q D [ce0 a rc tp uc, aS K (a 1) 601 S, aI K (a 2) 9616 L, aL K (a 3) 9616 N, cw0 a z.2.2.2.1 z.2.2.2.2.1 z.2.2.2.2.2.1 z.2.2.2.2.2.2, aI K (a 10) 601 z.1, aI K (a 11) 601 z.2.1, aI K (a 12) 601 z.2.2.1] [ce0 a rc tp uc, aS K (a 1) 601 S, aI K (a 2) 9616 L, aL K (a 3) 9616 N, cw0 a ((sn_goon S L N z).2.2.2.1) ((sn_goon S L N z).2.2.2.2.1) ((sn_goon S L N z).2.2.2.2.2.1) ((sn_goon S L N z).2.2.2.2.2.2), aI K (a 10) 601 ((sn_goon S L N z).1), aI K (a 11) 601 ((sn_goon S L N z).2.1), aI K (a 12) 601 ((sn_goon S L N z).2.2.1)] none) 0 0 (sn_A [ce0 a rc tp uc, aS K (a 1) 601 S, aI K (a 2) 9616 L, aL K (a 3) 9616 N, cw0 a z.2.2.2.1 z.2.2.2.2.1 z.2.2.2.2.2.1 z.2.2.2.2.2.2, aI K (a 10) 601 z.1, aI K (a 11) 601 z.2.1, aI K (a 12) 601 z.2.2.1]) := by
  refine sn_met (own := R_Wa) (by decide +kernel) rfl rfl (Nat.le_of_ble_eq_true rfl) ?_
  intro P9 E9 s9 m9 args below M9 c9 ls Q hQ hx hb hml hrt hlk hts hown hnm hl hB
  obtain ⟨⟨hP, hK, hN⟩, hD⟩ := hB
  have hl : lv_has ls 3 [(0, .ref (a 9))] := hl
  have hD := sn_DA hD
  have hS : va_S (sn_A [ce0 a rc tp uc, aS K (a 1) 601 S, aI K (a 2) 9616 L, aL K (a 3) 9616 N, cw0 a z.2.2.2.1 z.2.2.2.2.1 z.2.2.2.2.2.1 z.2.2.2.2.2.2, aI K (a 10) 601 z.1, aI K (a 11) 601 z.2.1, aI K (a 12) 601 z.2.2.1]) s9.heap s9.heap [] := va_S.rf
  generalize hAe : sn_A [ce0 a rc tp uc, aS K (a 1) 601 S, aI K (a 2) 9616 L, aL K (a 3) 9616 N, cw0 a z.2.2.2.1 z.2.2.2.2.1 z.2.2.2.2.2.1 z.2.2.2.2.2.2, aI K (a 10) 601 z.1, aI K (a 11) 601 z.2.1, aI K (a 12) 601 z.2.2.1] = A at hD hS
  have hd6 : z.2.2.2.1 ≤ 601 := by have := sn_wi_m hz; have := hz.2.1; omega
  have hpn := hwb.2.1 (z.2.2.2.1 - 1) (by omega)
  have hzz := sn_sz_le hSz (z.2.1 (z.2.2.2.1 - 1))
  refine lv_aload_n hx hb d_Wa_goOn_0 rfl (lv_at hl 0 rfl) ?_
  refine va_get (D := D) (ci := 3) (v := .ref (a 11)) (C := R_Wa) (T := F_Wa) (N := 8) hx hb hts in_Wa hown hK hP 4 rfl rfl 2 (by decide) (hts _ tw_108) (fun _ h9 => h9) rfl d_Wa_goOn_1 ?_
  refine lv_aload_n hx hb d_Wa_goOn_4 rfl (lv_at hl 0 rfl) ?_
  refine va_get (D := D) (ci := 3) (v := .int (nI z.2.2.2.1)) (C := R_Wa) (T := F_Wa) (N := 8) hx hb hts in_Wa hown hK hP 4 rfl rfl 4 (by decide) (hts _ tw_110) (fun _ h9 => h9) rfl d_Wa_goOn_5 ?_
  refine lv_iconst (v := nI 1) hx hb d_Wa_goOn_8 (by decide) ?_
  refine lv_isub hx hb d_Wa_goOn_9 ?_
  refine sn_topi (pk_sub (by omega)) ?_
  refine sn_iald nI z.2.1 (z.2.2.2.1 - 1) hx hb hK hP 6 rfl (by omega) (by decide) d_Wa_goOn_10 ?_
  refine lv_istore_n (lv' := [(1, .int (nI (z.2.1 (z.2.2.2.1 - 1)))), (0, .ref (a 9))]) hx hb d_Wa_goOn_11 rfl hl (by decide) rfl (fun ls hl => ?_)
  refine lv_aload_n hx hb d_Wa_goOn_12 rfl (lv_at hl 1 rfl) ?_
  refine va_get (D := D) (ci := 3) (v := .ref (a 12)) (C := R_Wa) (T := F_Wa) (N := 8) hx hb hts in_Wa hown hK hP 4 rfl rfl 3 (by decide) (hts _ tw_109) (fun _ h9 => h9) rfl d_Wa_goOn_13 ?_
  refine lv_aload_n hx hb d_Wa_goOn_16 rfl (lv_at hl 1 rfl) ?_
  refine va_get (D := D) (ci := 3) (v := .int (nI z.2.2.2.1)) (C := R_Wa) (T := F_Wa) (N := 8) hx hb hts in_Wa hown hK hP 4 rfl rfl 4 (by decide) (hts _ tw_110) (fun _ h9 => h9) rfl d_Wa_goOn_17 ?_
  refine lv_iconst (v := nI 1) hx hb d_Wa_goOn_20 (by decide) ?_
  refine lv_isub hx hb d_Wa_goOn_21 ?_
  refine sn_topi (pk_sub (by omega)) ?_
  refine sn_iald nI z.2.2.1 (z.2.2.2.1 - 1) hx hb hK hP 7 rfl (by omega) (by decide) d_Wa_goOn_22 ?_
  refine lv_istore_n (lv' := [(2, .int (nI (z.2.2.1 (z.2.2.2.1 - 1)))), (1, .int (nI (z.2.1 (z.2.2.2.1 - 1)))), (0, .ref (a 9))]) hx hb d_Wa_goOn_23 rfl hl (by decide) rfl (fun ls hl => ?_)
  refine lv_iload_n hx hb d_Wa_goOn_24 rfl (lv_at hl 0 rfl) ?_
  refine lv_aload_n hx hb d_Wa_goOn_25 rfl (lv_at hl 2 rfl) ?_
  refine va_get (D := D) (ci := 3) (v := .ref (a 0)) (C := R_Wa) (T := F_Wa) (N := 8) hx hb hts in_Wa hown hK hP 4 rfl rfl 0 (by decide) (hts _ tw_106) (fun _ h9 => h9) rfl d_Wa_goOn_26 ?_
  refine lv_iload_n hx hb d_Wa_goOn_29 rfl (lv_at hl 1 rfl) ?_
  refine sn_rd (st1 := [.int (nI (sn_sz S (z.2.1 (z.2.2.2.1 - 1)))), .int (nI (z.2.2.1 (z.2.2.2.1 - 1)))]) (va_runV (As := [.int (nI (z.2.1 (z.2.2.2.1 - 1)))]) (rest := [.int (nI (z.2.2.1 (z.2.2.2.1 - 1)))]) ⟨hx, hb, hml, hown, hts⟩ (c_St_valuesOf l D K a S rc tp uc (z.2.1 (z.2.2.2.1 - 1)) (by omega) (hSz)) ⟨callB_of 1 hts (tw_in cm_St_valuesOf) rfl rfl rfl (hts _ gn_St) (hts _ tw_273) hd_St_valuesOf ⟨Nat.le_of_ble_eq_true rfl, Nat.le_of_ble_eq_true rfl⟩, hts _ gi_St_valuesOf, hts _ gs_St_valuesOf⟩ (sn_preV hK hN hP 0 rfl rfl [0, 1] rfl) rfl rfl hl.1 rfl (lv_room (Nat.le_of_ble_eq_true rfl)) d_Wa_goOn_30 ⟨Nat.zero_le _, Nat.zero_le _⟩) rfl ?_
  refine sn_icmp_ge (by omega) (by omega) (tgt := 62) hx hb d_Wa_goOn_33 (by decide) (fun h1 => ?_) (fun h1 => ?_)
  · refine lv_aload_n hx hb d_Wa_goOn_62 rfl (lv_at hl 2 rfl) ?_
    refine lv_dup hx hb d_Wa_goOn_63 rfl ?_
    refine va_get (D := D) (ci := 3) (v := .int (nI z.2.2.2.1)) (C := R_Wa) (T := F_Wa) (N := 8) hx hb hts in_Wa hown hK hP 4 rfl rfl 4 (by decide) (hts _ tw_110) (fun _ h9 => h9) rfl d_Wa_goOn_64 ?_
    refine lv_iconst (v := nI 1) hx hb d_Wa_goOn_67 (by decide) ?_
    refine lv_isub hx hb d_Wa_goOn_68 ?_
    refine sn_topi (pk_sub (by omega)) ?_
    refine va_put (D := D) (ci := 3) (v := .int (nI (z.2.2.2.1 - 1))) (ty := .int) (C := R_Wa) (T := F_Wa) (N := 8) hx hb hts in_Wa t_Wa t_Wa_ok n_Wa hown hK hP hD hS 4 rfl rfl 4 (by decide) (hts _ tw_110) (fun _ h9 => h9) rfl (by decide +kernel) rfl rfl (Nat.le_of_ble_eq_true rfl) d_Wa_goOn_69 (fun H locs hP hD hS => ?_)
    have hP : va_P D classes [ce0 a rc tp uc, aS K (a 1) 601 S, aI K (a 2) 9616 L, aL K (a 3) 9616 N, cw0 a (z.2.2.2.1 - 1) z.2.2.2.2.1 z.2.2.2.2.2.1 z.2.2.2.2.2.2, aI K (a 10) 601 z.1, aI K (a 11) 601 z.2.1, aI K (a 12) 601 z.2.2.1] H := hP
    have hD : va_D A [ce0 a rc tp uc, aS K (a 1) 601 S, aI K (a 2) 9616 L, aL K (a 3) 9616 N, cw0 a (z.2.2.2.1 - 1) z.2.2.2.2.1 z.2.2.2.2.2.1 z.2.2.2.2.2.2, aI K (a 10) 601 z.1, aI K (a 11) 601 z.2.1, aI K (a 12) 601 z.2.2.1] := hD
    rw [show sn_goon S L N z = (z.1, z.2.1, z.2.2.1, z.2.2.2.1 - 1, z.2.2.2.2) from if_neg (by omega)] at hQ
    subst hAe
    exact sx_wv hQ hx hb hrt hlk hP hS d_Wa_goOn_72
  · refine lv_aload_n hx hb d_Wa_goOn_36 rfl (lv_at hl 2 rfl) ?_
    refine va_get (D := D) (ci := 3) (v := .ref (a 12)) (C := R_Wa) (T := F_Wa) (N := 8) hx hb hts in_Wa hown hK hP 4 rfl rfl 3 (by decide) (hts _ tw_109) (fun _ h9 => h9) rfl d_Wa_goOn_37 ?_
    refine lv_aload_n hx hb d_Wa_goOn_40 rfl (lv_at hl 2 rfl) ?_
    refine va_get (D := D) (ci := 3) (v := .int (nI z.2.2.2.1)) (C := R_Wa) (T := F_Wa) (N := 8) hx hb hts in_Wa hown hK hP 4 rfl rfl 4 (by decide) (hts _ tw_110) (fun _ h9 => h9) rfl d_Wa_goOn_41 ?_
    refine lv_iconst (v := nI 1) hx hb d_Wa_goOn_44 (by decide) ?_
    refine lv_isub hx hb d_Wa_goOn_45 ?_
    refine sn_topi (pk_sub (by omega)) ?_
    refine lv_iload_n hx hb d_Wa_goOn_46 rfl (lv_at hl 0 rfl) ?_
    refine lv_iconst (v := nI 1) hx hb d_Wa_goOn_47 (by decide) ?_
    refine lv_iadd hx hb d_Wa_goOn_48 ?_
    refine sn_topi (nI_add _ _) ?_
    refine sn_iast nI z.2.2.1 (z.2.2.2.1 - 1) (z.2.2.1 (z.2.2.2.1 - 1) + 1) hx hb hK hP hD hS 7 rfl (by omega) (by decide) d_Wa_goOn_49 (fun H locs hP hD hS => ?_)
    have hP : va_P D classes [ce0 a rc tp uc, aS K (a 1) 601 S, aI K (a 2) 9616 L, aL K (a 3) 9616 N, cw0 a z.2.2.2.1 z.2.2.2.2.1 z.2.2.2.2.2.1 z.2.2.2.2.2.2, aI K (a 10) 601 z.1, aI K (a 11) 601 z.2.1, aI K (a 12) 601 (va_up z.2.2.1 (z.2.2.2.1 - 1) (z.2.2.1 (z.2.2.2.1 - 1) + 1))] H := hP
    have hD : va_D A [ce0 a rc tp uc, aS K (a 1) 601 S, aI K (a 2) 9616 L, aL K (a 3) 9616 N, cw0 a z.2.2.2.1 z.2.2.2.2.1 z.2.2.2.2.2.1 z.2.2.2.2.2.2, aI K (a 10) 601 z.1, aI K (a 11) 601 z.2.1, aI K (a 12) 601 (va_up z.2.2.1 (z.2.2.2.1 - 1) (z.2.2.1 (z.2.2.2.1 - 1) + 1))] := hD
    refine lv_aload_n hx hb d_Wa_goOn_50 rfl (lv_at hl 2 rfl) ?_
    refine lv_iload_n hx hb d_Wa_goOn_51 rfl (lv_at hl 1 rfl) ?_
    refine lv_iload_n hx hb d_Wa_goOn_52 rfl (lv_at hl 0 rfl) ?_
    refine sn_rd (st1 := [.int (nI (16 * (z.2.1 (z.2.2.2.1 - 1)) + (z.2.2.1 (z.2.2.2.1 - 1)))), .ref (a 9)]) (va_runSN (As := [.int (nI (z.2.1 (z.2.2.2.1 - 1))), .int (nI (z.2.2.1 (z.2.2.2.1 - 1)))]) (rest := [.ref (a 9)]) ⟨hx, hb, hml, hown, hts⟩ (c_Sh_slotOf l D K (z.2.1 (z.2.2.2.1 - 1)) (z.2.2.1 (z.2.2.2.1 - 1))) ⟨va_cnB 2 hts (tw_in cm_Sh_slotOf) rfl rfl rfl hN.2.1 (hts _ gn_Sh) hd_Sh_slotOf ⟨Nat.le_of_ble_eq_true rfl, Nat.le_of_ble_eq_true rfl⟩, hts _ gt_Sh_slotOf, trivial⟩ (sn_preS hK hN hP [] rfl) rfl rfl hl.1 rfl (lv_room (Nat.le_of_ble_eq_true rfl)) d_Wa_goOn_53 ⟨Nat.zero_le _, Nat.zero_le _⟩) rfl ?_
    have hP : va_P D classes [ce0 a rc tp uc, aS K (a 1) 601 S, aI K (a 2) 9616 L, aL K (a 3) 9616 N, cw0 a (((z.1, z.2.1, va_up z.2.2.1 (z.2.2.2.1 - 1) (z.2.2.1 (z.2.2.2.1 - 1) + 1), z.2.2.2) : SnW).2.2.2.1) (((z.1, z.2.1, va_up z.2.2.1 (z.2.2.2.1 - 1) (z.2.2.1 (z.2.2.2.1 - 1) + 1), z.2.2.2) : SnW).2.2.2.2.1) (((z.1, z.2.1, va_up z.2.2.1 (z.2.2.2.1 - 1) (z.2.2.1 (z.2.2.2.1 - 1) + 1), z.2.2.2) : SnW).2.2.2.2.2.1) (((z.1, z.2.1, va_up z.2.2.1 (z.2.2.2.1 - 1) (z.2.2.1 (z.2.2.2.1 - 1) + 1), z.2.2.2) : SnW).2.2.2.2.2.2), aI K (a 10) 601 (((z.1, z.2.1, va_up z.2.2.1 (z.2.2.2.1 - 1) (z.2.2.1 (z.2.2.2.1 - 1) + 1), z.2.2.2) : SnW).1), aI K (a 11) 601 (((z.1, z.2.1, va_up z.2.2.1 (z.2.2.2.1 - 1) (z.2.2.1 (z.2.2.2.1 - 1) + 1), z.2.2.2) : SnW).2.1), aI K (a 12) 601 (((z.1, z.2.1, va_up z.2.2.1 (z.2.2.2.1 - 1) (z.2.2.1 (z.2.2.2.1 - 1) + 1), z.2.2.2) : SnW).2.2.1)] H := hP
    have hD : va_D A [ce0 a rc tp uc, aS K (a 1) 601 S, aI K (a 2) 9616 L, aL K (a 3) 9616 N, cw0 a (((z.1, z.2.1, va_up z.2.2.1 (z.2.2.2.1 - 1) (z.2.2.1 (z.2.2.2.1 - 1) + 1), z.2.2.2) : SnW).2.2.2.1) (((z.1, z.2.1, va_up z.2.2.1 (z.2.2.2.1 - 1) (z.2.2.1 (z.2.2.2.1 - 1) + 1), z.2.2.2) : SnW).2.2.2.2.1) (((z.1, z.2.1, va_up z.2.2.1 (z.2.2.2.1 - 1) (z.2.2.1 (z.2.2.2.1 - 1) + 1), z.2.2.2) : SnW).2.2.2.2.2.1) (((z.1, z.2.1, va_up z.2.2.1 (z.2.2.2.1 - 1) (z.2.2.1 (z.2.2.2.1 - 1) + 1), z.2.2.2) : SnW).2.2.2.2.2.2), aI K (a 10) 601 (((z.1, z.2.1, va_up z.2.2.1 (z.2.2.2.1 - 1) (z.2.2.1 (z.2.2.2.1 - 1) + 1), z.2.2.2) : SnW).1), aI K (a 11) 601 (((z.1, z.2.1, va_up z.2.2.1 (z.2.2.2.1 - 1) (z.2.2.1 (z.2.2.2.1 - 1) + 1), z.2.2.2) : SnW).2.1), aI K (a 12) 601 (((z.1, z.2.1, va_up z.2.2.1 (z.2.2.2.1 - 1) (z.2.2.1 (z.2.2.2.1 - 1) + 1), z.2.2.2) : SnW).2.2.1)] := hD
    refine sn_wrt (st1 := []) (w1 := [ce0 a rc tp uc, aS K (a 1) 601 S, aI K (a 2) 9616 L, aL K (a 3) 9616 N, cw0 a ((sn_wmeet S L N ((z.1, z.2.1, va_up z.2.2.1 (z.2.2.2.1 - 1) (z.2.2.1 (z.2.2.2.1 - 1) + 1), z.2.2.2) : SnW) (16 * (z.2.1 (z.2.2.2.1 - 1)) + (z.2.2.1 (z.2.2.2.1 - 1)))).2.2.2.1) ((sn_wmeet S L N ((z.1, z.2.1, va_up z.2.2.1 (z.2.2.2.1 - 1) (z.2.2.1 (z.2.2.2.1 - 1) + 1), z.2.2.2) : SnW) (16 * (z.2.1 (z.2.2.2.1 - 1)) + (z.2.2.1 (z.2.2.2.1 - 1)))).2.2.2.2.1) ((sn_wmeet S L N ((z.1, z.2.1, va_up z.2.2.1 (z.2.2.2.1 - 1) (z.2.2.1 (z.2.2.2.1 - 1) + 1), z.2.2.2) : SnW) (16 * (z.2.1 (z.2.2.2.1 - 1)) + (z.2.2.1 (z.2.2.2.1 - 1)))).2.2.2.2.2.1) ((sn_wmeet S L N ((z.1, z.2.1, va_up z.2.2.1 (z.2.2.2.1 - 1) (z.2.2.1 (z.2.2.2.1 - 1) + 1), z.2.2.2) : SnW) (16 * (z.2.1 (z.2.2.2.1 - 1)) + (z.2.2.1 (z.2.2.2.1 - 1)))).2.2.2.2.2.2), aI K (a 10) 601 ((sn_wmeet S L N ((z.1, z.2.1, va_up z.2.2.1 (z.2.2.2.1 - 1) (z.2.2.1 (z.2.2.2.1 - 1) + 1), z.2.2.2) : SnW) (16 * (z.2.1 (z.2.2.2.1 - 1)) + (z.2.2.1 (z.2.2.2.1 - 1)))).1), aI K (a 11) 601 ((sn_wmeet S L N ((z.1, z.2.1, va_up z.2.2.1 (z.2.2.2.1 - 1) (z.2.2.1 (z.2.2.2.1 - 1) + 1), z.2.2.2) : SnW) (16 * (z.2.1 (z.2.2.2.1 - 1)) + (z.2.2.1 (z.2.2.2.1 - 1)))).2.1), aI K (a 12) 601 ((sn_wmeet S L N ((z.1, z.2.1, va_up z.2.2.1 (z.2.2.2.1 - 1) (z.2.2.1 (z.2.2.2.1 - 1) + 1), z.2.2.2) : SnW) (16 * (z.2.1 (z.2.2.2.1 - 1)) + (z.2.2.1 (z.2.2.2.1 - 1)))).2.2.1)]) (va_runV (As := [.int (nI (16 * (z.2.1 (z.2.2.2.1 - 1)) + (z.2.2.1 (z.2.2.2.1 - 1))))]) (rest := []) ⟨hx, hb, hml, hown, hts⟩ (c_Wa_meet l D K a S L N rc tp uc ((z.1, z.2.1, va_up z.2.2.1 (z.2.2.2.1 - 1) (z.2.2.1 (z.2.2.2.1 - 1) + 1), z.2.2.2) : SnW) (16 * (z.2.1 (z.2.2.2.1 - 1)) + (z.2.2.1 (z.2.2.2.1 - 1))) (hL) (hSz) (hz) (sn_wb_nv hwb hd0 (by omega)) (by omega)) ⟨callB_of 1 hts (tw_in cm_Wa_meet) rfl rfl rfl (hts _ gn_Wa) (hts _ tw_275) hd_Wa_meet ⟨Nat.le_of_ble_eq_true rfl, Nat.le_of_ble_eq_true rfl⟩, hts _ gi_Wa_meet, hts _ gs_Wa_meet⟩ (sn_preVW hK hN hP hD 4 rfl rfl [0, 1, 2, 3, 4, 5, 6, 7] rfl rfl) rfl rfl hl.1 rfl (lv_room (Nat.le_of_ble_eq_true rfl)) d_Wa_goOn_56 ⟨Nat.zero_le _, Nat.zero_le _⟩) rfl hP hD hS [0, 1, 2, 3, 4, 5, 6, 7] rfl rfl (fun H locs hP hD hS => ?_)
    have hP : va_P D classes [ce0 a rc tp uc, aS K (a 1) 601 S, aI K (a 2) 9616 L, aL K (a 3) 9616 N, cw0 a ((sn_wmeet S L N ((z.1, z.2.1, va_up z.2.2.1 (z.2.2.2.1 - 1) (z.2.2.1 (z.2.2.2.1 - 1) + 1), z.2.2.2) : SnW) (16 * (z.2.1 (z.2.2.2.1 - 1)) + (z.2.2.1 (z.2.2.2.1 - 1)))).2.2.2.1) ((sn_wmeet S L N ((z.1, z.2.1, va_up z.2.2.1 (z.2.2.2.1 - 1) (z.2.2.1 (z.2.2.2.1 - 1) + 1), z.2.2.2) : SnW) (16 * (z.2.1 (z.2.2.2.1 - 1)) + (z.2.2.1 (z.2.2.2.1 - 1)))).2.2.2.2.1) ((sn_wmeet S L N ((z.1, z.2.1, va_up z.2.2.1 (z.2.2.2.1 - 1) (z.2.2.1 (z.2.2.2.1 - 1) + 1), z.2.2.2) : SnW) (16 * (z.2.1 (z.2.2.2.1 - 1)) + (z.2.2.1 (z.2.2.2.1 - 1)))).2.2.2.2.2.1) ((sn_wmeet S L N ((z.1, z.2.1, va_up z.2.2.1 (z.2.2.2.1 - 1) (z.2.2.1 (z.2.2.2.1 - 1) + 1), z.2.2.2) : SnW) (16 * (z.2.1 (z.2.2.2.1 - 1)) + (z.2.2.1 (z.2.2.2.1 - 1)))).2.2.2.2.2.2), aI K (a 10) 601 ((sn_wmeet S L N ((z.1, z.2.1, va_up z.2.2.1 (z.2.2.2.1 - 1) (z.2.2.1 (z.2.2.2.1 - 1) + 1), z.2.2.2) : SnW) (16 * (z.2.1 (z.2.2.2.1 - 1)) + (z.2.2.1 (z.2.2.2.1 - 1)))).1), aI K (a 11) 601 ((sn_wmeet S L N ((z.1, z.2.1, va_up z.2.2.1 (z.2.2.2.1 - 1) (z.2.2.1 (z.2.2.2.1 - 1) + 1), z.2.2.2) : SnW) (16 * (z.2.1 (z.2.2.2.1 - 1)) + (z.2.2.1 (z.2.2.2.1 - 1)))).2.1), aI K (a 12) 601 ((sn_wmeet S L N ((z.1, z.2.1, va_up z.2.2.1 (z.2.2.2.1 - 1) (z.2.2.1 (z.2.2.2.1 - 1) + 1), z.2.2.2) : SnW) (16 * (z.2.1 (z.2.2.2.1 - 1)) + (z.2.2.1 (z.2.2.2.1 - 1)))).2.2.1)] H := hP
    have hD : va_D A [ce0 a rc tp uc, aS K (a 1) 601 S, aI K (a 2) 9616 L, aL K (a 3) 9616 N, cw0 a ((sn_wmeet S L N ((z.1, z.2.1, va_up z.2.2.1 (z.2.2.2.1 - 1) (z.2.2.1 (z.2.2.2.1 - 1) + 1), z.2.2.2) : SnW) (16 * (z.2.1 (z.2.2.2.1 - 1)) + (z.2.2.1 (z.2.2.2.1 - 1)))).2.2.2.1) ((sn_wmeet S L N ((z.1, z.2.1, va_up z.2.2.1 (z.2.2.2.1 - 1) (z.2.2.1 (z.2.2.2.1 - 1) + 1), z.2.2.2) : SnW) (16 * (z.2.1 (z.2.2.2.1 - 1)) + (z.2.2.1 (z.2.2.2.1 - 1)))).2.2.2.2.1) ((sn_wmeet S L N ((z.1, z.2.1, va_up z.2.2.1 (z.2.2.2.1 - 1) (z.2.2.1 (z.2.2.2.1 - 1) + 1), z.2.2.2) : SnW) (16 * (z.2.1 (z.2.2.2.1 - 1)) + (z.2.2.1 (z.2.2.2.1 - 1)))).2.2.2.2.2.1) ((sn_wmeet S L N ((z.1, z.2.1, va_up z.2.2.1 (z.2.2.2.1 - 1) (z.2.2.1 (z.2.2.2.1 - 1) + 1), z.2.2.2) : SnW) (16 * (z.2.1 (z.2.2.2.1 - 1)) + (z.2.2.1 (z.2.2.2.1 - 1)))).2.2.2.2.2.2), aI K (a 10) 601 ((sn_wmeet S L N ((z.1, z.2.1, va_up z.2.2.1 (z.2.2.2.1 - 1) (z.2.2.1 (z.2.2.2.1 - 1) + 1), z.2.2.2) : SnW) (16 * (z.2.1 (z.2.2.2.1 - 1)) + (z.2.2.1 (z.2.2.2.1 - 1)))).1), aI K (a 11) 601 ((sn_wmeet S L N ((z.1, z.2.1, va_up z.2.2.1 (z.2.2.2.1 - 1) (z.2.2.1 (z.2.2.2.1 - 1) + 1), z.2.2.2) : SnW) (16 * (z.2.1 (z.2.2.2.1 - 1)) + (z.2.2.1 (z.2.2.2.1 - 1)))).2.1), aI K (a 12) 601 ((sn_wmeet S L N ((z.1, z.2.1, va_up z.2.2.1 (z.2.2.2.1 - 1) (z.2.2.1 (z.2.2.2.1 - 1) + 1), z.2.2.2) : SnW) (16 * (z.2.1 (z.2.2.2.1 - 1)) + (z.2.2.1 (z.2.2.2.1 - 1)))).2.2.1)] := hD
    refine lv_goto (tgt := 72) hx hb d_Wa_goOn_59 (by decide) ?_
    rw [show sn_goon S L N z = sn_wmeet S L N (z.1, z.2.1, va_up z.2.2.1 (z.2.2.2.1 - 1) (z.2.2.1 (z.2.2.2.1 - 1) + 1), z.2.2.2) (16 * z.2.1 (z.2.2.2.1 - 1) + z.2.2.1 (z.2.2.2.1 - 1)) from if_pos h1] at hQ
    subst hAe
    exact sx_wv hQ hx hb hrt hlk hP hS d_Wa_goOn_72
set_option maxHeartbeats 4000000 in
set_option maxRecDepth 100000 in
theorem c_Wa_run (l : Launch) (D : va_G) (K : Nat → ClassId) (a : Nat → Nat) (S : Nat → Option Nat) (L : Nat → Nat) (N : Nat → Int64) (rc : Nat) (tp : Nat) (uc : Nat) (z : SnW) (hL : ∀ s, L s ≤ 600) (hSz : ∀ q n, S q = some n → n ≤ 16) : Met l y_Wa_run w_Wa_run ({ frames := 4, cells := 0, slots := 0, locals := 88 }) (va_Pc [.ref (a 9)] (sn_BW D K [ce0 a rc tp uc, aS K (a 1) 601 S, aI K (a 2) 9616 L, aL K (a 3) 9616 N, cw0 a z.2.2.2.1 z.2.2.2.2.1 z.2.2.2.2.2.1 z.2.2.2.2.2.2, aI K (a 10) 601 z.1, aI K (a 11) 601 z.2.1, aI K (a 12) 601 z.2.2.1])) (sn_Q D [ce0 a rc tp uc, aS K (a 1) 601 S, aI K (a 2) 9616 L, aL K (a 3) 9616 N, cw0 a z.2.2.2.1 z.2.2.2.2.1 z.2.2.2.2.2.1 z.2.2.2.2.2.2, aI K (a 10) 601 z.1, aI K (a 11) 601 z.2.1, aI K (a 12) 601 z.2.2.1] [ce0 a rc tp uc, aS K (a 1) 601 S, aI K (a 2) 9616 L, aL K (a 3) 9616 N, cw0 a ((sn_wrun S L N 10217 ((fun _ => 0, va_up z.2.1 0 0, va_up z.2.2.1 0 0, 1, 0, 0, 7) : SnW)).2.2.2.1) ((sn_wrun S L N 10217 ((fun _ => 0, va_up z.2.1 0 0, va_up z.2.2.1 0 0, 1, 0, 0, 7) : SnW)).2.2.2.2.1) ((sn_wrun S L N 10217 ((fun _ => 0, va_up z.2.1 0 0, va_up z.2.2.1 0 0, 1, 0, 0, 7) : SnW)).2.2.2.2.2.1) ((sn_wrun S L N 10217 ((fun _ => 0, va_up z.2.1 0 0, va_up z.2.2.1 0 0, 1, 0, 0, 7) : SnW)).2.2.2.2.2.2), aI K (a 10) 601 ((sn_wrun S L N 10217 ((fun _ => 0, va_up z.2.1 0 0, va_up z.2.2.1 0 0, 1, 0, 0, 7) : SnW)).1), aI K (a 11) 601 ((sn_wrun S L N 10217 ((fun _ => 0, va_up z.2.1 0 0, va_up z.2.2.1 0 0, 1, 0, 0, 7) : SnW)).2.1), aI K (a 12) 601 ((sn_wrun S L N 10217 ((fun _ => 0, va_up z.2.1 0 0, va_up z.2.2.1 0 0, 1, 0, 0, 7) : SnW)).2.2.1)] none) 0 0 (sn_A [ce0 a rc tp uc, aS K (a 1) 601 S, aI K (a 2) 9616 L, aL K (a 3) 9616 N, cw0 a z.2.2.2.1 z.2.2.2.2.1 z.2.2.2.2.2.1 z.2.2.2.2.2.2, aI K (a 10) 601 z.1, aI K (a 11) 601 z.2.1, aI K (a 12) 601 z.2.2.1]) := by
  refine sn_met (own := R_Wa) (by decide +kernel) rfl rfl (Nat.le_of_ble_eq_true rfl) ?_
  intro P9 E9 s9 m9 args below M9 c9 ls Q hQ hx hb hml hrt hlk hts hown hnm hl hB
  obtain ⟨⟨hP, hK, hN⟩, hD⟩ := hB
  have hl : lv_has ls 2 [(0, .ref (a 9))] := hl
  have hD := sn_DA hD
  have hS : va_S (sn_A [ce0 a rc tp uc, aS K (a 1) 601 S, aI K (a 2) 9616 L, aL K (a 3) 9616 N, cw0 a z.2.2.2.1 z.2.2.2.2.1 z.2.2.2.2.2.1 z.2.2.2.2.2.2, aI K (a 10) 601 z.1, aI K (a 11) 601 z.2.1, aI K (a 12) 601 z.2.2.1]) s9.heap s9.heap [] := va_S.rf
  generalize hAe : sn_A [ce0 a rc tp uc, aS K (a 1) 601 S, aI K (a 2) 9616 L, aL K (a 3) 9616 N, cw0 a z.2.2.2.1 z.2.2.2.2.1 z.2.2.2.2.2.1 z.2.2.2.2.2.2, aI K (a 10) 601 z.1, aI K (a 11) 601 z.2.1, aI K (a 12) 601 z.2.2.1] = A at hD hS
  refine lv_aload_n hx hb d_Wa_run_0 rfl (lv_at hl 0 rfl) ?_
  refine va_get (D := D) (ci := 3) (v := .ref (a 10)) (C := R_Wa) (T := F_Wa) (N := 8) hx hb hts in_Wa hown hK hP 4 rfl rfl 1 (by decide) (hts _ tw_107) (fun _ h9 => h9) rfl d_Wa_run_1 ?_
  refine lv_iconst (v := nI 0) hx hb d_Wa_run_4 (by decide) ?_
  refine sn_wrt (st1 := []) (w1 := [aI K (a 10) 601 (fun _ => 0)]) (va_runS (As := [.ref (a 10), .int (nI 0)]) (rest := []) ⟨hx, hb, hml, hown, hts⟩ (c_Ar_fill l D K Nat nI z.1 0 (a 10) 601 (by decide)) ⟨callB_of 2 hts (tw_in cm_Ar_fill) rfl rfl rfl (hts _ gn_Ar) (hts _ tw_263) hd_Ar_fill ⟨Nat.le_of_ble_eq_true rfl, Nat.le_of_ble_eq_true rfl⟩, hts _ gt_Ar_fill⟩ (sn_preSW hK hN hP hD [5] rfl rfl) rfl rfl hl.1 rfl (lv_room (Nat.le_of_ble_eq_true rfl)) d_Wa_run_5 ⟨Nat.zero_le _, Nat.zero_le _⟩) rfl hP hD hS [5] rfl rfl (fun H locs hP hD hS => ?_)
  have hP : va_P D classes [ce0 a rc tp uc, aS K (a 1) 601 S, aI K (a 2) 9616 L, aL K (a 3) 9616 N, cw0 a z.2.2.2.1 z.2.2.2.2.1 z.2.2.2.2.2.1 z.2.2.2.2.2.2, aI K (a 10) 601 (fun _ => 0), aI K (a 11) 601 z.2.1, aI K (a 12) 601 z.2.2.1] H := hP
  have hD : va_D A [ce0 a rc tp uc, aS K (a 1) 601 S, aI K (a 2) 9616 L, aL K (a 3) 9616 N, cw0 a z.2.2.2.1 z.2.2.2.2.1 z.2.2.2.2.2.1 z.2.2.2.2.2.2, aI K (a 10) 601 (fun _ => 0), aI K (a 11) 601 z.2.1, aI K (a 12) 601 z.2.2.1] := hD
  refine lv_aload_n hx hb d_Wa_run_8 rfl (lv_at hl 0 rfl) ?_
  refine lv_iconst (v := nI 0) hx hb d_Wa_run_9 (by decide) ?_
  refine va_put (D := D) (ci := 3) (v := .int (nI 0)) (ty := .int) (C := R_Wa) (T := F_Wa) (N := 8) hx hb hts in_Wa t_Wa t_Wa_ok n_Wa hown hK hP hD hS 4 rfl rfl 5 (by decide) (hts _ tw_111) (fun _ h9 => h9) rfl (by decide +kernel) rfl rfl (Nat.le_of_ble_eq_true rfl) d_Wa_run_10 (fun H locs hP hD hS => ?_)
  have hP : va_P D classes [ce0 a rc tp uc, aS K (a 1) 601 S, aI K (a 2) 9616 L, aL K (a 3) 9616 N, cw0 a z.2.2.2.1 0 z.2.2.2.2.2.1 z.2.2.2.2.2.2, aI K (a 10) 601 (fun _ => 0), aI K (a 11) 601 z.2.1, aI K (a 12) 601 z.2.2.1] H := hP
  have hD : va_D A [ce0 a rc tp uc, aS K (a 1) 601 S, aI K (a 2) 9616 L, aL K (a 3) 9616 N, cw0 a z.2.2.2.1 0 z.2.2.2.2.2.1 z.2.2.2.2.2.2, aI K (a 10) 601 (fun _ => 0), aI K (a 11) 601 z.2.1, aI K (a 12) 601 z.2.2.1] := hD
  refine lv_aload_n hx hb d_Wa_run_13 rfl (lv_at hl 0 rfl) ?_
  refine lv_iconst (v := nI 0) hx hb d_Wa_run_14 (by decide) ?_
  refine va_put (D := D) (ci := 3) (v := .int (nI 0)) (ty := .int) (C := R_Wa) (T := F_Wa) (N := 8) hx hb hts in_Wa t_Wa t_Wa_ok n_Wa hown hK hP hD hS 4 rfl rfl 6 (by decide) (hts _ tw_112) (fun _ h9 => h9) rfl (by decide +kernel) rfl rfl (Nat.le_of_ble_eq_true rfl) d_Wa_run_15 (fun H locs hP hD hS => ?_)
  have hP : va_P D classes [ce0 a rc tp uc, aS K (a 1) 601 S, aI K (a 2) 9616 L, aL K (a 3) 9616 N, cw0 a z.2.2.2.1 0 0 z.2.2.2.2.2.2, aI K (a 10) 601 (fun _ => 0), aI K (a 11) 601 z.2.1, aI K (a 12) 601 z.2.2.1] H := hP
  have hD : va_D A [ce0 a rc tp uc, aS K (a 1) 601 S, aI K (a 2) 9616 L, aL K (a 3) 9616 N, cw0 a z.2.2.2.1 0 0 z.2.2.2.2.2.2, aI K (a 10) 601 (fun _ => 0), aI K (a 11) 601 z.2.1, aI K (a 12) 601 z.2.2.1] := hD
  refine lv_aload_n hx hb d_Wa_run_18 rfl (lv_at hl 0 rfl) ?_
  refine lv_ldc2 (v := 7) hx hb hown (hts _ tw_264) d_Wa_run_19 ?_
  refine va_put (D := D) (ci := 3) (v := .long 7) (ty := .long) (C := R_Wa) (T := F_Wa) (N := 8) hx hb hts in_Wa t_Wa t_Wa_ok n_Wa hown hK hP hD hS 4 rfl rfl 7 (by decide) (hts _ tw_113) (fun _ h9 => h9) rfl (by decide +kernel) rfl rfl (Nat.le_of_ble_eq_true rfl) d_Wa_run_22 (fun H locs hP hD hS => ?_)
  have hP : va_P D classes [ce0 a rc tp uc, aS K (a 1) 601 S, aI K (a 2) 9616 L, aL K (a 3) 9616 N, cw0 a z.2.2.2.1 0 0 7, aI K (a 10) 601 (fun _ => 0), aI K (a 11) 601 z.2.1, aI K (a 12) 601 z.2.2.1] H := hP
  have hD : va_D A [ce0 a rc tp uc, aS K (a 1) 601 S, aI K (a 2) 9616 L, aL K (a 3) 9616 N, cw0 a z.2.2.2.1 0 0 7, aI K (a 10) 601 (fun _ => 0), aI K (a 11) 601 z.2.1, aI K (a 12) 601 z.2.2.1] := hD
  refine lv_aload_n hx hb d_Wa_run_25 rfl (lv_at hl 0 rfl) ?_
  refine lv_iconst (v := nI 0) hx hb d_Wa_run_26 (by decide) ?_
  refine va_put (D := D) (ci := 3) (v := .int (nI 0)) (ty := .int) (C := R_Wa) (T := F_Wa) (N := 8) hx hb hts in_Wa t_Wa t_Wa_ok n_Wa hown hK hP hD hS 4 rfl rfl 4 (by decide) (hts _ tw_110) (fun _ h9 => h9) rfl (by decide +kernel) rfl rfl (Nat.le_of_ble_eq_true rfl) d_Wa_run_27 (fun H locs hP hD hS => ?_)
  have hP : va_P D classes [ce0 a rc tp uc, aS K (a 1) 601 S, aI K (a 2) 9616 L, aL K (a 3) 9616 N, cw0 a 0 0 0 7, aI K (a 10) 601 (fun _ => 0), aI K (a 11) 601 z.2.1, aI K (a 12) 601 z.2.2.1] H := hP
  have hD : va_D A [ce0 a rc tp uc, aS K (a 1) 601 S, aI K (a 2) 9616 L, aL K (a 3) 9616 N, cw0 a 0 0 0 7, aI K (a 10) 601 (fun _ => 0), aI K (a 11) 601 z.2.1, aI K (a 12) 601 z.2.2.1] := hD
  refine lv_aload_n hx hb d_Wa_run_30 rfl (lv_at hl 0 rfl) ?_
  refine lv_iconst (v := nI 0) hx hb d_Wa_run_31 (by decide) ?_
  refine sn_wrt (st1 := []) (w1 := [cw0 a (0 + 1) 0 0 7, aI K (a 11) 601 (va_up z.2.1 0 0), aI K (a 12) 601 (va_up z.2.2.1 0 0)]) (va_runV (As := [.int (nI 0)]) (rest := []) ⟨hx, hb, hml, hown, hts⟩ (c_Wa_goInto l D K a 0 0 0 7 z.2.1 z.2.2.1 0 (by omega)) ⟨callB_of 1 hts (tw_in cm_Wa_goInto) rfl rfl rfl (hts _ gn_Wa) (hts _ tw_265) hd_Wa_goInto ⟨Nat.le_of_ble_eq_true rfl, Nat.le_of_ble_eq_true rfl⟩, hts _ gi_Wa_goInto, hts _ gs_Wa_goInto⟩ (sn_preVW hK hN hP hD 4 rfl rfl [4, 6, 7] rfl rfl) rfl rfl hl.1 rfl (lv_room (Nat.le_of_ble_eq_true rfl)) d_Wa_run_32 ⟨Nat.zero_le _, Nat.zero_le _⟩) rfl hP hD hS [4, 6, 7] rfl rfl (fun H locs hP hD hS => ?_)
  have hP : va_P D classes [ce0 a rc tp uc, aS K (a 1) 601 S, aI K (a 2) 9616 L, aL K (a 3) 9616 N, cw0 a (0 + 1) 0 0 7, aI K (a 10) 601 (fun _ => 0), aI K (a 11) 601 (va_up z.2.1 0 0), aI K (a 12) 601 (va_up z.2.2.1 0 0)] H := hP
  have hD : va_D A [ce0 a rc tp uc, aS K (a 1) 601 S, aI K (a 2) 9616 L, aL K (a 3) 9616 N, cw0 a (0 + 1) 0 0 7, aI K (a 10) 601 (fun _ => 0), aI K (a 11) 601 (va_up z.2.1 0 0), aI K (a 12) 601 (va_up z.2.2.1 0 0)] := hD
  refine lv_iconst (v := nI 0) hx hb d_Wa_run_35 (by decide) ?_
  refine lv_istore_n (lv' := [(1, .int (nI 0)), (0, .ref (a 9))]) hx hb d_Wa_run_36 rfl hl (by decide) rfl (fun ls hl => ?_)
  have loop0 : ∀ (nn : Nat) (i : Nat) (y : SnW) (ls : Array Slot) (H : Heap) (locs : List Loc), 10217 - i < nn → i ≤ 10217 → sn_wi y → sn_wb y → sn_wrun S L N (10217 - i) y = sn_wrun S L N 10217 ((fun _ => 0, va_up z.2.1 0 0, va_up z.2.2.1 0 0, 1, 0, 0, 7) : SnW) → lv_has ls 2 [(0, .ref (a 9)), (1, .int (nI i))] → va_P D classes [ce0 a rc tp uc, aS K (a 1) 601 S, aI K (a 2) 9616 L, aL K (a 3) 9616 N, cw0 a y.2.2.2.1 y.2.2.2.2.1 y.2.2.2.2.2.1 y.2.2.2.2.2.2, aI K (a 10) 601 y.1, aI K (a 11) 601 y.2.1, aI K (a 12) 601 y.2.2.1] H → va_D A [ce0 a rc tp uc, aS K (a 1) 601 S, aI K (a 2) 9616 L, aL K (a 3) 9616 N, cw0 a y.2.2.2.1 y.2.2.2.2.1 y.2.2.2.2.2.1 y.2.2.2.2.2.2, aI K (a 10) 601 y.1, aI K (a 11) 601 y.2.1, aI K (a 12) 601 y.2.2.1] → va_S A s9.heap H locs → W P9 l E9 ({ frames := 4, cells := 0, slots := 0, locals := 88 }) s9 m9 args below M9 c9 H locs 0 0 Q (F0 m9 37 ls []) := by
    intro nn
    induction nn with
    | zero => intro i y ls H locs hn; exact absurd hn (Nat.not_lt_zero _)
    | succ nn ih =>
      intro i y ls H locs hmu hi hy hyb ew hl hP hD hS
      have hm6 := sn_wi_m hy
      have hdm := hy.2.1
      refine lv_iload_n hx hb d_Wa_run_37 rfl (lv_at hl 1 rfl) ?_
      refine lv_sipush (v := nI 10217) hx hb d_Wa_run_38 (by decide) ?_
      refine sn_icmp_ge (by omega) (by omega) (tgt := 61) hx hb d_Wa_run_41 (by decide) (fun h1 => ?_) (fun h1 => ?_)
      · have ei : i = 10217 := by omega
        rw [ei, Nat.sub_self] at ew
        have ew : y = _ := ew
        rw [← ew] at hQ
        subst hAe
        exact sx_wv hQ hx hb hrt hlk hP hS d_Wa_run_61
      · refine lv_aload_n hx hb d_Wa_run_44 rfl (lv_at hl 0 rfl) ?_
        refine va_get (D := D) (ci := 3) (v := .int (nI y.2.2.2.1)) (C := R_Wa) (T := F_Wa) (N := 8) hx hb hts in_Wa hown hK hP 4 rfl rfl 4 (by decide) (hts _ tw_110) (fun _ h9 => h9) rfl d_Wa_run_45 ?_
        refine sn_if_le (by omega) (tgt := 61) hx hb d_Wa_run_48 (by decide) (fun h2 => ?_) (fun h2 => ?_)
        · have ew2 : y = sn_wrun S L N 10217 ((fun _ => 0, va_up z.2.1 0 0, va_up z.2.2.1 0 0, 1, 0, 0, 7) : SnW) := by rw [← ew]; exact (sn_wrun_0 S L N _ h2).symm
          rw [← ew2] at hQ
          subst hAe
          exact sx_wv hQ hx hb hrt hlk hP hS d_Wa_run_61
        · refine lv_aload_n hx hb d_Wa_run_51 rfl (lv_at hl 0 rfl) ?_
          refine sn_wrt (st1 := []) (w1 := [ce0 a rc tp uc, aS K (a 1) 601 S, aI K (a 2) 9616 L, aL K (a 3) 9616 N, cw0 a ((sn_goon S L N y).2.2.2.1) ((sn_goon S L N y).2.2.2.2.1) ((sn_goon S L N y).2.2.2.2.2.1) ((sn_goon S L N y).2.2.2.2.2.2), aI K (a 10) 601 ((sn_goon S L N y).1), aI K (a 11) 601 ((sn_goon S L N y).2.1), aI K (a 12) 601 ((sn_goon S L N y).2.2.1)]) (va_runV (As := []) (rest := []) ⟨hx, hb, hml, hown, hts⟩ (c_Wa_goOn l D K a S L N rc tp uc y (hL) (hSz) (hy) (hyb) (h2)) ⟨callB_of 0 hts (tw_in cm_Wa_goOn) rfl rfl rfl (hts _ gn_Wa) (hts _ tw_269) hd_Wa_goOn ⟨Nat.le_of_ble_eq_true rfl, Nat.le_of_ble_eq_true rfl⟩, hts _ gi_Wa_goOn, hts _ gs_Wa_goOn⟩ (sn_preVW hK hN hP hD 4 rfl rfl [0, 1, 2, 3, 4, 5, 6, 7] rfl rfl) rfl rfl hl.1 rfl (lv_room (Nat.le_of_ble_eq_true rfl)) d_Wa_run_52 ⟨Nat.zero_le _, Nat.zero_le _⟩) rfl hP hD hS [0, 1, 2, 3, 4, 5, 6, 7] rfl rfl (fun H locs hP hD hS => ?_)
          have hP : va_P D classes [ce0 a rc tp uc, aS K (a 1) 601 S, aI K (a 2) 9616 L, aL K (a 3) 9616 N, cw0 a ((sn_goon S L N y).2.2.2.1) ((sn_goon S L N y).2.2.2.2.1) ((sn_goon S L N y).2.2.2.2.2.1) ((sn_goon S L N y).2.2.2.2.2.2), aI K (a 10) 601 ((sn_goon S L N y).1), aI K (a 11) 601 ((sn_goon S L N y).2.1), aI K (a 12) 601 ((sn_goon S L N y).2.2.1)] H := hP
          have hD : va_D A [ce0 a rc tp uc, aS K (a 1) 601 S, aI K (a 2) 9616 L, aL K (a 3) 9616 N, cw0 a ((sn_goon S L N y).2.2.2.1) ((sn_goon S L N y).2.2.2.2.1) ((sn_goon S L N y).2.2.2.2.2.1) ((sn_goon S L N y).2.2.2.2.2.2), aI K (a 10) 601 ((sn_goon S L N y).1), aI K (a 11) 601 ((sn_goon S L N y).2.1), aI K (a 12) 601 ((sn_goon S L N y).2.2.1)] := hD
          refine lv_iinc (k := 1) (v := nI (i + 1)) (lv' := [(1, .int (nI (i + 1))), (0, .ref (a 9))]) hx hb d_Wa_run_55 hl rfl (sn_inc _) (by decide) rfl (fun ls hl => ?_)
          refine lv_goto (tgt := 37) hx hb d_Wa_run_58 (by decide) ?_
          have hl := lv_sub (l' := [(0, .ref (a 9)), (1, .int (nI (i + 1)))]) hl [1, 0] rfl
          exact ih (i + 1) (sn_goon S L N y) _ _ _ (by omega) (by omega) ((sn_goon_ok (S := S) (N := N) hL hy h2).1) (sn_goon_wb hL hSz hy hyb h2) (by rw [← ew, show 10217 - i = (10217 - (i + 1)) + 1 by omega]; exact (if_pos h2).symm) hl hP hD hS
  have hP : va_P D classes [ce0 a rc tp uc, aS K (a 1) 601 S, aI K (a 2) 9616 L, aL K (a 3) 9616 N, cw0 a (((fun _ => 0, va_up z.2.1 0 0, va_up z.2.2.1 0 0, 1, 0, 0, 7) : SnW).2.2.2.1) (((fun _ => 0, va_up z.2.1 0 0, va_up z.2.2.1 0 0, 1, 0, 0, 7) : SnW).2.2.2.2.1) (((fun _ => 0, va_up z.2.1 0 0, va_up z.2.2.1 0 0, 1, 0, 0, 7) : SnW).2.2.2.2.2.1) (((fun _ => 0, va_up z.2.1 0 0, va_up z.2.2.1 0 0, 1, 0, 0, 7) : SnW).2.2.2.2.2.2), aI K (a 10) 601 (((fun _ => 0, va_up z.2.1 0 0, va_up z.2.2.1 0 0, 1, 0, 0, 7) : SnW).1), aI K (a 11) 601 (((fun _ => 0, va_up z.2.1 0 0, va_up z.2.2.1 0 0, 1, 0, 0, 7) : SnW).2.1), aI K (a 12) 601 (((fun _ => 0, va_up z.2.1 0 0, va_up z.2.2.1 0 0, 1, 0, 0, 7) : SnW).2.2.1)] H := hP
  have hD : va_D A [ce0 a rc tp uc, aS K (a 1) 601 S, aI K (a 2) 9616 L, aL K (a 3) 9616 N, cw0 a (((fun _ => 0, va_up z.2.1 0 0, va_up z.2.2.1 0 0, 1, 0, 0, 7) : SnW).2.2.2.1) (((fun _ => 0, va_up z.2.1 0 0, va_up z.2.2.1 0 0, 1, 0, 0, 7) : SnW).2.2.2.2.1) (((fun _ => 0, va_up z.2.1 0 0, va_up z.2.2.1 0 0, 1, 0, 0, 7) : SnW).2.2.2.2.2.1) (((fun _ => 0, va_up z.2.1 0 0, va_up z.2.2.1 0 0, 1, 0, 0, 7) : SnW).2.2.2.2.2.2), aI K (a 10) 601 (((fun _ => 0, va_up z.2.1 0 0, va_up z.2.2.1 0 0, 1, 0, 0, 7) : SnW).1), aI K (a 11) 601 (((fun _ => 0, va_up z.2.1 0 0, va_up z.2.2.1 0 0, 1, 0, 0, 7) : SnW).2.1), aI K (a 12) 601 (((fun _ => 0, va_up z.2.1 0 0, va_up z.2.2.1 0 0, 1, 0, 0, 7) : SnW).2.2.1)] := hD
  have hl := lv_sub (l' := [(0, .ref (a 9)), (1, .int (nI 0))]) hl [1, 0] rfl
  exact loop0 _ 0 ((fun _ => 0, va_up z.2.1 0 0, va_up z.2.2.1 0 0, 1, 0, 0, 7) : SnW) _ _ _ (Nat.lt_succ_self _) (by omega) (sn_wi_0 z) (sn_wb_0 z) (rfl) hl hP hD hS
end
