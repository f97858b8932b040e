def R_Sh : String := "SnapshotHeap"
def R_Au : String := "SnapshotHeap$Audit"
def R_Co : String := "SnapshotHeap$Collector"
def R_Ma : String := "SnapshotHeap$Marking"
def R_Ph : String := "SnapshotHeap$Phase"
def R_St : String := "SnapshotHeap$Store"
def R_Wa : String := "SnapshotHeap$Walk"
def R_Mo : String := "SnapshotHeapModel"
def R_La : String := "SnapshotHeapLaw"
def R_Ar : String := "java/util/Arrays"
def R_Ob : String := "java/lang/Object"
def R_Sy : String := "java/lang/System"
def F_St : u_T := fun k => match k with
  | 0 => ("SnapshotHeap$Store", "sizes", "[I", true)
  | 1 => ("SnapshotHeap$Store", "links", "[I", true)
  | 2 => ("SnapshotHeap$Store", "numbers", "[J", true)
  | 3 => ("SnapshotHeap$Store", "released", "[I", true)
  | 4 => ("SnapshotHeap$Store", "releasedCount", "I", false)
  | 5 => ("SnapshotHeap$Store", "top", "I", false)
  | _ => ("SnapshotHeap$Store", "usedCells", "I", false)
def t_St : Nat → FieldType := fun k => match k with
  | 0 => (.array .int)
  | 1 => (.array .int)
  | 2 => (.array .long)
  | 3 => (.array .int)
  | 4 => .int
  | 5 => .int
  | _ => .int
theorem n_St : ∀ a, a < 7 → ∀ b, b < 7 → a ≠ b → (F_St a).2.1 ≠ (F_St b).2.1 := by decide +kernel
theorem t_St_ok : ∀ k, k < 7 → parseFieldDescriptor (F_St k).2.2.1 = some (t_St k) := by decide +kernel
theorem in_St : ∀ w ∈ u_ws R_St F_St 7, w ∈ lw_good := List.forall_mem_cons.mpr ⟨tw_43, List.forall_mem_cons.mpr ⟨tw_45, List.forall_mem_cons.mpr ⟨tw_47, List.forall_mem_cons.mpr ⟨tw_49, List.forall_mem_cons.mpr ⟨tw_51, List.forall_mem_cons.mpr ⟨tw_53, List.forall_mem_cons.mpr ⟨tw_55, fun _ h => absurd h List.not_mem_nil⟩⟩⟩⟩⟩⟩⟩
theorem gn_St : Cond.initialized R_St ∈ lw_good := tw_2
def F_Ma : u_T := fun k => match k with
  | 0 => ("SnapshotHeap$Marking", "store", "LSnapshotHeap$Store;", true)
  | 1 => ("SnapshotHeap$Marking", "colours", "[I", true)
  | 2 => ("SnapshotHeap$Marking", "waiting", "[I", true)
  | _ => ("SnapshotHeap$Marking", "waitingCount", "I", false)
def t_Ma : Nat → FieldType := fun k => match k with
  | 0 => (.object "SnapshotHeap$Store")
  | 1 => (.array .int)
  | 2 => (.array .int)
  | _ => .int
theorem n_Ma : ∀ a, a < 4 → ∀ b, b < 4 → a ≠ b → (F_Ma a).2.1 ≠ (F_Ma b).2.1 := by decide +kernel
theorem t_Ma_ok : ∀ k, k < 4 → parseFieldDescriptor (F_Ma k).2.2.1 = some (t_Ma k) := by decide +kernel
theorem in_Ma : ∀ w ∈ u_ws R_Ma F_Ma 4, w ∈ lw_good := List.forall_mem_cons.mpr ⟨tw_76, List.forall_mem_cons.mpr ⟨tw_78, List.forall_mem_cons.mpr ⟨tw_80, List.forall_mem_cons.mpr ⟨tw_82, fun _ h => absurd h List.not_mem_nil⟩⟩⟩⟩
theorem gn_Ma : Cond.initialized R_Ma ∈ lw_good := tw_5
def F_Co : u_T := fun k => match k with
  | 0 => ("SnapshotHeap$Collector", "store", "LSnapshotHeap$Store;", true)
  | 1 => ("SnapshotHeap$Collector", "marking", "LSnapshotHeap$Marking;", true)
  | 2 => ("SnapshotHeap$Collector", "phase", "LSnapshotHeap$Phase;", false)
  | _ => ("SnapshotHeap$Collector", "cursor", "I", false)
def t_Co : Nat → FieldType := fun k => match k with
  | 0 => (.object "SnapshotHeap$Store")
  | 1 => (.object "SnapshotHeap$Marking")
  | 2 => (.object "SnapshotHeap$Phase")
  | _ => .int
theorem n_Co : ∀ a, a < 4 → ∀ b, b < 4 → a ≠ b → (F_Co a).2.1 ≠ (F_Co b).2.1 := by decide +kernel
theorem t_Co_ok : ∀ k, k < 4 → parseFieldDescriptor (F_Co k).2.2.1 = some (t_Co k) := by decide +kernel
theorem in_Co : ∀ w ∈ u_ws R_Co F_Co 4, w ∈ lw_good := List.forall_mem_cons.mpr ⟨tw_91, List.forall_mem_cons.mpr ⟨tw_93, List.forall_mem_cons.mpr ⟨tw_95, List.forall_mem_cons.mpr ⟨tw_97, fun _ h => absurd h List.not_mem_nil⟩⟩⟩⟩
theorem gn_Co : Cond.initialized R_Co ∈ lw_good := tw_4
def F_Wa : u_T := fun k => match k with
  | 0 => ("SnapshotHeap$Walk", "store", "LSnapshotHeap$Store;", true)
  | 1 => ("SnapshotHeap$Walk", "metAs", "[I", true)
  | 2 => ("SnapshotHeap$Walk", "path", "[I", true)
  | 3 => ("SnapshotHeap$Walk", "nextValue", "[I", true)
  | 4 => ("SnapshotHeap$Walk", "depth", "I", false)
  | 5 => ("SnapshotHeap$Walk", "met", "I", false)
  | 6 => ("SnapshotHeap$Walk", "metCells", "I", false)
  | _ => ("SnapshotHeap$Walk", "hash", "J", false)
def t_Wa : Nat → FieldType := fun k => match k with
  | 0 => (.object "SnapshotHeap$Store")
  | 1 => (.array .int)
  | 2 => (.array .int)
  | 3 => (.array .int)
  | 4 => .int
  | 5 => .int
  | 6 => .int
  | _ => .long
theorem n_Wa : ∀ a, a < 8 → ∀ b, b < 8 → a ≠ b → (F_Wa a).2.1 ≠ (F_Wa b).2.1 := by decide +kernel
theorem t_Wa_ok : ∀ k, k < 8 → parseFieldDescriptor (F_Wa k).2.2.1 = some (t_Wa k) := by decide +kernel
theorem in_Wa : ∀ w ∈ u_ws R_Wa F_Wa 8, w ∈ lw_good := List.forall_mem_cons.mpr ⟨tw_114, List.forall_mem_cons.mpr ⟨tw_116, List.forall_mem_cons.mpr ⟨tw_118, List.forall_mem_cons.mpr ⟨tw_120, List.forall_mem_cons.mpr ⟨tw_122, List.forall_mem_cons.mpr ⟨tw_124, List.forall_mem_cons.mpr ⟨tw_126, List.forall_mem_cons.mpr ⟨tw_128, fun _ h => absurd h List.not_mem_nil⟩⟩⟩⟩⟩⟩⟩⟩
theorem gn_Wa : Cond.initialized R_Wa ∈ lw_good := tw_8
def F_Au : u_T := fun k => match k with
  | 0 => ("SnapshotHeap$Audit", "store", "LSnapshotHeap$Store;", true)
  | 1 => ("SnapshotHeap$Audit", "collector", "LSnapshotHeap$Collector;", true)
  | 2 => ("SnapshotHeap$Audit", "walk", "LSnapshotHeap$Walk;", true)
  | 3 => ("SnapshotHeap$Audit", "trial", "LSnapshotHeap$Marking;", true)
  | _ => ("SnapshotHeap$Audit", "holders", "[I", true)
def t_Au : Nat → FieldType := fun k => match k with
  | 0 => (.object "SnapshotHeap$Store")
  | 1 => (.object "SnapshotHeap$Collector")
  | 2 => (.object "SnapshotHeap$Walk")
  | 3 => (.object "SnapshotHeap$Marking")
  | _ => (.array .int)
theorem n_Au : ∀ a, a < 5 → ∀ b, b < 5 → a ≠ b → (F_Au a).2.1 ≠ (F_Au b).2.1 := by decide +kernel
theorem t_Au_ok : ∀ k, k < 5 → parseFieldDescriptor (F_Au k).2.2.1 = some (t_Au k) := by decide +kernel
theorem in_Au : ∀ w ∈ u_ws R_Au F_Au 5, w ∈ lw_good := List.forall_mem_cons.mpr ⟨tw_144, List.forall_mem_cons.mpr ⟨tw_146, List.forall_mem_cons.mpr ⟨tw_148, List.forall_mem_cons.mpr ⟨tw_150, List.forall_mem_cons.mpr ⟨tw_152, fun _ h => absurd h List.not_mem_nil⟩⟩⟩⟩⟩
theorem gn_Au : Cond.initialized R_Au ∈ lw_good := tw_9
def F_Sh : u_T := fun k => match k with
  | 0 => ("SnapshotHeap", "store", "LSnapshotHeap$Store;", true)
  | 1 => ("SnapshotHeap", "collector", "LSnapshotHeap$Collector;", true)
  | 2 => ("SnapshotHeap", "walk", "LSnapshotHeap$Walk;", true)
  | 3 => ("SnapshotHeap", "audit", "LSnapshotHeap$Audit;", true)
  | 4 => ("SnapshotHeap", "pace", "I", false)
  | _ => ("SnapshotHeap", "made", "I", false)
def t_Sh : Nat → FieldType := fun k => match k with
  | 0 => (.object "SnapshotHeap$Store")
  | 1 => (.object "SnapshotHeap$Collector")
  | 2 => (.object "SnapshotHeap$Walk")
  | 3 => (.object "SnapshotHeap$Audit")
  | 4 => .int
  | _ => .int
theorem n_Sh : ∀ a, a < 6 → ∀ b, b < 6 → a ≠ b → (F_Sh a).2.1 ≠ (F_Sh b).2.1 := by decide +kernel
theorem t_Sh_ok : ∀ k, k < 6 → parseFieldDescriptor (F_Sh k).2.2.1 = some (t_Sh k) := by decide +kernel
theorem in_Sh : ∀ w ∈ u_ws R_Sh F_Sh 6, w ∈ lw_good := List.forall_mem_cons.mpr ⟨tw_161, List.forall_mem_cons.mpr ⟨tw_163, List.forall_mem_cons.mpr ⟨tw_165, List.forall_mem_cons.mpr ⟨tw_167, List.forall_mem_cons.mpr ⟨tw_169, List.forall_mem_cons.mpr ⟨tw_171, fun _ h => absurd h List.not_mem_nil⟩⟩⟩⟩⟩⟩
theorem gn_Sh : Cond.initialized R_Sh ∈ lw_good := tw_1
def F_Mo : u_T := fun k => match k with
  | 0 => ("SnapshotHeapModel", "value", "[J", true)
  | 1 => ("SnapshotHeapModel", "root", "[J", true)
  | 2 => ("SnapshotHeapModel", "refers", "[Z", true)
  | 3 => ("SnapshotHeapModel", "rootRefers", "[Z", true)
  | 4 => ("SnapshotHeapModel", "isReached", "[Z", true)
  | 5 => ("SnapshotHeapModel", "size", "[I", true)
  | 6 => ("SnapshotHeapModel", "todo", "[I", true)
  | 7 => ("SnapshotHeapModel", "met", "[I", true)
  | 8 => ("SnapshotHeapModel", "next", "[I", true)
  | 9 => ("SnapshotHeapModel", "made", "I", false)
  | 10 => ("SnapshotHeapModel", "pace", "I", false)
  | 11 => ("SnapshotHeapModel", "reached", "I", false)
  | 12 => ("SnapshotHeapModel", "cells", "I", false)
  | 13 => ("SnapshotHeapModel", "thrown", "I", false)
  | _ => ("SnapshotHeapModel", "tops", "I", false)
def t_Mo : Nat → FieldType := fun k => match k with
  | 0 => (.array .long)
  | 1 => (.array .long)
  | 2 => (.array .boolean)
  | 3 => (.array .boolean)
  | 4 => (.array .boolean)
  | 5 => (.array .int)
  | 6 => (.array .int)
  | 7 => (.array .int)
  | 8 => (.array .int)
  | 9 => .int
  | 10 => .int
  | 11 => .int
  | 12 => .int
  | 13 => .int
  | _ => .int
theorem n_Mo : ∀ a, a < 15 → ∀ b, b < 15 → a ≠ b → (F_Mo a).2.1 ≠ (F_Mo b).2.1 := by decide +kernel
theorem t_Mo_ok : ∀ k, k < 15 → parseFieldDescriptor (F_Mo k).2.2.1 = some (t_Mo k) := by decide +kernel
theorem in_Mo : ∀ w ∈ u_ws R_Mo F_Mo 15, w ∈ lw_good := List.forall_mem_cons.mpr ⟨tw_669, List.forall_mem_cons.mpr ⟨tw_671, List.forall_mem_cons.mpr ⟨tw_673, List.forall_mem_cons.mpr ⟨tw_675, List.forall_mem_cons.mpr ⟨tw_677, List.forall_mem_cons.mpr ⟨tw_679, List.forall_mem_cons.mpr ⟨tw_681, List.forall_mem_cons.mpr ⟨tw_683, List.forall_mem_cons.mpr ⟨tw_685, List.forall_mem_cons.mpr ⟨tw_687, List.forall_mem_cons.mpr ⟨tw_689, List.forall_mem_cons.mpr ⟨tw_691, List.forall_mem_cons.mpr ⟨tw_693, List.forall_mem_cons.mpr ⟨tw_695, List.forall_mem_cons.mpr ⟨tw_697, fun _ h => absurd h List.not_mem_nil⟩⟩⟩⟩⟩⟩⟩⟩⟩⟩⟩⟩⟩⟩⟩
theorem gn_Mo : Cond.initialized R_Mo ∈ lw_good := tw_10
theorem gn_Ar : Cond.initialized R_Ar ∈ lw_good := tw_3
theorem gn_Sy : Cond.initialized R_Sy ∈ lw_good := tw_18
theorem gn_La : Cond.initialized R_La ∈ lw_good := tw_0
abbrev classes : List vw_C := [(R_St, F_St, 7), (R_Ma, F_Ma, 4), (R_Co, F_Co, 4), (R_Wa, F_Wa, 8), (R_Au, F_Au, 5), (R_Sh, F_Sh, 6), (R_Mo, F_Mo, 15)]
abbrev b_Sh_init : ByteArray := prog_1_method_1_code
def y_Sh_init : MethodName := ⟨R_Sh, "<init>", "()V"⟩
theorem hd_Sh_init : y_Sh_init.cls ≠ "java/lang/invoke/MethodHandle" ∧ y_Sh_init.cls ≠ "java/lang/invoke/VarHandle" ∧ (parseMethodDescriptor y_Sh_init.desc).map (fun d => d.parameters.length) = some 0 := by decide +kernel
abbrev w_Sh_init : List Cond := .code y_Sh_init b_Sh_init 1 none :: lw_good
theorem cm_Sh_init : Cond.code y_Sh_init b_Sh_init 1 none ∈ lw_good := tw_23
theorem gi_Sh_init : Cond.instanceMethod y_Sh_init ∈ lw_good := tw_22
abbrev b_Sh_tuple : ByteArray := prog_1_method_2_code
def y_Sh_tuple : MethodName := ⟨R_Sh, "tuple", "(II)I"⟩
theorem hd_Sh_tuple : y_Sh_tuple.cls ≠ "java/lang/invoke/MethodHandle" ∧ y_Sh_tuple.cls ≠ "java/lang/invoke/VarHandle" ∧ (parseMethodDescriptor y_Sh_tuple.desc).map (fun d => d.parameters.length) = some 2 := by decide +kernel
abbrev w_Sh_tuple : List Cond := .code y_Sh_tuple b_Sh_tuple 3 (some .int) :: lw_good
theorem cm_Sh_tuple : Cond.code y_Sh_tuple b_Sh_tuple 3 (some .int) ∈ lw_good := tw_391
theorem gi_Sh_tuple : Cond.instanceMethod y_Sh_tuple ∈ lw_good := tw_389
theorem gs_Sh_tuple : Cond.selects R_Sh y_Sh_tuple y_Sh_tuple ∈ lw_good := tw_390
abbrev b_Sh_number : ByteArray := prog_1_method_3_code
def y_Sh_number : MethodName := ⟨R_Sh, "number", "(IJ)V"⟩
theorem hd_Sh_number : y_Sh_number.cls ≠ "java/lang/invoke/MethodHandle" ∧ y_Sh_number.cls ≠ "java/lang/invoke/VarHandle" ∧ (parseMethodDescriptor y_Sh_number.desc).map (fun d => d.parameters.length) = some 2 := by decide +kernel
abbrev w_Sh_number : List Cond := .code y_Sh_number b_Sh_number 4 none :: lw_good
theorem cm_Sh_number : Cond.code y_Sh_number b_Sh_number 4 none ∈ lw_good := tw_537
theorem gi_Sh_number : Cond.instanceMethod y_Sh_number ∈ lw_good := tw_535
theorem gs_Sh_number : Cond.selects R_Sh y_Sh_number y_Sh_number ∈ lw_good := tw_536
abbrev b_Sh_copy : ByteArray := prog_1_method_4_code
def y_Sh_copy : MethodName := ⟨R_Sh, "copy", "(II)V"⟩
theorem hd_Sh_copy : y_Sh_copy.cls ≠ "java/lang/invoke/MethodHandle" ∧ y_Sh_copy.cls ≠ "java/lang/invoke/VarHandle" ∧ (parseMethodDescriptor y_Sh_copy.desc).map (fun d => d.parameters.length) = some 2 := by decide +kernel
abbrev w_Sh_copy : List Cond := .code y_Sh_copy b_Sh_copy 3 none :: lw_good
theorem cm_Sh_copy : Cond.code y_Sh_copy b_Sh_copy 3 none ∈ lw_good := tw_545
theorem gi_Sh_copy : Cond.instanceMethod y_Sh_copy ∈ lw_good := tw_543
theorem gs_Sh_copy : Cond.selects R_Sh y_Sh_copy y_Sh_copy ∈ lw_good := tw_544
abbrev b_Sh_get : ByteArray := prog_1_method_5_code
def y_Sh_get : MethodName := ⟨R_Sh, "get", "(III)V"⟩
theorem hd_Sh_get : y_Sh_get.cls ≠ "java/lang/invoke/MethodHandle" ∧ y_Sh_get.cls ≠ "java/lang/invoke/VarHandle" ∧ (parseMethodDescriptor y_Sh_get.desc).map (fun d => d.parameters.length) = some 3 := by decide +kernel
abbrev w_Sh_get : List Cond := .code y_Sh_get b_Sh_get 4 none :: lw_good
theorem cm_Sh_get : Cond.code y_Sh_get b_Sh_get 4 none ∈ lw_good := tw_557
theorem gi_Sh_get : Cond.instanceMethod y_Sh_get ∈ lw_good := tw_555
theorem gs_Sh_get : Cond.selects R_Sh y_Sh_get y_Sh_get ∈ lw_good := tw_556
abbrev b_Sh_set : ByteArray := prog_1_method_6_code
def y_Sh_set : MethodName := ⟨R_Sh, "set", "(III)V"⟩
theorem hd_Sh_set : y_Sh_set.cls ≠ "java/lang/invoke/MethodHandle" ∧ y_Sh_set.cls ≠ "java/lang/invoke/VarHandle" ∧ (parseMethodDescriptor y_Sh_set.desc).map (fun d => d.parameters.length) = some 3 := by decide +kernel
abbrev w_Sh_set : List Cond := .code y_Sh_set b_Sh_set 5 none :: lw_good
theorem cm_Sh_set : Cond.code y_Sh_set b_Sh_set 5 none ∈ lw_good := tw_586
theorem gi_Sh_set : Cond.instanceMethod y_Sh_set ∈ lw_good := tw_584
theorem gs_Sh_set : Cond.selects R_Sh y_Sh_set y_Sh_set ∈ lw_good := tw_585
abbrev b_Sh_step : ByteArray := prog_1_method_7_code
def y_Sh_step : MethodName := ⟨R_Sh, "step", "(I)V"⟩
theorem hd_Sh_step : y_Sh_step.cls ≠ "java/lang/invoke/MethodHandle" ∧ y_Sh_step.cls ≠ "java/lang/invoke/VarHandle" ∧ (parseMethodDescriptor y_Sh_step.desc).map (fun d => d.parameters.length) = some 1 := by decide +kernel
abbrev w_Sh_step : List Cond := .code y_Sh_step b_Sh_step 2 none :: lw_good
theorem cm_Sh_step : Cond.code y_Sh_step b_Sh_step 2 none ∈ lw_good := tw_599
theorem gi_Sh_step : Cond.instanceMethod y_Sh_step ∈ lw_good := tw_597
theorem gs_Sh_step : Cond.selects R_Sh y_Sh_step y_Sh_step ∈ lw_good := tw_598
abbrev b_Sh_pace : ByteArray := prog_1_method_8_code
def y_Sh_pace : MethodName := ⟨R_Sh, "pace", "(I)I"⟩
theorem hd_Sh_pace : y_Sh_pace.cls ≠ "java/lang/invoke/MethodHandle" ∧ y_Sh_pace.cls ≠ "java/lang/invoke/VarHandle" ∧ (parseMethodDescriptor y_Sh_pace.desc).map (fun d => d.parameters.length) = some 1 := by decide +kernel
abbrev w_Sh_pace : List Cond := .code y_Sh_pace b_Sh_pace 3 (some .int) :: lw_good
theorem cm_Sh_pace : Cond.code y_Sh_pace b_Sh_pace 3 (some .int) ∈ lw_good := tw_606
theorem gi_Sh_pace : Cond.instanceMethod y_Sh_pace ∈ lw_good := tw_604
theorem gs_Sh_pace : Cond.selects R_Sh y_Sh_pace y_Sh_pace ∈ lw_good := tw_605
abbrev b_Sh_size : ByteArray := prog_1_method_9_code
def y_Sh_size : MethodName := ⟨R_Sh, "size", "(I)I"⟩
theorem hd_Sh_size : y_Sh_size.cls ≠ "java/lang/invoke/MethodHandle" ∧ y_Sh_size.cls ≠ "java/lang/invoke/VarHandle" ∧ (parseMethodDescriptor y_Sh_size.desc).map (fun d => d.parameters.length) = some 1 := by decide +kernel
abbrev w_Sh_size : List Cond := .code y_Sh_size b_Sh_size 3 (some .int) :: lw_good
theorem cm_Sh_size : Cond.code y_Sh_size b_Sh_size 3 (some .int) ∈ lw_good := tw_613
theorem gi_Sh_size : Cond.instanceMethod y_Sh_size ∈ lw_good := tw_611
theorem gs_Sh_size : Cond.selects R_Sh y_Sh_size y_Sh_size ∈ lw_good := tw_612
abbrev b_Sh_value : ByteArray := prog_1_method_10_code
def y_Sh_value : MethodName := ⟨R_Sh, "value", "(I)J"⟩
theorem hd_Sh_value : y_Sh_value.cls ≠ "java/lang/invoke/MethodHandle" ∧ y_Sh_value.cls ≠ "java/lang/invoke/VarHandle" ∧ (parseMethodDescriptor y_Sh_value.desc).map (fun d => d.parameters.length) = some 1 := by decide +kernel
abbrev w_Sh_value : List Cond := .code y_Sh_value b_Sh_value 2 (some .long) :: lw_good
theorem cm_Sh_value : Cond.code y_Sh_value b_Sh_value 2 (some .long) ∈ lw_good := tw_620
theorem gi_Sh_value : Cond.instanceMethod y_Sh_value ∈ lw_good := tw_618
theorem gs_Sh_value : Cond.selects R_Sh y_Sh_value y_Sh_value ∈ lw_good := tw_619
abbrev b_Sh_same : ByteArray := prog_1_method_11_code
def y_Sh_same : MethodName := ⟨R_Sh, "same", "(II)Z"⟩
theorem hd_Sh_same : y_Sh_same.cls ≠ "java/lang/invoke/MethodHandle" ∧ y_Sh_same.cls ≠ "java/lang/invoke/VarHandle" ∧ (parseMethodDescriptor y_Sh_same.desc).map (fun d => d.parameters.length) = some 2 := by decide +kernel
abbrev w_Sh_same : List Cond := .code y_Sh_same b_Sh_same 3 (some .boolean) :: lw_good
theorem cm_Sh_same : Cond.code y_Sh_same b_Sh_same 3 (some .boolean) ∈ lw_good := tw_628
theorem gi_Sh_same : Cond.instanceMethod y_Sh_same ∈ lw_good := tw_626
theorem gs_Sh_same : Cond.selects R_Sh y_Sh_same y_Sh_same ∈ lw_good := tw_627
abbrev b_Sh_count : ByteArray := prog_1_method_12_code
def y_Sh_count : MethodName := ⟨R_Sh, "count", "(I)I"⟩
theorem hd_Sh_count : y_Sh_count.cls ≠ "java/lang/invoke/MethodHandle" ∧ y_Sh_count.cls ≠ "java/lang/invoke/VarHandle" ∧ (parseMethodDescriptor y_Sh_count.desc).map (fun d => d.parameters.length) = some 1 := by decide +kernel
abbrev w_Sh_count : List Cond := .code y_Sh_count b_Sh_count 2 (some .int) :: lw_good
theorem cm_Sh_count : Cond.code y_Sh_count b_Sh_count 2 (some .int) ∈ lw_good := tw_639
theorem gi_Sh_count : Cond.instanceMethod y_Sh_count ∈ lw_good := tw_637
theorem gs_Sh_count : Cond.selects R_Sh y_Sh_count y_Sh_count ∈ lw_good := tw_638
abbrev b_Sh_digest : ByteArray := prog_1_method_13_code
def y_Sh_digest : MethodName := ⟨R_Sh, "digest", "()J"⟩
theorem hd_Sh_digest : y_Sh_digest.cls ≠ "java/lang/invoke/MethodHandle" ∧ y_Sh_digest.cls ≠ "java/lang/invoke/VarHandle" ∧ (parseMethodDescriptor y_Sh_digest.desc).map (fun d => d.parameters.length) = some 0 := by decide +kernel
abbrev w_Sh_digest : List Cond := .code y_Sh_digest b_Sh_digest 1 (some .long) :: lw_good
theorem cm_Sh_digest : Cond.code y_Sh_digest b_Sh_digest 1 (some .long) ∈ lw_good := tw_177
theorem gi_Sh_digest : Cond.instanceMethod y_Sh_digest ∈ lw_good := tw_175
theorem gs_Sh_digest : Cond.selects R_Sh y_Sh_digest y_Sh_digest ∈ lw_good := tw_176
abbrev b_Sh_collect : ByteArray := prog_1_method_14_code
def y_Sh_collect : MethodName := ⟨R_Sh, "collect", "()I"⟩
theorem hd_Sh_collect : y_Sh_collect.cls ≠ "java/lang/invoke/MethodHandle" ∧ y_Sh_collect.cls ≠ "java/lang/invoke/VarHandle" ∧ (parseMethodDescriptor y_Sh_collect.desc).map (fun d => d.parameters.length) = some 0 := by decide +kernel
abbrev w_Sh_collect : List Cond := .code y_Sh_collect b_Sh_collect 1 (some .int) :: lw_good
theorem cm_Sh_collect : Cond.code y_Sh_collect b_Sh_collect 1 (some .int) ∈ lw_good := tw_308
theorem gi_Sh_collect : Cond.instanceMethod y_Sh_collect ∈ lw_good := tw_306
theorem gs_Sh_collect : Cond.selects R_Sh y_Sh_collect y_Sh_collect ∈ lw_good := tw_307
abbrev b_Sh_check : ByteArray := prog_1_method_15_code
def y_Sh_check : MethodName := ⟨R_Sh, "check", "()I"⟩
theorem hd_Sh_check : y_Sh_check.cls ≠ "java/lang/invoke/MethodHandle" ∧ y_Sh_check.cls ≠ "java/lang/invoke/VarHandle" ∧ (parseMethodDescriptor y_Sh_check.desc).map (fun d => d.parameters.length) = some 0 := by decide +kernel
abbrev w_Sh_check : List Cond := .code y_Sh_check b_Sh_check 1 (some .int) :: lw_good
theorem cm_Sh_check : Cond.code y_Sh_check b_Sh_check 1 (some .int) ∈ lw_good := tw_325
theorem gi_Sh_check : Cond.instanceMethod y_Sh_check ∈ lw_good := tw_323
theorem gs_Sh_check : Cond.selects R_Sh y_Sh_check y_Sh_check ∈ lw_good := tw_324
abbrev b_Sh_requireRoot : ByteArray := prog_1_method_16_code
def y_Sh_requireRoot : MethodName := ⟨R_Sh, "requireRoot", "(I)V"⟩
theorem hd_Sh_requireRoot : y_Sh_requireRoot.cls ≠ "java/lang/invoke/MethodHandle" ∧ y_Sh_requireRoot.cls ≠ "java/lang/invoke/VarHandle" ∧ (parseMethodDescriptor y_Sh_requireRoot.desc).map (fun d => d.parameters.length) = some 1 := by decide +kernel
abbrev w_Sh_requireRoot : List Cond := .code y_Sh_requireRoot b_Sh_requireRoot 1 none :: lw_good
theorem cm_Sh_requireRoot : Cond.code y_Sh_requireRoot b_Sh_requireRoot 1 none ∈ lw_good := tw_394
theorem gt_Sh_requireRoot : Cond.static y_Sh_requireRoot ∈ lw_good := tw_393
abbrev b_Sh_requireWithin : ByteArray := prog_1_method_17_code
def y_Sh_requireWithin : MethodName := ⟨R_Sh, "requireWithin", "(III)V"⟩
theorem hd_Sh_requireWithin : y_Sh_requireWithin.cls ≠ "java/lang/invoke/MethodHandle" ∧ y_Sh_requireWithin.cls ≠ "java/lang/invoke/VarHandle" ∧ (parseMethodDescriptor y_Sh_requireWithin.desc).map (fun d => d.parameters.length) = some 3 := by decide +kernel
abbrev w_Sh_requireWithin : List Cond := .code y_Sh_requireWithin b_Sh_requireWithin 3 none :: lw_good
theorem cm_Sh_requireWithin : Cond.code y_Sh_requireWithin b_Sh_requireWithin 3 none ∈ lw_good := tw_466
theorem gt_Sh_requireWithin : Cond.static y_Sh_requireWithin ∈ lw_good := tw_465
abbrev b_Sh_rootSlot : ByteArray := prog_1_method_18_code
def y_Sh_rootSlot : MethodName := ⟨R_Sh, "rootSlot", "(I)I"⟩
theorem hd_Sh_rootSlot : y_Sh_rootSlot.cls ≠ "java/lang/invoke/MethodHandle" ∧ y_Sh_rootSlot.cls ≠ "java/lang/invoke/VarHandle" ∧ (parseMethodDescriptor y_Sh_rootSlot.desc).map (fun d => d.parameters.length) = some 1 := by decide +kernel
abbrev w_Sh_rootSlot : List Cond := .code y_Sh_rootSlot b_Sh_rootSlot 1 (some .int) :: lw_good
theorem cm_Sh_rootSlot : Cond.code y_Sh_rootSlot b_Sh_rootSlot 1 (some .int) ∈ lw_good := tw_505
theorem gt_Sh_rootSlot : Cond.static y_Sh_rootSlot ∈ lw_good := tw_504
abbrev b_Sh_slotOf : ByteArray := prog_1_method_19_code
def y_Sh_slotOf : MethodName := ⟨R_Sh, "slotOf", "(II)I"⟩
theorem hd_Sh_slotOf : y_Sh_slotOf.cls ≠ "java/lang/invoke/MethodHandle" ∧ y_Sh_slotOf.cls ≠ "java/lang/invoke/VarHandle" ∧ (parseMethodDescriptor y_Sh_slotOf.desc).map (fun d => d.parameters.length) = some 2 := by decide +kernel
abbrev w_Sh_slotOf : List Cond := .code y_Sh_slotOf b_Sh_slotOf 2 (some .int) :: lw_good
theorem cm_Sh_slotOf : Cond.code y_Sh_slotOf b_Sh_slotOf 2 (some .int) ∈ lw_good := tw_202
theorem gt_Sh_slotOf : Cond.static y_Sh_slotOf ∈ lw_good := tw_201
abbrev b_Sh_existingSlot : ByteArray := prog_1_method_20_code
def y_Sh_existingSlot : MethodName := ⟨R_Sh, "existingSlot", "(II)I"⟩
theorem hd_Sh_existingSlot : y_Sh_existingSlot.cls ≠ "java/lang/invoke/MethodHandle" ∧ y_Sh_existingSlot.cls ≠ "java/lang/invoke/VarHandle" ∧ (parseMethodDescriptor y_Sh_existingSlot.desc).map (fun d => d.parameters.length) = some 2 := by decide +kernel
abbrev w_Sh_existingSlot : List Cond := .code y_Sh_existingSlot b_Sh_existingSlot 4 (some .int) :: lw_good
theorem cm_Sh_existingSlot : Cond.code y_Sh_existingSlot b_Sh_existingSlot 4 (some .int) ∈ lw_good := tw_561
theorem gi_Sh_existingSlot : Cond.instanceMethod y_Sh_existingSlot ∈ lw_good := tw_560
theorem gs_Sh_existingSlot : Cond.selects R_Sh y_Sh_existingSlot y_Sh_existingSlot ∈ lw_good := ts_Sh_existingSlot
abbrev b_Mo_init : ByteArray := prog_9_method_1_code
def y_Mo_init : MethodName := ⟨R_Mo, "<init>", "()V"⟩
theorem hd_Mo_init : y_Mo_init.cls ≠ "java/lang/invoke/MethodHandle" ∧ y_Mo_init.cls ≠ "java/lang/invoke/VarHandle" ∧ (parseMethodDescriptor y_Mo_init.desc).map (fun d => d.parameters.length) = some 0 := by decide +kernel
abbrev w_Mo_init : List Cond := .code y_Mo_init b_Mo_init 1 none :: lw_good
theorem cm_Mo_init : Cond.code y_Mo_init b_Mo_init 1 none ∈ lw_good := tw_652
theorem gi_Mo_init : Cond.instanceMethod y_Mo_init ∈ lw_good := tw_651
abbrev b_Mo_thrown : ByteArray := prog_9_method_2_code
def y_Mo_thrown : MethodName := ⟨R_Mo, "thrown", "()I"⟩
theorem hd_Mo_thrown : y_Mo_thrown.cls ≠ "java/lang/invoke/MethodHandle" ∧ y_Mo_thrown.cls ≠ "java/lang/invoke/VarHandle" ∧ (parseMethodDescriptor y_Mo_thrown.desc).map (fun d => d.parameters.length) = some 0 := by decide +kernel
abbrev w_Mo_thrown : List Cond := .code y_Mo_thrown b_Mo_thrown 1 (some .int) :: lw_good
theorem cm_Mo_thrown : Cond.code y_Mo_thrown b_Mo_thrown 1 (some .int) ∈ lw_good := tw_704
theorem gi_Mo_thrown : Cond.instanceMethod y_Mo_thrown ∈ lw_good := tw_702
theorem gs_Mo_thrown : Cond.selects R_Mo y_Mo_thrown y_Mo_thrown ∈ lw_good := tw_703
abbrev b_Mo_isRoot : ByteArray := prog_9_method_3_code
def y_Mo_isRoot : MethodName := ⟨R_Mo, "isRoot", "(I)Z"⟩
theorem hd_Mo_isRoot : y_Mo_isRoot.cls ≠ "java/lang/invoke/MethodHandle" ∧ y_Mo_isRoot.cls ≠ "java/lang/invoke/VarHandle" ∧ (parseMethodDescriptor y_Mo_isRoot.desc).map (fun d => d.parameters.length) = some 1 := by decide +kernel
abbrev w_Mo_isRoot : List Cond := .code y_Mo_isRoot b_Mo_isRoot 1 (some .boolean) :: lw_good
theorem cm_Mo_isRoot : Cond.code y_Mo_isRoot b_Mo_isRoot 1 (some .boolean) ∈ lw_good := tw_711
theorem gt_Mo_isRoot : Cond.static y_Mo_isRoot ∈ lw_good := tw_710
abbrev b_Mo_reach : ByteArray := prog_9_method_4_code
def y_Mo_reach : MethodName := ⟨R_Mo, "reach", "(J)V"⟩
theorem hd_Mo_reach : y_Mo_reach.cls ≠ "java/lang/invoke/MethodHandle" ∧ y_Mo_reach.cls ≠ "java/lang/invoke/VarHandle" ∧ (parseMethodDescriptor y_Mo_reach.desc).map (fun d => d.parameters.length) = some 1 := by decide +kernel
abbrev w_Mo_reach : List Cond := .code y_Mo_reach b_Mo_reach 4 none :: lw_good
theorem cm_Mo_reach : Cond.code y_Mo_reach b_Mo_reach 4 none ∈ lw_good := tw_719
theorem gi_Mo_reach : Cond.instanceMethod y_Mo_reach ∈ lw_good := tw_718
theorem gs_Mo_reach : Cond.selects R_Mo y_Mo_reach y_Mo_reach ∈ lw_good := ts_Mo_reach
abbrev b_Mo_reachAll : ByteArray := prog_9_method_5_code
def y_Mo_reachAll : MethodName := ⟨R_Mo, "reachAll", "()V"⟩
theorem hd_Mo_reachAll : y_Mo_reachAll.cls ≠ "java/lang/invoke/MethodHandle" ∧ y_Mo_reachAll.cls ≠ "java/lang/invoke/VarHandle" ∧ (parseMethodDescriptor y_Mo_reachAll.desc).map (fun d => d.parameters.length) = some 0 := by decide +kernel
abbrev w_Mo_reachAll : List Cond := .code y_Mo_reachAll b_Mo_reachAll 3 none :: lw_good
theorem cm_Mo_reachAll : Cond.code y_Mo_reachAll b_Mo_reachAll 3 none ∈ lw_good := tw_715
theorem gi_Mo_reachAll : Cond.instanceMethod y_Mo_reachAll ∈ lw_good := tw_714
theorem gs_Mo_reachAll : Cond.selects R_Mo y_Mo_reachAll y_Mo_reachAll ∈ lw_good := ts_Mo_reachAll
abbrev b_Mo_tuple : ByteArray := prog_9_method_6_code
def y_Mo_tuple : MethodName := ⟨R_Mo, "tuple", "(II)I"⟩
theorem hd_Mo_tuple : y_Mo_tuple.cls ≠ "java/lang/invoke/MethodHandle" ∧ y_Mo_tuple.cls ≠ "java/lang/invoke/VarHandle" ∧ (parseMethodDescriptor y_Mo_tuple.desc).map (fun d => d.parameters.length) = some 2 := by decide +kernel
abbrev w_Mo_tuple : List Cond := .code y_Mo_tuple b_Mo_tuple 5 (some .int) :: lw_good
theorem cm_Mo_tuple : Cond.code y_Mo_tuple b_Mo_tuple 5 (some .int) ∈ lw_good := tw_708
theorem gi_Mo_tuple : Cond.instanceMethod y_Mo_tuple ∈ lw_good := tw_706
theorem gs_Mo_tuple : Cond.selects R_Mo y_Mo_tuple y_Mo_tuple ∈ lw_good := tw_707
abbrev b_Mo_number : ByteArray := prog_9_method_7_code
def y_Mo_number : MethodName := ⟨R_Mo, "number", "(IJ)V"⟩
theorem hd_Mo_number : y_Mo_number.cls ≠ "java/lang/invoke/MethodHandle" ∧ y_Mo_number.cls ≠ "java/lang/invoke/VarHandle" ∧ (parseMethodDescriptor y_Mo_number.desc).map (fun d => d.parameters.length) = some 2 := by decide +kernel
abbrev w_Mo_number : List Cond := .code y_Mo_number b_Mo_number 4 none :: lw_good
theorem cm_Mo_number : Cond.code y_Mo_number b_Mo_number 4 none ∈ lw_good := tw_723
theorem gi_Mo_number : Cond.instanceMethod y_Mo_number ∈ lw_good := tw_721
theorem gs_Mo_number : Cond.selects R_Mo y_Mo_number y_Mo_number ∈ lw_good := tw_722
abbrev b_Mo_copy : ByteArray := prog_9_method_8_code
def y_Mo_copy : MethodName := ⟨R_Mo, "copy", "(II)V"⟩
theorem hd_Mo_copy : y_Mo_copy.cls ≠ "java/lang/invoke/MethodHandle" ∧ y_Mo_copy.cls ≠ "java/lang/invoke/VarHandle" ∧ (parseMethodDescriptor y_Mo_copy.desc).map (fun d => d.parameters.length) = some 2 := by decide +kernel
abbrev w_Mo_copy : List Cond := .code y_Mo_copy b_Mo_copy 3 none :: lw_good
theorem cm_Mo_copy : Cond.code y_Mo_copy b_Mo_copy 3 none ∈ lw_good := tw_727
theorem gi_Mo_copy : Cond.instanceMethod y_Mo_copy ∈ lw_good := tw_725
theorem gs_Mo_copy : Cond.selects R_Mo y_Mo_copy y_Mo_copy ∈ lw_good := tw_726
abbrev b_Mo_place : ByteArray := prog_9_method_9_code
def y_Mo_place : MethodName := ⟨R_Mo, "place", "(III)I"⟩
theorem hd_Mo_place : y_Mo_place.cls ≠ "java/lang/invoke/MethodHandle" ∧ y_Mo_place.cls ≠ "java/lang/invoke/VarHandle" ∧ (parseMethodDescriptor y_Mo_place.desc).map (fun d => d.parameters.length) = some 3 := by decide +kernel
abbrev w_Mo_place : List Cond := .code y_Mo_place b_Mo_place 4 (some .int) :: lw_good
theorem cm_Mo_place : Cond.code y_Mo_place b_Mo_place 4 (some .int) ∈ lw_good := tw_735
theorem gi_Mo_place : Cond.instanceMethod y_Mo_place ∈ lw_good := tw_734
theorem gs_Mo_place : Cond.selects R_Mo y_Mo_place y_Mo_place ∈ lw_good := ts_Mo_place
abbrev b_Mo_get : ByteArray := prog_9_method_10_code
def y_Mo_get : MethodName := ⟨R_Mo, "get", "(III)V"⟩
theorem hd_Mo_get : y_Mo_get.cls ≠ "java/lang/invoke/MethodHandle" ∧ y_Mo_get.cls ≠ "java/lang/invoke/VarHandle" ∧ (parseMethodDescriptor y_Mo_get.desc).map (fun d => d.parameters.length) = some 3 := by decide +kernel
abbrev w_Mo_get : List Cond := .code y_Mo_get b_Mo_get 5 none :: lw_good
theorem cm_Mo_get : Cond.code y_Mo_get b_Mo_get 5 none ∈ lw_good := tw_731
theorem gi_Mo_get : Cond.instanceMethod y_Mo_get ∈ lw_good := tw_729
theorem gs_Mo_get : Cond.selects R_Mo y_Mo_get y_Mo_get ∈ lw_good := tw_730
abbrev b_Mo_set : ByteArray := prog_9_method_11_code
def y_Mo_set : MethodName := ⟨R_Mo, "set", "(III)V"⟩
theorem hd_Mo_set : y_Mo_set.cls ≠ "java/lang/invoke/MethodHandle" ∧ y_Mo_set.cls ≠ "java/lang/invoke/VarHandle" ∧ (parseMethodDescriptor y_Mo_set.desc).map (fun d => d.parameters.length) = some 3 := by decide +kernel
abbrev w_Mo_set : List Cond := .code y_Mo_set b_Mo_set 5 none :: lw_good
theorem cm_Mo_set : Cond.code y_Mo_set b_Mo_set 5 none ∈ lw_good := tw_739
theorem gi_Mo_set : Cond.instanceMethod y_Mo_set ∈ lw_good := tw_737
theorem gs_Mo_set : Cond.selects R_Mo y_Mo_set y_Mo_set ∈ lw_good := tw_738
abbrev b_Mo_step : ByteArray := prog_9_method_12_code
def y_Mo_step : MethodName := ⟨R_Mo, "step", "(I)V"⟩
theorem hd_Mo_step : y_Mo_step.cls ≠ "java/lang/invoke/MethodHandle" ∧ y_Mo_step.cls ≠ "java/lang/invoke/VarHandle" ∧ (parseMethodDescriptor y_Mo_step.desc).map (fun d => d.parameters.length) = some 1 := by decide +kernel
abbrev w_Mo_step : List Cond := .code y_Mo_step b_Mo_step 2 none :: lw_good
theorem cm_Mo_step : Cond.code y_Mo_step b_Mo_step 2 none ∈ lw_good := tw_743
theorem gi_Mo_step : Cond.instanceMethod y_Mo_step ∈ lw_good := tw_741
theorem gs_Mo_step : Cond.selects R_Mo y_Mo_step y_Mo_step ∈ lw_good := tw_742
abbrev b_Mo_pace : ByteArray := prog_9_method_13_code
def y_Mo_pace : MethodName := ⟨R_Mo, "pace", "(I)I"⟩
theorem hd_Mo_pace : y_Mo_pace.cls ≠ "java/lang/invoke/MethodHandle" ∧ y_Mo_pace.cls ≠ "java/lang/invoke/VarHandle" ∧ (parseMethodDescriptor y_Mo_pace.desc).map (fun d => d.parameters.length) = some 1 := by decide +kernel
abbrev w_Mo_pace : List Cond := .code y_Mo_pace b_Mo_pace 3 (some .int) :: lw_good
theorem cm_Mo_pace : Cond.code y_Mo_pace b_Mo_pace 3 (some .int) ∈ lw_good := tw_747
theorem gi_Mo_pace : Cond.instanceMethod y_Mo_pace ∈ lw_good := tw_745
theorem gs_Mo_pace : Cond.selects R_Mo y_Mo_pace y_Mo_pace ∈ lw_good := tw_746
abbrev b_Mo_size : ByteArray := prog_9_method_14_code
def y_Mo_size : MethodName := ⟨R_Mo, "size", "(I)I"⟩
theorem hd_Mo_size : y_Mo_size.cls ≠ "java/lang/invoke/MethodHandle" ∧ y_Mo_size.cls ≠ "java/lang/invoke/VarHandle" ∧ (parseMethodDescriptor y_Mo_size.desc).map (fun d => d.parameters.length) = some 1 := by decide +kernel
abbrev w_Mo_size : List Cond := .code y_Mo_size b_Mo_size 2 (some .int) :: lw_good
theorem cm_Mo_size : Cond.code y_Mo_size b_Mo_size 2 (some .int) ∈ lw_good := tw_751
theorem gi_Mo_size : Cond.instanceMethod y_Mo_size ∈ lw_good := tw_749
theorem gs_Mo_size : Cond.selects R_Mo y_Mo_size y_Mo_size ∈ lw_good := tw_750
abbrev b_Mo_value : ByteArray := prog_9_method_15_code
def y_Mo_value : MethodName := ⟨R_Mo, "value", "(I)J"⟩
theorem hd_Mo_value : y_Mo_value.cls ≠ "java/lang/invoke/MethodHandle" ∧ y_Mo_value.cls ≠ "java/lang/invoke/VarHandle" ∧ (parseMethodDescriptor y_Mo_value.desc).map (fun d => d.parameters.length) = some 1 := by decide +kernel
abbrev w_Mo_value : List Cond := .code y_Mo_value b_Mo_value 2 (some .long) :: lw_good
theorem cm_Mo_value : Cond.code y_Mo_value b_Mo_value 2 (some .long) ∈ lw_good := tw_755
theorem gi_Mo_value : Cond.instanceMethod y_Mo_value ∈ lw_good := tw_753
theorem gs_Mo_value : Cond.selects R_Mo y_Mo_value y_Mo_value ∈ lw_good := tw_754
abbrev b_Mo_same : ByteArray := prog_9_method_16_code
def y_Mo_same : MethodName := ⟨R_Mo, "same", "(II)Z"⟩
theorem hd_Mo_same : y_Mo_same.cls ≠ "java/lang/invoke/MethodHandle" ∧ y_Mo_same.cls ≠ "java/lang/invoke/VarHandle" ∧ (parseMethodDescriptor y_Mo_same.desc).map (fun d => d.parameters.length) = some 2 := by decide +kernel
abbrev w_Mo_same : List Cond := .code y_Mo_same b_Mo_same 3 (some .boolean) :: lw_good
theorem cm_Mo_same : Cond.code y_Mo_same b_Mo_same 3 (some .boolean) ∈ lw_good := tw_759
theorem gi_Mo_same : Cond.instanceMethod y_Mo_same ∈ lw_good := tw_757
theorem gs_Mo_same : Cond.selects R_Mo y_Mo_same y_Mo_same ∈ lw_good := tw_758
abbrev b_Mo_count : ByteArray := prog_9_method_17_code
def y_Mo_count : MethodName := ⟨R_Mo, "count", "(I)I"⟩
theorem hd_Mo_count : y_Mo_count.cls ≠ "java/lang/invoke/MethodHandle" ∧ y_Mo_count.cls ≠ "java/lang/invoke/VarHandle" ∧ (parseMethodDescriptor y_Mo_count.desc).map (fun d => d.parameters.length) = some 1 := by decide +kernel
abbrev w_Mo_count : List Cond := .code y_Mo_count b_Mo_count 2 (some .int) :: lw_good
theorem cm_Mo_count : Cond.code y_Mo_count b_Mo_count 2 (some .int) ∈ lw_good := tw_763
theorem gi_Mo_count : Cond.instanceMethod y_Mo_count ∈ lw_good := tw_761
theorem gs_Mo_count : Cond.selects R_Mo y_Mo_count y_Mo_count ∈ lw_good := tw_762
abbrev b_Mo_digest : ByteArray := prog_9_method_18_code
def y_Mo_digest : MethodName := ⟨R_Mo, "digest", "()J"⟩
theorem hd_Mo_digest : y_Mo_digest.cls ≠ "java/lang/invoke/MethodHandle" ∧ y_Mo_digest.cls ≠ "java/lang/invoke/VarHandle" ∧ (parseMethodDescriptor y_Mo_digest.desc).map (fun d => d.parameters.length) = some 0 := by decide +kernel
abbrev w_Mo_digest : List Cond := .code y_Mo_digest b_Mo_digest 10 (some .long) :: lw_good
theorem cm_Mo_digest : Cond.code y_Mo_digest b_Mo_digest 10 (some .long) ∈ lw_good := tw_767
theorem gi_Mo_digest : Cond.instanceMethod y_Mo_digest ∈ lw_good := tw_765
theorem gs_Mo_digest : Cond.selects R_Mo y_Mo_digest y_Mo_digest ∈ lw_good := tw_766
abbrev b_Mo_collect : ByteArray := prog_9_method_19_code
def y_Mo_collect : MethodName := ⟨R_Mo, "collect", "()I"⟩
theorem hd_Mo_collect : y_Mo_collect.cls ≠ "java/lang/invoke/MethodHandle" ∧ y_Mo_collect.cls ≠ "java/lang/invoke/VarHandle" ∧ (parseMethodDescriptor y_Mo_collect.desc).map (fun d => d.parameters.length) = some 0 := by decide +kernel
abbrev w_Mo_collect : List Cond := .code y_Mo_collect b_Mo_collect 1 (some .int) :: lw_good
theorem cm_Mo_collect : Cond.code y_Mo_collect b_Mo_collect 1 (some .int) ∈ lw_good := tw_775
theorem gi_Mo_collect : Cond.instanceMethod y_Mo_collect ∈ lw_good := tw_773
theorem gs_Mo_collect : Cond.selects R_Mo y_Mo_collect y_Mo_collect ∈ lw_good := tw_774
abbrev b_Mo_check : ByteArray := prog_9_method_20_code
def y_Mo_check : MethodName := ⟨R_Mo, "check", "()I"⟩
theorem hd_Mo_check : y_Mo_check.cls ≠ "java/lang/invoke/MethodHandle" ∧ y_Mo_check.cls ≠ "java/lang/invoke/VarHandle" ∧ (parseMethodDescriptor y_Mo_check.desc).map (fun d => d.parameters.length) = some 0 := by decide +kernel
abbrev w_Mo_check : List Cond := .code y_Mo_check b_Mo_check 1 (some .int) :: lw_good
theorem cm_Mo_check : Cond.code y_Mo_check b_Mo_check 1 (some .int) ∈ lw_good := tw_779
theorem gi_Mo_check : Cond.instanceMethod y_Mo_check ∈ lw_good := tw_777
theorem gs_Mo_check : Cond.selects R_Mo y_Mo_check y_Mo_check ∈ lw_good := tw_778
abbrev b_Au_init : ByteArray := prog_2_method_1_code
def y_Au_init : MethodName := ⟨R_Au, "<init>", "(LSnapshotHeap$Store;LSnapshotHeap$Collector;LSnapshotHeap$Walk;)V"⟩
theorem hd_Au_init : y_Au_init.cls ≠ "java/lang/invoke/MethodHandle" ∧ y_Au_init.cls ≠ "java/lang/invoke/VarHandle" ∧ (parseMethodDescriptor y_Au_init.desc).map (fun d => d.parameters.length) = some 3 := by decide +kernel
abbrev w_Au_init : List Cond := .code y_Au_init b_Au_init 4 none :: lw_good
theorem cm_Au_init : Cond.code y_Au_init b_Au_init 4 none ∈ lw_good := tw_135
theorem gi_Au_init : Cond.instanceMethod y_Au_init ∈ lw_good := tw_134
abbrev b_Au_faults : ByteArray := prog_2_method_2_code
def y_Au_faults : MethodName := ⟨R_Au, "faults", "()I"⟩
theorem hd_Au_faults : y_Au_faults.cls ≠ "java/lang/invoke/MethodHandle" ∧ y_Au_faults.cls ≠ "java/lang/invoke/VarHandle" ∧ (parseMethodDescriptor y_Au_faults.desc).map (fun d => d.parameters.length) = some 0 := by decide +kernel
abbrev w_Au_faults : List Cond := .code y_Au_faults b_Au_faults 4 (some .int) :: lw_good
theorem cm_Au_faults : Cond.code y_Au_faults b_Au_faults 4 (some .int) ∈ lw_good := tw_329
theorem gi_Au_faults : Cond.instanceMethod y_Au_faults ∈ lw_good := tw_327
theorem gs_Au_faults : Cond.selects R_Au y_Au_faults y_Au_faults ∈ lw_good := tw_328
abbrev b_Au_markToTheEnd : ByteArray := prog_2_method_3_code
def y_Au_markToTheEnd : MethodName := ⟨R_Au, "markToTheEnd", "()V"⟩
theorem hd_Au_markToTheEnd : y_Au_markToTheEnd.cls ≠ "java/lang/invoke/MethodHandle" ∧ y_Au_markToTheEnd.cls ≠ "java/lang/invoke/VarHandle" ∧ (parseMethodDescriptor y_Au_markToTheEnd.desc).map (fun d => d.parameters.length) = some 0 := by decide +kernel
abbrev w_Au_markToTheEnd : List Cond := .code y_Au_markToTheEnd b_Au_markToTheEnd 3 none :: lw_good
theorem cm_Au_markToTheEnd : Cond.code y_Au_markToTheEnd b_Au_markToTheEnd 3 none ∈ lw_good := tw_339
theorem gi_Au_markToTheEnd : Cond.instanceMethod y_Au_markToTheEnd ∈ lw_good := tw_338
theorem gs_Au_markToTheEnd : Cond.selects R_Au y_Au_markToTheEnd y_Au_markToTheEnd ∈ lw_good := ts_Au_markToTheEnd
abbrev b_Au_isMarkWrong : ByteArray := prog_2_method_4_code
def y_Au_isMarkWrong : MethodName := ⟨R_Au, "isMarkWrong", "(I)Z"⟩
theorem hd_Au_isMarkWrong : y_Au_isMarkWrong.cls ≠ "java/lang/invoke/MethodHandle" ∧ y_Au_isMarkWrong.cls ≠ "java/lang/invoke/VarHandle" ∧ (parseMethodDescriptor y_Au_isMarkWrong.desc).map (fun d => d.parameters.length) = some 1 := by decide +kernel
abbrev w_Au_isMarkWrong : List Cond := .code y_Au_isMarkWrong b_Au_isMarkWrong 2 (some .boolean) :: lw_good
theorem cm_Au_isMarkWrong : Cond.code y_Au_isMarkWrong b_Au_isMarkWrong 2 (some .boolean) ∈ lw_good := tw_364
theorem gi_Au_isMarkWrong : Cond.instanceMethod y_Au_isMarkWrong ∈ lw_good := tw_363
theorem gs_Au_isMarkWrong : Cond.selects R_Au y_Au_isMarkWrong y_Au_isMarkWrong ∈ lw_good := ts_Au_isMarkWrong
abbrev b_Au_isMarkInUse : ByteArray := prog_2_method_5_code
def y_Au_isMarkInUse : MethodName := ⟨R_Au, "isMarkInUse", "(I)Z"⟩
theorem hd_Au_isMarkInUse : y_Au_isMarkInUse.cls ≠ "java/lang/invoke/MethodHandle" ∧ y_Au_isMarkInUse.cls ≠ "java/lang/invoke/VarHandle" ∧ (parseMethodDescriptor y_Au_isMarkInUse.desc).map (fun d => d.parameters.length) = some 1 := by decide +kernel
abbrev w_Au_isMarkInUse : List Cond := .code y_Au_isMarkInUse b_Au_isMarkInUse 2 (some .boolean) :: lw_good
theorem cm_Au_isMarkInUse : Cond.code y_Au_isMarkInUse b_Au_isMarkInUse 2 (some .boolean) ∈ lw_good := tw_368
theorem gi_Au_isMarkInUse : Cond.instanceMethod y_Au_isMarkInUse ∈ lw_good := tw_367
theorem gs_Au_isMarkInUse : Cond.selects R_Au y_Au_isMarkInUse y_Au_isMarkInUse ∈ lw_good := ts_Au_isMarkInUse
abbrev b_Co_init : ByteArray := prog_3_method_1_code
def y_Co_init : MethodName := ⟨R_Co, "<init>", "(LSnapshotHeap$Store;)V"⟩
theorem hd_Co_init : y_Co_init.cls ≠ "java/lang/invoke/MethodHandle" ∧ y_Co_init.cls ≠ "java/lang/invoke/VarHandle" ∧ (parseMethodDescriptor y_Co_init.desc).map (fun d => d.parameters.length) = some 1 := by decide +kernel
abbrev w_Co_init : List Cond := .code y_Co_init b_Co_init 2 none :: lw_good
theorem cm_Co_init : Cond.code y_Co_init b_Co_init 2 none ∈ lw_good := tw_64
theorem gi_Co_init : Cond.instanceMethod y_Co_init ∈ lw_good := tw_63
abbrev b_Co_phase : ByteArray := prog_3_method_2_code
def y_Co_phase : MethodName := ⟨R_Co, "phase", "()LSnapshotHeap$Phase;"⟩
theorem hd_Co_phase : y_Co_phase.cls ≠ "java/lang/invoke/MethodHandle" ∧ y_Co_phase.cls ≠ "java/lang/invoke/VarHandle" ∧ (parseMethodDescriptor y_Co_phase.desc).map (fun d => d.parameters.length) = some 0 := by decide +kernel
abbrev w_Co_phase : List Cond := .code y_Co_phase b_Co_phase 1 (some (.object "SnapshotHeap$Phase")) :: lw_good
theorem cm_Co_phase : Cond.code y_Co_phase b_Co_phase 1 (some (.object "SnapshotHeap$Phase")) ∈ lw_good := tw_354
theorem gi_Co_phase : Cond.instanceMethod y_Co_phase ∈ lw_good := tw_352
theorem gs_Co_phase : Cond.selects R_Co y_Co_phase y_Co_phase ∈ lw_good := tw_353
abbrev b_Co_marking : ByteArray := prog_3_method_3_code
def y_Co_marking : MethodName := ⟨R_Co, "marking", "()LSnapshotHeap$Marking;"⟩
theorem hd_Co_marking : y_Co_marking.cls ≠ "java/lang/invoke/MethodHandle" ∧ y_Co_marking.cls ≠ "java/lang/invoke/VarHandle" ∧ (parseMethodDescriptor y_Co_marking.desc).map (fun d => d.parameters.length) = some 0 := by decide +kernel
abbrev w_Co_marking : List Cond := .code y_Co_marking b_Co_marking 1 (some (.object "SnapshotHeap$Marking")) :: lw_good
theorem cm_Co_marking : Cond.code y_Co_marking b_Co_marking 1 (some (.object "SnapshotHeap$Marking")) ∈ lw_good := tw_343
theorem gi_Co_marking : Cond.instanceMethod y_Co_marking ∈ lw_good := tw_341
theorem gs_Co_marking : Cond.selects R_Co y_Co_marking y_Co_marking ∈ lw_good := tw_342
abbrev b_Co_work : ByteArray := prog_3_method_4_code
def y_Co_work : MethodName := ⟨R_Co, "work", "(I)V"⟩
theorem hd_Co_work : y_Co_work.cls ≠ "java/lang/invoke/MethodHandle" ∧ y_Co_work.cls ≠ "java/lang/invoke/VarHandle" ∧ (parseMethodDescriptor y_Co_work.desc).map (fun d => d.parameters.length) = some 1 := by decide +kernel
abbrev w_Co_work : List Cond := .code y_Co_work b_Co_work 3 none :: lw_good
theorem cm_Co_work : Cond.code y_Co_work b_Co_work 3 none ∈ lw_good := tw_181
theorem gi_Co_work : Cond.instanceMethod y_Co_work ∈ lw_good := tw_179
theorem gs_Co_work : Cond.selects R_Co y_Co_work y_Co_work ∈ lw_good := tw_180
abbrev b_Co_collectWhole : ByteArray := prog_3_method_5_code
def y_Co_collectWhole : MethodName := ⟨R_Co, "collectWhole", "()V"⟩
theorem hd_Co_collectWhole : y_Co_collectWhole.cls ≠ "java/lang/invoke/MethodHandle" ∧ y_Co_collectWhole.cls ≠ "java/lang/invoke/VarHandle" ∧ (parseMethodDescriptor y_Co_collectWhole.desc).map (fun d => d.parameters.length) = some 0 := by decide +kernel
abbrev w_Co_collectWhole : List Cond := .code y_Co_collectWhole b_Co_collectWhole 2 none :: lw_good
theorem cm_Co_collectWhole : Cond.code y_Co_collectWhole b_Co_collectWhole 2 none ∈ lw_good := tw_312
theorem gi_Co_collectWhole : Cond.instanceMethod y_Co_collectWhole ∈ lw_good := tw_310
theorem gs_Co_collectWhole : Cond.selects R_Co y_Co_collectWhole y_Co_collectWhole ∈ lw_good := tw_311
abbrev b_Co_allocate : ByteArray := prog_3_method_6_code
def y_Co_allocate : MethodName := ⟨R_Co, "allocate", "(I)I"⟩
theorem hd_Co_allocate : y_Co_allocate.cls ≠ "java/lang/invoke/MethodHandle" ∧ y_Co_allocate.cls ≠ "java/lang/invoke/VarHandle" ∧ (parseMethodDescriptor y_Co_allocate.desc).map (fun d => d.parameters.length) = some 1 := by decide +kernel
abbrev w_Co_allocate : List Cond := .code y_Co_allocate b_Co_allocate 3 (some .int) :: lw_good
theorem cm_Co_allocate : Cond.code y_Co_allocate b_Co_allocate 3 (some .int) ∈ lw_good := tw_510
theorem gi_Co_allocate : Cond.instanceMethod y_Co_allocate ∈ lw_good := tw_508
theorem gs_Co_allocate : Cond.selects R_Co y_Co_allocate y_Co_allocate ∈ lw_good := tw_509
abbrev b_Co_beforeOverwrite : ByteArray := prog_3_method_7_code
def y_Co_beforeOverwrite : MethodName := ⟨R_Co, "beforeOverwrite", "(I)V"⟩
theorem hd_Co_beforeOverwrite : y_Co_beforeOverwrite.cls ≠ "java/lang/invoke/MethodHandle" ∧ y_Co_beforeOverwrite.cls ≠ "java/lang/invoke/VarHandle" ∧ (parseMethodDescriptor y_Co_beforeOverwrite.desc).map (fun d => d.parameters.length) = some 1 := by decide +kernel
abbrev w_Co_beforeOverwrite : List Cond := .code y_Co_beforeOverwrite b_Co_beforeOverwrite 2 none :: lw_good
theorem cm_Co_beforeOverwrite : Cond.code y_Co_beforeOverwrite b_Co_beforeOverwrite 2 none ∈ lw_good := tw_590
theorem gi_Co_beforeOverwrite : Cond.instanceMethod y_Co_beforeOverwrite ∈ lw_good := tw_588
theorem gs_Co_beforeOverwrite : Cond.selects R_Co y_Co_beforeOverwrite y_Co_beforeOverwrite ∈ lw_good := tw_589
abbrev b_Co_isYetToBeSwept : ByteArray := prog_3_method_8_code
def y_Co_isYetToBeSwept : MethodName := ⟨R_Co, "isYetToBeSwept", "(I)Z"⟩
theorem hd_Co_isYetToBeSwept : y_Co_isYetToBeSwept.cls ≠ "java/lang/invoke/MethodHandle" ∧ y_Co_isYetToBeSwept.cls ≠ "java/lang/invoke/VarHandle" ∧ (parseMethodDescriptor y_Co_isYetToBeSwept.desc).map (fun d => d.parameters.length) = some 1 := by decide +kernel
abbrev w_Co_isYetToBeSwept : List Cond := .code y_Co_isYetToBeSwept b_Co_isYetToBeSwept 2 (some .boolean) :: lw_good
theorem cm_Co_isYetToBeSwept : Cond.code y_Co_isYetToBeSwept b_Co_isYetToBeSwept 2 (some .boolean) ∈ lw_good := tw_372
theorem gi_Co_isYetToBeSwept : Cond.instanceMethod y_Co_isYetToBeSwept ∈ lw_good := tw_370
theorem gs_Co_isYetToBeSwept : Cond.selects R_Co y_Co_isYetToBeSwept y_Co_isYetToBeSwept ∈ lw_good := tw_371
abbrev b_Co_advance : ByteArray := prog_3_method_9_code
def y_Co_advance : MethodName := ⟨R_Co, "advance", "()V"⟩
theorem hd_Co_advance : y_Co_advance.cls ≠ "java/lang/invoke/MethodHandle" ∧ y_Co_advance.cls ≠ "java/lang/invoke/VarHandle" ∧ (parseMethodDescriptor y_Co_advance.desc).map (fun d => d.parameters.length) = some 0 := by decide +kernel
abbrev w_Co_advance : List Cond := .code y_Co_advance b_Co_advance 1 none :: lw_good
theorem cm_Co_advance : Cond.code y_Co_advance b_Co_advance 1 none ∈ lw_good := tw_185
theorem gi_Co_advance : Cond.instanceMethod y_Co_advance ∈ lw_good := tw_184
theorem gs_Co_advance : Cond.selects R_Co y_Co_advance y_Co_advance ∈ lw_good := ts_Co_advance
abbrev b_Co_begin : ByteArray := prog_3_method_10_code
def y_Co_begin : MethodName := ⟨R_Co, "begin", "()V"⟩
theorem hd_Co_begin : y_Co_begin.cls ≠ "java/lang/invoke/MethodHandle" ∧ y_Co_begin.cls ≠ "java/lang/invoke/VarHandle" ∧ (parseMethodDescriptor y_Co_begin.desc).map (fun d => d.parameters.length) = some 0 := by decide +kernel
abbrev w_Co_begin : List Cond := .code y_Co_begin b_Co_begin 1 none :: lw_good
theorem cm_Co_begin : Cond.code y_Co_begin b_Co_begin 1 none ∈ lw_good := tw_189
theorem gi_Co_begin : Cond.instanceMethod y_Co_begin ∈ lw_good := tw_188
theorem gs_Co_begin : Cond.selects R_Co y_Co_begin y_Co_begin ∈ lw_good := ts_Co_begin
abbrev b_Co_sweepOne : ByteArray := prog_3_method_11_code
def y_Co_sweepOne : MethodName := ⟨R_Co, "sweepOne", "()V"⟩
theorem hd_Co_sweepOne : y_Co_sweepOne.cls ≠ "java/lang/invoke/MethodHandle" ∧ y_Co_sweepOne.cls ≠ "java/lang/invoke/VarHandle" ∧ (parseMethodDescriptor y_Co_sweepOne.desc).map (fun d => d.parameters.length) = some 0 := by decide +kernel
abbrev w_Co_sweepOne : List Cond := .code y_Co_sweepOne b_Co_sweepOne 1 none :: lw_good
theorem cm_Co_sweepOne : Cond.code y_Co_sweepOne b_Co_sweepOne 1 none ∈ lw_good := tw_233
theorem gi_Co_sweepOne : Cond.instanceMethod y_Co_sweepOne ∈ lw_good := tw_232
theorem gs_Co_sweepOne : Cond.selects R_Co y_Co_sweepOne y_Co_sweepOne ∈ lw_good := ts_Co_sweepOne
abbrev b_Ma_init : ByteArray := prog_4_method_1_code
def y_Ma_init : MethodName := ⟨R_Ma, "<init>", "(LSnapshotHeap$Store;)V"⟩
theorem hd_Ma_init : y_Ma_init.cls ≠ "java/lang/invoke/MethodHandle" ∧ y_Ma_init.cls ≠ "java/lang/invoke/VarHandle" ∧ (parseMethodDescriptor y_Ma_init.desc).map (fun d => d.parameters.length) = some 1 := by decide +kernel
abbrev w_Ma_init : List Cond := .code y_Ma_init b_Ma_init 2 none :: lw_good
theorem cm_Ma_init : Cond.code y_Ma_init b_Ma_init 2 none ∈ lw_good := tw_70
theorem gi_Ma_init : Cond.instanceMethod y_Ma_init ∈ lw_good := tw_69
abbrev b_Ma_reset : ByteArray := prog_4_method_2_code
def y_Ma_reset : MethodName := ⟨R_Ma, "reset", "()V"⟩
theorem hd_Ma_reset : y_Ma_reset.cls ≠ "java/lang/invoke/MethodHandle" ∧ y_Ma_reset.cls ≠ "java/lang/invoke/VarHandle" ∧ (parseMethodDescriptor y_Ma_reset.desc).map (fun d => d.parameters.length) = some 0 := by decide +kernel
abbrev w_Ma_reset : List Cond := .code y_Ma_reset b_Ma_reset 1 none :: lw_good
theorem cm_Ma_reset : Cond.code y_Ma_reset b_Ma_reset 1 none ∈ lw_good := tw_316
theorem gi_Ma_reset : Cond.instanceMethod y_Ma_reset ∈ lw_good := tw_314
theorem gs_Ma_reset : Cond.selects R_Ma y_Ma_reset y_Ma_reset ∈ lw_good := tw_315
abbrev b_Ma_imitate : ByteArray := prog_4_method_3_code
def y_Ma_imitate : MethodName := ⟨R_Ma, "imitate", "(LSnapshotHeap$Marking;)V"⟩
theorem hd_Ma_imitate : y_Ma_imitate.cls ≠ "java/lang/invoke/MethodHandle" ∧ y_Ma_imitate.cls ≠ "java/lang/invoke/VarHandle" ∧ (parseMethodDescriptor y_Ma_imitate.desc).map (fun d => d.parameters.length) = some 1 := by decide +kernel
abbrev w_Ma_imitate : List Cond := .code y_Ma_imitate b_Ma_imitate 2 none :: lw_good
theorem cm_Ma_imitate : Cond.code y_Ma_imitate b_Ma_imitate 2 none ∈ lw_good := tw_347
theorem gi_Ma_imitate : Cond.instanceMethod y_Ma_imitate ∈ lw_good := tw_345
theorem gs_Ma_imitate : Cond.selects R_Ma y_Ma_imitate y_Ma_imitate ∈ lw_good := tw_346
abbrev b_Ma_isDone : ByteArray := prog_4_method_4_code
def y_Ma_isDone : MethodName := ⟨R_Ma, "isDone", "()Z"⟩
theorem hd_Ma_isDone : y_Ma_isDone.cls ≠ "java/lang/invoke/MethodHandle" ∧ y_Ma_isDone.cls ≠ "java/lang/invoke/VarHandle" ∧ (parseMethodDescriptor y_Ma_isDone.desc).map (fun d => d.parameters.length) = some 0 := by decide +kernel
abbrev w_Ma_isDone : List Cond := .code y_Ma_isDone b_Ma_isDone 1 (some .boolean) :: lw_good
theorem cm_Ma_isDone : Cond.code y_Ma_isDone b_Ma_isDone 1 (some .boolean) ∈ lw_good := tw_218
theorem gi_Ma_isDone : Cond.instanceMethod y_Ma_isDone ∈ lw_good := tw_216
theorem gs_Ma_isDone : Cond.selects R_Ma y_Ma_isDone y_Ma_isDone ∈ lw_good := tw_217
abbrev b_Ma_isWhite : ByteArray := prog_4_method_5_code
def y_Ma_isWhite : MethodName := ⟨R_Ma, "isWhite", "(I)Z"⟩
theorem hd_Ma_isWhite : y_Ma_isWhite.cls ≠ "java/lang/invoke/MethodHandle" ∧ y_Ma_isWhite.cls ≠ "java/lang/invoke/VarHandle" ∧ (parseMethodDescriptor y_Ma_isWhite.desc).map (fun d => d.parameters.length) = some 1 := by decide +kernel
abbrev w_Ma_isWhite : List Cond := .code y_Ma_isWhite b_Ma_isWhite 2 (some .boolean) :: lw_good
theorem cm_Ma_isWhite : Cond.code y_Ma_isWhite b_Ma_isWhite 2 (some .boolean) ∈ lw_good := tw_376
theorem gi_Ma_isWhite : Cond.instanceMethod y_Ma_isWhite ∈ lw_good := tw_374
theorem gs_Ma_isWhite : Cond.selects R_Ma y_Ma_isWhite y_Ma_isWhite ∈ lw_good := tw_375
abbrev b_Ma_isGrey : ByteArray := prog_4_method_6_code
def y_Ma_isGrey : MethodName := ⟨R_Ma, "isGrey", "(I)Z"⟩
theorem hd_Ma_isGrey : y_Ma_isGrey.cls ≠ "java/lang/invoke/MethodHandle" ∧ y_Ma_isGrey.cls ≠ "java/lang/invoke/VarHandle" ∧ (parseMethodDescriptor y_Ma_isGrey.desc).map (fun d => d.parameters.length) = some 1 := by decide +kernel
abbrev w_Ma_isGrey : List Cond := .code y_Ma_isGrey b_Ma_isGrey 2 (some .boolean) :: lw_good
theorem cm_Ma_isGrey : Cond.code y_Ma_isGrey b_Ma_isGrey 2 (some .boolean) ∈ lw_good := tw_380
theorem gi_Ma_isGrey : Cond.instanceMethod y_Ma_isGrey ∈ lw_good := tw_378
theorem gs_Ma_isGrey : Cond.selects R_Ma y_Ma_isGrey y_Ma_isGrey ∈ lw_good := tw_379
abbrev b_Ma_isBlack : ByteArray := prog_4_method_7_code
def y_Ma_isBlack : MethodName := ⟨R_Ma, "isBlack", "(I)Z"⟩
theorem hd_Ma_isBlack : y_Ma_isBlack.cls ≠ "java/lang/invoke/MethodHandle" ∧ y_Ma_isBlack.cls ≠ "java/lang/invoke/VarHandle" ∧ (parseMethodDescriptor y_Ma_isBlack.desc).map (fun d => d.parameters.length) = some 1 := by decide +kernel
abbrev w_Ma_isBlack : List Cond := .code y_Ma_isBlack b_Ma_isBlack 2 (some .boolean) :: lw_good
theorem cm_Ma_isBlack : Cond.code y_Ma_isBlack b_Ma_isBlack 2 (some .boolean) ∈ lw_good := tw_237
theorem gi_Ma_isBlack : Cond.instanceMethod y_Ma_isBlack ∈ lw_good := tw_235
theorem gs_Ma_isBlack : Cond.selects R_Ma y_Ma_isBlack y_Ma_isBlack ∈ lw_good := tw_236
abbrev b_Ma_whiten : ByteArray := prog_4_method_8_code
def y_Ma_whiten : MethodName := ⟨R_Ma, "whiten", "(I)V"⟩
theorem hd_Ma_whiten : y_Ma_whiten.cls ≠ "java/lang/invoke/MethodHandle" ∧ y_Ma_whiten.cls ≠ "java/lang/invoke/VarHandle" ∧ (parseMethodDescriptor y_Ma_whiten.desc).map (fun d => d.parameters.length) = some 1 := by decide +kernel
abbrev w_Ma_whiten : List Cond := .code y_Ma_whiten b_Ma_whiten 2 none :: lw_good
theorem cm_Ma_whiten : Cond.code y_Ma_whiten b_Ma_whiten 2 none ∈ lw_good := tw_241
theorem gi_Ma_whiten : Cond.instanceMethod y_Ma_whiten ∈ lw_good := tw_239
theorem gs_Ma_whiten : Cond.selects R_Ma y_Ma_whiten y_Ma_whiten ∈ lw_good := tw_240
abbrev b_Ma_blacken : ByteArray := prog_4_method_9_code
def y_Ma_blacken : MethodName := ⟨R_Ma, "blacken", "(I)V"⟩
theorem hd_Ma_blacken : y_Ma_blacken.cls ≠ "java/lang/invoke/MethodHandle" ∧ y_Ma_blacken.cls ≠ "java/lang/invoke/VarHandle" ∧ (parseMethodDescriptor y_Ma_blacken.desc).map (fun d => d.parameters.length) = some 1 := by decide +kernel
abbrev w_Ma_blacken : List Cond := .code y_Ma_blacken b_Ma_blacken 2 none :: lw_good
theorem cm_Ma_blacken : Cond.code y_Ma_blacken b_Ma_blacken 2 none ∈ lw_good := tw_228
theorem gi_Ma_blacken : Cond.instanceMethod y_Ma_blacken ∈ lw_good := tw_226
theorem gs_Ma_blacken : Cond.selects R_Ma y_Ma_blacken y_Ma_blacken ∈ lw_good := tw_227
abbrev b_Ma_shade : ByteArray := prog_4_method_10_code
def y_Ma_shade : MethodName := ⟨R_Ma, "shade", "(I)V"⟩
theorem hd_Ma_shade : y_Ma_shade.cls ≠ "java/lang/invoke/MethodHandle" ∧ y_Ma_shade.cls ≠ "java/lang/invoke/VarHandle" ∧ (parseMethodDescriptor y_Ma_shade.desc).map (fun d => d.parameters.length) = some 1 := by decide +kernel
abbrev w_Ma_shade : List Cond := .code y_Ma_shade b_Ma_shade 2 none :: lw_good
theorem cm_Ma_shade : Cond.code y_Ma_shade b_Ma_shade 2 none ∈ lw_good := tw_210
theorem gi_Ma_shade : Cond.instanceMethod y_Ma_shade ∈ lw_good := tw_208
theorem gs_Ma_shade : Cond.selects R_Ma y_Ma_shade y_Ma_shade ∈ lw_good := tw_209
abbrev b_Ma_shadeValuesOf : ByteArray := prog_4_method_11_code
def y_Ma_shadeValuesOf : MethodName := ⟨R_Ma, "shadeValuesOf", "(I)V"⟩
theorem hd_Ma_shadeValuesOf : y_Ma_shadeValuesOf.cls ≠ "java/lang/invoke/MethodHandle" ∧ y_Ma_shadeValuesOf.cls ≠ "java/lang/invoke/VarHandle" ∧ (parseMethodDescriptor y_Ma_shadeValuesOf.desc).map (fun d => d.parameters.length) = some 1 := by decide +kernel
abbrev w_Ma_shadeValuesOf : List Cond := .code y_Ma_shadeValuesOf b_Ma_shadeValuesOf 4 none :: lw_good
theorem cm_Ma_shadeValuesOf : Cond.code y_Ma_shadeValuesOf b_Ma_shadeValuesOf 4 none ∈ lw_good := tw_195
theorem gi_Ma_shadeValuesOf : Cond.instanceMethod y_Ma_shadeValuesOf ∈ lw_good := tw_193
theorem gs_Ma_shadeValuesOf : Cond.selects R_Ma y_Ma_shadeValuesOf y_Ma_shadeValuesOf ∈ lw_good := tw_194
abbrev b_Ma_markOne : ByteArray := prog_4_method_12_code
def y_Ma_markOne : MethodName := ⟨R_Ma, "markOne", "()V"⟩
theorem hd_Ma_markOne : y_Ma_markOne.cls ≠ "java/lang/invoke/MethodHandle" ∧ y_Ma_markOne.cls ≠ "java/lang/invoke/VarHandle" ∧ (parseMethodDescriptor y_Ma_markOne.desc).map (fun d => d.parameters.length) = some 0 := by decide +kernel
abbrev w_Ma_markOne : List Cond := .code y_Ma_markOne b_Ma_markOne 2 none :: lw_good
theorem cm_Ma_markOne : Cond.code y_Ma_markOne b_Ma_markOne 2 none ∈ lw_good := tw_224
theorem gi_Ma_markOne : Cond.instanceMethod y_Ma_markOne ∈ lw_good := tw_222
theorem gs_Ma_markOne : Cond.selects R_Ma y_Ma_markOne y_Ma_markOne ∈ lw_good := tw_223
abbrev b_St_init : ByteArray := prog_6_method_1_code
def y_St_init : MethodName := ⟨R_St, "<init>", "()V"⟩
theorem hd_St_init : y_St_init.cls ≠ "java/lang/invoke/MethodHandle" ∧ y_St_init.cls ≠ "java/lang/invoke/VarHandle" ∧ (parseMethodDescriptor y_St_init.desc).map (fun d => d.parameters.length) = some 0 := by decide +kernel
abbrev w_St_init : List Cond := .code y_St_init b_St_init 1 none :: lw_good
theorem cm_St_init : Cond.code y_St_init b_St_init 1 none ∈ lw_good := tw_31
theorem gi_St_init : Cond.instanceMethod y_St_init ∈ lw_good := tw_30
abbrev b_St_isTuplePlace : ByteArray := prog_6_method_2_code
def y_St_isTuplePlace : MethodName := ⟨R_St, "isTuplePlace", "(I)Z"⟩
theorem hd_St_isTuplePlace : y_St_isTuplePlace.cls ≠ "java/lang/invoke/MethodHandle" ∧ y_St_isTuplePlace.cls ≠ "java/lang/invoke/VarHandle" ∧ (parseMethodDescriptor y_St_isTuplePlace.desc).map (fun d => d.parameters.length) = some 1 := by decide +kernel
abbrev w_St_isTuplePlace : List Cond := .code y_St_isTuplePlace b_St_isTuplePlace 2 (some .boolean) :: lw_good
theorem cm_St_isTuplePlace : Cond.code y_St_isTuplePlace b_St_isTuplePlace 2 (some .boolean) ∈ lw_good := tw_214
theorem gi_St_isTuplePlace : Cond.instanceMethod y_St_isTuplePlace ∈ lw_good := tw_212
theorem gs_St_isTuplePlace : Cond.selects R_St y_St_isTuplePlace y_St_isTuplePlace ∈ lw_good := tw_213
abbrev b_St_isFree : ByteArray := prog_6_method_3_code
def y_St_isFree : MethodName := ⟨R_St, "isFree", "(I)Z"⟩
theorem hd_St_isFree : y_St_isFree.cls ≠ "java/lang/invoke/MethodHandle" ∧ y_St_isFree.cls ≠ "java/lang/invoke/VarHandle" ∧ (parseMethodDescriptor y_St_isFree.desc).map (fun d => d.parameters.length) = some 1 := by decide +kernel
abbrev w_St_isFree : List Cond := .code y_St_isFree b_St_isFree 2 (some .boolean) :: lw_good
theorem cm_St_isFree : Cond.code y_St_isFree b_St_isFree 2 (some .boolean) ∈ lw_good := tw_245
theorem gi_St_isFree : Cond.instanceMethod y_St_isFree ∈ lw_good := tw_243
theorem gs_St_isFree : Cond.selects R_St y_St_isFree y_St_isFree ∈ lw_good := tw_244
abbrev b_St_valuesOf : ByteArray := prog_6_method_4_code
def y_St_valuesOf : MethodName := ⟨R_St, "valuesOf", "(I)I"⟩
theorem hd_St_valuesOf : y_St_valuesOf.cls ≠ "java/lang/invoke/MethodHandle" ∧ y_St_valuesOf.cls ≠ "java/lang/invoke/VarHandle" ∧ (parseMethodDescriptor y_St_valuesOf.desc).map (fun d => d.parameters.length) = some 1 := by decide +kernel
abbrev w_St_valuesOf : List Cond := .code y_St_valuesOf b_St_valuesOf 2 (some .int) :: lw_good
theorem cm_St_valuesOf : Cond.code y_St_valuesOf b_St_valuesOf 2 (some .int) ∈ lw_good := tw_199
theorem gi_St_valuesOf : Cond.instanceMethod y_St_valuesOf ∈ lw_good := tw_197
theorem gs_St_valuesOf : Cond.selects R_St y_St_valuesOf y_St_valuesOf ∈ lw_good := tw_198
abbrev b_St_cellsFor : ByteArray := prog_6_method_5_code
def y_St_cellsFor : MethodName := ⟨R_St, "cellsFor", "(I)I"⟩
theorem hd_St_cellsFor : y_St_cellsFor.cls ≠ "java/lang/invoke/MethodHandle" ∧ y_St_cellsFor.cls ≠ "java/lang/invoke/VarHandle" ∧ (parseMethodDescriptor y_St_cellsFor.desc).map (fun d => d.parameters.length) = some 1 := by decide +kernel
abbrev w_St_cellsFor : List Cond := .code y_St_cellsFor b_St_cellsFor 1 (some .int) :: lw_good
theorem cm_St_cellsFor : Cond.code y_St_cellsFor b_St_cellsFor 1 (some .int) ∈ lw_good := tw_254
theorem gt_St_cellsFor : Cond.static y_St_cellsFor ∈ lw_good := tw_253
abbrev b_St_top : ByteArray := prog_6_method_6_code
def y_St_top : MethodName := ⟨R_St, "top", "()I"⟩
theorem hd_St_top : y_St_top.cls ≠ "java/lang/invoke/MethodHandle" ∧ y_St_top.cls ≠ "java/lang/invoke/VarHandle" ∧ (parseMethodDescriptor y_St_top.desc).map (fun d => d.parameters.length) = some 0 := by decide +kernel
abbrev w_St_top : List Cond := .code y_St_top b_St_top 1 (some .int) :: lw_good
theorem cm_St_top : Cond.code y_St_top b_St_top 1 (some .int) ∈ lw_good := tw_258
theorem gi_St_top : Cond.instanceMethod y_St_top ∈ lw_good := tw_256
theorem gs_St_top : Cond.selects R_St y_St_top y_St_top ∈ lw_good := tw_257
abbrev b_St_tuples : ByteArray := prog_6_method_7_code
def y_St_tuples : MethodName := ⟨R_St, "tuples", "()I"⟩
theorem hd_St_tuples : y_St_tuples.cls ≠ "java/lang/invoke/MethodHandle" ∧ y_St_tuples.cls ≠ "java/lang/invoke/VarHandle" ∧ (parseMethodDescriptor y_St_tuples.desc).map (fun d => d.parameters.length) = some 0 := by decide +kernel
abbrev w_St_tuples : List Cond := .code y_St_tuples b_St_tuples 1 (some .int) :: lw_good
theorem cm_St_tuples : Cond.code y_St_tuples b_St_tuples 1 (some .int) ∈ lw_good := tw_321
theorem gi_St_tuples : Cond.instanceMethod y_St_tuples ∈ lw_good := tw_319
theorem gs_St_tuples : Cond.selects R_St y_St_tuples y_St_tuples ∈ lw_good := tw_320
abbrev b_St_hasRoomFor : ByteArray := prog_6_method_8_code
def y_St_hasRoomFor : MethodName := ⟨R_St, "hasRoomFor", "(I)Z"⟩
theorem hd_St_hasRoomFor : y_St_hasRoomFor.cls ≠ "java/lang/invoke/MethodHandle" ∧ y_St_hasRoomFor.cls ≠ "java/lang/invoke/VarHandle" ∧ (parseMethodDescriptor y_St_hasRoomFor.desc).map (fun d => d.parameters.length) = some 1 := by decide +kernel
abbrev w_St_hasRoomFor : List Cond := .code y_St_hasRoomFor b_St_hasRoomFor 2 (some .boolean) :: lw_good
theorem cm_St_hasRoomFor : Cond.code y_St_hasRoomFor b_St_hasRoomFor 2 (some .boolean) ∈ lw_good := tw_486
theorem gi_St_hasRoomFor : Cond.instanceMethod y_St_hasRoomFor ∈ lw_good := tw_484
theorem gs_St_hasRoomFor : Cond.selects R_St y_St_hasRoomFor y_St_hasRoomFor ∈ lw_good := tw_485
abbrev b_St_take : ByteArray := prog_6_method_9_code
def y_St_take : MethodName := ⟨R_St, "take", "(I)I"⟩
theorem hd_St_take : y_St_take.cls ≠ "java/lang/invoke/MethodHandle" ∧ y_St_take.cls ≠ "java/lang/invoke/VarHandle" ∧ (parseMethodDescriptor y_St_take.desc).map (fun d => d.parameters.length) = some 1 := by decide +kernel
abbrev w_St_take : List Cond := .code y_St_take b_St_take 4 (some .int) :: lw_good
theorem cm_St_take : Cond.code y_St_take b_St_take 4 (some .int) ∈ lw_good := tw_514
theorem gi_St_take : Cond.instanceMethod y_St_take ∈ lw_good := tw_512
theorem gs_St_take : Cond.selects R_St y_St_take y_St_take ∈ lw_good := tw_513
abbrev b_St_takeFreePlace : ByteArray := prog_6_method_10_code
def y_St_takeFreePlace : MethodName := ⟨R_St, "takeFreePlace", "()I"⟩
theorem hd_St_takeFreePlace : y_St_takeFreePlace.cls ≠ "java/lang/invoke/MethodHandle" ∧ y_St_takeFreePlace.cls ≠ "java/lang/invoke/VarHandle" ∧ (parseMethodDescriptor y_St_takeFreePlace.desc).map (fun d => d.parameters.length) = some 0 := by decide +kernel
abbrev w_St_takeFreePlace : List Cond := .code y_St_takeFreePlace b_St_takeFreePlace 1 (some .int) :: lw_good
theorem cm_St_takeFreePlace : Cond.code y_St_takeFreePlace b_St_takeFreePlace 1 (some .int) ∈ lw_good := tw_519
theorem gi_St_takeFreePlace : Cond.instanceMethod y_St_takeFreePlace ∈ lw_good := tw_518
theorem gs_St_takeFreePlace : Cond.selects R_St y_St_takeFreePlace y_St_takeFreePlace ∈ lw_good := ts_St_takeFreePlace
abbrev b_St_release : ByteArray := prog_6_method_11_code
def y_St_release : MethodName := ⟨R_St, "release", "(I)V"⟩
theorem hd_St_release : y_St_release.cls ≠ "java/lang/invoke/MethodHandle" ∧ y_St_release.cls ≠ "java/lang/invoke/VarHandle" ∧ (parseMethodDescriptor y_St_release.desc).map (fun d => d.parameters.length) = some 1 := by decide +kernel
abbrev w_St_release : List Cond := .code y_St_release b_St_release 2 none :: lw_good
theorem cm_St_release : Cond.code y_St_release b_St_release 2 none ∈ lw_good := tw_250
theorem gi_St_release : Cond.instanceMethod y_St_release ∈ lw_good := tw_248
theorem gs_St_release : Cond.selects R_St y_St_release y_St_release ∈ lw_good := tw_249
abbrev b_St_placeAt : ByteArray := prog_6_method_12_code
def y_St_placeAt : MethodName := ⟨R_St, "placeAt", "(I)I"⟩
theorem hd_St_placeAt : y_St_placeAt.cls ≠ "java/lang/invoke/MethodHandle" ∧ y_St_placeAt.cls ≠ "java/lang/invoke/VarHandle" ∧ (parseMethodDescriptor y_St_placeAt.desc).map (fun d => d.parameters.length) = some 1 := by decide +kernel
abbrev w_St_placeAt : List Cond := .code y_St_placeAt b_St_placeAt 2 (some .int) :: lw_good
theorem cm_St_placeAt : Cond.code y_St_placeAt b_St_placeAt 2 (some .int) ∈ lw_good := tw_206
theorem gi_St_placeAt : Cond.instanceMethod y_St_placeAt ∈ lw_good := tw_204
theorem gs_St_placeAt : Cond.selects R_St y_St_placeAt y_St_placeAt ∈ lw_good := tw_205
abbrev b_St_numberAt : ByteArray := prog_6_method_13_code
def y_St_numberAt : MethodName := ⟨R_St, "numberAt", "(I)J"⟩
theorem hd_St_numberAt : y_St_numberAt.cls ≠ "java/lang/invoke/MethodHandle" ∧ y_St_numberAt.cls ≠ "java/lang/invoke/VarHandle" ∧ (parseMethodDescriptor y_St_numberAt.desc).map (fun d => d.parameters.length) = some 1 := by decide +kernel
abbrev w_St_numberAt : List Cond := .code y_St_numberAt b_St_numberAt 2 (some .long) :: lw_good
theorem cm_St_numberAt : Cond.code y_St_numberAt b_St_numberAt 2 (some .long) ∈ lw_good := tw_284
theorem gi_St_numberAt : Cond.instanceMethod y_St_numberAt ∈ lw_good := tw_282
theorem gs_St_numberAt : Cond.selects R_St y_St_numberAt y_St_numberAt ∈ lw_good := tw_283
abbrev b_St_putNumber : ByteArray := prog_6_method_14_code
def y_St_putNumber : MethodName := ⟨R_St, "putNumber", "(IJ)V"⟩
theorem hd_St_putNumber : y_St_putNumber.cls ≠ "java/lang/invoke/MethodHandle" ∧ y_St_putNumber.cls ≠ "java/lang/invoke/VarHandle" ∧ (parseMethodDescriptor y_St_putNumber.desc).map (fun d => d.parameters.length) = some 2 := by decide +kernel
abbrev w_St_putNumber : List Cond := .code y_St_putNumber b_St_putNumber 4 none :: lw_good
theorem cm_St_putNumber : Cond.code y_St_putNumber b_St_putNumber 4 none ∈ lw_good := tw_524
theorem gi_St_putNumber : Cond.instanceMethod y_St_putNumber ∈ lw_good := tw_522
theorem gs_St_putNumber : Cond.selects R_St y_St_putNumber y_St_putNumber ∈ lw_good := tw_523
abbrev b_St_putReference : ByteArray := prog_6_method_15_code
def y_St_putReference : MethodName := ⟨R_St, "putReference", "(II)V"⟩
theorem hd_St_putReference : y_St_putReference.cls ≠ "java/lang/invoke/MethodHandle" ∧ y_St_putReference.cls ≠ "java/lang/invoke/VarHandle" ∧ (parseMethodDescriptor y_St_putReference.desc).map (fun d => d.parameters.length) = some 2 := by decide +kernel
abbrev w_St_putReference : List Cond := .code y_St_putReference b_St_putReference 3 none :: lw_good
theorem cm_St_putReference : Cond.code y_St_putReference b_St_putReference 3 none ∈ lw_good := tw_530
theorem gi_St_putReference : Cond.instanceMethod y_St_putReference ∈ lw_good := tw_528
theorem gs_St_putReference : Cond.selects R_St y_St_putReference y_St_putReference ∈ lw_good := tw_529
abbrev b_St_move : ByteArray := prog_6_method_16_code
def y_St_move : MethodName := ⟨R_St, "move", "(II)V"⟩
theorem hd_St_move : y_St_move.cls ≠ "java/lang/invoke/MethodHandle" ∧ y_St_move.cls ≠ "java/lang/invoke/VarHandle" ∧ (parseMethodDescriptor y_St_move.desc).map (fun d => d.parameters.length) = some 2 := by decide +kernel
abbrev w_St_move : List Cond := .code y_St_move b_St_move 3 none :: lw_good
theorem cm_St_move : Cond.code y_St_move b_St_move 3 none ∈ lw_good := tw_549
theorem gi_St_move : Cond.instanceMethod y_St_move ∈ lw_good := tw_547
theorem gs_St_move : Cond.selects R_St y_St_move y_St_move ∈ lw_good := tw_548
abbrev b_St_alike : ByteArray := prog_6_method_17_code
def y_St_alike : MethodName := ⟨R_St, "alike", "(II)Z"⟩
theorem hd_St_alike : y_St_alike.cls ≠ "java/lang/invoke/MethodHandle" ∧ y_St_alike.cls ≠ "java/lang/invoke/VarHandle" ∧ (parseMethodDescriptor y_St_alike.desc).map (fun d => d.parameters.length) = some 2 := by decide +kernel
abbrev w_St_alike : List Cond := .code y_St_alike b_St_alike 3 (some .boolean) :: lw_good
theorem cm_St_alike : Cond.code y_St_alike b_St_alike 3 (some .boolean) ∈ lw_good := tw_632
theorem gi_St_alike : Cond.instanceMethod y_St_alike ∈ lw_good := tw_630
theorem gs_St_alike : Cond.selects R_St y_St_alike y_St_alike ∈ lw_good := tw_631
abbrev b_St_countHolders : ByteArray := prog_6_method_18_code
def y_St_countHolders : MethodName := ⟨R_St, "countHolders", "([I)V"⟩
theorem hd_St_countHolders : y_St_countHolders.cls ≠ "java/lang/invoke/MethodHandle" ∧ y_St_countHolders.cls ≠ "java/lang/invoke/VarHandle" ∧ (parseMethodDescriptor y_St_countHolders.desc).map (fun d => d.parameters.length) = some 1 := by decide +kernel
abbrev w_St_countHolders : List Cond := .code y_St_countHolders b_St_countHolders 3 none :: lw_good
theorem cm_St_countHolders : Cond.code y_St_countHolders b_St_countHolders 3 none ∈ lw_good := tw_334
theorem gi_St_countHolders : Cond.instanceMethod y_St_countHolders ∈ lw_good := tw_332
theorem gs_St_countHolders : Cond.selects R_St y_St_countHolders y_St_countHolders ∈ lw_good := tw_333
abbrev b_Wa_init : ByteArray := prog_7_method_1_code
def y_Wa_init : MethodName := ⟨R_Wa, "<init>", "(LSnapshotHeap$Store;)V"⟩
theorem hd_Wa_init : y_Wa_init.cls ≠ "java/lang/invoke/MethodHandle" ∧ y_Wa_init.cls ≠ "java/lang/invoke/VarHandle" ∧ (parseMethodDescriptor y_Wa_init.desc).map (fun d => d.parameters.length) = some 1 := by decide +kernel
abbrev w_Wa_init : List Cond := .code y_Wa_init b_Wa_init 2 none :: lw_good
theorem cm_Wa_init : Cond.code y_Wa_init b_Wa_init 2 none ∈ lw_good := tw_104
theorem gi_Wa_init : Cond.instanceMethod y_Wa_init ∈ lw_good := tw_103
abbrev b_Wa_tuples : ByteArray := prog_7_method_2_code
def y_Wa_tuples : MethodName := ⟨R_Wa, "tuples", "()I"⟩
theorem hd_Wa_tuples : y_Wa_tuples.cls ≠ "java/lang/invoke/MethodHandle" ∧ y_Wa_tuples.cls ≠ "java/lang/invoke/VarHandle" ∧ (parseMethodDescriptor y_Wa_tuples.desc).map (fun d => d.parameters.length) = some 0 := by decide +kernel
abbrev w_Wa_tuples : List Cond := .code y_Wa_tuples b_Wa_tuples 1 (some .int) :: lw_good
theorem cm_Wa_tuples : Cond.code y_Wa_tuples b_Wa_tuples 1 (some .int) ∈ lw_good := tw_643
theorem gi_Wa_tuples : Cond.instanceMethod y_Wa_tuples ∈ lw_good := tw_641
theorem gs_Wa_tuples : Cond.selects R_Wa y_Wa_tuples y_Wa_tuples ∈ lw_good := tw_642
abbrev b_Wa_cells : ByteArray := prog_7_method_3_code
def y_Wa_cells : MethodName := ⟨R_Wa, "cells", "()I"⟩
theorem hd_Wa_cells : y_Wa_cells.cls ≠ "java/lang/invoke/MethodHandle" ∧ y_Wa_cells.cls ≠ "java/lang/invoke/VarHandle" ∧ (parseMethodDescriptor y_Wa_cells.desc).map (fun d => d.parameters.length) = some 0 := by decide +kernel
abbrev w_Wa_cells : List Cond := .code y_Wa_cells b_Wa_cells 1 (some .int) :: lw_good
theorem cm_Wa_cells : Cond.code y_Wa_cells b_Wa_cells 1 (some .int) ∈ lw_good := tw_647
theorem gi_Wa_cells : Cond.instanceMethod y_Wa_cells ∈ lw_good := tw_645
theorem gs_Wa_cells : Cond.selects R_Wa y_Wa_cells y_Wa_cells ∈ lw_good := tw_646
abbrev b_Wa_hash : ByteArray := prog_7_method_4_code
def y_Wa_hash : MethodName := ⟨R_Wa, "hash", "()J"⟩
theorem hd_Wa_hash : y_Wa_hash.cls ≠ "java/lang/invoke/MethodHandle" ∧ y_Wa_hash.cls ≠ "java/lang/invoke/VarHandle" ∧ (parseMethodDescriptor y_Wa_hash.desc).map (fun d => d.parameters.length) = some 0 := by decide +kernel
abbrev w_Wa_hash : List Cond := .code y_Wa_hash b_Wa_hash 1 (some .long) :: lw_good
theorem cm_Wa_hash : Cond.code y_Wa_hash b_Wa_hash 1 (some .long) ∈ lw_good := tw_304
theorem gi_Wa_hash : Cond.instanceMethod y_Wa_hash ∈ lw_good := tw_302
theorem gs_Wa_hash : Cond.selects R_Wa y_Wa_hash y_Wa_hash ∈ lw_good := tw_303
abbrev b_Wa_hasMet : ByteArray := prog_7_method_5_code
def y_Wa_hasMet : MethodName := ⟨R_Wa, "hasMet", "(I)Z"⟩
theorem hd_Wa_hasMet : y_Wa_hasMet.cls ≠ "java/lang/invoke/MethodHandle" ∧ y_Wa_hasMet.cls ≠ "java/lang/invoke/VarHandle" ∧ (parseMethodDescriptor y_Wa_hasMet.desc).map (fun d => d.parameters.length) = some 1 := by decide +kernel
abbrev w_Wa_hasMet : List Cond := .code y_Wa_hasMet b_Wa_hasMet 2 (some .boolean) :: lw_good
theorem cm_Wa_hasMet : Cond.code y_Wa_hasMet b_Wa_hasMet 2 (some .boolean) ∈ lw_good := tw_293
theorem gi_Wa_hasMet : Cond.instanceMethod y_Wa_hasMet ∈ lw_good := tw_291
theorem gs_Wa_hasMet : Cond.selects R_Wa y_Wa_hasMet y_Wa_hasMet ∈ lw_good := tw_292
abbrev b_Wa_run : ByteArray := prog_7_method_6_code
def y_Wa_run : MethodName := ⟨R_Wa, "run", "()V"⟩
theorem hd_Wa_run : y_Wa_run.cls ≠ "java/lang/invoke/MethodHandle" ∧ y_Wa_run.cls ≠ "java/lang/invoke/VarHandle" ∧ (parseMethodDescriptor y_Wa_run.desc).map (fun d => d.parameters.length) = some 0 := by decide +kernel
abbrev w_Wa_run : List Cond := .code y_Wa_run b_Wa_run 2 none :: lw_good
theorem cm_Wa_run : Cond.code y_Wa_run b_Wa_run 2 none ∈ lw_good := tw_262
theorem gi_Wa_run : Cond.instanceMethod y_Wa_run ∈ lw_good := tw_260
theorem gs_Wa_run : Cond.selects R_Wa y_Wa_run y_Wa_run ∈ lw_good := tw_261
abbrev b_Wa_goOn : ByteArray := prog_7_method_7_code
def y_Wa_goOn : MethodName := ⟨R_Wa, "goOn", "()V"⟩
theorem hd_Wa_goOn : y_Wa_goOn.cls ≠ "java/lang/invoke/MethodHandle" ∧ y_Wa_goOn.cls ≠ "java/lang/invoke/VarHandle" ∧ (parseMethodDescriptor y_Wa_goOn.desc).map (fun d => d.parameters.length) = some 0 := by decide +kernel
abbrev w_Wa_goOn : List Cond := .code y_Wa_goOn b_Wa_goOn 3 none :: lw_good
theorem cm_Wa_goOn : Cond.code y_Wa_goOn b_Wa_goOn 3 none ∈ lw_good := tw_272
theorem gi_Wa_goOn : Cond.instanceMethod y_Wa_goOn ∈ lw_good := tw_271
theorem gs_Wa_goOn : Cond.selects R_Wa y_Wa_goOn y_Wa_goOn ∈ lw_good := ts_Wa_goOn
abbrev b_Wa_meet : ByteArray := prog_7_method_8_code
def y_Wa_meet : MethodName := ⟨R_Wa, "meet", "(I)V"⟩
theorem hd_Wa_meet : y_Wa_meet.cls ≠ "java/lang/invoke/MethodHandle" ∧ y_Wa_meet.cls ≠ "java/lang/invoke/VarHandle" ∧ (parseMethodDescriptor y_Wa_meet.desc).map (fun d => d.parameters.length) = some 1 := by decide +kernel
abbrev w_Wa_meet : List Cond := .code y_Wa_meet b_Wa_meet 3 none :: lw_good
theorem cm_Wa_meet : Cond.code y_Wa_meet b_Wa_meet 3 none ∈ lw_good := tw_278
theorem gi_Wa_meet : Cond.instanceMethod y_Wa_meet ∈ lw_good := tw_277
theorem gs_Wa_meet : Cond.selects R_Wa y_Wa_meet y_Wa_meet ∈ lw_good := ts_Wa_meet
abbrev b_Wa_meetFirst : ByteArray := prog_7_method_9_code
def y_Wa_meetFirst : MethodName := ⟨R_Wa, "meetFirst", "(I)V"⟩
theorem hd_Wa_meetFirst : y_Wa_meetFirst.cls ≠ "java/lang/invoke/MethodHandle" ∧ y_Wa_meetFirst.cls ≠ "java/lang/invoke/VarHandle" ∧ (parseMethodDescriptor y_Wa_meetFirst.desc).map (fun d => d.parameters.length) = some 1 := by decide +kernel
abbrev w_Wa_meetFirst : List Cond := .code y_Wa_meetFirst b_Wa_meetFirst 3 none :: lw_good
theorem cm_Wa_meetFirst : Cond.code y_Wa_meetFirst b_Wa_meetFirst 3 none ∈ lw_good := tw_298
theorem gi_Wa_meetFirst : Cond.instanceMethod y_Wa_meetFirst ∈ lw_good := tw_297
theorem gs_Wa_meetFirst : Cond.selects R_Wa y_Wa_meetFirst y_Wa_meetFirst ∈ lw_good := ts_Wa_meetFirst
abbrev b_Wa_goInto : ByteArray := prog_7_method_10_code
def y_Wa_goInto : MethodName := ⟨R_Wa, "goInto", "(I)V"⟩
theorem hd_Wa_goInto : y_Wa_goInto.cls ≠ "java/lang/invoke/MethodHandle" ∧ y_Wa_goInto.cls ≠ "java/lang/invoke/VarHandle" ∧ (parseMethodDescriptor y_Wa_goInto.desc).map (fun d => d.parameters.length) = some 1 := by decide +kernel
abbrev w_Wa_goInto : List Cond := .code y_Wa_goInto b_Wa_goInto 2 none :: lw_good
theorem cm_Wa_goInto : Cond.code y_Wa_goInto b_Wa_goInto 2 none ∈ lw_good := tw_268
theorem gi_Wa_goInto : Cond.instanceMethod y_Wa_goInto ∈ lw_good := tw_267
theorem gs_Wa_goInto : Cond.selects R_Wa y_Wa_goInto y_Wa_goInto ∈ lw_good := ts_Wa_goInto
abbrev b_Wa_mix : ByteArray := prog_7_method_11_code
def y_Wa_mix : MethodName := ⟨R_Wa, "mix", "(J)V"⟩
theorem hd_Wa_mix : y_Wa_mix.cls ≠ "java/lang/invoke/MethodHandle" ∧ y_Wa_mix.cls ≠ "java/lang/invoke/VarHandle" ∧ (parseMethodDescriptor y_Wa_mix.desc).map (fun d => d.parameters.length) = some 1 := by decide +kernel
abbrev w_Wa_mix : List Cond := .code y_Wa_mix b_Wa_mix 3 none :: lw_good
theorem cm_Wa_mix : Cond.code y_Wa_mix b_Wa_mix 3 none ∈ lw_good := tw_288
theorem gi_Wa_mix : Cond.instanceMethod y_Wa_mix ∈ lw_good := tw_287
theorem gs_Wa_mix : Cond.selects R_Wa y_Wa_mix y_Wa_mix ∈ lw_good := ts_Wa_mix
abbrev b_La_tuple : ByteArray := method_3_code
def y_La_tuple : MethodName := ⟨R_La, "tuple", "(LSnapshotHeap;II[J)I"⟩
theorem hd_La_tuple : y_La_tuple.cls ≠ "java/lang/invoke/MethodHandle" ∧ y_La_tuple.cls ≠ "java/lang/invoke/VarHandle" ∧ (parseMethodDescriptor y_La_tuple.desc).map (fun d => d.parameters.length) = some 4 := by decide +kernel
theorem gt_La_tuple : Cond.static y_La_tuple ∈ lw_good := tw_383
abbrev b_La_number : ByteArray := method_4_code
def y_La_number : MethodName := ⟨R_La, "number", "(LSnapshotHeap;IJ)I"⟩
theorem hd_La_number : y_La_number.cls ≠ "java/lang/invoke/MethodHandle" ∧ y_La_number.cls ≠ "java/lang/invoke/VarHandle" ∧ (parseMethodDescriptor y_La_number.desc).map (fun d => d.parameters.length) = some 3 := by decide +kernel
theorem gt_La_number : Cond.static y_La_number ∈ lw_good := tw_532
abbrev b_La_copy : ByteArray := method_5_code
def y_La_copy : MethodName := ⟨R_La, "copy", "(LSnapshotHeap;II)I"⟩
theorem hd_La_copy : y_La_copy.cls ≠ "java/lang/invoke/MethodHandle" ∧ y_La_copy.cls ≠ "java/lang/invoke/VarHandle" ∧ (parseMethodDescriptor y_La_copy.desc).map (fun d => d.parameters.length) = some 3 := by decide +kernel
theorem gt_La_copy : Cond.static y_La_copy ∈ lw_good := tw_540
abbrev b_La_get : ByteArray := method_6_code
def y_La_get : MethodName := ⟨R_La, "get", "(LSnapshotHeap;III)I"⟩
theorem hd_La_get : y_La_get.cls ≠ "java/lang/invoke/MethodHandle" ∧ y_La_get.cls ≠ "java/lang/invoke/VarHandle" ∧ (parseMethodDescriptor y_La_get.desc).map (fun d => d.parameters.length) = some 4 := by decide +kernel
theorem gt_La_get : Cond.static y_La_get ∈ lw_good := tw_551
abbrev b_La_set : ByteArray := method_7_code
def y_La_set : MethodName := ⟨R_La, "set", "(LSnapshotHeap;III)I"⟩
theorem hd_La_set : y_La_set.cls ≠ "java/lang/invoke/MethodHandle" ∧ y_La_set.cls ≠ "java/lang/invoke/VarHandle" ∧ (parseMethodDescriptor y_La_set.desc).map (fun d => d.parameters.length) = some 4 := by decide +kernel
theorem gt_La_set : Cond.static y_La_set ∈ lw_good := tw_581
abbrev b_La_step : ByteArray := method_8_code
def y_La_step : MethodName := ⟨R_La, "step", "(LSnapshotHeap;I)I"⟩
theorem hd_La_step : y_La_step.cls ≠ "java/lang/invoke/MethodHandle" ∧ y_La_step.cls ≠ "java/lang/invoke/VarHandle" ∧ (parseMethodDescriptor y_La_step.desc).map (fun d => d.parameters.length) = some 2 := by decide +kernel
theorem gt_La_step : Cond.static y_La_step ∈ lw_good := tw_594
abbrev b_La_pace : ByteArray := method_9_code
def y_La_pace : MethodName := ⟨R_La, "pace", "(LSnapshotHeap;I[J)I"⟩
theorem hd_La_pace : y_La_pace.cls ≠ "java/lang/invoke/MethodHandle" ∧ y_La_pace.cls ≠ "java/lang/invoke/VarHandle" ∧ (parseMethodDescriptor y_La_pace.desc).map (fun d => d.parameters.length) = some 3 := by decide +kernel
theorem gt_La_pace : Cond.static y_La_pace ∈ lw_good := tw_601
abbrev b_La_size : ByteArray := method_10_code
def y_La_size : MethodName := ⟨R_La, "size", "(LSnapshotHeap;I[J)I"⟩
theorem hd_La_size : y_La_size.cls ≠ "java/lang/invoke/MethodHandle" ∧ y_La_size.cls ≠ "java/lang/invoke/VarHandle" ∧ (parseMethodDescriptor y_La_size.desc).map (fun d => d.parameters.length) = some 3 := by decide +kernel
theorem gt_La_size : Cond.static y_La_size ∈ lw_good := tw_608
abbrev b_La_value : ByteArray := method_11_code
def y_La_value : MethodName := ⟨R_La, "value", "(LSnapshotHeap;I[J)I"⟩
theorem hd_La_value : y_La_value.cls ≠ "java/lang/invoke/MethodHandle" ∧ y_La_value.cls ≠ "java/lang/invoke/VarHandle" ∧ (parseMethodDescriptor y_La_value.desc).map (fun d => d.parameters.length) = some 3 := by decide +kernel
theorem gt_La_value : Cond.static y_La_value ∈ lw_good := tw_615
abbrev b_La_same : ByteArray := method_12_code
def y_La_same : MethodName := ⟨R_La, "same", "(LSnapshotHeap;II[J)I"⟩
theorem hd_La_same : y_La_same.cls ≠ "java/lang/invoke/MethodHandle" ∧ y_La_same.cls ≠ "java/lang/invoke/VarHandle" ∧ (parseMethodDescriptor y_La_same.desc).map (fun d => d.parameters.length) = some 4 := by decide +kernel
theorem gt_La_same : Cond.static y_La_same ∈ lw_good := tw_623
abbrev b_La_count : ByteArray := method_13_code
def y_La_count : MethodName := ⟨R_La, "count", "(LSnapshotHeap;I[J)I"⟩
theorem hd_La_count : y_La_count.cls ≠ "java/lang/invoke/MethodHandle" ∧ y_La_count.cls ≠ "java/lang/invoke/VarHandle" ∧ (parseMethodDescriptor y_La_count.desc).map (fun d => d.parameters.length) = some 3 := by decide +kernel
theorem gt_La_count : Cond.static y_La_count ∈ lw_good := tw_634
abbrev b_Ob_init : ByteArray := object_method_1_code
def y_Ob_init : MethodName := ⟨R_Ob, "<init>", "()V"⟩
theorem hd_Ob_init : y_Ob_init.cls ≠ "java/lang/invoke/MethodHandle" ∧ y_Ob_init.cls ≠ "java/lang/invoke/VarHandle" ∧ (parseMethodDescriptor y_Ob_init.desc).map (fun d => d.parameters.length) = some 0 := by decide +kernel
abbrev w_Ob_init : List Cond := .code y_Ob_init b_Ob_init 1 none :: lw_good
theorem cm_Ob_init : Cond.code y_Ob_init b_Ob_init 1 none ∈ lw_good := tw_26
theorem gi_Ob_init : Cond.instanceMethod y_Ob_init ∈ lw_good := tw_25
abbrev b_Ar_fill : ByteArray := prog_19_method_103_code
def y_Ar_fill : MethodName := ⟨R_Ar, "fill", "([II)V"⟩
theorem hd_Ar_fill : y_Ar_fill.cls ≠ "java/lang/invoke/MethodHandle" ∧ y_Ar_fill.cls ≠ "java/lang/invoke/VarHandle" ∧ (parseMethodDescriptor y_Ar_fill.desc).map (fun d => d.parameters.length) = some 2 := by decide +kernel
abbrev w_Ar_fill : List Cond := .code y_Ar_fill b_Ar_fill 4 none :: lw_good
theorem cm_Ar_fill : Cond.code y_Ar_fill b_Ar_fill 4 none ∈ lw_good := tw_35
theorem gt_Ar_fill : Cond.static y_Ar_fill ∈ lw_good := tw_34
def sn_N (U : State) : Prop := va_Nw (.methodLinkNest R_Ma 48 y_Sh_slotOf R_Sh) U ∧ va_Nw (.methodLinkNest R_Wa 64 y_Sh_slotOf R_Sh) U ∧ va_Nw (.methodLinkNest R_St 59 y_Sh_slotOf R_Sh) U
theorem sn_N.moved {s U : State} (hW : s.WarmedH U.vm) (h : sn_N s) : sn_N U := ⟨va_Nw.warmM hW h.1, va_Nw.warmM hW h.2.1, va_Nw.warmM hW h.2.2⟩
theorem sn_N.call {U : State} {g : JFrame} {mk : MethodId} {a : Array Value} (h : sn_N U) : sn_N (U.calling g mk a) := ⟨va_Nw.same rfl rfl h.1, va_Nw.same rfl rfl h.2.1, va_Nw.same rfl rfl h.2.2⟩
