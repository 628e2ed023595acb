def tw_X : List Cond := [.superclass "java/lang/Throwable" "java/lang/Object", .codeSync ⟨"java/lang/Throwable", "fillInStackTrace", "()Ljava/lang/Throwable;"⟩ prog_15_method_18_code 1 (some (.object "java/lang/Throwable")), .laysStatic "java/lang/Throwable" "UNASSIGNED_STACK" "[Ljava/lang/StackTraceElement;", .laysStatic "java/lang/Throwable" "SUPPRESSED_SENTINEL" "Ljava/util/List;", .declares ⟨"java/lang/RuntimeException", "<init>", "()V"⟩, .declares ⟨"java/lang/Exception", "<init>", "()V"⟩, .declares ⟨"java/lang/Throwable", "<init>", "()V"⟩, .castable "java/lang/IllegalArgumentException" "java/lang/IllegalArgumentException", .castable "java/lang/IndexOutOfBoundsException" "java/lang/IndexOutOfBoundsException", .isRef (.static Bundle.tN "UNASSIGNED_STACK" Bundle.steD), .isRef (.static Bundle.tN "SUPPRESSED_SENTINEL" Bundle.listD)]
theorem tx_0 : Cond.superclass "java/lang/Throwable" "java/lang/Object" ∈ tw_X := List.mem_of_getElem? (i := 0) rfl
theorem tx_1 : Cond.codeSync ⟨"java/lang/Throwable", "fillInStackTrace", "()Ljava/lang/Throwable;"⟩ prog_15_method_18_code 1 (some (.object "java/lang/Throwable")) ∈ tw_X := List.mem_of_getElem? (i := 1) rfl
theorem tx_2 : Cond.laysStatic "java/lang/Throwable" "UNASSIGNED_STACK" "[Ljava/lang/StackTraceElement;" ∈ tw_X := List.mem_of_getElem? (i := 2) rfl
theorem tx_3 : Cond.laysStatic "java/lang/Throwable" "SUPPRESSED_SENTINEL" "Ljava/util/List;" ∈ tw_X := List.mem_of_getElem? (i := 3) rfl
theorem tx_4 : Cond.declares ⟨"java/lang/RuntimeException", "<init>", "()V"⟩ ∈ tw_X := List.mem_of_getElem? (i := 4) rfl
theorem tx_5 : Cond.declares ⟨"java/lang/Exception", "<init>", "()V"⟩ ∈ tw_X := List.mem_of_getElem? (i := 5) rfl
theorem tx_6 : Cond.declares ⟨"java/lang/Throwable", "<init>", "()V"⟩ ∈ tw_X := List.mem_of_getElem? (i := 6) rfl
theorem tx_7 : Cond.castable "java/lang/IllegalArgumentException" "java/lang/IllegalArgumentException" ∈ tw_X := List.mem_of_getElem? (i := 7) rfl
theorem tx_8 : Cond.castable "java/lang/IndexOutOfBoundsException" "java/lang/IndexOutOfBoundsException" ∈ tw_X := List.mem_of_getElem? (i := 8) rfl
theorem tx_9 : Cond.isRef (.static Bundle.tN "UNASSIGNED_STACK" Bundle.steD) ∈ tw_X := List.mem_of_getElem? (i := 9) rfl
theorem tx_10 : Cond.isRef (.static Bundle.tN "SUPPRESSED_SENTINEL" Bundle.listD) ∈ tw_X := List.mem_of_getElem? (i := 10) rfl
theorem tw_at_load : ∀ a ∈ Bundle.ownAtoms0 "CoreDesk" 113 "java/lang/IllegalArgumentException" ["java/lang/RuntimeException", "java/lang/Exception"], a ∈ cd_AW ∨ a ∈ tw_X := by
  intro a ha
  have h : a ∈ ([.initialized "java/lang/Throwable", .superclass "java/lang/Throwable" "java/lang/Object", .instanceMethod ⟨"java/lang/Throwable", "fillInStackTrace", "()Ljava/lang/Throwable;"⟩, .codeSync ⟨"java/lang/Throwable", "fillInStackTrace", "()Ljava/lang/Throwable;"⟩ prog_15_method_18_code 1 (some (.object "java/lang/Throwable")), .instanceMethod ⟨"java/lang/Throwable", "fillInStackTrace", "(I)Ljava/lang/Throwable;"⟩, .native ⟨"java/lang/Throwable", "fillInStackTrace", "(I)Ljava/lang/Throwable;"⟩, .instanceMethod ⟨"java/lang/Throwable", "<init>", "()V"⟩, .code ⟨"java/lang/Throwable", "<init>", "()V"⟩ prog_15_method_1_code 1 none, .instanceMethod objectInit, .code objectInit object_method_1_code 1 none, .methodLink "java/lang/Throwable" 1 objectInit, .methodLink "java/lang/Throwable" 27 ⟨"java/lang/Throwable", "fillInStackTrace", "()Ljava/lang/Throwable;"⟩, .methodLink "java/lang/Throwable" 202 ⟨"java/lang/Throwable", "fillInStackTrace", "(I)Ljava/lang/Throwable;"⟩, .fieldLink "java/lang/Throwable" 7 "java/lang/Throwable" "cause" "Ljava/lang/Throwable;", .lays "java/lang/Throwable" "java/lang/Throwable" "cause" "Ljava/lang/Throwable;", .fieldLink "java/lang/Throwable" 17 "java/lang/Throwable" "stackTrace" "[Ljava/lang/StackTraceElement;", .lays "java/lang/Throwable" "java/lang/Throwable" "stackTrace" "[Ljava/lang/StackTraceElement;", .fieldLink "java/lang/Throwable" 24 "java/lang/Throwable" "suppressedExceptions" "Ljava/util/List;", .lays "java/lang/Throwable" "java/lang/Throwable" "suppressedExceptions" "Ljava/util/List;", .fieldLink "java/lang/Throwable" 13 "java/lang/Throwable" "UNASSIGNED_STACK" "[Ljava/lang/StackTraceElement;", .laysStatic "java/lang/Throwable" "UNASSIGNED_STACK" "[Ljava/lang/StackTraceElement;", .fieldLink "java/lang/Throwable" 20 "java/lang/Throwable" "SUPPRESSED_SENTINEL" "Ljava/util/List;", .laysStatic "java/lang/Throwable" "SUPPRESSED_SENTINEL" "Ljava/util/List;", .lays "java/lang/Throwable" "java/lang/Throwable" "detailMessage" "Ljava/lang/String;", .instanceMethod ⟨"java/lang/IllegalArgumentException", "<init>", "()V"⟩, .code ⟨"java/lang/IllegalArgumentException", "<init>", "()V"⟩ prog_11_method_1_code 1 none, .methodLink "java/lang/IllegalArgumentException" 1 ⟨"java/lang/RuntimeException", "<init>", "()V"⟩, .instanceMethod ⟨"java/lang/RuntimeException", "<init>", "()V"⟩, .declares ⟨"java/lang/RuntimeException", "<init>", "()V"⟩, .instanceMethod ⟨"java/lang/RuntimeException", "<init>", "()V"⟩, .code ⟨"java/lang/RuntimeException", "<init>", "()V"⟩ prog_13_method_1_code 1 none, .methodLink "java/lang/RuntimeException" 1 ⟨"java/lang/Exception", "<init>", "()V"⟩, .instanceMethod ⟨"java/lang/Exception", "<init>", "()V"⟩, .declares ⟨"java/lang/Exception", "<init>", "()V"⟩, .instanceMethod ⟨"java/lang/Exception", "<init>", "()V"⟩, .code ⟨"java/lang/Exception", "<init>", "()V"⟩ prog_10_method_1_code 1 none, .methodLink "java/lang/Exception" 1 ⟨"java/lang/Throwable", "<init>", "()V"⟩, .instanceMethod ⟨"java/lang/Throwable", "<init>", "()V"⟩, .declares ⟨"java/lang/Throwable", "<init>", "()V"⟩, .methodLink "CoreDesk" 113 ⟨"java/lang/IllegalArgumentException", "<init>", "()V"⟩, .instantiable "java/lang/IllegalArgumentException" 6, .castable "java/lang/IllegalArgumentException" "java/lang/IllegalArgumentException", .selects "java/lang/IllegalArgumentException" ⟨"java/lang/Throwable", "fillInStackTrace", "(I)Ljava/lang/Throwable;"⟩ ⟨"java/lang/Throwable", "fillInStackTrace", "(I)Ljava/lang/Throwable;"⟩, .selects "java/lang/IllegalArgumentException" ⟨"java/lang/Throwable", "fillInStackTrace", "()Ljava/lang/Throwable;"⟩ ⟨"java/lang/Throwable", "fillInStackTrace", "()Ljava/lang/Throwable;"⟩, .lays "java/lang/IllegalArgumentException" "java/lang/Throwable" "cause" "Ljava/lang/Throwable;", .lays "java/lang/IllegalArgumentException" "java/lang/Throwable" "stackTrace" "[Ljava/lang/StackTraceElement;", .lays "java/lang/IllegalArgumentException" "java/lang/Throwable" "suppressedExceptions" "Ljava/util/List;", .lays "java/lang/IllegalArgumentException" "java/lang/Throwable" "detailMessage" "Ljava/lang/String;", .isRef (.static Bundle.tN "UNASSIGNED_STACK" Bundle.steD), .isRef (.static Bundle.tN "SUPPRESSED_SENTINEL" Bundle.listD), .fieldLink "java/lang/Throwable" 198 "java/lang/Throwable" "backtrace" "Ljava/lang/Object;", .lays "java/lang/Throwable" "java/lang/Throwable" "backtrace" "Ljava/lang/Object;", .lays "java/lang/IllegalArgumentException" "java/lang/Throwable" "backtrace" "Ljava/lang/Object;"] : List Cond) := ha
  simp only [List.mem_cons, List.not_mem_nil, or_false] at h
  rcases h with rfl | rfl | rfl | rfl | rfl | rfl | rfl | rfl | rfl | rfl | rfl | rfl | rfl | rfl | rfl | rfl | rfl | rfl | rfl | rfl | rfl | rfl | rfl | rfl | rfl | rfl | rfl | rfl | rfl | rfl | rfl | rfl | rfl | rfl | rfl | rfl | rfl | rfl | rfl | rfl | rfl | rfl | rfl | rfl | rfl | rfl | rfl | rfl | rfl | rfl | rfl | rfl | rfl
  · exact Or.inl aw_11
  · exact Or.inr tx_0
  · exact Or.inl aw_487
  · exact Or.inr tx_1
  · exact Or.inl aw_490
  · exact Or.inl aw_492
  · exact Or.inl aw_481
  · exact Or.inl aw_482
  · exact Or.inl aw_22
  · exact Or.inl aw_23
  · exact Or.inl aw_483
  · exact Or.inl aw_486
  · exact Or.inl aw_489
  · exact Or.inl aw_503
  · exact Or.inl aw_471
  · exact Or.inl aw_504
  · exact Or.inl aw_473
  · exact Or.inl aw_505
  · exact Or.inl aw_475
  · exact Or.inl aw_484
  · exact Or.inr tx_2
  · exact Or.inl aw_485
  · exact Or.inr tx_3
  · exact Or.inl aw_477
  · exact Or.inl aw_494
  · exact Or.inl aw_495
  · exact Or.inl aw_496
  · exact Or.inl aw_497
  · exact Or.inr tx_4
  · exact Or.inl aw_497
  · exact Or.inl aw_498
  · exact Or.inl aw_499
  · exact Or.inl aw_500
  · exact Or.inr tx_5
  · exact Or.inl aw_500
  · exact Or.inl aw_501
  · exact Or.inl aw_502
  · exact Or.inl aw_481
  · exact Or.inr tx_6
  · exact Or.inl aw_493
  · exact Or.inl aw_467
  · exact Or.inr tx_7
  · exact Or.inl aw_468
  · exact Or.inl aw_469
  · exact Or.inl aw_470
  · exact Or.inl aw_472
  · exact Or.inl aw_474
  · exact Or.inl aw_476
  · exact Or.inr tx_9
  · exact Or.inr tx_10
  · exact Or.inl aw_480
  · exact Or.inl aw_479
  · exact Or.inl aw_478
theorem tw_at_register : ∀ a ∈ Bundle.ownAtoms0 "CoreDesk" 145 "java/lang/IndexOutOfBoundsException" ["java/lang/RuntimeException", "java/lang/Exception"], a ∈ cd_AW ∨ a ∈ tw_X := by
  intro a ha
  have h : a ∈ ([.initialized "java/lang/Throwable", .superclass "java/lang/Throwable" "java/lang/Object", .instanceMethod ⟨"java/lang/Throwable", "fillInStackTrace", "()Ljava/lang/Throwable;"⟩, .codeSync ⟨"java/lang/Throwable", "fillInStackTrace", "()Ljava/lang/Throwable;"⟩ prog_15_method_18_code 1 (some (.object "java/lang/Throwable")), .instanceMethod ⟨"java/lang/Throwable", "fillInStackTrace", "(I)Ljava/lang/Throwable;"⟩, .native ⟨"java/lang/Throwable", "fillInStackTrace", "(I)Ljava/lang/Throwable;"⟩, .instanceMethod ⟨"java/lang/Throwable", "<init>", "()V"⟩, .code ⟨"java/lang/Throwable", "<init>", "()V"⟩ prog_15_method_1_code 1 none, .instanceMethod objectInit, .code objectInit object_method_1_code 1 none, .methodLink "java/lang/Throwable" 1 objectInit, .methodLink "java/lang/Throwable" 27 ⟨"java/lang/Throwable", "fillInStackTrace", "()Ljava/lang/Throwable;"⟩, .methodLink "java/lang/Throwable" 202 ⟨"java/lang/Throwable", "fillInStackTrace", "(I)Ljava/lang/Throwable;"⟩, .fieldLink "java/lang/Throwable" 7 "java/lang/Throwable" "cause" "Ljava/lang/Throwable;", .lays "java/lang/Throwable" "java/lang/Throwable" "cause" "Ljava/lang/Throwable;", .fieldLink "java/lang/Throwable" 17 "java/lang/Throwable" "stackTrace" "[Ljava/lang/StackTraceElement;", .lays "java/lang/Throwable" "java/lang/Throwable" "stackTrace" "[Ljava/lang/StackTraceElement;", .fieldLink "java/lang/Throwable" 24 "java/lang/Throwable" "suppressedExceptions" "Ljava/util/List;", .lays "java/lang/Throwable" "java/lang/Throwable" "suppressedExceptions" "Ljava/util/List;", .fieldLink "java/lang/Throwable" 13 "java/lang/Throwable" "UNASSIGNED_STACK" "[Ljava/lang/StackTraceElement;", .laysStatic "java/lang/Throwable" "UNASSIGNED_STACK" "[Ljava/lang/StackTraceElement;", .fieldLink "java/lang/Throwable" 20 "java/lang/Throwable" "SUPPRESSED_SENTINEL" "Ljava/util/List;", .laysStatic "java/lang/Throwable" "SUPPRESSED_SENTINEL" "Ljava/util/List;", .lays "java/lang/Throwable" "java/lang/Throwable" "detailMessage" "Ljava/lang/String;", .instanceMethod ⟨"java/lang/IndexOutOfBoundsException", "<init>", "()V"⟩, .code ⟨"java/lang/IndexOutOfBoundsException", "<init>", "()V"⟩ prog_12_method_1_code 1 none, .methodLink "java/lang/IndexOutOfBoundsException" 1 ⟨"java/lang/RuntimeException", "<init>", "()V"⟩, .instanceMethod ⟨"java/lang/RuntimeException", "<init>", "()V"⟩, .declares ⟨"java/lang/RuntimeException", "<init>", "()V"⟩, .instanceMethod ⟨"java/lang/RuntimeException", "<init>", "()V"⟩, .code ⟨"java/lang/RuntimeException", "<init>", "()V"⟩ prog_13_method_1_code 1 none, .methodLink "java/lang/RuntimeException" 1 ⟨"java/lang/Exception", "<init>", "()V"⟩, .instanceMethod ⟨"java/lang/Exception", "<init>", "()V"⟩, .declares ⟨"java/lang/Exception", "<init>", "()V"⟩, .instanceMethod ⟨"java/lang/Exception", "<init>", "()V"⟩, .code ⟨"java/lang/Exception", "<init>", "()V"⟩ prog_10_method_1_code 1 none, .methodLink "java/lang/Exception" 1 ⟨"java/lang/Throwable", "<init>", "()V"⟩, .instanceMethod ⟨"java/lang/Throwable", "<init>", "()V"⟩, .declares ⟨"java/lang/Throwable", "<init>", "()V"⟩, .methodLink "CoreDesk" 145 ⟨"java/lang/IndexOutOfBoundsException", "<init>", "()V"⟩, .instantiable "java/lang/IndexOutOfBoundsException" 6, .castable "java/lang/IndexOutOfBoundsException" "java/lang/IndexOutOfBoundsException", .selects "java/lang/IndexOutOfBoundsException" ⟨"java/lang/Throwable", "fillInStackTrace", "(I)Ljava/lang/Throwable;"⟩ ⟨"java/lang/Throwable", "fillInStackTrace", "(I)Ljava/lang/Throwable;"⟩, .selects "java/lang/IndexOutOfBoundsException" ⟨"java/lang/Throwable", "fillInStackTrace", "()Ljava/lang/Throwable;"⟩ ⟨"java/lang/Throwable", "fillInStackTrace", "()Ljava/lang/Throwable;"⟩, .lays "java/lang/IndexOutOfBoundsException" "java/lang/Throwable" "cause" "Ljava/lang/Throwable;", .lays "java/lang/IndexOutOfBoundsException" "java/lang/Throwable" "stackTrace" "[Ljava/lang/StackTraceElement;", .lays "java/lang/IndexOutOfBoundsException" "java/lang/Throwable" "suppressedExceptions" "Ljava/util/List;", .lays "java/lang/IndexOutOfBoundsException" "java/lang/Throwable" "detailMessage" "Ljava/lang/String;", .isRef (.static Bundle.tN "UNASSIGNED_STACK" Bundle.steD), .isRef (.static Bundle.tN "SUPPRESSED_SENTINEL" Bundle.listD), .fieldLink "java/lang/Throwable" 198 "java/lang/Throwable" "backtrace" "Ljava/lang/Object;", .lays "java/lang/Throwable" "java/lang/Throwable" "backtrace" "Ljava/lang/Object;", .lays "java/lang/IndexOutOfBoundsException" "java/lang/Throwable" "backtrace" "Ljava/lang/Object;"] : List Cond) := ha
  simp only [List.mem_cons, List.not_mem_nil, or_false] at h
  rcases h with rfl | rfl | rfl | rfl | rfl | rfl | rfl | rfl | rfl | rfl | rfl | rfl | rfl | rfl | rfl | rfl | rfl | rfl | rfl | rfl | rfl | rfl | rfl | rfl | rfl | rfl | rfl | rfl | rfl | rfl | rfl | rfl | rfl | rfl | rfl | rfl | rfl | rfl | rfl | rfl | rfl | rfl | rfl | rfl | rfl | rfl | rfl | rfl | rfl | rfl | rfl | rfl | rfl
  · exact Or.inl aw_11
  · exact Or.inr tx_0
  · exact Or.inl aw_487
  · exact Or.inr tx_1
  · exact Or.inl aw_490
  · exact Or.inl aw_492
  · exact Or.inl aw_481
  · exact Or.inl aw_482
  · exact Or.inl aw_22
  · exact Or.inl aw_23
  · exact Or.inl aw_483
  · exact Or.inl aw_486
  · exact Or.inl aw_489
  · exact Or.inl aw_503
  · exact Or.inl aw_471
  · exact Or.inl aw_504
  · exact Or.inl aw_473
  · exact Or.inl aw_505
  · exact Or.inl aw_475
  · exact Or.inl aw_484
  · exact Or.inr tx_2
  · exact Or.inl aw_485
  · exact Or.inr tx_3
  · exact Or.inl aw_477
  · exact Or.inl aw_550
  · exact Or.inl aw_551
  · exact Or.inl aw_552
  · exact Or.inl aw_497
  · exact Or.inr tx_4
  · exact Or.inl aw_497
  · exact Or.inl aw_498
  · exact Or.inl aw_499
  · exact Or.inl aw_500
  · exact Or.inr tx_5
  · exact Or.inl aw_500
  · exact Or.inl aw_501
  · exact Or.inl aw_502
  · exact Or.inl aw_481
  · exact Or.inr tx_6
  · exact Or.inl aw_549
  · exact Or.inl aw_542
  · exact Or.inr tx_8
  · exact Or.inl aw_543
  · exact Or.inl aw_488
  · exact Or.inl aw_544
  · exact Or.inl aw_545
  · exact Or.inl aw_546
  · exact Or.inl aw_547
  · exact Or.inr tx_9
  · exact Or.inr tx_10
  · exact Or.inl aw_480
  · exact Or.inl aw_479
  · exact Or.inl aw_548

/-- the words beside the tables' that a throw needs -/
def tw_Y (A : Nat → Prop) (U : State) : Prop := ∀ c ∈ tw_X, tw_G c A U
theorem tw_Y.to {A : Nat → Prop} {U V : State} (h : tw_Y A U) (hW : U.WarmedH V.vm) (hq : ∀ q, q < U.heap.size → ¬ A q → V.heap[q]? = U.heap[q]?) (hs : U.heap.size ≤ V.heap.size) : tw_Y A V := fun c hc => (h c hc).to hW hq hs
theorem tw_all {l : List Cond} {A : Nat → Prop} {U : State} {args : Array Value} (hl : ∀ a ∈ l, a ∈ cd_AW ∨ a ∈ tw_X) (hA : ∀ w ∈ cd_AW, w.before args U = true) (hY : tw_Y A U) : ∀ a ∈ l, tw_G a A U := fun a ha => (hl a ha).elim (fun h => tw_G.word (cd_AW_ok a h) (hA a h)) (fun h => hY a h)
