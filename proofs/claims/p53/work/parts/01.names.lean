-- ===== PART A: goes FIRST, ahead of the names: the tables' words, and 'selects' of the private methods out of them =====
/-- a private method of a class that the tables say can be made, by its rows of tables_1 -/
def lw_okq (q : MethodName × Nat) : Prop := (q.1.cls ≠ "java/lang/invoke/MethodHandle" ∧ q.1.cls ≠ "java/lang/invoke/VarHandle") ∧ Cond.instantiable q.1.cls q.2 ∈ tables_1 ∧ Cond.privateMethod q.1 ∈ tables_1 ∧ Cond.instanceMethod q.1 ∈ tables_1
theorem lw_p0 : lw_okq (⟨"PointsToSolver$Parser", "read", "(ILPointsToSolver$Program;)I"⟩, 9) := ⟨⟨by decide +kernel, by decide +kernel⟩, List.mem_of_getElem? (i := 37) (by decide +kernel), List.mem_of_getElem? (i := 322) (by decide +kernel), List.mem_of_getElem? (i := 323) (by decide +kernel)⟩
theorem lw_p1 : lw_okq (⟨"PointsToSolver$Program", "clear", "()V"⟩, 7) := ⟨⟨by decide +kernel, by decide +kernel⟩, List.mem_of_getElem? (i := 74) (by decide +kernel), List.mem_of_getElem? (i := 327) (by decide +kernel), List.mem_of_getElem? (i := 328) (by decide +kernel)⟩
theorem lw_p2 : lw_okq (⟨"PointsToSolver$ConstraintList", "clear", "()V"⟩, 6) := ⟨⟨by decide +kernel, by decide +kernel⟩, List.mem_of_getElem? (i := 102) (by decide +kernel), List.mem_of_getElem? (i := 331) (by decide +kernel), List.mem_of_getElem? (i := 332) (by decide +kernel)⟩
theorem lw_p3 : lw_okq (⟨"PointsToSolver$Parser", "nextToken", "()V"⟩, 9) := ⟨⟨by decide +kernel, by decide +kernel⟩, List.mem_of_getElem? (i := 37) (by decide +kernel), List.mem_of_getElem? (i := 335) (by decide +kernel), List.mem_of_getElem? (i := 336) (by decide +kernel)⟩
theorem lw_p4 : lw_okq (⟨"PointsToSolver$Parser", "readWord", "()V"⟩, 9) := ⟨⟨by decide +kernel, by decide +kernel⟩, List.mem_of_getElem? (i := 37) (by decide +kernel), List.mem_of_getElem? (i := 345) (by decide +kernel), List.mem_of_getElem? (i := 346) (by decide +kernel)⟩
theorem lw_p5 : lw_okq (⟨"PointsToSolver$Parser", "readStatement", "(LPointsToSolver$Program;)V"⟩, 9) := ⟨⟨by decide +kernel, by decide +kernel⟩, List.mem_of_getElem? (i := 37) (by decide +kernel), List.mem_of_getElem? (i := 349) (by decide +kernel), List.mem_of_getElem? (i := 350) (by decide +kernel)⟩
theorem lw_p6 : lw_okq (⟨"PointsToSolver$Parser", "keyword", "()I"⟩, 9) := ⟨⟨by decide +kernel, by decide +kernel⟩, List.mem_of_getElem? (i := 37) (by decide +kernel), List.mem_of_getElem? (i := 353) (by decide +kernel), List.mem_of_getElem? (i := 354) (by decide +kernel)⟩
theorem lw_p7 : lw_okq (⟨"PointsToSolver$Parser", "fail", "(I)V"⟩, 9) := ⟨⟨by decide +kernel, by decide +kernel⟩, List.mem_of_getElem? (i := 37) (by decide +kernel), List.mem_of_getElem? (i := 359) (by decide +kernel), List.mem_of_getElem? (i := 360) (by decide +kernel)⟩
theorem lw_p8 : lw_okq (⟨"PointsToSolver$ConstraintList", "isFull", "()Z"⟩, 6) := ⟨⟨by decide +kernel, by decide +kernel⟩, List.mem_of_getElem? (i := 102) (by decide +kernel), List.mem_of_getElem? (i := 363) (by decide +kernel), List.mem_of_getElem? (i := 364) (by decide +kernel)⟩
theorem lw_p9 : lw_okq (⟨"PointsToSolver$Parser", "readOperand", "(LPointsToSolver$Program;II)I"⟩, 9) := ⟨⟨by decide +kernel, by decide +kernel⟩, List.mem_of_getElem? (i := 37) (by decide +kernel), List.mem_of_getElem? (i := 372) (by decide +kernel), List.mem_of_getElem? (i := 373) (by decide +kernel)⟩
theorem lw_p10 : lw_okq (⟨"PointsToSolver$NameTable", "numberOf", "(J)I"⟩, 3) := ⟨⟨by decide +kernel, by decide +kernel⟩, List.mem_of_getElem? (i := 80) (by decide +kernel), List.mem_of_getElem? (i := 379) (by decide +kernel), List.mem_of_getElem? (i := 380) (by decide +kernel)⟩
theorem lw_p11 : lw_okq (⟨"PointsToSolver$Program", "isFunction", "(I)Z"⟩, 7) := ⟨⟨by decide +kernel, by decide +kernel⟩, List.mem_of_getElem? (i := 74) (by decide +kernel), List.mem_of_getElem? (i := 383) (by decide +kernel), List.mem_of_getElem? (i := 384) (by decide +kernel)⟩
theorem lw_p12 : lw_okq (⟨"PointsToSolver$Parser", "accept", "(LPointsToSolver$Program;I)V"⟩, 9) := ⟨⟨by decide +kernel, by decide +kernel⟩, List.mem_of_getElem? (i := 37) (by decide +kernel), List.mem_of_getElem? (i := 390) (by decide +kernel), List.mem_of_getElem? (i := 391) (by decide +kernel)⟩
theorem lw_p13 : lw_okq (⟨"PointsToSolver$Program", "declareFunction", "(III)V"⟩, 7) := ⟨⟨by decide +kernel, by decide +kernel⟩, List.mem_of_getElem? (i := 74) (by decide +kernel), List.mem_of_getElem? (i := 394) (by decide +kernel), List.mem_of_getElem? (i := 395) (by decide +kernel)⟩
theorem lw_p14 : lw_okq (⟨"PointsToSolver$ConstraintList", "add", "(IIII)V"⟩, 6) := ⟨⟨by decide +kernel, by decide +kernel⟩, List.mem_of_getElem? (i := 102) (by decide +kernel), List.mem_of_getElem? (i := 398) (by decide +kernel), List.mem_of_getElem? (i := 399) (by decide +kernel)⟩
theorem lw_p15 : lw_okq (⟨"PointsToSolver$History", "clear", "()V"⟩, 3) := ⟨⟨by decide +kernel, by decide +kernel⟩, List.mem_of_getElem? (i := 173) (by decide +kernel), List.mem_of_getElem? (i := 403) (by decide +kernel), List.mem_of_getElem? (i := 404) (by decide +kernel)⟩
def lw_privs_1 : List (MethodName × Nat) := [(⟨"PointsToSolver$Parser", "read", "(ILPointsToSolver$Program;)I"⟩, 9), (⟨"PointsToSolver$Program", "clear", "()V"⟩, 7), (⟨"PointsToSolver$ConstraintList", "clear", "()V"⟩, 6), (⟨"PointsToSolver$Parser", "nextToken", "()V"⟩, 9), (⟨"PointsToSolver$Parser", "readWord", "()V"⟩, 9), (⟨"PointsToSolver$Parser", "readStatement", "(LPointsToSolver$Program;)V"⟩, 9), (⟨"PointsToSolver$Parser", "keyword", "()I"⟩, 9), (⟨"PointsToSolver$Parser", "fail", "(I)V"⟩, 9), (⟨"PointsToSolver$ConstraintList", "isFull", "()Z"⟩, 6), (⟨"PointsToSolver$Parser", "readOperand", "(LPointsToSolver$Program;II)I"⟩, 9), (⟨"PointsToSolver$NameTable", "numberOf", "(J)I"⟩, 3), (⟨"PointsToSolver$Program", "isFunction", "(I)Z"⟩, 7), (⟨"PointsToSolver$Parser", "accept", "(LPointsToSolver$Program;I)V"⟩, 9), (⟨"PointsToSolver$Program", "declareFunction", "(III)V"⟩, 7), (⟨"PointsToSolver$ConstraintList", "add", "(IIII)V"⟩, 6), (⟨"PointsToSolver$History", "clear", "()V"⟩, 3)]
theorem lw_r1 : ∀ q ∈ lw_privs_1, lw_okq q := List.forall_mem_cons.mpr ⟨lw_p0, List.forall_mem_cons.mpr ⟨lw_p1, List.forall_mem_cons.mpr ⟨lw_p2, List.forall_mem_cons.mpr ⟨lw_p3, List.forall_mem_cons.mpr ⟨lw_p4, List.forall_mem_cons.mpr ⟨lw_p5, List.forall_mem_cons.mpr ⟨lw_p6, List.forall_mem_cons.mpr ⟨lw_p7, List.forall_mem_cons.mpr ⟨lw_p8, List.forall_mem_cons.mpr ⟨lw_p9, List.forall_mem_cons.mpr ⟨lw_p10, List.forall_mem_cons.mpr ⟨lw_p11, List.forall_mem_cons.mpr ⟨lw_p12, List.forall_mem_cons.mpr ⟨lw_p13, List.forall_mem_cons.mpr ⟨lw_p14, List.forall_mem_cons.mpr ⟨lw_p15, fun _ h => absurd h List.not_mem_nil⟩⟩⟩⟩⟩⟩⟩⟩⟩⟩⟩⟩⟩⟩⟩⟩
theorem lw_p16 : lw_okq (⟨"PointsToSolver", "settle", "()V"⟩, 12) := ⟨⟨by decide +kernel, by decide +kernel⟩, List.mem_of_getElem? (i := 29) (by decide +kernel), List.mem_of_getElem? (i := 407) (by decide +kernel), List.mem_of_getElem? (i := 408) (by decide +kernel)⟩
theorem lw_p17 : lw_okq (⟨"PointsToSolver$Solution", "solve", "(LPointsToSolver$Program;)V"⟩, 11) := ⟨⟨by decide +kernel, by decide +kernel⟩, List.mem_of_getElem? (i := 192) (by decide +kernel), List.mem_of_getElem? (i := 411) (by decide +kernel), List.mem_of_getElem? (i := 412) (by decide +kernel)⟩
theorem lw_p18 : lw_okq (⟨"PointsToSolver$ConstraintList", "isEnabled", "(I)Z"⟩, 6) := ⟨⟨by decide +kernel, by decide +kernel⟩, List.mem_of_getElem? (i := 102) (by decide +kernel), List.mem_of_getElem? (i := 421) (by decide +kernel), List.mem_of_getElem? (i := 422) (by decide +kernel)⟩
theorem lw_p19 : lw_okq (⟨"PointsToSolver$Solution", "apply", "(LPointsToSolver$Program;II)V"⟩, 11) := ⟨⟨by decide +kernel, by decide +kernel⟩, List.mem_of_getElem? (i := 192) (by decide +kernel), List.mem_of_getElem? (i := 426) (by decide +kernel), List.mem_of_getElem? (i := 427) (by decide +kernel)⟩
theorem lw_p20 : lw_okq (⟨"PointsToSolver$Solution", "applyNew", "(LPointsToSolver$ConstraintList;II)V"⟩, 11) := ⟨⟨by decide +kernel, by decide +kernel⟩, List.mem_of_getElem? (i := 192) (by decide +kernel), List.mem_of_getElem? (i := 430) (by decide +kernel), List.mem_of_getElem? (i := 431) (by decide +kernel)⟩
theorem lw_p21 : lw_okq (⟨"PointsToSolver$Solution", "addFact", "(IIII)V"⟩, 11) := ⟨⟨by decide +kernel, by decide +kernel⟩, List.mem_of_getElem? (i := 192) (by decide +kernel), List.mem_of_getElem? (i := 435) (by decide +kernel), List.mem_of_getElem? (i := 436) (by decide +kernel)⟩
theorem lw_p22 : lw_okq (⟨"PointsToSolver$Program", "viasIn", "([II)I"⟩, 7) := ⟨⟨by decide +kernel, by decide +kernel⟩, List.mem_of_getElem? (i := 74) (by decide +kernel), List.mem_of_getElem? (i := 442) (by decide +kernel), List.mem_of_getElem? (i := 443) (by decide +kernel)⟩
theorem lw_p23 : lw_okq (⟨"PointsToSolver$Program", "viaSlot", "(I)I"⟩, 7) := ⟨⟨by decide +kernel, by decide +kernel⟩, List.mem_of_getElem? (i := 74) (by decide +kernel), List.mem_of_getElem? (i := 446) (by decide +kernel), List.mem_of_getElem? (i := 447) (by decide +kernel)⟩
theorem lw_p24 : lw_okq (⟨"PointsToSolver$Program", "flowCount", "(I)I"⟩, 7) := ⟨⟨by decide +kernel, by decide +kernel⟩, List.mem_of_getElem? (i := 74) (by decide +kernel), List.mem_of_getElem? (i := 450) (by decide +kernel), List.mem_of_getElem? (i := 451) (by decide +kernel)⟩
theorem lw_p25 : lw_okq (⟨"PointsToSolver$Solution", "applyFlow", "(LPointsToSolver$Program;IIII)V"⟩, 11) := ⟨⟨by decide +kernel, by decide +kernel⟩, List.mem_of_getElem? (i := 192) (by decide +kernel), List.mem_of_getElem? (i := 454) (by decide +kernel), List.mem_of_getElem? (i := 455) (by decide +kernel)⟩
theorem lw_p26 : lw_okq (⟨"PointsToSolver$Program", "flowSource", "(III)I"⟩, 7) := ⟨⟨by decide +kernel, by decide +kernel⟩, List.mem_of_getElem? (i := 74) (by decide +kernel), List.mem_of_getElem? (i := 458) (by decide +kernel), List.mem_of_getElem? (i := 459) (by decide +kernel)⟩
theorem lw_p27 : lw_okq (⟨"PointsToSolver$Program", "flowTarget", "(III)I"⟩, 7) := ⟨⟨by decide +kernel, by decide +kernel⟩, List.mem_of_getElem? (i := 74) (by decide +kernel), List.mem_of_getElem? (i := 465) (by decide +kernel), List.mem_of_getElem? (i := 466) (by decide +kernel)⟩
theorem lw_p28 : lw_okq (⟨"PointsToSolver$Solution", "derive", "(III)V"⟩, 11) := ⟨⟨by decide +kernel, by decide +kernel⟩, List.mem_of_getElem? (i := 192) (by decide +kernel), List.mem_of_getElem? (i := 470) (by decide +kernel), List.mem_of_getElem? (i := 471) (by decide +kernel)⟩
theorem lw_p29 : lw_okq (⟨"PointsToSolver$Solution", "supply", "(III)V"⟩, 11) := ⟨⟨by decide +kernel, by decide +kernel⟩, List.mem_of_getElem? (i := 192) (by decide +kernel), List.mem_of_getElem? (i := 474) (by decide +kernel), List.mem_of_getElem? (i := 475) (by decide +kernel)⟩
theorem lw_p30 : lw_okq (⟨"PointsToSolver$Program", "slotAt", "(I)I"⟩, 7) := ⟨⟨by decide +kernel, by decide +kernel⟩, List.mem_of_getElem? (i := 74) (by decide +kernel), List.mem_of_getElem? (i := 502) (by decide +kernel), List.mem_of_getElem? (i := 503) (by decide +kernel)⟩
theorem lw_p31 : lw_okq (⟨"PointsToSolver", "findFact", "(II)I"⟩, 12) := ⟨⟨by decide +kernel, by decide +kernel⟩, List.mem_of_getElem? (i := 29) (by decide +kernel), List.mem_of_getElem? (i := 510) (by decide +kernel), List.mem_of_getElem? (i := 511) (by decide +kernel)⟩
def lw_privs_2 : List (MethodName × Nat) := [(⟨"PointsToSolver", "settle", "()V"⟩, 12), (⟨"PointsToSolver$Solution", "solve", "(LPointsToSolver$Program;)V"⟩, 11), (⟨"PointsToSolver$ConstraintList", "isEnabled", "(I)Z"⟩, 6), (⟨"PointsToSolver$Solution", "apply", "(LPointsToSolver$Program;II)V"⟩, 11), (⟨"PointsToSolver$Solution", "applyNew", "(LPointsToSolver$ConstraintList;II)V"⟩, 11), (⟨"PointsToSolver$Solution", "addFact", "(IIII)V"⟩, 11), (⟨"PointsToSolver$Program", "viasIn", "([II)I"⟩, 7), (⟨"PointsToSolver$Program", "viaSlot", "(I)I"⟩, 7), (⟨"PointsToSolver$Program", "flowCount", "(I)I"⟩, 7), (⟨"PointsToSolver$Solution", "applyFlow", "(LPointsToSolver$Program;IIII)V"⟩, 11), (⟨"PointsToSolver$Program", "flowSource", "(III)I"⟩, 7), (⟨"PointsToSolver$Program", "flowTarget", "(III)I"⟩, 7), (⟨"PointsToSolver$Solution", "derive", "(III)V"⟩, 11), (⟨"PointsToSolver$Solution", "supply", "(III)V"⟩, 11), (⟨"PointsToSolver$Program", "slotAt", "(I)I"⟩, 7), (⟨"PointsToSolver", "findFact", "(II)I"⟩, 12)]
theorem lw_r2 : ∀ q ∈ lw_privs_2, lw_okq q := List.forall_mem_cons.mpr ⟨lw_p16, List.forall_mem_cons.mpr ⟨lw_p17, List.forall_mem_cons.mpr ⟨lw_p18, List.forall_mem_cons.mpr ⟨lw_p19, List.forall_mem_cons.mpr ⟨lw_p20, List.forall_mem_cons.mpr ⟨lw_p21, List.forall_mem_cons.mpr ⟨lw_p22, List.forall_mem_cons.mpr ⟨lw_p23, List.forall_mem_cons.mpr ⟨lw_p24, List.forall_mem_cons.mpr ⟨lw_p25, List.forall_mem_cons.mpr ⟨lw_p26, List.forall_mem_cons.mpr ⟨lw_p27, List.forall_mem_cons.mpr ⟨lw_p28, List.forall_mem_cons.mpr ⟨lw_p29, List.forall_mem_cons.mpr ⟨lw_p30, List.forall_mem_cons.mpr ⟨lw_p31, fun _ h => absurd h List.not_mem_nil⟩⟩⟩⟩⟩⟩⟩⟩⟩⟩⟩⟩⟩⟩⟩⟩
theorem lw_p32 : lw_okq (⟨"PointsToSolver", "isObject", "(I)Z"⟩, 12) := ⟨⟨by decide +kernel, by decide +kernel⟩, List.mem_of_getElem? (i := 29) (by decide +kernel), List.mem_of_getElem? (i := 514) (by decide +kernel), List.mem_of_getElem? (i := 515) (by decide +kernel)⟩
theorem lw_p33 : lw_okq (⟨"PointsToSolver", "graphed", "()LPointsToSolver$CopyGraph;"⟩, 12) := ⟨⟨by decide +kernel, by decide +kernel⟩, List.mem_of_getElem? (i := 29) (by decide +kernel), List.mem_of_getElem? (i := 524) (by decide +kernel), List.mem_of_getElem? (i := 525) (by decide +kernel)⟩
theorem lw_p34 : lw_okq (⟨"PointsToSolver$CopyGraph", "build", "(LPointsToSolver$Program;LPointsToSolver$Solution;)V"⟩, 4) := ⟨⟨by decide +kernel, by decide +kernel⟩, List.mem_of_getElem? (i := 237) (by decide +kernel), List.mem_of_getElem? (i := 528) (by decide +kernel), List.mem_of_getElem? (i := 529) (by decide +kernel)⟩
theorem lw_p35 : lw_okq (⟨"PointsToSolver$CopyGraph", "addEdges", "(LPointsToSolver$Program;II)V"⟩, 4) := ⟨⟨by decide +kernel, by decide +kernel⟩, List.mem_of_getElem? (i := 237) (by decide +kernel), List.mem_of_getElem? (i := 537) (by decide +kernel), List.mem_of_getElem? (i := 538) (by decide +kernel)⟩
theorem lw_p36 : lw_okq (⟨"PointsToSolver$CopyGraph", "findExisting", "(LPointsToSolver$Program;)V"⟩, 4) := ⟨⟨by decide +kernel, by decide +kernel⟩, List.mem_of_getElem? (i := 237) (by decide +kernel), List.mem_of_getElem? (i := 545) (by decide +kernel), List.mem_of_getElem? (i := 546) (by decide +kernel)⟩
theorem lw_p37 : lw_okq (⟨"PointsToSolver$CopyGraph", "findReached", "()V"⟩, 4) := ⟨⟨by decide +kernel, by decide +kernel⟩, List.mem_of_getElem? (i := 237) (by decide +kernel), List.mem_of_getElem? (i := 553) (by decide +kernel), List.mem_of_getElem? (i := 554) (by decide +kernel)⟩
theorem lw_p38 : lw_okq (⟨"PointsToSolver$CopyGraph", "findComponents", "()V"⟩, 4) := ⟨⟨by decide +kernel, by decide +kernel⟩, List.mem_of_getElem? (i := 237) (by decide +kernel), List.mem_of_getElem? (i := 560) (by decide +kernel), List.mem_of_getElem? (i := 561) (by decide +kernel)⟩
theorem lw_p39 : lw_okq (⟨"PointsToSolver$CopyGraph", "countComponents", "(I)I"⟩, 4) := ⟨⟨by decide +kernel, by decide +kernel⟩, List.mem_of_getElem? (i := 237) (by decide +kernel), List.mem_of_getElem? (i := 564) (by decide +kernel), List.mem_of_getElem? (i := 565) (by decide +kernel)⟩
theorem lw_p40 : lw_okq (⟨"PointsToSolver$CopyGraph", "isLowest", "(I)Z"⟩, 4) := ⟨⟨by decide +kernel, by decide +kernel⟩, List.mem_of_getElem? (i := 237) (by decide +kernel), List.mem_of_getElem? (i := 568) (by decide +kernel), List.mem_of_getElem? (i := 569) (by decide +kernel)⟩
theorem lw_p41 : lw_okq (⟨"PointsToSolver$CopyGraph", "lowestOf", "(I)I"⟩, 4) := ⟨⟨by decide +kernel, by decide +kernel⟩, List.mem_of_getElem? (i := 237) (by decide +kernel), List.mem_of_getElem? (i := 572) (by decide +kernel), List.mem_of_getElem? (i := 573) (by decide +kernel)⟩
theorem lw_p42 : lw_okq (⟨"PointsToSolver$Parser", "appendWord", "(I)V"⟩, 9) := ⟨⟨by decide +kernel, by decide +kernel⟩, List.mem_of_getElem? (i := 37) (by decide +kernel), List.mem_of_getElem? (i := 644) (by decide +kernel), List.mem_of_getElem? (i := 645) (by decide +kernel)⟩
theorem lw_p43 : lw_okq (⟨"PointsToSolver", "isConstraint", "(I)Z"⟩, 12) := ⟨⟨by decide +kernel, by decide +kernel⟩, List.mem_of_getElem? (i := 29) (by decide +kernel), List.mem_of_getElem? (i := 893) (by decide +kernel), List.mem_of_getElem? (i := 894) (by decide +kernel)⟩
theorem lw_p44 : lw_okq (⟨"java/lang/Throwable", "fillInStackTrace", "(I)Ljava/lang/Throwable;"⟩, 6) := ⟨⟨by decide +kernel, by decide +kernel⟩, List.mem_of_getElem? (i := 933) (by decide +kernel), List.mem_of_getElem? (i := 931) (by decide +kernel), List.mem_of_getElem? (i := 932) (by decide +kernel)⟩
theorem lw_p45 : lw_okq (⟨"PointsToSolver$ConstraintList", "operandAt", "(II)I"⟩, 6) := ⟨⟨by decide +kernel, by decide +kernel⟩, List.mem_of_getElem? (i := 102) (by decide +kernel), List.mem_of_getElem? (i := 963) (by decide +kernel), List.mem_of_getElem? (i := 964) (by decide +kernel)⟩
theorem lw_p46 : lw_okq (⟨"PointsToSolver$CopyGraph", "countEdges", "()I"⟩, 4) := ⟨⟨by decide +kernel, by decide +kernel⟩, List.mem_of_getElem? (i := 237) (by decide +kernel), List.mem_of_getElem? (i := 994) (by decide +kernel), List.mem_of_getElem? (i := 995) (by decide +kernel)⟩
theorem lw_p47 : lw_okq (⟨"PointsToSolver$CopyGraph", "shortestPath", "(II)I"⟩, 4) := ⟨⟨by decide +kernel, by decide +kernel⟩, List.mem_of_getElem? (i := 237) (by decide +kernel), List.mem_of_getElem? (i := 1003) (by decide +kernel), List.mem_of_getElem? (i := 1004) (by decide +kernel)⟩
def lw_privs_3 : List (MethodName × Nat) := [(⟨"PointsToSolver", "isObject", "(I)Z"⟩, 12), (⟨"PointsToSolver", "graphed", "()LPointsToSolver$CopyGraph;"⟩, 12), (⟨"PointsToSolver$CopyGraph", "build", "(LPointsToSolver$Program;LPointsToSolver$Solution;)V"⟩, 4), (⟨"PointsToSolver$CopyGraph", "addEdges", "(LPointsToSolver$Program;II)V"⟩, 4), (⟨"PointsToSolver$CopyGraph", "findExisting", "(LPointsToSolver$Program;)V"⟩, 4), (⟨"PointsToSolver$CopyGraph", "findReached", "()V"⟩, 4), (⟨"PointsToSolver$CopyGraph", "findComponents", "()V"⟩, 4), (⟨"PointsToSolver$CopyGraph", "countComponents", "(I)I"⟩, 4), (⟨"PointsToSolver$CopyGraph", "isLowest", "(I)Z"⟩, 4), (⟨"PointsToSolver$CopyGraph", "lowestOf", "(I)I"⟩, 4), (⟨"PointsToSolver$Parser", "appendWord", "(I)V"⟩, 9), (⟨"PointsToSolver", "isConstraint", "(I)Z"⟩, 12), (⟨"java/lang/Throwable", "fillInStackTrace", "(I)Ljava/lang/Throwable;"⟩, 6), (⟨"PointsToSolver$ConstraintList", "operandAt", "(II)I"⟩, 6), (⟨"PointsToSolver$CopyGraph", "countEdges", "()I"⟩, 4), (⟨"PointsToSolver$CopyGraph", "shortestPath", "(II)I"⟩, 4)]
theorem lw_r3 : ∀ q ∈ lw_privs_3, lw_okq q := List.forall_mem_cons.mpr ⟨lw_p32, List.forall_mem_cons.mpr ⟨lw_p33, List.forall_mem_cons.mpr ⟨lw_p34, List.forall_mem_cons.mpr ⟨lw_p35, List.forall_mem_cons.mpr ⟨lw_p36, List.forall_mem_cons.mpr ⟨lw_p37, List.forall_mem_cons.mpr ⟨lw_p38, List.forall_mem_cons.mpr ⟨lw_p39, List.forall_mem_cons.mpr ⟨lw_p40, List.forall_mem_cons.mpr ⟨lw_p41, List.forall_mem_cons.mpr ⟨lw_p42, List.forall_mem_cons.mpr ⟨lw_p43, List.forall_mem_cons.mpr ⟨lw_p44, List.forall_mem_cons.mpr ⟨lw_p45, List.forall_mem_cons.mpr ⟨lw_p46, List.forall_mem_cons.mpr ⟨lw_p47, fun _ h => absurd h List.not_mem_nil⟩⟩⟩⟩⟩⟩⟩⟩⟩⟩⟩⟩⟩⟩⟩⟩
theorem lw_p48 : lw_okq (⟨"PointsToSolver$CopyGraph", "targetsOf", "(J)J"⟩, 4) := ⟨⟨by decide +kernel, by decide +kernel⟩, List.mem_of_getElem? (i := 237) (by decide +kernel), List.mem_of_getElem? (i := 1007) (by decide +kernel), List.mem_of_getElem? (i := 1008) (by decide +kernel)⟩
theorem lw_p49 : lw_okq (⟨"PointsToSolver$CopyGraph", "countCondensedEdges", "()I"⟩, 4) := ⟨⟨by decide +kernel, by decide +kernel⟩, List.mem_of_getElem? (i := 237) (by decide +kernel), List.mem_of_getElem? (i := 1030) (by decide +kernel), List.mem_of_getElem? (i := 1031) (by decide +kernel)⟩
theorem lw_p50 : lw_okq (⟨"PointsToSolver$CopyGraph", "lowestOfAll", "(J)J"⟩, 4) := ⟨⟨by decide +kernel, by decide +kernel⟩, List.mem_of_getElem? (i := 237) (by decide +kernel), List.mem_of_getElem? (i := 1035) (by decide +kernel), List.mem_of_getElem? (i := 1036) (by decide +kernel)⟩
def lw_privs_4 : List (MethodName × Nat) := [(⟨"PointsToSolver$CopyGraph", "targetsOf", "(J)J"⟩, 4), (⟨"PointsToSolver$CopyGraph", "countCondensedEdges", "()I"⟩, 4), (⟨"PointsToSolver$CopyGraph", "lowestOfAll", "(J)J"⟩, 4)]
theorem lw_r4 : ∀ q ∈ lw_privs_4, lw_okq q := List.forall_mem_cons.mpr ⟨lw_p48, List.forall_mem_cons.mpr ⟨lw_p49, List.forall_mem_cons.mpr ⟨lw_p50, fun _ h => absurd h List.not_mem_nil⟩⟩⟩
def lw_privs : List (MethodName × Nat) := lw_privs_1 ++ (lw_privs_2 ++ (lw_privs_3 ++ (lw_privs_4)))
def lw_tbl : List Cond := k2_sels lw_privs ++ tables_1
theorem lw_privs_ok : ∀ q ∈ lw_privs, lw_okq q := by
  show ∀ q ∈ lw_privs_1 ++ (lw_privs_2 ++ (lw_privs_3 ++ (lw_privs_4))), lw_okq q
  exact List.forall_mem_append.mpr ⟨lw_r1, List.forall_mem_append.mpr ⟨lw_r2, List.forall_mem_append.mpr ⟨lw_r3, lw_r4⟩⟩⟩

def RX0 : String := "PointsToSolver$ConstraintList"
def TX0 : u_T := fun k => match k with
  | 0 => ("PointsToSolver$ConstraintList", "kinds", "[I", true)
  | 1 => ("PointsToSolver$ConstraintList", "firsts", "[I", true)
  | 2 => ("PointsToSolver$ConstraintList", "seconds", "[I", true)
  | 3 => ("PointsToSolver$ConstraintList", "thirds", "[I", true)
  | 4 => ("PointsToSolver$ConstraintList", "count", "I", false)
  | _ => ("PointsToSolver$ConstraintList", "enabled", "I", false)
def tyX0 : Nat → FieldType := fun k => match k with
  | 0 => .array .int
  | 1 => .array .int
  | 2 => .array .int
  | 3 => .array .int
  | 4 => .int
  | _ => .int
abbrev wsX00 : List Cond := u_ws RX0 TX0 6
theorem nmX0 : ∀ a, a < 6 → ∀ b, b < 6 → a ≠ b → (TX0 a).2.1 ≠ (TX0 b).2.1 := by decide +kernel
theorem tyX0_ok : ∀ k, k < 6 → parseFieldDescriptor (TX0 k).2.2.1 = some (tyX0 k) := by decide +kernel
abbrev cX0_init : ByteArray := prog_2_method_1_code
def yX0_init : MethodName := ⟨RX0, "<init>", "()V"⟩
abbrev cX0_clear : ByteArray := prog_2_method_2_code
def yX0_clear : MethodName := ⟨RX0, "clear", "()V"⟩
abbrev cX0_isFull : ByteArray := prog_2_method_3_code
def yX0_isFull : MethodName := ⟨RX0, "isFull", "()Z"⟩
abbrev cX0_isEnabled : ByteArray := prog_2_method_4_code
def yX0_isEnabled : MethodName := ⟨RX0, "isEnabled", "(I)Z"⟩
abbrev cX0_operandAt : ByteArray := prog_2_method_6_code
def yX0_operandAt : MethodName := ⟨RX0, "operandAt", "(II)I"⟩
abbrev cX0_add : ByteArray := prog_2_method_7_code
def yX0_add : MethodName := ⟨RX0, "add", "(IIII)V"⟩
def RX1 : String := "PointsToSolver$CopyGraph"
def TX1 : u_T := fun k => match k with
  | 0 => ("PointsToSolver$CopyGraph", "targets", "[J", true)
  | 1 => ("PointsToSolver$CopyGraph", "reached", "[J", true)
  | 2 => ("PointsToSolver$CopyGraph", "components", "[J", true)
  | _ => ("PointsToSolver$CopyGraph", "existing", "J", false)
def tyX1 : Nat → FieldType := fun k => match k with
  | 0 => .array .long
  | 1 => .array .long
  | 2 => .array .long
  | _ => .long
abbrev wsX10 : List Cond := u_ws RX1 TX1 4
theorem nmX1 : ∀ a, a < 4 → ∀ b, b < 4 → a ≠ b → (TX1 a).2.1 ≠ (TX1 b).2.1 := by decide +kernel
theorem tyX1_ok : ∀ k, k < 4 → parseFieldDescriptor (TX1 k).2.2.1 = some (tyX1 k) := by decide +kernel
abbrev cX1_init : ByteArray := prog_3_method_1_code
def yX1_init : MethodName := ⟨RX1, "<init>", "()V"⟩
abbrev cX1_build : ByteArray := prog_3_method_2_code
def yX1_build : MethodName := ⟨RX1, "build", "(LPointsToSolver$Program;LPointsToSolver$Solution;)V"⟩
abbrev cX1_addEdges : ByteArray := prog_3_method_3_code
def yX1_addEdges : MethodName := ⟨RX1, "addEdges", "(LPointsToSolver$Program;II)V"⟩
abbrev cX1_findExisting : ByteArray := prog_3_method_4_code
def yX1_findExisting : MethodName := ⟨RX1, "findExisting", "(LPointsToSolver$Program;)V"⟩
abbrev cX1_findReached : ByteArray := prog_3_method_5_code
def yX1_findReached : MethodName := ⟨RX1, "findReached", "()V"⟩
abbrev cX1_findComponents : ByteArray := prog_3_method_6_code
def yX1_findComponents : MethodName := ⟨RX1, "findComponents", "()V"⟩
abbrev cX1_lowestOf : ByteArray := prog_3_method_7_code
def yX1_lowestOf : MethodName := ⟨RX1, "lowestOf", "(I)I"⟩
abbrev cX1_isLowest : ByteArray := prog_3_method_8_code
def yX1_isLowest : MethodName := ⟨RX1, "isLowest", "(I)Z"⟩
abbrev cX1_countEdges : ByteArray := prog_3_method_9_code
def yX1_countEdges : MethodName := ⟨RX1, "countEdges", "()I"⟩
abbrev cX1_shortestPath : ByteArray := prog_3_method_10_code
def yX1_shortestPath : MethodName := ⟨RX1, "shortestPath", "(II)I"⟩
abbrev cX1_targetsOf : ByteArray := prog_3_method_11_code
def yX1_targetsOf : MethodName := ⟨RX1, "targetsOf", "(J)J"⟩
abbrev cX1_countComponents : ByteArray := prog_3_method_12_code
def yX1_countComponents : MethodName := ⟨RX1, "countComponents", "(I)I"⟩
abbrev cX1_countCondensedEdges : ByteArray := prog_3_method_13_code
def yX1_countCondensedEdges : MethodName := ⟨RX1, "countCondensedEdges", "()I"⟩
abbrev cX1_lowestOfAll : ByteArray := prog_3_method_14_code
def yX1_lowestOfAll : MethodName := ⟨RX1, "lowestOfAll", "(J)J"⟩
def RX2 : String := "PointsToSolver$Dump"
def TX2 : u_T := fun k => match k with
  | 0 => ("PointsToSolver$Dump", "text", "[B", true)
  | _ => ("PointsToSolver$Dump", "length", "I", false)
def tyX2 : Nat → FieldType := fun k => match k with
  | 0 => .array .byte
  | _ => .int
abbrev wsX20 : List Cond := u_ws RX2 TX2 2
theorem nmX2 : ∀ a, a < 2 → ∀ b, b < 2 → a ≠ b → (TX2 a).2.1 ≠ (TX2 b).2.1 := by decide +kernel
theorem tyX2_ok : ∀ k, k < 2 → parseFieldDescriptor (TX2 k).2.2.1 = some (tyX2 k) := by decide +kernel
abbrev cX2_init : ByteArray := prog_4_method_1_code
def yX2_init : MethodName := ⟨RX2, "<init>", "()V"⟩
def RX3 : String := "PointsToSolver$History"
def TX3 : u_T := fun k => match k with
  | 0 => ("PointsToSolver$History", "changes", "[I", true)
  | 1 => ("PointsToSolver$History", "next", "I", false)
  | _ => ("PointsToSolver$History", "depth", "I", false)
def tyX3 : Nat → FieldType := fun k => match k with
  | 0 => .array .int
  | 1 => .int
  | _ => .int
abbrev wsX30 : List Cond := u_ws RX3 TX3 3
theorem nmX3 : ∀ a, a < 3 → ∀ b, b < 3 → a ≠ b → (TX3 a).2.1 ≠ (TX3 b).2.1 := by decide +kernel
theorem tyX3_ok : ∀ k, k < 3 → parseFieldDescriptor (TX3 k).2.2.1 = some (tyX3 k) := by decide +kernel
abbrev cX3_init : ByteArray := prog_5_method_1_code
def yX3_init : MethodName := ⟨RX3, "<init>", "()V"⟩
abbrev cX3_clear : ByteArray := prog_5_method_2_code
def yX3_clear : MethodName := ⟨RX3, "clear", "()V"⟩
def RX4 : String := "PointsToSolver$NameTable"
def TX4 : u_T := fun k => match k with
  | 0 => ("PointsToSolver$NameTable", "words", "[J", true)
  | 1 => ("PointsToSolver$NameTable", "limit", "I", true)
  | _ => ("PointsToSolver$NameTable", "count", "I", false)
def tyX4 : Nat → FieldType := fun k => match k with
  | 0 => .array .long
  | 1 => .int
  | _ => .int
abbrev wsX40 : List Cond := u_ws RX4 TX4 3
theorem nmX4 : ∀ a, a < 3 → ∀ b, b < 3 → a ≠ b → (TX4 a).2.1 ≠ (TX4 b).2.1 := by decide +kernel
theorem tyX4_ok : ∀ k, k < 3 → parseFieldDescriptor (TX4 k).2.2.1 = some (tyX4 k) := by decide +kernel
abbrev cX4_init : ByteArray := prog_6_method_1_code
def yX4_init : MethodName := ⟨RX4, "<init>", "(I)V"⟩
abbrev cX4_numberOf : ByteArray := prog_6_method_2_code
def yX4_numberOf : MethodName := ⟨RX4, "numberOf", "(J)I"⟩
def RX5 : String := "PointsToSolver$Parser"
def TX5 : u_T := fun k => match k with
  | 0 => ("PointsToSolver$Parser", "text", "[B", true)
  | 1 => ("PointsToSolver$Parser", "buffered", "I", false)
  | 2 => ("PointsToSolver$Parser", "length", "I", false)
  | 3 => ("PointsToSolver$Parser", "position", "I", false)
  | 4 => ("PointsToSolver$Parser", "token", "I", false)
  | 5 => ("PointsToSolver$Parser", "tokenStart", "I", false)
  | 6 => ("PointsToSolver$Parser", "word", "J", false)
  | 7 => ("PointsToSolver$Parser", "error", "I", false)
  | _ => ("PointsToSolver$Parser", "operands", "[I", true)
def tyX5 : Nat → FieldType := fun k => match k with
  | 0 => .array .byte
  | 1 => .int
  | 2 => .int
  | 3 => .int
  | 4 => .int
  | 5 => .int
  | 6 => .long
  | 7 => .int
  | _ => .array .int
abbrev wsX50 : List Cond := u_ws RX5 TX5 9
theorem nmX5 : ∀ a, a < 9 → ∀ b, b < 9 → a ≠ b → (TX5 a).2.1 ≠ (TX5 b).2.1 := by decide +kernel
theorem tyX5_ok : ∀ k, k < 9 → parseFieldDescriptor (TX5 k).2.2.1 = some (tyX5 k) := by decide +kernel
abbrev cX5_init : ByteArray := prog_7_method_1_code
def yX5_init : MethodName := ⟨RX5, "<init>", "()V"⟩
abbrev cX5_appendWord : ByteArray := prog_7_method_2_code
def yX5_appendWord : MethodName := ⟨RX5, "appendWord", "(I)V"⟩
abbrev cX5_read : ByteArray := prog_7_method_3_code
def yX5_read : MethodName := ⟨RX5, "read", "(ILPointsToSolver$Program;)I"⟩
abbrev cX5_readStatement : ByteArray := prog_7_method_4_code
def yX5_readStatement : MethodName := ⟨RX5, "readStatement", "(LPointsToSolver$Program;)V"⟩
abbrev cX5_readOperand : ByteArray := prog_7_method_5_code
def yX5_readOperand : MethodName := ⟨RX5, "readOperand", "(LPointsToSolver$Program;II)I"⟩
abbrev cX5_namesOf : ByteArray := prog_7_method_6_code
def yX5_namesOf : MethodName := ⟨RX5, "namesOf", "(LPointsToSolver$Program;I)LPointsToSolver$NameTable;"⟩
abbrev cX5_accept : ByteArray := prog_7_method_7_code
def yX5_accept : MethodName := ⟨RX5, "accept", "(LPointsToSolver$Program;I)V"⟩
abbrev cX5_fail : ByteArray := prog_7_method_8_code
def yX5_fail : MethodName := ⟨RX5, "fail", "(I)V"⟩
abbrev cX5_keyword : ByteArray := prog_7_method_9_code
def yX5_keyword : MethodName := ⟨RX5, "keyword", "()I"⟩
abbrev cX5_nextToken : ByteArray := prog_7_method_10_code
def yX5_nextToken : MethodName := ⟨RX5, "nextToken", "()V"⟩
abbrev cX5_readWord : ByteArray := prog_7_method_11_code
def yX5_readWord : MethodName := ⟨RX5, "readWord", "()V"⟩
abbrev cX5_isSpace : ByteArray := prog_7_method_12_code
def yX5_isSpace : MethodName := ⟨RX5, "isSpace", "(B)Z"⟩
abbrev cX5_isLetter : ByteArray := prog_7_method_13_code
def yX5_isLetter : MethodName := ⟨RX5, "isLetter", "(B)Z"⟩
def RX6 : String := "PointsToSolver$Program"
def TX6 : u_T := fun k => match k with
  | 0 => ("PointsToSolver$Program", "variables", "LPointsToSolver$NameTable;", true)
  | 1 => ("PointsToSolver$Program", "objects", "LPointsToSolver$NameTable;", true)
  | 2 => ("PointsToSolver$Program", "fields", "LPointsToSolver$NameTable;", true)
  | 3 => ("PointsToSolver$Program", "parameters", "[I", true)
  | 4 => ("PointsToSolver$Program", "results", "[I", true)
  | 5 => ("PointsToSolver$Program", "functionSet", "I", false)
  | _ => ("PointsToSolver$Program", "list", "LPointsToSolver$ConstraintList;", true)
def tyX6 : Nat → FieldType := fun k => match k with
  | 0 => .object "PointsToSolver$NameTable"
  | 1 => .object "PointsToSolver$NameTable"
  | 2 => .object "PointsToSolver$NameTable"
  | 3 => .array .int
  | 4 => .array .int
  | 5 => .int
  | _ => .object "PointsToSolver$ConstraintList"
abbrev wsX60 : List Cond := u_ws RX6 TX6 7
theorem nmX6 : ∀ a, a < 7 → ∀ b, b < 7 → a ≠ b → (TX6 a).2.1 ≠ (TX6 b).2.1 := by decide +kernel
theorem tyX6_ok : ∀ k, k < 7 → parseFieldDescriptor (TX6 k).2.2.1 = some (tyX6 k) := by decide +kernel
abbrev cX6_init : ByteArray := prog_8_method_1_code
def yX6_init : MethodName := ⟨RX6, "<init>", "()V"⟩
abbrev cX6_clear : ByteArray := prog_8_method_2_code
def yX6_clear : MethodName := ⟨RX6, "clear", "()V"⟩
abbrev cX6_isFunction : ByteArray := prog_8_method_3_code
def yX6_isFunction : MethodName := ⟨RX6, "isFunction", "(I)Z"⟩
abbrev cX6_declareFunction : ByteArray := prog_8_method_4_code
def yX6_declareFunction : MethodName := ⟨RX6, "declareFunction", "(III)V"⟩
abbrev cX6_slotAt : ByteArray := prog_8_method_5_code
def yX6_slotAt : MethodName := ⟨RX6, "slotAt", "(I)I"⟩
abbrev cX6_viaSlot : ByteArray := prog_8_method_7_code
def yX6_viaSlot : MethodName := ⟨RX6, "viaSlot", "(I)I"⟩
abbrev cX6_viasIn : ByteArray := prog_8_method_8_code
def yX6_viasIn : MethodName := ⟨RX6, "viasIn", "([II)I"⟩
abbrev cX6_flowCount : ByteArray := prog_8_method_9_code
def yX6_flowCount : MethodName := ⟨RX6, "flowCount", "(I)I"⟩
abbrev cX6_flowSource : ByteArray := prog_8_method_10_code
def yX6_flowSource : MethodName := ⟨RX6, "flowSource", "(III)I"⟩
abbrev cX6_flowTarget : ByteArray := prog_8_method_11_code
def yX6_flowTarget : MethodName := ⟨RX6, "flowTarget", "(III)I"⟩
def RX7 : String := "PointsToSolver$Solution"
def TX7 : u_T := fun k => match k with
  | 0 => ("PointsToSolver$Solution", "sets", "[I", true)
  | 1 => ("PointsToSolver$Solution", "before", "[I", true)
  | 2 => ("PointsToSolver$Solution", "total", "I", false)
  | 3 => ("PointsToSolver$Solution", "productiveRounds", "I", false)
  | 4 => ("PointsToSolver$Solution", "used", "I", false)
  | 5 => ("PointsToSolver$Solution", "rounds", "[I", true)
  | 6 => ("PointsToSolver$Solution", "constraints", "[I", true)
  | 7 => ("PointsToSolver$Solution", "sources", "[I", true)
  | 8 => ("PointsToSolver$Solution", "vias", "[I", true)
  | 9 => ("PointsToSolver$Solution", "lengths", "[I", true)
  | _ => ("PointsToSolver$Solution", "proofs", "[I", true)
def tyX7 : Nat → FieldType := fun k => match k with
  | 0 => .array .int
  | 1 => .array .int
  | 2 => .int
  | 3 => .int
  | 4 => .int
  | 5 => .array .int
  | 6 => .array .int
  | 7 => .array .int
  | 8 => .array .int
  | 9 => .array .int
  | _ => .array .int
abbrev wsX70 : List Cond := u_ws RX7 TX7 11
theorem nmX7 : ∀ a, a < 11 → ∀ b, b < 11 → a ≠ b → (TX7 a).2.1 ≠ (TX7 b).2.1 := by decide +kernel
theorem tyX7_ok : ∀ k, k < 11 → parseFieldDescriptor (TX7 k).2.2.1 = some (tyX7 k) := by decide +kernel
abbrev cX7_init : ByteArray := prog_9_method_1_code
def yX7_init : MethodName := ⟨RX7, "<init>", "()V"⟩
abbrev cX7_solve : ByteArray := prog_9_method_2_code
def yX7_solve : MethodName := ⟨RX7, "solve", "(LPointsToSolver$Program;)V"⟩
abbrev cX7_apply : ByteArray := prog_9_method_3_code
def yX7_apply : MethodName := ⟨RX7, "apply", "(LPointsToSolver$Program;II)V"⟩
abbrev cX7_applyNew : ByteArray := prog_9_method_4_code
def yX7_applyNew : MethodName := ⟨RX7, "applyNew", "(LPointsToSolver$ConstraintList;II)V"⟩
abbrev cX7_applyFlow : ByteArray := prog_9_method_5_code
def yX7_applyFlow : MethodName := ⟨RX7, "applyFlow", "(LPointsToSolver$Program;IIII)V"⟩
abbrev cX7_addFact : ByteArray := prog_9_method_6_code
def yX7_addFact : MethodName := ⟨RX7, "addFact", "(IIII)V"⟩
abbrev cX7_derive : ByteArray := prog_9_method_7_code
def yX7_derive : MethodName := ⟨RX7, "derive", "(III)V"⟩
abbrev cX7_supply : ByteArray := prog_9_method_8_code
def yX7_supply : MethodName := ⟨RX7, "supply", "(III)V"⟩
def RX8 : String := "PointsToSolver$Trial"
def TX8 : u_T := fun k => match k with
  | _ => ("PointsToSolver$Trial", "sets", "[I", true)
def tyX8 : Nat → FieldType := fun k => match k with
  | _ => .array .int
abbrev wsX80 : List Cond := u_ws RX8 TX8 1
theorem nmX8 : ∀ a, a < 1 → ∀ b, b < 1 → a ≠ b → (TX8 a).2.1 ≠ (TX8 b).2.1 := by decide +kernel
theorem tyX8_ok : ∀ k, k < 1 → parseFieldDescriptor (TX8 k).2.2.1 = some (tyX8 k) := by decide +kernel
abbrev cX8_init : ByteArray := prog_10_method_1_code
def yX8_init : MethodName := ⟨RX8, "<init>", "()V"⟩
def RX9 : String := "PointsToSolver"
def TX9 : u_T := fun k => match k with
  | 0 => ("PointsToSolver", "parser", "LPointsToSolver$Parser;", true)
  | 1 => ("PointsToSolver", "program", "LPointsToSolver$Program;", false)
  | 2 => ("PointsToSolver", "spare", "LPointsToSolver$Program;", false)
  | 3 => ("PointsToSolver", "history", "LPointsToSolver$History;", true)
  | 4 => ("PointsToSolver", "snapshots", "[LPointsToSolver$ConstraintList;", true)
  | 5 => ("PointsToSolver", "savedSlots", "I", false)
  | 6 => ("PointsToSolver", "solution", "LPointsToSolver$Solution;", true)
  | 7 => ("PointsToSolver", "graph", "LPointsToSolver$CopyGraph;", true)
  | 8 => ("PointsToSolver", "dump", "LPointsToSolver$Dump;", true)
  | 9 => ("PointsToSolver", "graphStale", "Z", false)
  | 10 => ("PointsToSolver", "dumpStale", "Z", false)
  | _ => ("PointsToSolver", "trial", "LPointsToSolver$Trial;", true)
def tyX9 : Nat → FieldType := fun k => match k with
  | 0 => .object "PointsToSolver$Parser"
  | 1 => .object "PointsToSolver$Program"
  | 2 => .object "PointsToSolver$Program"
  | 3 => .object "PointsToSolver$History"
  | 4 => .array (.object "PointsToSolver$ConstraintList")
  | 5 => .int
  | 6 => .object "PointsToSolver$Solution"
  | 7 => .object "PointsToSolver$CopyGraph"
  | 8 => .object "PointsToSolver$Dump"
  | 9 => .boolean
  | 10 => .boolean
  | _ => .object "PointsToSolver$Trial"
abbrev wsX90 : List Cond := u_ws RX9 TX9 12
theorem nmX9 : ∀ a, a < 12 → ∀ b, b < 12 → a ≠ b → (TX9 a).2.1 ≠ (TX9 b).2.1 := by decide +kernel
theorem tyX9_ok : ∀ k, k < 12 → parseFieldDescriptor (TX9 k).2.2.1 = some (tyX9 k) := by decide +kernel
abbrev cX9_init : ByteArray := prog_1_method_1_code
def yX9_init : MethodName := ⟨RX9, "<init>", "()V"⟩
abbrev cX9_append : ByteArray := prog_1_method_2_code
def yX9_append : MethodName := ⟨RX9, "append", "(IIIII)I"⟩
abbrev cX9_parse : ByteArray := prog_1_method_3_code
def yX9_parse : MethodName := ⟨RX9, "parse", "(I)I"⟩
abbrev cX9_variableCount : ByteArray := prog_1_method_5_code
def yX9_variableCount : MethodName := ⟨RX9, "variableCount", "()I"⟩
abbrev cX9_objectCount : ByteArray := prog_1_method_6_code
def yX9_objectCount : MethodName := ⟨RX9, "objectCount", "()I"⟩
abbrev cX9_fieldCount : ByteArray := prog_1_method_7_code
def yX9_fieldCount : MethodName := ⟨RX9, "fieldCount", "()I"⟩
abbrev cX9_constraintCount : ByteArray := prog_1_method_8_code
def yX9_constraintCount : MethodName := ⟨RX9, "constraintCount", "()I"⟩
abbrev cX9_enabledConstraints : ByteArray := prog_1_method_9_code
def yX9_enabledConstraints : MethodName := ⟨RX9, "enabledConstraints", "()I"⟩
abbrev cX9_kindOf : ByteArray := prog_1_method_11_code
def yX9_kindOf : MethodName := ⟨RX9, "kindOf", "(I)I"⟩
abbrev cX9_operand : ByteArray := prog_1_method_12_code
def yX9_operand : MethodName := ⟨RX9, "operand", "(II)I"⟩
abbrev cX9_parameterOf : ByteArray := prog_1_method_13_code
def yX9_parameterOf : MethodName := ⟨RX9, "parameterOf", "(I)I"⟩
abbrev cX9_resultOf : ByteArray := prog_1_method_14_code
def yX9_resultOf : MethodName := ⟨RX9, "resultOf", "(I)I"⟩
abbrev cX9_factCount : ByteArray := prog_1_method_15_code
def yX9_factCount : MethodName := ⟨RX9, "factCount", "()I"⟩
abbrev cX9_roundCount : ByteArray := prog_1_method_16_code
def yX9_roundCount : MethodName := ⟨RX9, "roundCount", "()I"⟩
abbrev cX9_pointsTo : ByteArray := prog_1_method_17_code
def yX9_pointsTo : MethodName := ⟨RX9, "pointsTo", "(I)I"⟩
abbrev cX9_roundOf : ByteArray := prog_1_method_21_code
def yX9_roundOf : MethodName := ⟨RX9, "roundOf", "(II)I"⟩
abbrev cX9_edgeCount : ByteArray := prog_1_method_29_code
def yX9_edgeCount : MethodName := ⟨RX9, "edgeCount", "()I"⟩
abbrev cX9_hasEdge : ByteArray := prog_1_method_30_code
def yX9_hasEdge : MethodName := ⟨RX9, "hasEdge", "(II)I"⟩
abbrev cX9_distance : ByteArray := prog_1_method_31_code
def yX9_distance : MethodName := ⟨RX9, "distance", "(II)I"⟩
abbrev cX9_componentSize : ByteArray := prog_1_method_32_code
def yX9_componentSize : MethodName := ⟨RX9, "componentSize", "(I)I"⟩
abbrev cX9_representative : ByteArray := prog_1_method_33_code
def yX9_representative : MethodName := ⟨RX9, "representative", "(I)I"⟩
abbrev cX9_cyclicComponentCount : ByteArray := prog_1_method_34_code
def yX9_cyclicComponentCount : MethodName := ⟨RX9, "cyclicComponentCount", "()I"⟩
abbrev cX9_condensedNodeCount : ByteArray := prog_1_method_35_code
def yX9_condensedNodeCount : MethodName := ⟨RX9, "condensedNodeCount", "()I"⟩
abbrev cX9_condensedEdgeCount : ByteArray := prog_1_method_36_code
def yX9_condensedEdgeCount : MethodName := ⟨RX9, "condensedEdgeCount", "()I"⟩
abbrev cX9_isConstraint : ByteArray := prog_1_method_52_code
def yX9_isConstraint : MethodName := ⟨RX9, "isConstraint", "(I)Z"⟩
abbrev cX9_isObject : ByteArray := prog_1_method_53_code
def yX9_isObject : MethodName := ⟨RX9, "isObject", "(I)Z"⟩
abbrev cX9_settle : ByteArray := prog_1_method_54_code
def yX9_settle : MethodName := ⟨RX9, "settle", "()V"⟩
abbrev cX9_graphed : ByteArray := prog_1_method_55_code
def yX9_graphed : MethodName := ⟨RX9, "graphed", "()LPointsToSolver$CopyGraph;"⟩
abbrev cX9_findFact : ByteArray := prog_1_method_57_code
def yX9_findFact : MethodName := ⟨RX9, "findFact", "(II)I"⟩
abbrev cX9_contains : ByteArray := prog_1_method_61_code
def yX9_contains : MethodName := ⟨RX9, "contains", "(II)Z"⟩
abbrev cX9_holds : ByteArray := prog_1_method_62_code
def yX9_holds : MethodName := ⟨RX9, "holds", "(JI)Z"⟩
abbrev cX9_fieldSlot : ByteArray := prog_1_method_63_code
def yX9_fieldSlot : MethodName := ⟨RX9, "fieldSlot", "(II)I"⟩
abbrev cX9_locationOf : ByteArray := prog_1_method_64_code
def yX9_locationOf : MethodName := ⟨RX9, "locationOf", "(I)I"⟩
abbrev cX9_factOf : ByteArray := prog_1_method_65_code
def yX9_factOf : MethodName := ⟨RX9, "factOf", "(II)I"⟩
abbrev cX9_typeAt : ByteArray := prog_1_method_66_code
def yX9_typeAt : MethodName := ⟨RX9, "typeAt", "(II)I"⟩
def RX10 : String := "PointsToSolverModel"
def TX10 : u_T := fun k => match k with
  | _ => ("", "", "", false)
def tyX10 : Nat → FieldType := fun k => match k with
  | _ => .int
abbrev wsX100 : List Cond := u_ws RX10 TX10 0
theorem nmX10 : ∀ a, a < 0 → ∀ b, b < 0 → a ≠ b → (TX10 a).2.1 ≠ (TX10 b).2.1 := by decide +kernel
theorem tyX10_ok : ∀ k, k < 0 → parseFieldDescriptor (TX10 k).2.2.1 = some (tyX10 k) := by decide +kernel
def RJx145de : String := "java/io/Serializable"
def TJx145de : u_T := fun k => match k with
  | _ => ("", "", "", false)
def tyJx145de : Nat → FieldType := fun k => match k with
  | _ => .int
def RJ5 : String := "java/lang/AbstractStringBuilder"
def TJ5 : u_T := fun k => match k with
  | _ => ("", "", "", false)
def tyJ5 : Nat → FieldType := fun k => match k with
  | _ => .int
theorem nmJ5 : ∀ a, a < 0 → ∀ b, b < 0 → a ≠ b → (TJ5 a).2.1 ≠ (TJ5 b).2.1 := by decide +kernel
theorem tyJ5_ok : ∀ k, k < 0 → parseFieldDescriptor (TJ5 k).2.2.1 = some (tyJ5 k) := by decide +kernel
abbrev cJ5_init_d00df : ByteArray := prog_13_method_2_code
def yJ5_init_d00df : MethodName := ⟨RJ5, "<init>", "(I)V"⟩
abbrev cJ5_length_8abf5 : ByteArray := prog_13_method_6_code
def yJ5_length_8abf5 : MethodName := ⟨RJ5, "length", "()I"⟩
abbrev cJ5_ensureCapacityInternal_d00df : ByteArray := prog_13_method_9_code
def yJ5_ensureCapacityInternal_d00df : MethodName := ⟨RJ5, "ensureCapacityInternal", "(I)V"⟩
abbrev cJ5_newCapacity_0f7a4 : ByteArray := prog_13_method_10_code
def yJ5_newCapacity_0f7a4 : MethodName := ⟨RJ5, "newCapacity", "(I)I"⟩
abbrev cJ5_inflate_da8c8 : ByteArray := prog_13_method_11_code
def yJ5_inflate_da8c8 : MethodName := ⟨RJ5, "inflate", "()V"⟩
abbrev cJ5_append_cf1ce : ByteArray := prog_13_method_22_code
def yJ5_append_cf1ce : MethodName := ⟨RJ5, "append", "(Ljava/lang/String;)Ljava/lang/AbstractStringBuilder;"⟩
abbrev cJ5_appendNull_278bc : ByteArray := prog_13_method_26_code
def yJ5_appendNull_278bc : MethodName := ⟨RJ5, "appendNull", "()Ljava/lang/AbstractStringBuilder;"⟩
abbrev cJ5_append_3fe6f : ByteArray := prog_13_method_31_code
def yJ5_append_3fe6f : MethodName := ⟨RJ5, "append", "(C)Ljava/lang/AbstractStringBuilder;"⟩
abbrev cJ5_getValue_6d5f1 : ByteArray := prog_13_method_64_code
def yJ5_getValue_6d5f1 : MethodName := ⟨RJ5, "getValue", "()[B"⟩
abbrev cJ5_isLatin1_aae02 : ByteArray := prog_13_method_68_code
def yJ5_isLatin1_aae02 : MethodName := ⟨RJ5, "isLatin1", "()Z"⟩
abbrev cJ5_inflateIfNeededFor_a7421 : ByteArray := prog_13_method_71_code
def yJ5_inflateIfNeededFor_a7421 : MethodName := ⟨RJ5, "inflateIfNeededFor", "(Ljava/lang/String;)V"⟩
abbrev cJ5_putStringAt_47b60 : ByteArray := prog_13_method_73_code
def yJ5_putStringAt_47b60 : MethodName := ⟨RJ5, "putStringAt", "(ILjava/lang/String;)V"⟩
def RJx2cfe8 : String := "java/lang/Appendable"
def TJx2cfe8 : u_T := fun k => match k with
  | _ => ("", "", "", false)
def tyJx2cfe8 : Nat → FieldType := fun k => match k with
  | _ => .int
def RJx9f9b0 : String := "java/lang/CharSequence"
def TJx9f9b0 : u_T := fun k => match k with
  | _ => ("", "", "", false)
def tyJx9f9b0 : Nat → FieldType := fun k => match k with
  | _ => .int
def RJx8e188 : String := "java/lang/Cloneable"
def TJx8e188 : u_T := fun k => match k with
  | _ => ("", "", "", false)
def tyJx8e188 : Nat → FieldType := fun k => match k with
  | _ => .int
def RJxb160c : String := "java/lang/Comparable"
def TJxb160c : u_T := fun k => match k with
  | _ => ("", "", "", false)
def tyJxb160c : Nat → FieldType := fun k => match k with
  | _ => .int
def RJ6 : String := "java/lang/Integer"
def TJ6 : u_T := fun k => match k with
  | _ => ("", "", "", false)
def tyJ6 : Nat → FieldType := fun k => match k with
  | _ => .int
theorem nmJ6 : ∀ a, a < 0 → ∀ b, b < 0 → a ≠ b → (TJ6 a).2.1 ≠ (TJ6 b).2.1 := by decide +kernel
theorem tyJ6_ok : ∀ k, k < 0 → parseFieldDescriptor (TJ6 k).2.2.1 = some (tyJ6 k) := by decide +kernel
abbrev cJ6_numberOfTrailingZeros_0f7a4 : ByteArray := prog_17_method_48_code
def yJ6_numberOfTrailingZeros_0f7a4 : MethodName := ⟨RJ6, "numberOfTrailingZeros", "(I)I"⟩
def RJ13 : String := "java/lang/Long"
def TJ13 : u_T := fun k => match k with
  | _ => ("", "", "", false)
def tyJ13 : Nat → FieldType := fun k => match k with
  | _ => .int
theorem nmJ13 : ∀ a, a < 0 → ∀ b, b < 0 → a ≠ b → (TJ13 a).2.1 ≠ (TJ13 b).2.1 := by decide +kernel
theorem tyJ13_ok : ∀ k, k < 0 → parseFieldDescriptor (TJ13 k).2.2.1 = some (tyJ13 k) := by decide +kernel
abbrev cJ13_numberOfTrailingZeros_95d88 : ByteArray := prog_18_method_49_code
def yJ13_numberOfTrailingZeros_95d88 : MethodName := ⟨RJ13, "numberOfTrailingZeros", "(J)I"⟩
abbrev cJ13_bitCount_95d88 : ByteArray := prog_18_method_50_code
def yJ13_bitCount_95d88 : MethodName := ⟨RJ13, "bitCount", "(J)I"⟩
def RJ9 : String := "java/lang/Math"
def TJ9 : u_T := fun k => match k with
  | _ => ("", "", "", false)
def tyJ9 : Nat → FieldType := fun k => match k with
  | _ => .int
theorem nmJ9 : ∀ a, a < 0 → ∀ b, b < 0 → a ≠ b → (TJ9 a).2.1 ≠ (TJ9 b).2.1 := by decide +kernel
theorem tyJ9_ok : ∀ k, k < 0 → parseFieldDescriptor (TJ9 k).2.2.1 = some (tyJ9 k) := by decide +kernel
abbrev cJ9_max_7cf53 : ByteArray := prog_19_method_65_code
def yJ9_max_7cf53 : MethodName := ⟨RJ9, "max", "(II)I"⟩
abbrev cJ9_min_7cf53 : ByteArray := prog_19_method_69_code
def yJ9_min_7cf53 : MethodName := ⟨RJ9, "min", "(II)I"⟩
def RJxd2413 : String := "java/lang/Number"
def TJxd2413 : u_T := fun k => match k with
  | _ => ("", "", "", false)
def tyJxd2413 : Nat → FieldType := fun k => match k with
  | _ => .int
def RJ0 : String := "java/lang/String"
def TJ0 : u_T := fun k => match k with
  | 0 => ("java/lang/String", "value", "[B", true)
  | 1 => ("java/lang/String", "coder", "B", true)
  | 2 => ("java/lang/String", "hash", "I", false)
  | _ => ("java/lang/String", "hashIsZero", "Z", false)
def tyJ0 : Nat → FieldType := fun k => match k with
  | 0 => .array .byte
  | 1 => .byte
  | 2 => .int
  | _ => .boolean
theorem nmJ0 : ∀ a, a < 4 → ∀ b, b < 4 → a ≠ b → (TJ0 a).2.1 ≠ (TJ0 b).2.1 := by decide +kernel
theorem tyJ0_ok : ∀ k, k < 4 → parseFieldDescriptor (TJ0 k).2.2.1 = some (tyJ0 k) := by decide +kernel
abbrev cJ0_init_81219 : ByteArray := prog_22_method_53_code
def yJ0_init_81219 : MethodName := ⟨RJ0, "<init>", "(Ljava/lang/StringBuilder;)V"⟩
abbrev cJ0_length_8abf5 : ByteArray := prog_22_method_54_code
def yJ0_length_8abf5 : MethodName := ⟨RJ0, "length", "()I"⟩
abbrev cJ0_charAt_5068e : ByteArray := prog_22_method_56_code
def yJ0_charAt_5068e : MethodName := ⟨RJ0, "charAt", "(I)C"⟩
abbrev cJ0_getBytes_840e7 : ByteArray := prog_22_method_147_code
def yJ0_getBytes_840e7 : MethodName := ⟨RJ0, "getBytes", "([BIB)V"⟩
abbrev cJ0_init_db425 : ByteArray := prog_22_method_150_code
def yJ0_init_db425 : MethodName := ⟨RJ0, "<init>", "(Ljava/lang/AbstractStringBuilder;Ljava/lang/Void;)V"⟩
abbrev cJ0_coder_7d493 : ByteArray := prog_22_method_152_code
def yJ0_coder_7d493 : MethodName := ⟨RJ0, "coder", "()B"⟩
abbrev cJ0_isLatin1_aae02 : ByteArray := prog_22_method_154_code
def yJ0_isLatin1_aae02 : MethodName := ⟨RJ0, "isLatin1", "()Z"⟩
abbrev cJ0_checkIndex_df160 : ByteArray := prog_22_method_155_code
def yJ0_checkIndex_df160 : MethodName := ⟨RJ0, "checkIndex", "(II)V"⟩
abbrev cJ0_checkBoundsOffCount_cabcc : ByteArray := prog_22_method_157_code
def yJ0_checkBoundsOffCount_cabcc : MethodName := ⟨RJ0, "checkBoundsOffCount", "(III)I"⟩
abbrev cJ0_checkBoundsBeginEnd_23922 : ByteArray := prog_22_method_158_code
def yJ0_checkBoundsBeginEnd_23922 : MethodName := ⟨RJ0, "checkBoundsBeginEnd", "(III)V"⟩
def RJ4 : String := "java/lang/StringBuilder"
def TJ4 : u_T := fun k => match k with
  | 0 => ("java/lang/AbstractStringBuilder", "value", "[B", false)
  | 1 => ("java/lang/AbstractStringBuilder", "coder", "B", false)
  | 2 => ("java/lang/AbstractStringBuilder", "maybeLatin1", "Z", false)
  | _ => ("java/lang/AbstractStringBuilder", "count", "I", false)
def tyJ4 : Nat → FieldType := fun k => match k with
  | 0 => .array .byte
  | 1 => .byte
  | 2 => .boolean
  | _ => .int
theorem nmJ4 : ∀ a, a < 4 → ∀ b, b < 4 → a ≠ b → (TJ4 a).2.1 ≠ (TJ4 b).2.1 := by decide +kernel
theorem tyJ4_ok : ∀ k, k < 4 → parseFieldDescriptor (TJ4 k).2.2.1 = some (tyJ4 k) := by decide +kernel
abbrev cJ4_init_da8c8 : ByteArray := prog_23_method_1_code
def yJ4_init_da8c8 : MethodName := ⟨RJ4, "<init>", "()V"⟩
abbrev cJ4_append_15ec4 : ByteArray := prog_23_method_7_code
def yJ4_append_15ec4 : MethodName := ⟨RJ4, "append", "(Ljava/lang/String;)Ljava/lang/StringBuilder;"⟩
abbrev cJ4_append_cf468 : ByteArray := prog_23_method_14_code
def yJ4_append_cf468 : MethodName := ⟨RJ4, "append", "(C)Ljava/lang/StringBuilder;"⟩
abbrev cJ4_toString_0e30d : ByteArray := prog_23_method_42_code
def yJ4_toString_0e30d : MethodName := ⟨RJ4, "toString", "()Ljava/lang/String;"⟩
abbrev cJ4_length_8abf5 : ByteArray := prog_23_method_93_code
def yJ4_length_8abf5 : MethodName := ⟨RJ4, "length", "()I"⟩
def RJ1 : String := "java/lang/StringLatin1"
def TJ1 : u_T := fun k => match k with
  | _ => ("", "", "", false)
def tyJ1 : Nat → FieldType := fun k => match k with
  | _ => .int
theorem nmJ1 : ∀ a, a < 0 → ∀ b, b < 0 → a ≠ b → (TJ1 a).2.1 ≠ (TJ1 b).2.1 := by decide +kernel
theorem tyJ1_ok : ∀ k, k < 0 → parseFieldDescriptor (TJ1 k).2.2.1 = some (tyJ1 k) := by decide +kernel
abbrev cJ1_charAt_3b067 : ByteArray := prog_24_method_2_code
def yJ1_charAt_3b067 : MethodName := ⟨RJ1, "charAt", "([BI)C"⟩
abbrev cJ1_canEncode_fc78d : ByteArray := prog_24_method_3_code
def yJ1_canEncode_fc78d : MethodName := ⟨RJ1, "canEncode", "(C)Z"⟩
abbrev cJ1_inflate_0e8fd : ByteArray := prog_24_method_50_code
def yJ1_inflate_0e8fd : MethodName := ⟨RJ1, "inflate", "([BI[BII)V"⟩
def RJ2 : String := "java/lang/StringUTF16"
def TJ2 : u_T := fun k => match k with
  | _ => ("", "", "", false)
def tyJ2 : Nat → FieldType := fun k => match k with
  | _ => .int
theorem nmJ2 : ∀ a, a < 0 → ∀ b, b < 0 → a ≠ b → (TJ2 a).2.1 ≠ (TJ2 b).2.1 := by decide +kernel
theorem tyJ2_ok : ∀ k, k < 0 → parseFieldDescriptor (TJ2 k).2.2.1 = some (tyJ2 k) := by decide +kernel
abbrev cJ2_newBytesFor_77867 : ByteArray := prog_25_method_2_code
def yJ2_newBytesFor_77867 : MethodName := ⟨RJ2, "newBytesFor", "(I)[B"⟩
abbrev cJ2_newBytesLength_0f7a4 : ByteArray := prog_25_method_3_code
def yJ2_newBytesLength_0f7a4 : MethodName := ⟨RJ2, "newBytesLength", "(I)I"⟩
abbrev cJ2_putChar_b72d1 : ByteArray := prog_25_method_4_code
def yJ2_putChar_b72d1 : MethodName := ⟨RJ2, "putChar", "([BII)V"⟩
abbrev cJ2_getChar_3b067 : ByteArray := prog_25_method_5_code
def yJ2_getChar_3b067 : MethodName := ⟨RJ2, "getChar", "([BI)C"⟩
abbrev cJ2_length_9d52b : ByteArray := prog_25_method_6_code
def yJ2_length_9d52b : MethodName := ⟨RJ2, "length", "([B)I"⟩
abbrev cJ2_coderFromArrayLen_85cad : ByteArray := prog_25_method_15_code
def yJ2_coderFromArrayLen_85cad : MethodName := ⟨RJ2, "coderFromArrayLen", "([BI)B"⟩
abbrev cJ2_compress_39247 : ByteArray := prog_25_method_17_code
def yJ2_compress_39247 : MethodName := ⟨RJ2, "compress", "([BII)[B"⟩
abbrev cJ2_compress_5af95 : ByteArray := prog_25_method_22_code
def yJ2_compress_5af95 : MethodName := ⟨RJ2, "compress", "([BI[BII)I"⟩
abbrev cJ2_putCharSB_b72d1 : ByteArray := prog_25_method_71_code
def yJ2_putCharSB_b72d1 : MethodName := ⟨RJ2, "putCharSB", "([BII)V"⟩
abbrev cJ2_putCharsAt_cd4e5 : ByteArray := prog_25_method_81_code
def yJ2_putCharsAt_cd4e5 : MethodName := ⟨RJ2, "putCharsAt", "([BICCCC)I"⟩
abbrev cJ2_charAt_3b067 : ByteArray := prog_25_method_83_code
def yJ2_charAt_3b067 : MethodName := ⟨RJ2, "charAt", "([BI)C"⟩
abbrev cJ2_inflate_0e8fd : ByteArray := prog_25_method_86_code
def yJ2_inflate_0e8fd : MethodName := ⟨RJ2, "inflate", "([BI[BII)V"⟩
abbrev cJ2_checkIndex_2214a : ByteArray := prog_25_method_91_code
def yJ2_checkIndex_2214a : MethodName := ⟨RJ2, "checkIndex", "(I[B)V"⟩
abbrev cJ2_checkBoundsBeginEnd_d044e : ByteArray := prog_25_method_93_code
def yJ2_checkBoundsBeginEnd_d044e : MethodName := ⟨RJ2, "checkBoundsBeginEnd", "(II[B)V"⟩
abbrev cJ2_checkBoundsOffCount_d044e : ByteArray := prog_25_method_94_code
def yJ2_checkBoundsOffCount_d044e : MethodName := ⟨RJ2, "checkBoundsOffCount", "(II[B)V"⟩
def RJ10 : String := "java/lang/System"
def TJ10 : u_T := fun k => match k with
  | _ => ("", "", "", false)
def tyJ10 : Nat → FieldType := fun k => match k with
  | _ => .int
theorem nmJ10 : ∀ a, a < 0 → ∀ b, b < 0 → a ≠ b → (TJ10 a).2.1 ≠ (TJ10 b).2.1 := by decide +kernel
theorem tyJ10_ok : ∀ k, k < 0 → parseFieldDescriptor (TJ10 k).2.2.1 = some (tyJ10 k) := by decide +kernel
def RJxfd54e : String := "java/lang/constant/Constable"
def TJxfd54e : u_T := fun k => match k with
  | _ => ("", "", "", false)
def tyJxfd54e : Nat → FieldType := fun k => match k with
  | _ => .int
def RJx3cf43 : String := "java/lang/constant/ConstantDesc"
def TJx3cf43 : u_T := fun k => match k with
  | _ => ("", "", "", false)
def tyJx3cf43 : Nat → FieldType := fun k => match k with
  | _ => .int
def RJ7 : String := "java/util/Arrays"
def TJ7 : u_T := fun k => match k with
  | _ => ("", "", "", false)
def tyJ7 : Nat → FieldType := fun k => match k with
  | _ => .int
theorem nmJ7 : ∀ a, a < 0 → ∀ b, b < 0 → a ≠ b → (TJ7 a).2.1 ≠ (TJ7 b).2.1 := by decide +kernel
theorem tyJ7_ok : ∀ k, k < 0 → parseFieldDescriptor (TJ7 k).2.2.1 = some (tyJ7 k) := by decide +kernel
abbrev cJ7_fill_d0a16 : ByteArray := prog_28_method_101_code
def yJ7_fill_d0a16 : MethodName := ⟨RJ7, "fill", "([JJ)V"⟩
abbrev cJ7_fill_53178 : ByteArray := prog_28_method_103_code
def yJ7_fill_53178 : MethodName := ⟨RJ7, "fill", "([II)V"⟩
abbrev cJ7_copyOf_9075b : ByteArray := prog_28_method_121_code
def yJ7_copyOf_9075b : MethodName := ⟨RJ7, "copyOf", "([BI)[B"⟩
abbrev cJ7_checkLength_df160 : ByteArray := prog_28_method_131_code
def yJ7_checkLength_df160 : MethodName := ⟨RJ7, "checkLength", "(II)V"⟩
abbrev cJ7_copyOfRange_39247 : ByteArray := prog_28_method_132_code
def yJ7_copyOfRange_39247 : MethodName := ⟨RJ7, "copyOfRange", "([BII)[B"⟩
abbrev cJ7_copyOfRangeByte_39247 : ByteArray := prog_28_method_133_code
def yJ7_copyOfRangeByte_39247 : MethodName := ⟨RJ7, "copyOfRangeByte", "([BII)[B"⟩
def RJ8 : String := "jdk/internal/util/ArraysSupport"
def TJ8 : u_T := fun k => match k with
  | _ => ("", "", "", false)
def tyJ8 : Nat → FieldType := fun k => match k with
  | _ => .int
theorem nmJ8 : ∀ a, a < 0 → ∀ b, b < 0 → a ≠ b → (TJ8 a).2.1 ≠ (TJ8 b).2.1 := by decide +kernel
theorem tyJ8_ok : ∀ k, k < 0 → parseFieldDescriptor (TJ8 k).2.2.1 = some (tyJ8 k) := by decide +kernel
abbrev cJ8_newLength_cabcc : ByteArray := prog_29_method_27_code
def yJ8_newLength_cabcc : MethodName := ⟨RJ8, "newLength", "(III)I"⟩
abbrev cJ8_hugeLength_7cf53 : ByteArray := prog_29_method_28_code
def yJ8_hugeLength_7cf53 : MethodName := ⟨RJ8, "hugeLength", "(II)I"⟩
def RJ3 : String := "jdk/internal/util/Preconditions"
def TJ3 : u_T := fun k => match k with
  | _ => ("", "", "", false)
def tyJ3 : Nat → FieldType := fun k => match k with
  | _ => .int
theorem nmJ3 : ∀ a, a < 0 → ∀ b, b < 0 → a ≠ b → (TJ3 a).2.1 ≠ (TJ3 b).2.1 := by decide +kernel
theorem tyJ3_ok : ∀ k, k < 0 → parseFieldDescriptor (TJ3 k).2.2.1 = some (tyJ3 k) := by decide +kernel
abbrev cJ3_checkIndex_8e157 : ByteArray := prog_30_method_11_code
def yJ3_checkIndex_8e157 : MethodName := ⟨RJ3, "checkIndex", "(IILjava/util/function/BiFunction;)I"⟩
abbrev cJ3_checkFromToIndex_8c36e : ByteArray := prog_30_method_12_code
def yJ3_checkFromToIndex_8c36e : MethodName := ⟨RJ3, "checkFromToIndex", "(IIILjava/util/function/BiFunction;)I"⟩
abbrev cJ3_checkFromIndexSize_8c36e : ByteArray := prog_30_method_13_code
def yJ3_checkFromIndexSize_8c36e : MethodName := ⟨RJ3, "checkFromIndexSize", "(IIILjava/util/function/BiFunction;)I"⟩
def RL : String := "PointsToSolverLaw"
abbrev cL_cell : ByteArray := method_2_code
def yL_cell : MethodName := ⟨RL, "cell", "([II)I"⟩
abbrev cL_pick : ByteArray := method_3_code
def yL_pick : MethodName := ⟨RL, "pick", "([III)I"⟩
abbrev cL_load : ByteArray := method_4_code
def yL_load : MethodName := ⟨RL, "load", "(LPointsToSolver;Ljava/lang/String;)I"⟩
abbrev cL_program : ByteArray := method_5_code
def yL_program : MethodName := ⟨RL, "program", "([I)Ljava/lang/String;"⟩
abbrev cL_variable : ByteArray := method_6_code
def yL_variable : MethodName := ⟨RL, "variable", "([II)C"⟩
abbrev cL_field : ByteArray := method_7_code
def yL_field : MethodName := ⟨RL, "field", "([II)C"⟩
abbrev cL_has : ByteArray := method_8_code
def yL_has : MethodName := ⟨RL, "has", "(II)Z"⟩
abbrev cL_locations : ByteArray := method_9_code
def yL_locations : MethodName := ⟨RL, "locations", "(LPointsToSolver;)[I"⟩
abbrev cL_law : ByteArray := code
def yL_law : MethodName := ⟨RL, "law", "([I)Z"⟩
abbrev cL_round : ByteArray := method_11_code
def yL_round : MethodName := ⟨RL, "round", "(LPointsToSolver;[I)[I"⟩
abbrev cL_areEdges : ByteArray := method_12_code
def yL_areEdges : MethodName := ⟨RL, "areEdges", "(LPointsToSolver;[I[I)Z"⟩
abbrev vwCl : List vw_C := [(RX0, TX0, 6), (RX1, TX1, 4), (RX2, TX2, 2), (RX3, TX3, 3), (RX4, TX4, 3), (RX5, TX5, 9), (RX6, TX6, 7), (RX7, TX7, 11), (RX8, TX8, 1), (RX9, TX9, 12), (RJ0, TJ0, 4), (RJ4, TJ4, 4)]
