-- ===== PART A: goes FIRST, ahead of the names: the tables' words, and 'selects' of the private methods out of them =====
/-- a private method of a class that the tables say can be made, by its rows of tables_1 -/
def lw_okq (q : MethodName × Nat) : Prop := (q.1.cls ≠ "java/lang/invoke/MethodHandle" ∧ q.1.cls ≠ "java/lang/invoke/VarHandle") ∧ Cond.instantiable q.1.cls q.2 ∈ tables_1 ∧ Cond.privateMethod q.1 ∈ tables_1 ∧ Cond.instanceMethod q.1 ∈ tables_1
theorem lw_p0 : lw_okq (⟨"PointsToSolver$Parser", "appendWord", "(I)V"⟩, 9) := ⟨⟨by decide +kernel, by decide +kernel⟩, List.mem_of_getElem? (i := 35) (by decide +kernel), List.mem_of_getElem? (i := 341) (by decide +kernel), List.mem_of_getElem? (i := 342) (by decide +kernel)⟩
theorem lw_p1 : lw_okq (⟨"PointsToSolver$Parser", "read", "(ILPointsToSolver$Program;)I"⟩, 9) := ⟨⟨by decide +kernel, by decide +kernel⟩, List.mem_of_getElem? (i := 35) (by decide +kernel), List.mem_of_getElem? (i := 349) (by decide +kernel), List.mem_of_getElem? (i := 350) (by decide +kernel)⟩
theorem lw_p2 : lw_okq (⟨"PointsToSolver$Program", "clear", "()V"⟩, 7) := ⟨⟨by decide +kernel, by decide +kernel⟩, List.mem_of_getElem? (i := 72) (by decide +kernel), List.mem_of_getElem? (i := 354) (by decide +kernel), List.mem_of_getElem? (i := 355) (by decide +kernel)⟩
theorem lw_p3 : lw_okq (⟨"PointsToSolver$ConstraintList", "clear", "()V"⟩, 6) := ⟨⟨by decide +kernel, by decide +kernel⟩, List.mem_of_getElem? (i := 102) (by decide +kernel), List.mem_of_getElem? (i := 358) (by decide +kernel), List.mem_of_getElem? (i := 359) (by decide +kernel)⟩
theorem lw_p4 : lw_okq (⟨"PointsToSolver$Parser", "nextToken", "()V"⟩, 9) := ⟨⟨by decide +kernel, by decide +kernel⟩, List.mem_of_getElem? (i := 35) (by decide +kernel), List.mem_of_getElem? (i := 362) (by decide +kernel), List.mem_of_getElem? (i := 363) (by decide +kernel)⟩
theorem lw_p5 : lw_okq (⟨"PointsToSolver$Parser", "readWord", "()V"⟩, 9) := ⟨⟨by decide +kernel, by decide +kernel⟩, List.mem_of_getElem? (i := 35) (by decide +kernel), List.mem_of_getElem? (i := 372) (by decide +kernel), List.mem_of_getElem? (i := 373) (by decide +kernel)⟩
theorem lw_p6 : lw_okq (⟨"PointsToSolver$Parser", "readStatement", "(LPointsToSolver$Program;)V"⟩, 9) := ⟨⟨by decide +kernel, by decide +kernel⟩, List.mem_of_getElem? (i := 35) (by decide +kernel), List.mem_of_getElem? (i := 376) (by decide +kernel), List.mem_of_getElem? (i := 377) (by decide +kernel)⟩
theorem lw_p7 : lw_okq (⟨"PointsToSolver$Parser", "keyword", "()I"⟩, 9) := ⟨⟨by decide +kernel, by decide +kernel⟩, List.mem_of_getElem? (i := 35) (by decide +kernel), List.mem_of_getElem? (i := 380) (by decide +kernel), List.mem_of_getElem? (i := 381) (by decide +kernel)⟩
theorem lw_p8 : lw_okq (⟨"PointsToSolver$Parser", "fail", "(I)V"⟩, 9) := ⟨⟨by decide +kernel, by decide +kernel⟩, List.mem_of_getElem? (i := 35) (by decide +kernel), List.mem_of_getElem? (i := 386) (by decide +kernel), List.mem_of_getElem? (i := 387) (by decide +kernel)⟩
theorem lw_p9 : lw_okq (⟨"PointsToSolver$ConstraintList", "isFull", "()Z"⟩, 6) := ⟨⟨by decide +kernel, by decide +kernel⟩, List.mem_of_getElem? (i := 102) (by decide +kernel), List.mem_of_getElem? (i := 390) (by decide +kernel), List.mem_of_getElem? (i := 391) (by decide +kernel)⟩
theorem lw_p10 : lw_okq (⟨"PointsToSolver$Parser", "readOperand", "(LPointsToSolver$Program;II)I"⟩, 9) := ⟨⟨by decide +kernel, by decide +kernel⟩, List.mem_of_getElem? (i := 35) (by decide +kernel), List.mem_of_getElem? (i := 399) (by decide +kernel), List.mem_of_getElem? (i := 400) (by decide +kernel)⟩
theorem lw_p11 : lw_okq (⟨"PointsToSolver$NameTable", "numberOf", "(J)I"⟩, 3) := ⟨⟨by decide +kernel, by decide +kernel⟩, List.mem_of_getElem? (i := 78) (by decide +kernel), List.mem_of_getElem? (i := 406) (by decide +kernel), List.mem_of_getElem? (i := 407) (by decide +kernel)⟩
theorem lw_p12 : lw_okq (⟨"PointsToSolver$Program", "isFunction", "(I)Z"⟩, 7) := ⟨⟨by decide +kernel, by decide +kernel⟩, List.mem_of_getElem? (i := 72) (by decide +kernel), List.mem_of_getElem? (i := 410) (by decide +kernel), List.mem_of_getElem? (i := 411) (by decide +kernel)⟩
theorem lw_p13 : lw_okq (⟨"PointsToSolver$Parser", "accept", "(LPointsToSolver$Program;I)V"⟩, 9) := ⟨⟨by decide +kernel, by decide +kernel⟩, List.mem_of_getElem? (i := 35) (by decide +kernel), List.mem_of_getElem? (i := 417) (by decide +kernel), List.mem_of_getElem? (i := 418) (by decide +kernel)⟩
theorem lw_p14 : lw_okq (⟨"PointsToSolver$Program", "declareFunction", "(III)V"⟩, 7) := ⟨⟨by decide +kernel, by decide +kernel⟩, List.mem_of_getElem? (i := 72) (by decide +kernel), List.mem_of_getElem? (i := 421) (by decide +kernel), List.mem_of_getElem? (i := 422) (by decide +kernel)⟩
theorem lw_p15 : lw_okq (⟨"PointsToSolver$ConstraintList", "add", "(IIII)V"⟩, 6) := ⟨⟨by decide +kernel, by decide +kernel⟩, List.mem_of_getElem? (i := 102) (by decide +kernel), List.mem_of_getElem? (i := 425) (by decide +kernel), List.mem_of_getElem? (i := 426) (by decide +kernel)⟩
def lw_privs_1 : List (MethodName × Nat) := [(⟨"PointsToSolver$Parser", "appendWord", "(I)V"⟩, 9), (⟨"PointsToSolver$Parser", "read", "(ILPointsToSolver$Program;)I"⟩, 9), (⟨"PointsToSolver$Program", "clear", "()V"⟩, 7), (⟨"PointsToSolver$ConstraintList", "clear", "()V"⟩, 6), (⟨"PointsToSolver$Parser", "nextToken", "()V"⟩, 9), (⟨"PointsToSolver$Parser", "readWord", "()V"⟩, 9), (⟨"PointsToSolver$Parser", "readStatement", "(LPointsToSolver$Program;)V"⟩, 9), (⟨"PointsToSolver$Parser", "keyword", "()I"⟩, 9), (⟨"PointsToSolver$Parser", "fail", "(I)V"⟩, 9), (⟨"PointsToSolver$ConstraintList", "isFull", "()Z"⟩, 6), (⟨"PointsToSolver$Parser", "readOperand", "(LPointsToSolver$Program;II)I"⟩, 9), (⟨"PointsToSolver$NameTable", "numberOf", "(J)I"⟩, 3), (⟨"PointsToSolver$Program", "isFunction", "(I)Z"⟩, 7), (⟨"PointsToSolver$Parser", "accept", "(LPointsToSolver$Program;I)V"⟩, 9), (⟨"PointsToSolver$Program", "declareFunction", "(III)V"⟩, 7), (⟨"PointsToSolver$ConstraintList", "add", "(IIII)V"⟩, 6)]
theorem lw_r1 : ∀ q ∈ lw_privs_1, lw_okq q := List.forall_mem_cons.mpr ⟨lw_p0, List.forall_mem_cons.mpr ⟨lw_p1, List.forall_mem_cons.mpr ⟨lw_p2, List.forall_mem_cons.mpr ⟨lw_p3, List.forall_mem_cons.mpr ⟨lw_p4, List.forall_mem_cons.mpr ⟨lw_p5, List.forall_mem_cons.mpr ⟨lw_p6, List.forall_mem_cons.mpr ⟨lw_p7, List.forall_mem_cons.mpr ⟨lw_p8, List.forall_mem_cons.mpr ⟨lw_p9, List.forall_mem_cons.mpr ⟨lw_p10, List.forall_mem_cons.mpr ⟨lw_p11, List.forall_mem_cons.mpr ⟨lw_p12, List.forall_mem_cons.mpr ⟨lw_p13, List.forall_mem_cons.mpr ⟨lw_p14, List.forall_mem_cons.mpr ⟨lw_p15, fun _ h => absurd h List.not_mem_nil⟩⟩⟩⟩⟩⟩⟩⟩⟩⟩⟩⟩⟩⟩⟩⟩
theorem lw_p16 : lw_okq (⟨"PointsToSolver$History", "clear", "()V"⟩, 3) := ⟨⟨by decide +kernel, by decide +kernel⟩, List.mem_of_getElem? (i := 181) (by decide +kernel), List.mem_of_getElem? (i := 430) (by decide +kernel), List.mem_of_getElem? (i := 431) (by decide +kernel)⟩
theorem lw_p17 : lw_okq (⟨"PointsToSolver", "settle", "()V"⟩, 12) := ⟨⟨by decide +kernel, by decide +kernel⟩, List.mem_of_getElem? (i := 27) (by decide +kernel), List.mem_of_getElem? (i := 434) (by decide +kernel), List.mem_of_getElem? (i := 435) (by decide +kernel)⟩
theorem lw_p18 : lw_okq (⟨"PointsToSolver$Solution", "solve", "(LPointsToSolver$Program;)V"⟩, 11) := ⟨⟨by decide +kernel, by decide +kernel⟩, List.mem_of_getElem? (i := 201) (by decide +kernel), List.mem_of_getElem? (i := 438) (by decide +kernel), List.mem_of_getElem? (i := 439) (by decide +kernel)⟩
theorem lw_p19 : lw_okq (⟨"PointsToSolver$ConstraintList", "isEnabled", "(I)Z"⟩, 6) := ⟨⟨by decide +kernel, by decide +kernel⟩, List.mem_of_getElem? (i := 102) (by decide +kernel), List.mem_of_getElem? (i := 448) (by decide +kernel), List.mem_of_getElem? (i := 449) (by decide +kernel)⟩
theorem lw_p20 : lw_okq (⟨"PointsToSolver$Solution", "apply", "(LPointsToSolver$Program;II)V"⟩, 11) := ⟨⟨by decide +kernel, by decide +kernel⟩, List.mem_of_getElem? (i := 201) (by decide +kernel), List.mem_of_getElem? (i := 453) (by decide +kernel), List.mem_of_getElem? (i := 454) (by decide +kernel)⟩
theorem lw_p21 : lw_okq (⟨"PointsToSolver$Solution", "applyNew", "(LPointsToSolver$ConstraintList;II)V"⟩, 11) := ⟨⟨by decide +kernel, by decide +kernel⟩, List.mem_of_getElem? (i := 201) (by decide +kernel), List.mem_of_getElem? (i := 457) (by decide +kernel), List.mem_of_getElem? (i := 458) (by decide +kernel)⟩
theorem lw_p22 : lw_okq (⟨"PointsToSolver$Solution", "addFact", "(IIII)V"⟩, 11) := ⟨⟨by decide +kernel, by decide +kernel⟩, List.mem_of_getElem? (i := 201) (by decide +kernel), List.mem_of_getElem? (i := 462) (by decide +kernel), List.mem_of_getElem? (i := 463) (by decide +kernel)⟩
theorem lw_p23 : lw_okq (⟨"PointsToSolver$Program", "viasIn", "([II)I"⟩, 7) := ⟨⟨by decide +kernel, by decide +kernel⟩, List.mem_of_getElem? (i := 72) (by decide +kernel), List.mem_of_getElem? (i := 469) (by decide +kernel), List.mem_of_getElem? (i := 470) (by decide +kernel)⟩
theorem lw_p24 : lw_okq (⟨"PointsToSolver$Program", "viaSlot", "(I)I"⟩, 7) := ⟨⟨by decide +kernel, by decide +kernel⟩, List.mem_of_getElem? (i := 72) (by decide +kernel), List.mem_of_getElem? (i := 473) (by decide +kernel), List.mem_of_getElem? (i := 474) (by decide +kernel)⟩
theorem lw_p25 : lw_okq (⟨"PointsToSolver$Program", "flowCount", "(I)I"⟩, 7) := ⟨⟨by decide +kernel, by decide +kernel⟩, List.mem_of_getElem? (i := 72) (by decide +kernel), List.mem_of_getElem? (i := 477) (by decide +kernel), List.mem_of_getElem? (i := 478) (by decide +kernel)⟩
theorem lw_p26 : lw_okq (⟨"PointsToSolver$Solution", "applyFlow", "(LPointsToSolver$Program;IIII)V"⟩, 11) := ⟨⟨by decide +kernel, by decide +kernel⟩, List.mem_of_getElem? (i := 201) (by decide +kernel), List.mem_of_getElem? (i := 481) (by decide +kernel), List.mem_of_getElem? (i := 482) (by decide +kernel)⟩
theorem lw_p27 : lw_okq (⟨"PointsToSolver$Program", "flowSource", "(III)I"⟩, 7) := ⟨⟨by decide +kernel, by decide +kernel⟩, List.mem_of_getElem? (i := 72) (by decide +kernel), List.mem_of_getElem? (i := 485) (by decide +kernel), List.mem_of_getElem? (i := 486) (by decide +kernel)⟩
theorem lw_p28 : lw_okq (⟨"PointsToSolver$Program", "flowTarget", "(III)I"⟩, 7) := ⟨⟨by decide +kernel, by decide +kernel⟩, List.mem_of_getElem? (i := 72) (by decide +kernel), List.mem_of_getElem? (i := 492) (by decide +kernel), List.mem_of_getElem? (i := 493) (by decide +kernel)⟩
theorem lw_p29 : lw_okq (⟨"PointsToSolver$Solution", "derive", "(III)V"⟩, 11) := ⟨⟨by decide +kernel, by decide +kernel⟩, List.mem_of_getElem? (i := 201) (by decide +kernel), List.mem_of_getElem? (i := 497) (by decide +kernel), List.mem_of_getElem? (i := 498) (by decide +kernel)⟩
theorem lw_p30 : lw_okq (⟨"PointsToSolver$Solution", "supply", "(III)V"⟩, 11) := ⟨⟨by decide +kernel, by decide +kernel⟩, List.mem_of_getElem? (i := 201) (by decide +kernel), List.mem_of_getElem? (i := 501) (by decide +kernel), List.mem_of_getElem? (i := 502) (by decide +kernel)⟩
theorem lw_p31 : lw_okq (⟨"PointsToSolver", "isObject", "(I)Z"⟩, 12) := ⟨⟨by decide +kernel, by decide +kernel⟩, List.mem_of_getElem? (i := 27) (by decide +kernel), List.mem_of_getElem? (i := 537) (by decide +kernel), List.mem_of_getElem? (i := 538) (by decide +kernel)⟩
def lw_privs_2 : List (MethodName × Nat) := [(⟨"PointsToSolver$History", "clear", "()V"⟩, 3), (⟨"PointsToSolver", "settle", "()V"⟩, 12), (⟨"PointsToSolver$Solution", "solve", "(LPointsToSolver$Program;)V"⟩, 11), (⟨"PointsToSolver$ConstraintList", "isEnabled", "(I)Z"⟩, 6), (⟨"PointsToSolver$Solution", "apply", "(LPointsToSolver$Program;II)V"⟩, 11), (⟨"PointsToSolver$Solution", "applyNew", "(LPointsToSolver$ConstraintList;II)V"⟩, 11), (⟨"PointsToSolver$Solution", "addFact", "(IIII)V"⟩, 11), (⟨"PointsToSolver$Program", "viasIn", "([II)I"⟩, 7), (⟨"PointsToSolver$Program", "viaSlot", "(I)I"⟩, 7), (⟨"PointsToSolver$Program", "flowCount", "(I)I"⟩, 7), (⟨"PointsToSolver$Solution", "applyFlow", "(LPointsToSolver$Program;IIII)V"⟩, 11), (⟨"PointsToSolver$Program", "flowSource", "(III)I"⟩, 7), (⟨"PointsToSolver$Program", "flowTarget", "(III)I"⟩, 7), (⟨"PointsToSolver$Solution", "derive", "(III)V"⟩, 11), (⟨"PointsToSolver$Solution", "supply", "(III)V"⟩, 11), (⟨"PointsToSolver", "isObject", "(I)Z"⟩, 12)]
theorem lw_r2 : ∀ q ∈ lw_privs_2, lw_okq q := List.forall_mem_cons.mpr ⟨lw_p16, List.forall_mem_cons.mpr ⟨lw_p17, List.forall_mem_cons.mpr ⟨lw_p18, List.forall_mem_cons.mpr ⟨lw_p19, List.forall_mem_cons.mpr ⟨lw_p20, List.forall_mem_cons.mpr ⟨lw_p21, List.forall_mem_cons.mpr ⟨lw_p22, List.forall_mem_cons.mpr ⟨lw_p23, List.forall_mem_cons.mpr ⟨lw_p24, List.forall_mem_cons.mpr ⟨lw_p25, List.forall_mem_cons.mpr ⟨lw_p26, List.forall_mem_cons.mpr ⟨lw_p27, List.forall_mem_cons.mpr ⟨lw_p28, List.forall_mem_cons.mpr ⟨lw_p29, List.forall_mem_cons.mpr ⟨lw_p30, List.forall_mem_cons.mpr ⟨lw_p31, fun _ h => absurd h List.not_mem_nil⟩⟩⟩⟩⟩⟩⟩⟩⟩⟩⟩⟩⟩⟩⟩⟩
theorem lw_p32 : lw_okq (⟨"PointsToSolver$Program", "slotAt", "(I)I"⟩, 7) := ⟨⟨by decide +kernel, by decide +kernel⟩, List.mem_of_getElem? (i := 72) (by decide +kernel), List.mem_of_getElem? (i := 558) (by decide +kernel), List.mem_of_getElem? (i := 559) (by decide +kernel)⟩
theorem lw_p33 : lw_okq (⟨"PointsToSolver$Solution", "fieldTargets", "(I)I"⟩, 11) := ⟨⟨by decide +kernel, by decide +kernel⟩, List.mem_of_getElem? (i := 201) (by decide +kernel), List.mem_of_getElem? (i := 575) (by decide +kernel), List.mem_of_getElem? (i := 576) (by decide +kernel)⟩
theorem lw_p34 : lw_okq (⟨"PointsToSolver", "findFact", "(II)I"⟩, 12) := ⟨⟨by decide +kernel, by decide +kernel⟩, List.mem_of_getElem? (i := 27) (by decide +kernel), List.mem_of_getElem? (i := 584) (by decide +kernel), List.mem_of_getElem? (i := 585) (by decide +kernel)⟩
theorem lw_p35 : lw_okq (⟨"PointsToSolver$Solution", "countDerivations", "(LPointsToSolver$Program;III)I"⟩, 11) := ⟨⟨by decide +kernel, by decide +kernel⟩, List.mem_of_getElem? (i := 201) (by decide +kernel), List.mem_of_getElem? (i := 594) (by decide +kernel), List.mem_of_getElem? (i := 595) (by decide +kernel)⟩
theorem lw_p36 : lw_okq (⟨"PointsToSolver", "findStep", "(III)I"⟩, 12) := ⟨⟨by decide +kernel, by decide +kernel⟩, List.mem_of_getElem? (i := 27) (by decide +kernel), List.mem_of_getElem? (i := 606) (by decide +kernel), List.mem_of_getElem? (i := 607) (by decide +kernel)⟩
theorem lw_p37 : lw_okq (⟨"PointsToSolver$Trial", "solve", "(LPointsToSolver$Program;I)V"⟩, 1) := ⟨⟨by decide +kernel, by decide +kernel⟩, List.mem_of_getElem? (i := 289) (by decide +kernel), List.mem_of_getElem? (i := 629) (by decide +kernel), List.mem_of_getElem? (i := 630) (by decide +kernel)⟩
theorem lw_p38 : lw_okq (⟨"PointsToSolver$Trial", "apply", "(LPointsToSolver$Program;I)Z"⟩, 1) := ⟨⟨by decide +kernel, by decide +kernel⟩, List.mem_of_getElem? (i := 289) (by decide +kernel), List.mem_of_getElem? (i := 635) (by decide +kernel), List.mem_of_getElem? (i := 636) (by decide +kernel)⟩
theorem lw_p39 : lw_okq (⟨"PointsToSolver$Trial", "widen", "(II)Z"⟩, 1) := ⟨⟨by decide +kernel, by decide +kernel⟩, List.mem_of_getElem? (i := 289) (by decide +kernel), List.mem_of_getElem? (i := 639) (by decide +kernel), List.mem_of_getElem? (i := 640) (by decide +kernel)⟩
theorem lw_p40 : lw_okq (⟨"PointsToSolver", "graphed", "()LPointsToSolver$CopyGraph;"⟩, 12) := ⟨⟨by decide +kernel, by decide +kernel⟩, List.mem_of_getElem? (i := 27) (by decide +kernel), List.mem_of_getElem? (i := 651) (by decide +kernel), List.mem_of_getElem? (i := 652) (by decide +kernel)⟩
theorem lw_p41 : lw_okq (⟨"PointsToSolver$CopyGraph", "build", "(LPointsToSolver$Program;LPointsToSolver$Solution;)V"⟩, 4) := ⟨⟨by decide +kernel, by decide +kernel⟩, List.mem_of_getElem? (i := 253) (by decide +kernel), List.mem_of_getElem? (i := 655) (by decide +kernel), List.mem_of_getElem? (i := 656) (by decide +kernel)⟩
theorem lw_p42 : lw_okq (⟨"PointsToSolver$CopyGraph", "addEdges", "(LPointsToSolver$Program;II)V"⟩, 4) := ⟨⟨by decide +kernel, by decide +kernel⟩, List.mem_of_getElem? (i := 253) (by decide +kernel), List.mem_of_getElem? (i := 664) (by decide +kernel), List.mem_of_getElem? (i := 665) (by decide +kernel)⟩
theorem lw_p43 : lw_okq (⟨"PointsToSolver$CopyGraph", "findExisting", "(LPointsToSolver$Program;)V"⟩, 4) := ⟨⟨by decide +kernel, by decide +kernel⟩, List.mem_of_getElem? (i := 253) (by decide +kernel), List.mem_of_getElem? (i := 672) (by decide +kernel), List.mem_of_getElem? (i := 673) (by decide +kernel)⟩
theorem lw_p44 : lw_okq (⟨"PointsToSolver$CopyGraph", "findReached", "()V"⟩, 4) := ⟨⟨by decide +kernel, by decide +kernel⟩, List.mem_of_getElem? (i := 253) (by decide +kernel), List.mem_of_getElem? (i := 678) (by decide +kernel), List.mem_of_getElem? (i := 679) (by decide +kernel)⟩
theorem lw_p45 : lw_okq (⟨"PointsToSolver$CopyGraph", "findComponents", "()V"⟩, 4) := ⟨⟨by decide +kernel, by decide +kernel⟩, List.mem_of_getElem? (i := 253) (by decide +kernel), List.mem_of_getElem? (i := 685) (by decide +kernel), List.mem_of_getElem? (i := 686) (by decide +kernel)⟩
theorem lw_p46 : lw_okq (⟨"PointsToSolver$CopyGraph", "countEdges", "()I"⟩, 4) := ⟨⟨by decide +kernel, by decide +kernel⟩, List.mem_of_getElem? (i := 253) (by decide +kernel), List.mem_of_getElem? (i := 689) (by decide +kernel), List.mem_of_getElem? (i := 690) (by decide +kernel)⟩
theorem lw_p47 : lw_okq (⟨"PointsToSolver$CopyGraph", "shortestPath", "(II)I"⟩, 4) := ⟨⟨by decide +kernel, by decide +kernel⟩, List.mem_of_getElem? (i := 253) (by decide +kernel), List.mem_of_getElem? (i := 708) (by decide +kernel), List.mem_of_getElem? (i := 709) (by decide +kernel)⟩
def lw_privs_3 : List (MethodName × Nat) := [(⟨"PointsToSolver$Program", "slotAt", "(I)I"⟩, 7), (⟨"PointsToSolver$Solution", "fieldTargets", "(I)I"⟩, 11), (⟨"PointsToSolver", "findFact", "(II)I"⟩, 12), (⟨"PointsToSolver$Solution", "countDerivations", "(LPointsToSolver$Program;III)I"⟩, 11), (⟨"PointsToSolver", "findStep", "(III)I"⟩, 12), (⟨"PointsToSolver$Trial", "solve", "(LPointsToSolver$Program;I)V"⟩, 1), (⟨"PointsToSolver$Trial", "apply", "(LPointsToSolver$Program;I)Z"⟩, 1), (⟨"PointsToSolver$Trial", "widen", "(II)Z"⟩, 1), (⟨"PointsToSolver", "graphed", "()LPointsToSolver$CopyGraph;"⟩, 12), (⟨"PointsToSolver$CopyGraph", "build", "(LPointsToSolver$Program;LPointsToSolver$Solution;)V"⟩, 4), (⟨"PointsToSolver$CopyGraph", "addEdges", "(LPointsToSolver$Program;II)V"⟩, 4), (⟨"PointsToSolver$CopyGraph", "findExisting", "(LPointsToSolver$Program;)V"⟩, 4), (⟨"PointsToSolver$CopyGraph", "findReached", "()V"⟩, 4), (⟨"PointsToSolver$CopyGraph", "findComponents", "()V"⟩, 4), (⟨"PointsToSolver$CopyGraph", "countEdges", "()I"⟩, 4), (⟨"PointsToSolver$CopyGraph", "shortestPath", "(II)I"⟩, 4)]
theorem lw_r3 : ∀ q ∈ lw_privs_3, lw_okq q := List.forall_mem_cons.mpr ⟨lw_p32, List.forall_mem_cons.mpr ⟨lw_p33, List.forall_mem_cons.mpr ⟨lw_p34, List.forall_mem_cons.mpr ⟨lw_p35, List.forall_mem_cons.mpr ⟨lw_p36, List.forall_mem_cons.mpr ⟨lw_p37, List.forall_mem_cons.mpr ⟨lw_p38, List.forall_mem_cons.mpr ⟨lw_p39, List.forall_mem_cons.mpr ⟨lw_p40, List.forall_mem_cons.mpr ⟨lw_p41, List.forall_mem_cons.mpr ⟨lw_p42, List.forall_mem_cons.mpr ⟨lw_p43, List.forall_mem_cons.mpr ⟨lw_p44, List.forall_mem_cons.mpr ⟨lw_p45, List.forall_mem_cons.mpr ⟨lw_p46, List.forall_mem_cons.mpr ⟨lw_p47, fun _ h => absurd h List.not_mem_nil⟩⟩⟩⟩⟩⟩⟩⟩⟩⟩⟩⟩⟩⟩⟩⟩
theorem lw_p48 : lw_okq (⟨"PointsToSolver$CopyGraph", "targetsOf", "(J)J"⟩, 4) := ⟨⟨by decide +kernel, by decide +kernel⟩, List.mem_of_getElem? (i := 253) (by decide +kernel), List.mem_of_getElem? (i := 712) (by decide +kernel), List.mem_of_getElem? (i := 713) (by decide +kernel)⟩
theorem lw_p49 : lw_okq (⟨"PointsToSolver$CopyGraph", "lowestOf", "(I)I"⟩, 4) := ⟨⟨by decide +kernel, by decide +kernel⟩, List.mem_of_getElem? (i := 253) (by decide +kernel), List.mem_of_getElem? (i := 725) (by decide +kernel), List.mem_of_getElem? (i := 726) (by decide +kernel)⟩
theorem lw_p50 : lw_okq (⟨"PointsToSolver$CopyGraph", "countComponents", "(I)I"⟩, 4) := ⟨⟨by decide +kernel, by decide +kernel⟩, List.mem_of_getElem? (i := 253) (by decide +kernel), List.mem_of_getElem? (i := 740) (by decide +kernel), List.mem_of_getElem? (i := 741) (by decide +kernel)⟩
theorem lw_p51 : lw_okq (⟨"PointsToSolver$CopyGraph", "isLowest", "(I)Z"⟩, 4) := ⟨⟨by decide +kernel, by decide +kernel⟩, List.mem_of_getElem? (i := 253) (by decide +kernel), List.mem_of_getElem? (i := 744) (by decide +kernel), List.mem_of_getElem? (i := 745) (by decide +kernel)⟩
theorem lw_p52 : lw_okq (⟨"PointsToSolver$CopyGraph", "countCondensedEdges", "()I"⟩, 4) := ⟨⟨by decide +kernel, by decide +kernel⟩, List.mem_of_getElem? (i := 253) (by decide +kernel), List.mem_of_getElem? (i := 757) (by decide +kernel), List.mem_of_getElem? (i := 758) (by decide +kernel)⟩
theorem lw_p53 : lw_okq (⟨"PointsToSolver$CopyGraph", "lowestOfAll", "(J)J"⟩, 4) := ⟨⟨by decide +kernel, by decide +kernel⟩, List.mem_of_getElem? (i := 253) (by decide +kernel), List.mem_of_getElem? (i := 762) (by decide +kernel), List.mem_of_getElem? (i := 763) (by decide +kernel)⟩
theorem lw_p54 : lw_okq (⟨"PointsToSolver", "isConstraint", "(I)Z"⟩, 12) := ⟨⟨by decide +kernel, by decide +kernel⟩, List.mem_of_getElem? (i := 27) (by decide +kernel), List.mem_of_getElem? (i := 770) (by decide +kernel), List.mem_of_getElem? (i := 771) (by decide +kernel)⟩
theorem lw_p55 : lw_okq (⟨"PointsToSolver", "targetsOfCall", "(I)I"⟩, 12) := ⟨⟨by decide +kernel, by decide +kernel⟩, List.mem_of_getElem? (i := 27) (by decide +kernel), List.mem_of_getElem? (i := 774) (by decide +kernel), List.mem_of_getElem? (i := 775) (by decide +kernel)⟩
theorem lw_p56 : lw_okq (⟨"PointsToSolver$Trial", "countFacts", "()I"⟩, 1) := ⟨⟨by decide +kernel, by decide +kernel⟩, List.mem_of_getElem? (i := 289) (by decide +kernel), List.mem_of_getElem? (i := 791) (by decide +kernel), List.mem_of_getElem? (i := 792) (by decide +kernel)⟩
theorem lw_p57 : lw_okq (⟨"PointsToSolver$ConstraintList", "all", "()I"⟩, 6) := ⟨⟨by decide +kernel, by decide +kernel⟩, List.mem_of_getElem? (i := 102) (by decide +kernel), List.mem_of_getElem? (i := 805) (by decide +kernel), List.mem_of_getElem? (i := 806) (by decide +kernel)⟩
theorem lw_p58 : lw_okq (⟨"PointsToSolver", "factsLostWithout", "(I)I"⟩, 12) := ⟨⟨by decide +kernel, by decide +kernel⟩, List.mem_of_getElem? (i := 27) (by decide +kernel), List.mem_of_getElem? (i := 813) (by decide +kernel), List.mem_of_getElem? (i := 814) (by decide +kernel)⟩
theorem lw_p59 : lw_okq (⟨"PointsToSolver", "dumped", "()LPointsToSolver$Dump;"⟩, 12) := ⟨⟨by decide +kernel, by decide +kernel⟩, List.mem_of_getElem? (i := 27) (by decide +kernel), List.mem_of_getElem? (i := 825) (by decide +kernel), List.mem_of_getElem? (i := 826) (by decide +kernel)⟩
theorem lw_p60 : lw_okq (⟨"PointsToSolver$Dump", "write", "(LPointsToSolver$Program;LPointsToSolver$Solution;)V"⟩, 2) := ⟨⟨by decide +kernel, by decide +kernel⟩, List.mem_of_getElem? (i := 274) (by decide +kernel), List.mem_of_getElem? (i := 829) (by decide +kernel), List.mem_of_getElem? (i := 830) (by decide +kernel)⟩
theorem lw_p61 : lw_okq (⟨"PointsToSolver$Dump", "writeName", "(J)V"⟩, 2) := ⟨⟨by decide +kernel, by decide +kernel⟩, List.mem_of_getElem? (i := 274) (by decide +kernel), List.mem_of_getElem? (i := 833) (by decide +kernel), List.mem_of_getElem? (i := 834) (by decide +kernel)⟩
theorem lw_p62 : lw_okq (⟨"PointsToSolver$Dump", "writeByte", "(I)V"⟩, 2) := ⟨⟨by decide +kernel, by decide +kernel⟩, List.mem_of_getElem? (i := 274) (by decide +kernel), List.mem_of_getElem? (i := 837) (by decide +kernel), List.mem_of_getElem? (i := 838) (by decide +kernel)⟩
theorem lw_p63 : lw_okq (⟨"PointsToSolver$Dump", "writeObjects", "(LPointsToSolver$NameTable;I)V"⟩, 2) := ⟨⟨by decide +kernel, by decide +kernel⟩, List.mem_of_getElem? (i := 274) (by decide +kernel), List.mem_of_getElem? (i := 841) (by decide +kernel), List.mem_of_getElem? (i := 842) (by decide +kernel)⟩
def lw_privs_4 : List (MethodName × Nat) := [(⟨"PointsToSolver$CopyGraph", "targetsOf", "(J)J"⟩, 4), (⟨"PointsToSolver$CopyGraph", "lowestOf", "(I)I"⟩, 4), (⟨"PointsToSolver$CopyGraph", "countComponents", "(I)I"⟩, 4), (⟨"PointsToSolver$CopyGraph", "isLowest", "(I)Z"⟩, 4), (⟨"PointsToSolver$CopyGraph", "countCondensedEdges", "()I"⟩, 4), (⟨"PointsToSolver$CopyGraph", "lowestOfAll", "(J)J"⟩, 4), (⟨"PointsToSolver", "isConstraint", "(I)Z"⟩, 12), (⟨"PointsToSolver", "targetsOfCall", "(I)I"⟩, 12), (⟨"PointsToSolver$Trial", "countFacts", "()I"⟩, 1), (⟨"PointsToSolver$ConstraintList", "all", "()I"⟩, 6), (⟨"PointsToSolver", "factsLostWithout", "(I)I"⟩, 12), (⟨"PointsToSolver", "dumped", "()LPointsToSolver$Dump;"⟩, 12), (⟨"PointsToSolver$Dump", "write", "(LPointsToSolver$Program;LPointsToSolver$Solution;)V"⟩, 2), (⟨"PointsToSolver$Dump", "writeName", "(J)V"⟩, 2), (⟨"PointsToSolver$Dump", "writeByte", "(I)V"⟩, 2), (⟨"PointsToSolver$Dump", "writeObjects", "(LPointsToSolver$NameTable;I)V"⟩, 2)]
theorem lw_r4 : ∀ q ∈ lw_privs_4, lw_okq q := List.forall_mem_cons.mpr ⟨lw_p48, List.forall_mem_cons.mpr ⟨lw_p49, List.forall_mem_cons.mpr ⟨lw_p50, List.forall_mem_cons.mpr ⟨lw_p51, List.forall_mem_cons.mpr ⟨lw_p52, List.forall_mem_cons.mpr ⟨lw_p53, List.forall_mem_cons.mpr ⟨lw_p54, List.forall_mem_cons.mpr ⟨lw_p55, List.forall_mem_cons.mpr ⟨lw_p56, List.forall_mem_cons.mpr ⟨lw_p57, List.forall_mem_cons.mpr ⟨lw_p58, List.forall_mem_cons.mpr ⟨lw_p59, List.forall_mem_cons.mpr ⟨lw_p60, List.forall_mem_cons.mpr ⟨lw_p61, List.forall_mem_cons.mpr ⟨lw_p62, List.forall_mem_cons.mpr ⟨lw_p63, fun _ h => absurd h List.not_mem_nil⟩⟩⟩⟩⟩⟩⟩⟩⟩⟩⟩⟩⟩⟩⟩⟩
theorem lw_p64 : lw_okq (⟨"PointsToSolver$Program", "mayStandAt", "(III)Z"⟩, 7) := ⟨⟨by decide +kernel, by decide +kernel⟩, List.mem_of_getElem? (i := 72) (by decide +kernel), List.mem_of_getElem? (i := 854) (by decide +kernel), List.mem_of_getElem? (i := 855) (by decide +kernel)⟩
theorem lw_p65 : lw_okq (⟨"PointsToSolver$History", "push", "(I)V"⟩, 3) := ⟨⟨by decide +kernel, by decide +kernel⟩, List.mem_of_getElem? (i := 181) (by decide +kernel), List.mem_of_getElem? (i := 861) (by decide +kernel), List.mem_of_getElem? (i := 862) (by decide +kernel)⟩
theorem lw_p66 : lw_okq (⟨"PointsToSolver$ConstraintList", "toggle", "(I)V"⟩, 6) := ⟨⟨by decide +kernel, by decide +kernel⟩, List.mem_of_getElem? (i := 102) (by decide +kernel), List.mem_of_getElem? (i := 870) (by decide +kernel), List.mem_of_getElem? (i := 871) (by decide +kernel)⟩
theorem lw_p67 : lw_okq (⟨"PointsToSolver$History", "pop", "()I"⟩, 3) := ⟨⟨by decide +kernel, by decide +kernel⟩, List.mem_of_getElem? (i := 181) (by decide +kernel), List.mem_of_getElem? (i := 878) (by decide +kernel), List.mem_of_getElem? (i := 879) (by decide +kernel)⟩
theorem lw_p68 : lw_okq (⟨"PointsToSolver$ConstraintList", "removeLast", "()V"⟩, 6) := ⟨⟨by decide +kernel, by decide +kernel⟩, List.mem_of_getElem? (i := 102) (by decide +kernel), List.mem_of_getElem? (i := 882) (by decide +kernel), List.mem_of_getElem? (i := 883) (by decide +kernel)⟩
theorem lw_p69 : lw_okq (⟨"PointsToSolver$ConstraintList", "copyFrom", "(LPointsToSolver$ConstraintList;)V"⟩, 6) := ⟨⟨by decide +kernel, by decide +kernel⟩, List.mem_of_getElem? (i := 102) (by decide +kernel), List.mem_of_getElem? (i := 894) (by decide +kernel), List.mem_of_getElem? (i := 895) (by decide +kernel)⟩
theorem lw_p70 : lw_okq (⟨"java/lang/Throwable", "fillInStackTrace", "(I)Ljava/lang/Throwable;"⟩, 6) := ⟨⟨by decide +kernel, by decide +kernel⟩, List.mem_of_getElem? (i := 947) (by decide +kernel), List.mem_of_getElem? (i := 945) (by decide +kernel), List.mem_of_getElem? (i := 946) (by decide +kernel)⟩
theorem lw_p71 : lw_okq (⟨"PointsToSolver$ConstraintList", "operandAt", "(II)I"⟩, 6) := ⟨⟨by decide +kernel, by decide +kernel⟩, List.mem_of_getElem? (i := 102) (by decide +kernel), List.mem_of_getElem? (i := 984) (by decide +kernel), List.mem_of_getElem? (i := 985) (by decide +kernel)⟩
theorem lw_p72 : lw_okq (⟨"PointsToSolverModel", "solve", "()V"⟩, 42) := ⟨⟨by decide +kernel, by decide +kernel⟩, List.mem_of_getElem? (i := 988) (by decide +kernel), List.mem_of_getElem? (i := 994) (by decide +kernel), List.mem_of_getElem? (i := 995) (by decide +kernel)⟩
theorem lw_p73 : lw_okq (⟨"PointsToSolverModel", "isEnabled", "(I)Z"⟩, 42) := ⟨⟨by decide +kernel, by decide +kernel⟩, List.mem_of_getElem? (i := 988) (by decide +kernel), List.mem_of_getElem? (i := 998) (by decide +kernel), List.mem_of_getElem? (i := 999) (by decide +kernel)⟩
theorem lw_p74 : lw_okq (⟨"PointsToSolverModel", "apply", "(I)V"⟩, 42) := ⟨⟨by decide +kernel, by decide +kernel⟩, List.mem_of_getElem? (i := 988) (by decide +kernel), List.mem_of_getElem? (i := 1005) (by decide +kernel), List.mem_of_getElem? (i := 1006) (by decide +kernel)⟩
theorem lw_p75 : lw_okq (⟨"PointsToSolverModel", "kind", "(I)I"⟩, 42) := ⟨⟨by decide +kernel, by decide +kernel⟩, List.mem_of_getElem? (i := 988) (by decide +kernel), List.mem_of_getElem? (i := 1009) (by decide +kernel), List.mem_of_getElem? (i := 1010) (by decide +kernel)⟩
theorem lw_p76 : lw_okq (⟨"PointsToSolverModel", "first", "(I)I"⟩, 42) := ⟨⟨by decide +kernel, by decide +kernel⟩, List.mem_of_getElem? (i := 988) (by decide +kernel), List.mem_of_getElem? (i := 1013) (by decide +kernel), List.mem_of_getElem? (i := 1014) (by decide +kernel)⟩
theorem lw_p77 : lw_okq (⟨"PointsToSolverModel", "second", "(I)I"⟩, 42) := ⟨⟨by decide +kernel, by decide +kernel⟩, List.mem_of_getElem? (i := 988) (by decide +kernel), List.mem_of_getElem? (i := 1017) (by decide +kernel), List.mem_of_getElem? (i := 1018) (by decide +kernel)⟩
theorem lw_p78 : lw_okq (⟨"PointsToSolverModel", "add", "(II)V"⟩, 42) := ⟨⟨by decide +kernel, by decide +kernel⟩, List.mem_of_getElem? (i := 988) (by decide +kernel), List.mem_of_getElem? (i := 1021) (by decide +kernel), List.mem_of_getElem? (i := 1022) (by decide +kernel)⟩
theorem lw_p79 : lw_okq (⟨"PointsToSolverModel", "third", "(I)I"⟩, 42) := ⟨⟨by decide +kernel, by decide +kernel⟩, List.mem_of_getElem? (i := 988) (by decide +kernel), List.mem_of_getElem? (i := 1025) (by decide +kernel), List.mem_of_getElem? (i := 1026) (by decide +kernel)⟩
def lw_privs_5 : List (MethodName × Nat) := [(⟨"PointsToSolver$Program", "mayStandAt", "(III)Z"⟩, 7), (⟨"PointsToSolver$History", "push", "(I)V"⟩, 3), (⟨"PointsToSolver$ConstraintList", "toggle", "(I)V"⟩, 6), (⟨"PointsToSolver$History", "pop", "()I"⟩, 3), (⟨"PointsToSolver$ConstraintList", "removeLast", "()V"⟩, 6), (⟨"PointsToSolver$ConstraintList", "copyFrom", "(LPointsToSolver$ConstraintList;)V"⟩, 6), (⟨"java/lang/Throwable", "fillInStackTrace", "(I)Ljava/lang/Throwable;"⟩, 6), (⟨"PointsToSolver$ConstraintList", "operandAt", "(II)I"⟩, 6), (⟨"PointsToSolverModel", "solve", "()V"⟩, 42), (⟨"PointsToSolverModel", "isEnabled", "(I)Z"⟩, 42), (⟨"PointsToSolverModel", "apply", "(I)V"⟩, 42), (⟨"PointsToSolverModel", "kind", "(I)I"⟩, 42), (⟨"PointsToSolverModel", "first", "(I)I"⟩, 42), (⟨"PointsToSolverModel", "second", "(I)I"⟩, 42), (⟨"PointsToSolverModel", "add", "(II)V"⟩, 42), (⟨"PointsToSolverModel", "third", "(I)I"⟩, 42)]
theorem lw_r5 : ∀ q ∈ lw_privs_5, lw_okq q := List.forall_mem_cons.mpr ⟨lw_p64, List.forall_mem_cons.mpr ⟨lw_p65, List.forall_mem_cons.mpr ⟨lw_p66, List.forall_mem_cons.mpr ⟨lw_p67, List.forall_mem_cons.mpr ⟨lw_p68, List.forall_mem_cons.mpr ⟨lw_p69, List.forall_mem_cons.mpr ⟨lw_p70, List.forall_mem_cons.mpr ⟨lw_p71, List.forall_mem_cons.mpr ⟨lw_p72, List.forall_mem_cons.mpr ⟨lw_p73, List.forall_mem_cons.mpr ⟨lw_p74, List.forall_mem_cons.mpr ⟨lw_p75, List.forall_mem_cons.mpr ⟨lw_p76, List.forall_mem_cons.mpr ⟨lw_p77, List.forall_mem_cons.mpr ⟨lw_p78, List.forall_mem_cons.mpr ⟨lw_p79, fun _ h => absurd h List.not_mem_nil⟩⟩⟩⟩⟩⟩⟩⟩⟩⟩⟩⟩⟩⟩⟩⟩
theorem lw_p80 : lw_okq (⟨"PointsToSolverModel", "isFunction", "(I)Z"⟩, 42) := ⟨⟨by decide +kernel, by decide +kernel⟩, List.mem_of_getElem? (i := 988) (by decide +kernel), List.mem_of_getElem? (i := 1032) (by decide +kernel), List.mem_of_getElem? (i := 1033) (by decide +kernel)⟩
theorem lw_p81 : lw_okq (⟨"PointsToSolverModel", "appendInt", "(I)V"⟩, 42) := ⟨⟨by decide +kernel, by decide +kernel⟩, List.mem_of_getElem? (i := 988) (by decide +kernel), List.mem_of_getElem? (i := 1172) (by decide +kernel), List.mem_of_getElem? (i := 1173) (by decide +kernel)⟩
theorem lw_p82 : lw_okq (⟨"PointsToSolverModel", "nextToken", "()V"⟩, 42) := ⟨⟨by decide +kernel, by decide +kernel⟩, List.mem_of_getElem? (i := 988) (by decide +kernel), List.mem_of_getElem? (i := 1187) (by decide +kernel), List.mem_of_getElem? (i := 1188) (by decide +kernel)⟩
theorem lw_p83 : lw_okq (⟨"PointsToSolverModel", "byteAt", "(I)I"⟩, 42) := ⟨⟨by decide +kernel, by decide +kernel⟩, List.mem_of_getElem? (i := 988) (by decide +kernel), List.mem_of_getElem? (i := 1191) (by decide +kernel), List.mem_of_getElem? (i := 1192) (by decide +kernel)⟩
theorem lw_p84 : lw_okq (⟨"PointsToSolverModel", "keyword", "()I"⟩, 42) := ⟨⟨by decide +kernel, by decide +kernel⟩, List.mem_of_getElem? (i := 988) (by decide +kernel), List.mem_of_getElem? (i := 1198) (by decide +kernel), List.mem_of_getElem? (i := 1199) (by decide +kernel)⟩
theorem lw_p85 : lw_okq (⟨"PointsToSolverModel", "is", "(Ljava/lang/String;)Z"⟩, 42) := ⟨⟨by decide +kernel, by decide +kernel⟩, List.mem_of_getElem? (i := 988) (by decide +kernel), List.mem_of_getElem? (i := 1203) (by decide +kernel), List.mem_of_getElem? (i := 1204) (by decide +kernel)⟩
theorem lw_p86 : lw_okq (⟨"PointsToSolverModel", "function", "()V"⟩, 42) := ⟨⟨by decide +kernel, by decide +kernel⟩, List.mem_of_getElem? (i := 988) (by decide +kernel), List.mem_of_getElem? (i := 1263) (by decide +kernel), List.mem_of_getElem? (i := 1264) (by decide +kernel)⟩
theorem lw_p87 : lw_okq (⟨"PointsToSolverModel", "must", "(ZI)Z"⟩, 42) := ⟨⟨by decide +kernel, by decide +kernel⟩, List.mem_of_getElem? (i := 988) (by decide +kernel), List.mem_of_getElem? (i := 1267) (by decide +kernel), List.mem_of_getElem? (i := 1268) (by decide +kernel)⟩
theorem lw_p88 : lw_okq (⟨"PointsToSolverModel", "object", "()I"⟩, 42) := ⟨⟨by decide +kernel, by decide +kernel⟩, List.mem_of_getElem? (i := 988) (by decide +kernel), List.mem_of_getElem? (i := 1271) (by decide +kernel), List.mem_of_getElem? (i := 1272) (by decide +kernel)⟩
theorem lw_p89 : lw_okq (⟨"PointsToSolverModel", "identifier", "([J[II)I"⟩, 42) := ⟨⟨by decide +kernel, by decide +kernel⟩, List.mem_of_getElem? (i := 988) (by decide +kernel), List.mem_of_getElem? (i := 1275) (by decide +kernel), List.mem_of_getElem? (i := 1276) (by decide +kernel)⟩
theorem lw_p90 : lw_okq (⟨"PointsToSolverModel", "variable", "()I"⟩, 42) := ⟨⟨by decide +kernel, by decide +kernel⟩, List.mem_of_getElem? (i := 988) (by decide +kernel), List.mem_of_getElem? (i := 1279) (by decide +kernel), List.mem_of_getElem? (i := 1280) (by decide +kernel)⟩
theorem lw_p91 : lw_okq (⟨"PointsToSolverModel", "constraint", "(I)V"⟩, 42) := ⟨⟨by decide +kernel, by decide +kernel⟩, List.mem_of_getElem? (i := 988) (by decide +kernel), List.mem_of_getElem? (i := 1283) (by decide +kernel), List.mem_of_getElem? (i := 1284) (by decide +kernel)⟩
theorem lw_p92 : lw_okq (⟨"PointsToSolverModel", "field", "()I"⟩, 42) := ⟨⟨by decide +kernel, by decide +kernel⟩, List.mem_of_getElem? (i := 988) (by decide +kernel), List.mem_of_getElem? (i := 1287) (by decide +kernel), List.mem_of_getElem? (i := 1288) (by decide +kernel)⟩
theorem lw_p93 : lw_okq (⟨"PointsToSolverModel", "adopt", "()V"⟩, 42) := ⟨⟨by decide +kernel, by decide +kernel⟩, List.mem_of_getElem? (i := 988) (by decide +kernel), List.mem_of_getElem? (i := 1294) (by decide +kernel), List.mem_of_getElem? (i := 1295) (by decide +kernel)⟩
theorem lw_p94 : lw_okq (⟨"PointsToSolverModel", "functionSet", "()I"⟩, 42) := ⟨⟨by decide +kernel, by decide +kernel⟩, List.mem_of_getElem? (i := 988) (by decide +kernel), List.mem_of_getElem? (i := 1325) (by decide +kernel), List.mem_of_getElem? (i := 1326) (by decide +kernel)⟩
theorem lw_p95 : lw_okq (⟨"PointsToSolverModel", "isConstraint", "(I)Z"⟩, 42) := ⟨⟨by decide +kernel, by decide +kernel⟩, List.mem_of_getElem? (i := 988) (by decide +kernel), List.mem_of_getElem? (i := 1333) (by decide +kernel), List.mem_of_getElem? (i := 1334) (by decide +kernel)⟩
def lw_privs_6 : List (MethodName × Nat) := [(⟨"PointsToSolverModel", "isFunction", "(I)Z"⟩, 42), (⟨"PointsToSolverModel", "appendInt", "(I)V"⟩, 42), (⟨"PointsToSolverModel", "nextToken", "()V"⟩, 42), (⟨"PointsToSolverModel", "byteAt", "(I)I"⟩, 42), (⟨"PointsToSolverModel", "keyword", "()I"⟩, 42), (⟨"PointsToSolverModel", "is", "(Ljava/lang/String;)Z"⟩, 42), (⟨"PointsToSolverModel", "function", "()V"⟩, 42), (⟨"PointsToSolverModel", "must", "(ZI)Z"⟩, 42), (⟨"PointsToSolverModel", "object", "()I"⟩, 42), (⟨"PointsToSolverModel", "identifier", "([J[II)I"⟩, 42), (⟨"PointsToSolverModel", "variable", "()I"⟩, 42), (⟨"PointsToSolverModel", "constraint", "(I)V"⟩, 42), (⟨"PointsToSolverModel", "field", "()I"⟩, 42), (⟨"PointsToSolverModel", "adopt", "()V"⟩, 42), (⟨"PointsToSolverModel", "functionSet", "()I"⟩, 42), (⟨"PointsToSolverModel", "isConstraint", "(I)Z"⟩, 42)]
theorem lw_r6 : ∀ q ∈ lw_privs_6, lw_okq q := List.forall_mem_cons.mpr ⟨lw_p80, List.forall_mem_cons.mpr ⟨lw_p81, List.forall_mem_cons.mpr ⟨lw_p82, List.forall_mem_cons.mpr ⟨lw_p83, List.forall_mem_cons.mpr ⟨lw_p84, List.forall_mem_cons.mpr ⟨lw_p85, List.forall_mem_cons.mpr ⟨lw_p86, List.forall_mem_cons.mpr ⟨lw_p87, List.forall_mem_cons.mpr ⟨lw_p88, List.forall_mem_cons.mpr ⟨lw_p89, List.forall_mem_cons.mpr ⟨lw_p90, List.forall_mem_cons.mpr ⟨lw_p91, List.forall_mem_cons.mpr ⟨lw_p92, List.forall_mem_cons.mpr ⟨lw_p93, List.forall_mem_cons.mpr ⟨lw_p94, List.forall_mem_cons.mpr ⟨lw_p95, fun _ h => absurd h List.not_mem_nil⟩⟩⟩⟩⟩⟩⟩⟩⟩⟩⟩⟩⟩⟩⟩⟩
theorem lw_p96 : lw_okq (⟨"PointsToSolverModel", "isObject", "(I)Z"⟩, 42) := ⟨⟨by decide +kernel, by decide +kernel⟩, List.mem_of_getElem? (i := 988) (by decide +kernel), List.mem_of_getElem? (i := 1346) (by decide +kernel), List.mem_of_getElem? (i := 1347) (by decide +kernel)⟩
theorem lw_p97 : lw_okq (⟨"PointsToSolverModel", "facts", "()I"⟩, 42) := ⟨⟨by decide +kernel, by decide +kernel⟩, List.mem_of_getElem? (i := 988) (by decide +kernel), List.mem_of_getElem? (i := 1358) (by decide +kernel), List.mem_of_getElem? (i := 1359) (by decide +kernel)⟩
theorem lw_p98 : lw_okq (⟨"PointsToSolverModel", "indexOf", "(I)I"⟩, 42) := ⟨⟨by decide +kernel, by decide +kernel⟩, List.mem_of_getElem? (i := 988) (by decide +kernel), List.mem_of_getElem? (i := 1373) (by decide +kernel), List.mem_of_getElem? (i := 1374) (by decide +kernel)⟩
theorem lw_p99 : lw_okq (⟨"PointsToSolverModel", "isVariable", "(I)Z"⟩, 42) := ⟨⟨by decide +kernel, by decide +kernel⟩, List.mem_of_getElem? (i := 988) (by decide +kernel), List.mem_of_getElem? (i := 1377) (by decide +kernel), List.mem_of_getElem? (i := 1378) (by decide +kernel)⟩
theorem lw_p100 : lw_okq (⟨"PointsToSolverModel", "isField", "(I)Z"⟩, 42) := ⟨⟨by decide +kernel, by decide +kernel⟩, List.mem_of_getElem? (i := 988) (by decide +kernel), List.mem_of_getElem? (i := 1381) (by decide +kernel), List.mem_of_getElem? (i := 1382) (by decide +kernel)⟩
theorem lw_p101 : lw_okq (⟨"PointsToSolverModel", "areValid", "(II)Z"⟩, 42) := ⟨⟨by decide +kernel, by decide +kernel⟩, List.mem_of_getElem? (i := 988) (by decide +kernel), List.mem_of_getElem? (i := 1401) (by decide +kernel), List.mem_of_getElem? (i := 1402) (by decide +kernel)⟩
theorem lw_p102 : lw_okq (⟨"PointsToSolverModel", "isFact", "(II)Z"⟩, 42) := ⟨⟨by decide +kernel, by decide +kernel⟩, List.mem_of_getElem? (i := 988) (by decide +kernel), List.mem_of_getElem? (i := 1405) (by decide +kernel), List.mem_of_getElem? (i := 1406) (by decide +kernel)⟩
theorem lw_p103 : lw_okq (⟨"PointsToSolverModel", "derive", "(IIZ)V"⟩, 42) := ⟨⟨by decide +kernel, by decide +kernel⟩, List.mem_of_getElem? (i := 988) (by decide +kernel), List.mem_of_getElem? (i := 1413) (by decide +kernel), List.mem_of_getElem? (i := 1414) (by decide +kernel)⟩
theorem lw_p104 : lw_okq (⟨"PointsToSolverModel", "note", "(IIIIII)V"⟩, 42) := ⟨⟨by decide +kernel, by decide +kernel⟩, List.mem_of_getElem? (i := 988) (by decide +kernel), List.mem_of_getElem? (i := 1417) (by decide +kernel), List.mem_of_getElem? (i := 1418) (by decide +kernel)⟩
theorem lw_p105 : lw_okq (⟨"PointsToSolverModel", "holdsBefore", "(III)Z"⟩, 42) := ⟨⟨by decide +kernel, by decide +kernel⟩, List.mem_of_getElem? (i := 988) (by decide +kernel), List.mem_of_getElem? (i := 1421) (by decide +kernel), List.mem_of_getElem? (i := 1422) (by decide +kernel)⟩
theorem lw_p106 : lw_okq (⟨"PointsToSolverModel", "deriveCall", "(IIIII)V"⟩, 42) := ⟨⟨by decide +kernel, by decide +kernel⟩, List.mem_of_getElem? (i := 988) (by decide +kernel), List.mem_of_getElem? (i := 1425) (by decide +kernel), List.mem_of_getElem? (i := 1426) (by decide +kernel)⟩
theorem lw_p107 : lw_okq (⟨"PointsToSolverModel", "explain", "(III)I"⟩, 42) := ⟨⟨by decide +kernel, by decide +kernel⟩, List.mem_of_getElem? (i := 988) (by decide +kernel), List.mem_of_getElem? (i := 1433) (by decide +kernel), List.mem_of_getElem? (i := 1434) (by decide +kernel)⟩
theorem lw_p108 : lw_okq (⟨"PointsToSolverModel", "whyNoStep", "(III)I"⟩, 42) := ⟨⟨by decide +kernel, by decide +kernel⟩, List.mem_of_getElem? (i := 988) (by decide +kernel), List.mem_of_getElem? (i := 1441) (by decide +kernel), List.mem_of_getElem? (i := 1442) (by decide +kernel)⟩
theorem lw_p109 : lw_okq (⟨"PointsToSolverModel", "require", "(II)V"⟩, 42) := ⟨⟨by decide +kernel, by decide +kernel⟩, List.mem_of_getElem? (i := 988) (by decide +kernel), List.mem_of_getElem? (i := 1460) (by decide +kernel), List.mem_of_getElem? (i := 1461) (by decide +kernel)⟩
theorem lw_p110 : lw_okq (⟨"PointsToSolverModel", "solveWith", "(I)V"⟩, 42) := ⟨⟨by decide +kernel, by decide +kernel⟩, List.mem_of_getElem? (i := 988) (by decide +kernel), List.mem_of_getElem? (i := 1468) (by decide +kernel), List.mem_of_getElem? (i := 1469) (by decide +kernel)⟩
theorem lw_p111 : lw_okq (⟨"PointsToSolverModel", "solveAgain", "()V"⟩, 42) := ⟨⟨by decide +kernel, by decide +kernel⟩, List.mem_of_getElem? (i := 988) (by decide +kernel), List.mem_of_getElem? (i := 1472) (by decide +kernel), List.mem_of_getElem? (i := 1473) (by decide +kernel)⟩
def lw_privs_7 : List (MethodName × Nat) := [(⟨"PointsToSolverModel", "isObject", "(I)Z"⟩, 42), (⟨"PointsToSolverModel", "facts", "()I"⟩, 42), (⟨"PointsToSolverModel", "indexOf", "(I)I"⟩, 42), (⟨"PointsToSolverModel", "isVariable", "(I)Z"⟩, 42), (⟨"PointsToSolverModel", "isField", "(I)Z"⟩, 42), (⟨"PointsToSolverModel", "areValid", "(II)Z"⟩, 42), (⟨"PointsToSolverModel", "isFact", "(II)Z"⟩, 42), (⟨"PointsToSolverModel", "derive", "(IIZ)V"⟩, 42), (⟨"PointsToSolverModel", "note", "(IIIIII)V"⟩, 42), (⟨"PointsToSolverModel", "holdsBefore", "(III)Z"⟩, 42), (⟨"PointsToSolverModel", "deriveCall", "(IIIII)V"⟩, 42), (⟨"PointsToSolverModel", "explain", "(III)I"⟩, 42), (⟨"PointsToSolverModel", "whyNoStep", "(III)I"⟩, 42), (⟨"PointsToSolverModel", "require", "(II)V"⟩, 42), (⟨"PointsToSolverModel", "solveWith", "(I)V"⟩, 42), (⟨"PointsToSolverModel", "solveAgain", "()V"⟩, 42)]
theorem lw_r7 : ∀ q ∈ lw_privs_7, lw_okq q := List.forall_mem_cons.mpr ⟨lw_p96, List.forall_mem_cons.mpr ⟨lw_p97, List.forall_mem_cons.mpr ⟨lw_p98, List.forall_mem_cons.mpr ⟨lw_p99, List.forall_mem_cons.mpr ⟨lw_p100, List.forall_mem_cons.mpr ⟨lw_p101, List.forall_mem_cons.mpr ⟨lw_p102, List.forall_mem_cons.mpr ⟨lw_p103, List.forall_mem_cons.mpr ⟨lw_p104, List.forall_mem_cons.mpr ⟨lw_p105, List.forall_mem_cons.mpr ⟨lw_p106, List.forall_mem_cons.mpr ⟨lw_p107, List.forall_mem_cons.mpr ⟨lw_p108, List.forall_mem_cons.mpr ⟨lw_p109, List.forall_mem_cons.mpr ⟨lw_p110, List.forall_mem_cons.mpr ⟨lw_p111, fun _ h => absurd h List.not_mem_nil⟩⟩⟩⟩⟩⟩⟩⟩⟩⟩⟩⟩⟩⟩⟩⟩
theorem lw_p112 : lw_okq (⟨"PointsToSolverModel", "layEdges", "()V"⟩, 42) := ⟨⟨by decide +kernel, by decide +kernel⟩, List.mem_of_getElem? (i := 988) (by decide +kernel), List.mem_of_getElem? (i := 1480) (by decide +kernel), List.mem_of_getElem? (i := 1481) (by decide +kernel)⟩
theorem lw_p113 : lw_okq (⟨"PointsToSolverModel", "edge", "(II)V"⟩, 42) := ⟨⟨by decide +kernel, by decide +kernel⟩, List.mem_of_getElem? (i := 988) (by decide +kernel), List.mem_of_getElem? (i := 1484) (by decide +kernel), List.mem_of_getElem? (i := 1485) (by decide +kernel)⟩
theorem lw_p114 : lw_okq (⟨"PointsToSolverModel", "layReach", "()V"⟩, 42) := ⟨⟨by decide +kernel, by decide +kernel⟩, List.mem_of_getElem? (i := 988) (by decide +kernel), List.mem_of_getElem? (i := 1503) (by decide +kernel), List.mem_of_getElem? (i := 1504) (by decide +kernel)⟩
theorem lw_p115 : lw_okq (⟨"PointsToSolverModel", "sizeOf", "(I)I"⟩, 42) := ⟨⟨by decide +kernel, by decide +kernel⟩, List.mem_of_getElem? (i := 988) (by decide +kernel), List.mem_of_getElem? (i := 1507) (by decide +kernel), List.mem_of_getElem? (i := 1508) (by decide +kernel)⟩
theorem lw_p116 : lw_okq (⟨"PointsToSolverModel", "areTogether", "(II)Z"⟩, 42) := ⟨⟨by decide +kernel, by decide +kernel⟩, List.mem_of_getElem? (i := 988) (by decide +kernel), List.mem_of_getElem? (i := 1511) (by decide +kernel), List.mem_of_getElem? (i := 1512) (by decide +kernel)⟩
theorem lw_p117 : lw_okq (⟨"PointsToSolverModel", "lowest", "(I)I"⟩, 42) := ⟨⟨by decide +kernel, by decide +kernel⟩, List.mem_of_getElem? (i := 988) (by decide +kernel), List.mem_of_getElem? (i := 1519) (by decide +kernel), List.mem_of_getElem? (i := 1520) (by decide +kernel)⟩
theorem lw_p118 : lw_okq (⟨"PointsToSolverModel", "exists", "(I)Z"⟩, 42) := ⟨⟨by decide +kernel, by decide +kernel⟩, List.mem_of_getElem? (i := 988) (by decide +kernel), List.mem_of_getElem? (i := 1527) (by decide +kernel), List.mem_of_getElem? (i := 1528) (by decide +kernel)⟩
theorem lw_p119 : lw_okq (⟨"PointsToSolverModel", "targets", "(I)I"⟩, 42) := ⟨⟨by decide +kernel, by decide +kernel⟩, List.mem_of_getElem? (i := 988) (by decide +kernel), List.mem_of_getElem? (i := 1543) (by decide +kernel), List.mem_of_getElem? (i := 1544) (by decide +kernel)⟩
theorem lw_p120 : lw_okq (⟨"PointsToSolverModel", "factsWith", "(I)I"⟩, 42) := ⟨⟨by decide +kernel, by decide +kernel⟩, List.mem_of_getElem? (i := 988) (by decide +kernel), List.mem_of_getElem? (i := 1559) (by decide +kernel), List.mem_of_getElem? (i := 1560) (by decide +kernel)⟩
theorem lw_p121 : lw_okq (⟨"PointsToSolverModel", "layDump", "()V"⟩, 42) := ⟨⟨by decide +kernel, by decide +kernel⟩, List.mem_of_getElem? (i := 988) (by decide +kernel), List.mem_of_getElem? (i := 1579) (by decide +kernel), List.mem_of_getElem? (i := 1580) (by decide +kernel)⟩
theorem lw_p122 : lw_okq (⟨"PointsToSolverModel", "writeName", "(J)V"⟩, 42) := ⟨⟨by decide +kernel, by decide +kernel⟩, List.mem_of_getElem? (i := 988) (by decide +kernel), List.mem_of_getElem? (i := 1583) (by decide +kernel), List.mem_of_getElem? (i := 1584) (by decide +kernel)⟩
theorem lw_p123 : lw_okq (⟨"PointsToSolverModel", "write", "(I)V"⟩, 42) := ⟨⟨by decide +kernel, by decide +kernel⟩, List.mem_of_getElem? (i := 988) (by decide +kernel), List.mem_of_getElem? (i := 1588) (by decide +kernel), List.mem_of_getElem? (i := 1589) (by decide +kernel)⟩
theorem lw_p124 : lw_okq (⟨"PointsToSolverModel", "areOperands", "(IIII)Z"⟩, 42) := ⟨⟨by decide +kernel, by decide +kernel⟩, List.mem_of_getElem? (i := 988) (by decide +kernel), List.mem_of_getElem? (i := 1600) (by decide +kernel), List.mem_of_getElem? (i := 1601) (by decide +kernel)⟩
theorem lw_p125 : lw_okq (⟨"PointsToSolverModel", "keepState", "()V"⟩, 42) := ⟨⟨by decide +kernel, by decide +kernel⟩, List.mem_of_getElem? (i := 988) (by decide +kernel), List.mem_of_getElem? (i := 1604) (by decide +kernel), List.mem_of_getElem? (i := 1605) (by decide +kernel)⟩
def lw_privs_8 : List (MethodName × Nat) := [(⟨"PointsToSolverModel", "layEdges", "()V"⟩, 42), (⟨"PointsToSolverModel", "edge", "(II)V"⟩, 42), (⟨"PointsToSolverModel", "layReach", "()V"⟩, 42), (⟨"PointsToSolverModel", "sizeOf", "(I)I"⟩, 42), (⟨"PointsToSolverModel", "areTogether", "(II)Z"⟩, 42), (⟨"PointsToSolverModel", "lowest", "(I)I"⟩, 42), (⟨"PointsToSolverModel", "exists", "(I)Z"⟩, 42), (⟨"PointsToSolverModel", "targets", "(I)I"⟩, 42), (⟨"PointsToSolverModel", "factsWith", "(I)I"⟩, 42), (⟨"PointsToSolverModel", "layDump", "()V"⟩, 42), (⟨"PointsToSolverModel", "writeName", "(J)V"⟩, 42), (⟨"PointsToSolverModel", "write", "(I)V"⟩, 42), (⟨"PointsToSolverModel", "areOperands", "(IIII)Z"⟩, 42), (⟨"PointsToSolverModel", "keepState", "()V"⟩, 42)]
theorem lw_r8 : ∀ q ∈ lw_privs_8, lw_okq q := List.forall_mem_cons.mpr ⟨lw_p112, List.forall_mem_cons.mpr ⟨lw_p113, List.forall_mem_cons.mpr ⟨lw_p114, List.forall_mem_cons.mpr ⟨lw_p115, List.forall_mem_cons.mpr ⟨lw_p116, List.forall_mem_cons.mpr ⟨lw_p117, List.forall_mem_cons.mpr ⟨lw_p118, List.forall_mem_cons.mpr ⟨lw_p119, List.forall_mem_cons.mpr ⟨lw_p120, List.forall_mem_cons.mpr ⟨lw_p121, List.forall_mem_cons.mpr ⟨lw_p122, List.forall_mem_cons.mpr ⟨lw_p123, List.forall_mem_cons.mpr ⟨lw_p124, List.forall_mem_cons.mpr ⟨lw_p125, fun _ h => absurd h List.not_mem_nil⟩⟩⟩⟩⟩⟩⟩⟩⟩⟩⟩⟩⟩⟩
def lw_privs : List (MethodName × Nat) := lw_privs_1 ++ (lw_privs_2 ++ (lw_privs_3 ++ (lw_privs_4 ++ (lw_privs_5 ++ (lw_privs_6 ++ (lw_privs_7 ++ (lw_privs_8)))))))
def lw_tbl : List Cond := k2_sels lw_privs ++ tables_1
theorem lw_privs_ok : ∀ q ∈ lw_privs, lw_okq q := by
  show ∀ q ∈ lw_privs_1 ++ (lw_privs_2 ++ (lw_privs_3 ++ (lw_privs_4 ++ (lw_privs_5 ++ (lw_privs_6 ++ (lw_privs_7 ++ (lw_privs_8))))))), lw_okq q
  exact List.forall_mem_append.mpr ⟨lw_r1, List.forall_mem_append.mpr ⟨lw_r2, List.forall_mem_append.mpr ⟨lw_r3, List.forall_mem_append.mpr ⟨lw_r4, List.forall_mem_append.mpr ⟨lw_r5, List.forall_mem_append.mpr ⟨lw_r6, List.forall_mem_append.mpr ⟨lw_r7, lw_r8⟩⟩⟩⟩⟩⟩⟩

def RX0 : String := "PointsToSolver$ConstraintList"
def TX0 : u_T := fun k => match k with
  | 0 => ("PointsToSolver$ConstraintList", "kinds", "[I", true)
  | 1 => ("PointsToSolver$ConstraintList", "firsts", "[I", true)
  | 2 => ("PointsToSolver$ConstraintList", "seconds", "[I", true)
  | 3 => ("PointsToSolver$ConstraintList", "thirds", "[I", true)
  | 4 => ("PointsToSolver$ConstraintList", "count", "I", false)
  | _ => ("PointsToSolver$ConstraintList", "enabled", "I", false)
def tyX0 : Nat → FieldType := fun k => match k with
  | 0 => .array .int
  | 1 => .array .int
  | 2 => .array .int
  | 3 => .array .int
  | 4 => .int
  | _ => .int
abbrev wsX00 : List Cond := u_ws RX0 TX0 6
theorem nmX0 : ∀ a, a < 6 → ∀ b, b < 6 → a ≠ b → (TX0 a).2.1 ≠ (TX0 b).2.1 := by decide +kernel
theorem tyX0_ok : ∀ k, k < 6 → parseFieldDescriptor (TX0 k).2.2.1 = some (tyX0 k) := by decide +kernel
abbrev cX0_init : ByteArray := prog_2_method_1_code
def yX0_init : MethodName := ⟨RX0, "<init>", "()V"⟩
abbrev cX0_clear : ByteArray := prog_2_method_2_code
def yX0_clear : MethodName := ⟨RX0, "clear", "()V"⟩
abbrev cX0_isFull : ByteArray := prog_2_method_3_code
def yX0_isFull : MethodName := ⟨RX0, "isFull", "()Z"⟩
abbrev cX0_isEnabled : ByteArray := prog_2_method_4_code
def yX0_isEnabled : MethodName := ⟨RX0, "isEnabled", "(I)Z"⟩
abbrev cX0_all : ByteArray := prog_2_method_5_code
def yX0_all : MethodName := ⟨RX0, "all", "()I"⟩
abbrev cX0_operandAt : ByteArray := prog_2_method_6_code
def yX0_operandAt : MethodName := ⟨RX0, "operandAt", "(II)I"⟩
abbrev cX0_add : ByteArray := prog_2_method_7_code
def yX0_add : MethodName := ⟨RX0, "add", "(IIII)V"⟩
abbrev cX0_removeLast : ByteArray := prog_2_method_8_code
def yX0_removeLast : MethodName := ⟨RX0, "removeLast", "()V"⟩
abbrev cX0_toggle : ByteArray := prog_2_method_9_code
def yX0_toggle : MethodName := ⟨RX0, "toggle", "(I)V"⟩
abbrev cX0_copyFrom : ByteArray := prog_2_method_10_code
def yX0_copyFrom : MethodName := ⟨RX0, "copyFrom", "(LPointsToSolver$ConstraintList;)V"⟩
def RX1 : String := "PointsToSolver$CopyGraph"
def TX1 : u_T := fun k => match k with
  | 0 => ("PointsToSolver$CopyGraph", "targets", "[J", true)
  | 1 => ("PointsToSolver$CopyGraph", "reached", "[J", true)
  | 2 => ("PointsToSolver$CopyGraph", "components", "[J", true)
  | _ => ("PointsToSolver$CopyGraph", "existing", "J", false)
def tyX1 : Nat → FieldType := fun k => match k with
  | 0 => .array .long
  | 1 => .array .long
  | 2 => .array .long
  | _ => .long
abbrev wsX10 : List Cond := u_ws RX1 TX1 4
theorem nmX1 : ∀ a, a < 4 → ∀ b, b < 4 → a ≠ b → (TX1 a).2.1 ≠ (TX1 b).2.1 := by decide +kernel
theorem tyX1_ok : ∀ k, k < 4 → parseFieldDescriptor (TX1 k).2.2.1 = some (tyX1 k) := by decide +kernel
abbrev cX1_init : ByteArray := prog_3_method_1_code
def yX1_init : MethodName := ⟨RX1, "<init>", "()V"⟩
abbrev cX1_build : ByteArray := prog_3_method_2_code
def yX1_build : MethodName := ⟨RX1, "build", "(LPointsToSolver$Program;LPointsToSolver$Solution;)V"⟩
abbrev cX1_addEdges : ByteArray := prog_3_method_3_code
def yX1_addEdges : MethodName := ⟨RX1, "addEdges", "(LPointsToSolver$Program;II)V"⟩
abbrev cX1_findExisting : ByteArray := prog_3_method_4_code
def yX1_findExisting : MethodName := ⟨RX1, "findExisting", "(LPointsToSolver$Program;)V"⟩
abbrev cX1_findReached : ByteArray := prog_3_method_5_code
def yX1_findReached : MethodName := ⟨RX1, "findReached", "()V"⟩
abbrev cX1_findComponents : ByteArray := prog_3_method_6_code
def yX1_findComponents : MethodName := ⟨RX1, "findComponents", "()V"⟩
abbrev cX1_lowestOf : ByteArray := prog_3_method_7_code
def yX1_lowestOf : MethodName := ⟨RX1, "lowestOf", "(I)I"⟩
abbrev cX1_isLowest : ByteArray := prog_3_method_8_code
def yX1_isLowest : MethodName := ⟨RX1, "isLowest", "(I)Z"⟩
abbrev cX1_countEdges : ByteArray := prog_3_method_9_code
def yX1_countEdges : MethodName := ⟨RX1, "countEdges", "()I"⟩
abbrev cX1_shortestPath : ByteArray := prog_3_method_10_code
def yX1_shortestPath : MethodName := ⟨RX1, "shortestPath", "(II)I"⟩
abbrev cX1_targetsOf : ByteArray := prog_3_method_11_code
def yX1_targetsOf : MethodName := ⟨RX1, "targetsOf", "(J)J"⟩
abbrev cX1_countComponents : ByteArray := prog_3_method_12_code
def yX1_countComponents : MethodName := ⟨RX1, "countComponents", "(I)I"⟩
abbrev cX1_countCondensedEdges : ByteArray := prog_3_method_13_code
def yX1_countCondensedEdges : MethodName := ⟨RX1, "countCondensedEdges", "()I"⟩
abbrev cX1_lowestOfAll : ByteArray := prog_3_method_14_code
def yX1_lowestOfAll : MethodName := ⟨RX1, "lowestOfAll", "(J)J"⟩
def RX2 : String := "PointsToSolver$Dump"
def TX2 : u_T := fun k => match k with
  | 0 => ("PointsToSolver$Dump", "text", "[B", true)
  | _ => ("PointsToSolver$Dump", "length", "I", false)
def tyX2 : Nat → FieldType := fun k => match k with
  | 0 => .array .byte
  | _ => .int
abbrev wsX20 : List Cond := u_ws RX2 TX2 2
theorem nmX2 : ∀ a, a < 2 → ∀ b, b < 2 → a ≠ b → (TX2 a).2.1 ≠ (TX2 b).2.1 := by decide +kernel
theorem tyX2_ok : ∀ k, k < 2 → parseFieldDescriptor (TX2 k).2.2.1 = some (tyX2 k) := by decide +kernel
abbrev cX2_init : ByteArray := prog_4_method_1_code
def yX2_init : MethodName := ⟨RX2, "<init>", "()V"⟩
abbrev cX2_write : ByteArray := prog_4_method_2_code
def yX2_write : MethodName := ⟨RX2, "write", "(LPointsToSolver$Program;LPointsToSolver$Solution;)V"⟩
abbrev cX2_writeObjects : ByteArray := prog_4_method_3_code
def yX2_writeObjects : MethodName := ⟨RX2, "writeObjects", "(LPointsToSolver$NameTable;I)V"⟩
abbrev cX2_writeName : ByteArray := prog_4_method_4_code
def yX2_writeName : MethodName := ⟨RX2, "writeName", "(J)V"⟩
abbrev cX2_writeByte : ByteArray := prog_4_method_5_code
def yX2_writeByte : MethodName := ⟨RX2, "writeByte", "(I)V"⟩
def RX3 : String := "PointsToSolver$History"
def TX3 : u_T := fun k => match k with
  | 0 => ("PointsToSolver$History", "changes", "[I", true)
  | 1 => ("PointsToSolver$History", "next", "I", false)
  | _ => ("PointsToSolver$History", "depth", "I", false)
def tyX3 : Nat → FieldType := fun k => match k with
  | 0 => .array .int
  | 1 => .int
  | _ => .int
abbrev wsX30 : List Cond := u_ws RX3 TX3 3
theorem nmX3 : ∀ a, a < 3 → ∀ b, b < 3 → a ≠ b → (TX3 a).2.1 ≠ (TX3 b).2.1 := by decide +kernel
theorem tyX3_ok : ∀ k, k < 3 → parseFieldDescriptor (TX3 k).2.2.1 = some (tyX3 k) := by decide +kernel
abbrev cX3_init : ByteArray := prog_5_method_1_code
def yX3_init : MethodName := ⟨RX3, "<init>", "()V"⟩
abbrev cX3_clear : ByteArray := prog_5_method_2_code
def yX3_clear : MethodName := ⟨RX3, "clear", "()V"⟩
abbrev cX3_push : ByteArray := prog_5_method_3_code
def yX3_push : MethodName := ⟨RX3, "push", "(I)V"⟩
abbrev cX3_pop : ByteArray := prog_5_method_4_code
def yX3_pop : MethodName := ⟨RX3, "pop", "()I"⟩
def RX4 : String := "PointsToSolver$NameTable"
def TX4 : u_T := fun k => match k with
  | 0 => ("PointsToSolver$NameTable", "words", "[J", true)
  | 1 => ("PointsToSolver$NameTable", "limit", "I", true)
  | _ => ("PointsToSolver$NameTable", "count", "I", false)
def tyX4 : Nat → FieldType := fun k => match k with
  | 0 => .array .long
  | 1 => .int
  | _ => .int
abbrev wsX40 : List Cond := u_ws RX4 TX4 3
theorem nmX4 : ∀ a, a < 3 → ∀ b, b < 3 → a ≠ b → (TX4 a).2.1 ≠ (TX4 b).2.1 := by decide +kernel
theorem tyX4_ok : ∀ k, k < 3 → parseFieldDescriptor (TX4 k).2.2.1 = some (tyX4 k) := by decide +kernel
abbrev cX4_init : ByteArray := prog_6_method_1_code
def yX4_init : MethodName := ⟨RX4, "<init>", "(I)V"⟩
abbrev cX4_numberOf : ByteArray := prog_6_method_2_code
def yX4_numberOf : MethodName := ⟨RX4, "numberOf", "(J)I"⟩
def RX5 : String := "PointsToSolver$Parser"
def TX5 : u_T := fun k => match k with
  | 0 => ("PointsToSolver$Parser", "text", "[B", true)
  | 1 => ("PointsToSolver$Parser", "buffered", "I", false)
  | 2 => ("PointsToSolver$Parser", "length", "I", false)
  | 3 => ("PointsToSolver$Parser", "position", "I", false)
  | 4 => ("PointsToSolver$Parser", "token", "I", false)
  | 5 => ("PointsToSolver$Parser", "tokenStart", "I", false)
  | 6 => ("PointsToSolver$Parser", "word", "J", false)
  | 7 => ("PointsToSolver$Parser", "error", "I", false)
  | _ => ("PointsToSolver$Parser", "operands", "[I", true)
def tyX5 : Nat → FieldType := fun k => match k with
  | 0 => .array .byte
  | 1 => .int
  | 2 => .int
  | 3 => .int
  | 4 => .int
  | 5 => .int
  | 6 => .long
  | 7 => .int
  | _ => .array .int
abbrev wsX50 : List Cond := u_ws RX5 TX5 9
theorem nmX5 : ∀ a, a < 9 → ∀ b, b < 9 → a ≠ b → (TX5 a).2.1 ≠ (TX5 b).2.1 := by decide +kernel
theorem tyX5_ok : ∀ k, k < 9 → parseFieldDescriptor (TX5 k).2.2.1 = some (tyX5 k) := by decide +kernel
abbrev cX5_init : ByteArray := prog_7_method_1_code
def yX5_init : MethodName := ⟨RX5, "<init>", "()V"⟩
abbrev cX5_appendWord : ByteArray := prog_7_method_2_code
def yX5_appendWord : MethodName := ⟨RX5, "appendWord", "(I)V"⟩
abbrev cX5_read : ByteArray := prog_7_method_3_code
def yX5_read : MethodName := ⟨RX5, "read", "(ILPointsToSolver$Program;)I"⟩
abbrev cX5_readStatement : ByteArray := prog_7_method_4_code
def yX5_readStatement : MethodName := ⟨RX5, "readStatement", "(LPointsToSolver$Program;)V"⟩
abbrev cX5_readOperand : ByteArray := prog_7_method_5_code
def yX5_readOperand : MethodName := ⟨RX5, "readOperand", "(LPointsToSolver$Program;II)I"⟩
abbrev cX5_namesOf : ByteArray := prog_7_method_6_code
def yX5_namesOf : MethodName := ⟨RX5, "namesOf", "(LPointsToSolver$Program;I)LPointsToSolver$NameTable;"⟩
abbrev cX5_accept : ByteArray := prog_7_method_7_code
def yX5_accept : MethodName := ⟨RX5, "accept", "(LPointsToSolver$Program;I)V"⟩
abbrev cX5_fail : ByteArray := prog_7_method_8_code
def yX5_fail : MethodName := ⟨RX5, "fail", "(I)V"⟩
abbrev cX5_keyword : ByteArray := prog_7_method_9_code
def yX5_keyword : MethodName := ⟨RX5, "keyword", "()I"⟩
abbrev cX5_nextToken : ByteArray := prog_7_method_10_code
def yX5_nextToken : MethodName := ⟨RX5, "nextToken", "()V"⟩
abbrev cX5_readWord : ByteArray := prog_7_method_11_code
def yX5_readWord : MethodName := ⟨RX5, "readWord", "()V"⟩
abbrev cX5_isSpace : ByteArray := prog_7_method_12_code
def yX5_isSpace : MethodName := ⟨RX5, "isSpace", "(B)Z"⟩
abbrev cX5_isLetter : ByteArray := prog_7_method_13_code
def yX5_isLetter : MethodName := ⟨RX5, "isLetter", "(B)Z"⟩
def RX6 : String := "PointsToSolver$Program"
def TX6 : u_T := fun k => match k with
  | 0 => ("PointsToSolver$Program", "variables", "LPointsToSolver$NameTable;", true)
  | 1 => ("PointsToSolver$Program", "objects", "LPointsToSolver$NameTable;", true)
  | 2 => ("PointsToSolver$Program", "fields", "LPointsToSolver$NameTable;", true)
  | 3 => ("PointsToSolver$Program", "parameters", "[I", true)
  | 4 => ("PointsToSolver$Program", "results", "[I", true)
  | 5 => ("PointsToSolver$Program", "functionSet", "I", false)
  | _ => ("PointsToSolver$Program", "list", "LPointsToSolver$ConstraintList;", true)
def tyX6 : Nat → FieldType := fun k => match k with
  | 0 => .object "PointsToSolver$NameTable"
  | 1 => .object "PointsToSolver$NameTable"
  | 2 => .object "PointsToSolver$NameTable"
  | 3 => .array .int
  | 4 => .array .int
  | 5 => .int
  | _ => .object "PointsToSolver$ConstraintList"
abbrev wsX60 : List Cond := u_ws RX6 TX6 7
theorem nmX6 : ∀ a, a < 7 → ∀ b, b < 7 → a ≠ b → (TX6 a).2.1 ≠ (TX6 b).2.1 := by decide +kernel
theorem tyX6_ok : ∀ k, k < 7 → parseFieldDescriptor (TX6 k).2.2.1 = some (tyX6 k) := by decide +kernel
abbrev cX6_init : ByteArray := prog_8_method_1_code
def yX6_init : MethodName := ⟨RX6, "<init>", "()V"⟩
abbrev cX6_clear : ByteArray := prog_8_method_2_code
def yX6_clear : MethodName := ⟨RX6, "clear", "()V"⟩
abbrev cX6_isFunction : ByteArray := prog_8_method_3_code
def yX6_isFunction : MethodName := ⟨RX6, "isFunction", "(I)Z"⟩
abbrev cX6_declareFunction : ByteArray := prog_8_method_4_code
def yX6_declareFunction : MethodName := ⟨RX6, "declareFunction", "(III)V"⟩
abbrev cX6_slotAt : ByteArray := prog_8_method_5_code
def yX6_slotAt : MethodName := ⟨RX6, "slotAt", "(I)I"⟩
abbrev cX6_mayStandAt : ByteArray := prog_8_method_6_code
def yX6_mayStandAt : MethodName := ⟨RX6, "mayStandAt", "(III)Z"⟩
abbrev cX6_viaSlot : ByteArray := prog_8_method_7_code
def yX6_viaSlot : MethodName := ⟨RX6, "viaSlot", "(I)I"⟩
abbrev cX6_viasIn : ByteArray := prog_8_method_8_code
def yX6_viasIn : MethodName := ⟨RX6, "viasIn", "([II)I"⟩
abbrev cX6_flowCount : ByteArray := prog_8_method_9_code
def yX6_flowCount : MethodName := ⟨RX6, "flowCount", "(I)I"⟩
abbrev cX6_flowSource : ByteArray := prog_8_method_10_code
def yX6_flowSource : MethodName := ⟨RX6, "flowSource", "(III)I"⟩
abbrev cX6_flowTarget : ByteArray := prog_8_method_11_code
def yX6_flowTarget : MethodName := ⟨RX6, "flowTarget", "(III)I"⟩
def RX7 : String := "PointsToSolver$Solution"
def TX7 : u_T := fun k => match k with
  | 0 => ("PointsToSolver$Solution", "sets", "[I", true)
  | 1 => ("PointsToSolver$Solution", "before", "[I", true)
  | 2 => ("PointsToSolver$Solution", "total", "I", false)
  | 3 => ("PointsToSolver$Solution", "productiveRounds", "I", false)
  | 4 => ("PointsToSolver$Solution", "used", "I", false)
  | 5 => ("PointsToSolver$Solution", "rounds", "[I", true)
  | 6 => ("PointsToSolver$Solution", "constraints", "[I", true)
  | 7 => ("PointsToSolver$Solution", "sources", "[I", true)
  | 8 => ("PointsToSolver$Solution", "vias", "[I", true)
  | 9 => ("PointsToSolver$Solution", "lengths", "[I", true)
  | _ => ("PointsToSolver$Solution", "proofs", "[I", true)
def tyX7 : Nat → FieldType := fun k => match k with
  | 0 => .array .int
  | 1 => .array .int
  | 2 => .int
  | 3 => .int
  | 4 => .int
  | 5 => .array .int
  | 6 => .array .int
  | 7 => .array .int
  | 8 => .array .int
  | 9 => .array .int
  | _ => .array .int
abbrev wsX70 : List Cond := u_ws RX7 TX7 11
theorem nmX7 : ∀ a, a < 11 → ∀ b, b < 11 → a ≠ b → (TX7 a).2.1 ≠ (TX7 b).2.1 := by decide +kernel
theorem tyX7_ok : ∀ k, k < 11 → parseFieldDescriptor (TX7 k).2.2.1 = some (tyX7 k) := by decide +kernel
abbrev cX7_init : ByteArray := prog_9_method_1_code
def yX7_init : MethodName := ⟨RX7, "<init>", "()V"⟩
abbrev cX7_solve : ByteArray := prog_9_method_2_code
def yX7_solve : MethodName := ⟨RX7, "solve", "(LPointsToSolver$Program;)V"⟩
abbrev cX7_apply : ByteArray := prog_9_method_3_code
def yX7_apply : MethodName := ⟨RX7, "apply", "(LPointsToSolver$Program;II)V"⟩
abbrev cX7_applyNew : ByteArray := prog_9_method_4_code
def yX7_applyNew : MethodName := ⟨RX7, "applyNew", "(LPointsToSolver$ConstraintList;II)V"⟩
abbrev cX7_applyFlow : ByteArray := prog_9_method_5_code
def yX7_applyFlow : MethodName := ⟨RX7, "applyFlow", "(LPointsToSolver$Program;IIII)V"⟩
abbrev cX7_addFact : ByteArray := prog_9_method_6_code
def yX7_addFact : MethodName := ⟨RX7, "addFact", "(IIII)V"⟩
abbrev cX7_derive : ByteArray := prog_9_method_7_code
def yX7_derive : MethodName := ⟨RX7, "derive", "(III)V"⟩
abbrev cX7_supply : ByteArray := prog_9_method_8_code
def yX7_supply : MethodName := ⟨RX7, "supply", "(III)V"⟩
abbrev cX7_fieldTargets : ByteArray := prog_9_method_9_code
def yX7_fieldTargets : MethodName := ⟨RX7, "fieldTargets", "(I)I"⟩
abbrev cX7_countDerivations : ByteArray := prog_9_method_10_code
def yX7_countDerivations : MethodName := ⟨RX7, "countDerivations", "(LPointsToSolver$Program;III)I"⟩
def RX8 : String := "PointsToSolver$Trial"
def TX8 : u_T := fun k => match k with
  | _ => ("PointsToSolver$Trial", "sets", "[I", true)
def tyX8 : Nat → FieldType := fun k => match k with
  | _ => .array .int
abbrev wsX80 : List Cond := u_ws RX8 TX8 1
theorem nmX8 : ∀ a, a < 1 → ∀ b, b < 1 → a ≠ b → (TX8 a).2.1 ≠ (TX8 b).2.1 := by decide +kernel
theorem tyX8_ok : ∀ k, k < 1 → parseFieldDescriptor (TX8 k).2.2.1 = some (tyX8 k) := by decide +kernel
abbrev cX8_init : ByteArray := prog_10_method_1_code
def yX8_init : MethodName := ⟨RX8, "<init>", "()V"⟩
abbrev cX8_solve : ByteArray := prog_10_method_2_code
def yX8_solve : MethodName := ⟨RX8, "solve", "(LPointsToSolver$Program;I)V"⟩
abbrev cX8_apply : ByteArray := prog_10_method_3_code
def yX8_apply : MethodName := ⟨RX8, "apply", "(LPointsToSolver$Program;I)Z"⟩
abbrev cX8_widen : ByteArray := prog_10_method_4_code
def yX8_widen : MethodName := ⟨RX8, "widen", "(II)Z"⟩
abbrev cX8_countFacts : ByteArray := prog_10_method_5_code
def yX8_countFacts : MethodName := ⟨RX8, "countFacts", "()I"⟩
def RX9 : String := "PointsToSolver"
def TX9 : u_T := fun k => match k with
  | 0 => ("PointsToSolver", "parser", "LPointsToSolver$Parser;", true)
  | 1 => ("PointsToSolver", "program", "LPointsToSolver$Program;", false)
  | 2 => ("PointsToSolver", "spare", "LPointsToSolver$Program;", false)
  | 3 => ("PointsToSolver", "history", "LPointsToSolver$History;", true)
  | 4 => ("PointsToSolver", "snapshots", "[LPointsToSolver$ConstraintList;", true)
  | 5 => ("PointsToSolver", "savedSlots", "I", false)
  | 6 => ("PointsToSolver", "solution", "LPointsToSolver$Solution;", true)
  | 7 => ("PointsToSolver", "graph", "LPointsToSolver$CopyGraph;", true)
  | 8 => ("PointsToSolver", "dump", "LPointsToSolver$Dump;", true)
  | 9 => ("PointsToSolver", "graphStale", "Z", false)
  | 10 => ("PointsToSolver", "dumpStale", "Z", false)
  | _ => ("PointsToSolver", "trial", "LPointsToSolver$Trial;", true)
def tyX9 : Nat → FieldType := fun k => match k with
  | 0 => .object "PointsToSolver$Parser"
  | 1 => .object "PointsToSolver$Program"
  | 2 => .object "PointsToSolver$Program"
  | 3 => .object "PointsToSolver$History"
  | 4 => .array (.object "PointsToSolver$ConstraintList")
  | 5 => .int
  | 6 => .object "PointsToSolver$Solution"
  | 7 => .object "PointsToSolver$CopyGraph"
  | 8 => .object "PointsToSolver$Dump"
  | 9 => .boolean
  | 10 => .boolean
  | _ => .object "PointsToSolver$Trial"
abbrev wsX90 : List Cond := u_ws RX9 TX9 12
theorem nmX9 : ∀ a, a < 12 → ∀ b, b < 12 → a ≠ b → (TX9 a).2.1 ≠ (TX9 b).2.1 := by decide +kernel
theorem tyX9_ok : ∀ k, k < 12 → parseFieldDescriptor (TX9 k).2.2.1 = some (tyX9 k) := by decide +kernel
abbrev cX9_init : ByteArray := prog_1_method_1_code
def yX9_init : MethodName := ⟨RX9, "<init>", "()V"⟩
abbrev cX9_append : ByteArray := prog_1_method_2_code
def yX9_append : MethodName := ⟨RX9, "append", "(IIIII)I"⟩
abbrev cX9_parse : ByteArray := prog_1_method_3_code
def yX9_parse : MethodName := ⟨RX9, "parse", "(I)I"⟩
abbrev cX9_bufferLength : ByteArray := prog_1_method_4_code
def yX9_bufferLength : MethodName := ⟨RX9, "bufferLength", "()I"⟩
abbrev cX9_variableCount : ByteArray := prog_1_method_5_code
def yX9_variableCount : MethodName := ⟨RX9, "variableCount", "()I"⟩
abbrev cX9_objectCount : ByteArray := prog_1_method_6_code
def yX9_objectCount : MethodName := ⟨RX9, "objectCount", "()I"⟩
abbrev cX9_fieldCount : ByteArray := prog_1_method_7_code
def yX9_fieldCount : MethodName := ⟨RX9, "fieldCount", "()I"⟩
abbrev cX9_constraintCount : ByteArray := prog_1_method_8_code
def yX9_constraintCount : MethodName := ⟨RX9, "constraintCount", "()I"⟩
abbrev cX9_enabledConstraints : ByteArray := prog_1_method_9_code
def yX9_enabledConstraints : MethodName := ⟨RX9, "enabledConstraints", "()I"⟩
abbrev cX9_functions : ByteArray := prog_1_method_10_code
def yX9_functions : MethodName := ⟨RX9, "functions", "()I"⟩
abbrev cX9_kindOf : ByteArray := prog_1_method_11_code
def yX9_kindOf : MethodName := ⟨RX9, "kindOf", "(I)I"⟩
abbrev cX9_operand : ByteArray := prog_1_method_12_code
def yX9_operand : MethodName := ⟨RX9, "operand", "(II)I"⟩
abbrev cX9_parameterOf : ByteArray := prog_1_method_13_code
def yX9_parameterOf : MethodName := ⟨RX9, "parameterOf", "(I)I"⟩
abbrev cX9_resultOf : ByteArray := prog_1_method_14_code
def yX9_resultOf : MethodName := ⟨RX9, "resultOf", "(I)I"⟩
abbrev cX9_factCount : ByteArray := prog_1_method_15_code
def yX9_factCount : MethodName := ⟨RX9, "factCount", "()I"⟩
abbrev cX9_roundCount : ByteArray := prog_1_method_16_code
def yX9_roundCount : MethodName := ⟨RX9, "roundCount", "()I"⟩
abbrev cX9_pointsTo : ByteArray := prog_1_method_17_code
def yX9_pointsTo : MethodName := ⟨RX9, "pointsTo", "(I)I"⟩
abbrev cX9_pointersTo : ByteArray := prog_1_method_18_code
def yX9_pointersTo : MethodName := ⟨RX9, "pointersTo", "(I)I"⟩
abbrev cX9_commonObjects : ByteArray := prog_1_method_19_code
def yX9_commonObjects : MethodName := ⟨RX9, "commonObjects", "(II)I"⟩
abbrev cX9_reachableObjects : ByteArray := prog_1_method_20_code
def yX9_reachableObjects : MethodName := ⟨RX9, "reachableObjects", "(I)I"⟩
abbrev cX9_roundOf : ByteArray := prog_1_method_21_code
def yX9_roundOf : MethodName := ⟨RX9, "roundOf", "(II)I"⟩
abbrev cX9_derivationCount : ByteArray := prog_1_method_22_code
def yX9_derivationCount : MethodName := ⟨RX9, "derivationCount", "(II)I"⟩
abbrev cX9_explanationLength : ByteArray := prog_1_method_23_code
def yX9_explanationLength : MethodName := ⟨RX9, "explanationLength", "(II)I"⟩
abbrev cX9_explanationConstraint : ByteArray := prog_1_method_24_code
def yX9_explanationConstraint : MethodName := ⟨RX9, "explanationConstraint", "(III)I"⟩
abbrev cX9_explanationSource : ByteArray := prog_1_method_25_code
def yX9_explanationSource : MethodName := ⟨RX9, "explanationSource", "(III)I"⟩
abbrev cX9_explanationVia : ByteArray := prog_1_method_26_code
def yX9_explanationVia : MethodName := ⟨RX9, "explanationVia", "(III)I"⟩
abbrev cX9_proof : ByteArray := prog_1_method_27_code
def yX9_proof : MethodName := ⟨RX9, "proof", "(II)I"⟩
abbrev cX9_necessaryConstraints : ByteArray := prog_1_method_28_code
def yX9_necessaryConstraints : MethodName := ⟨RX9, "necessaryConstraints", "(II)I"⟩
abbrev cX9_edgeCount : ByteArray := prog_1_method_29_code
def yX9_edgeCount : MethodName := ⟨RX9, "edgeCount", "()I"⟩
abbrev cX9_hasEdge : ByteArray := prog_1_method_30_code
def yX9_hasEdge : MethodName := ⟨RX9, "hasEdge", "(II)I"⟩
abbrev cX9_distance : ByteArray := prog_1_method_31_code
def yX9_distance : MethodName := ⟨RX9, "distance", "(II)I"⟩
abbrev cX9_componentSize : ByteArray := prog_1_method_32_code
def yX9_componentSize : MethodName := ⟨RX9, "componentSize", "(I)I"⟩
abbrev cX9_representative : ByteArray := prog_1_method_33_code
def yX9_representative : MethodName := ⟨RX9, "representative", "(I)I"⟩
abbrev cX9_cyclicComponentCount : ByteArray := prog_1_method_34_code
def yX9_cyclicComponentCount : MethodName := ⟨RX9, "cyclicComponentCount", "()I"⟩
abbrev cX9_condensedNodeCount : ByteArray := prog_1_method_35_code
def yX9_condensedNodeCount : MethodName := ⟨RX9, "condensedNodeCount", "()I"⟩
abbrev cX9_condensedEdgeCount : ByteArray := prog_1_method_36_code
def yX9_condensedEdgeCount : MethodName := ⟨RX9, "condensedEdgeCount", "()I"⟩
abbrev cX9_callTargets : ByteArray := prog_1_method_37_code
def yX9_callTargets : MethodName := ⟨RX9, "callTargets", "(I)I"⟩
abbrev cX9_callersOf : ByteArray := prog_1_method_38_code
def yX9_callersOf : MethodName := ⟨RX9, "callersOf", "(I)I"⟩
abbrev cX9_uncalledFunctions : ByteArray := prog_1_method_39_code
def yX9_uncalledFunctions : MethodName := ⟨RX9, "uncalledFunctions", "()I"⟩
abbrev cX9_factCountIfToggled : ByteArray := prog_1_method_40_code
def yX9_factCountIfToggled : MethodName := ⟨RX9, "factCountIfToggled", "(I)I"⟩
abbrev cX9_factCountWithout : ByteArray := prog_1_method_41_code
def yX9_factCountWithout : MethodName := ⟨RX9, "factCountWithout", "(I)I"⟩
abbrev cX9_mostInfluentialConstraint : ByteArray := prog_1_method_42_code
def yX9_mostInfluentialConstraint : MethodName := ⟨RX9, "mostInfluentialConstraint", "()I"⟩
abbrev cX9_redundantConstraintCount : ByteArray := prog_1_method_43_code
def yX9_redundantConstraintCount : MethodName := ⟨RX9, "redundantConstraintCount", "()I"⟩
abbrev cX9_dumpLength : ByteArray := prog_1_method_44_code
def yX9_dumpLength : MethodName := ⟨RX9, "dumpLength", "()I"⟩
abbrev cX9_dumpByte : ByteArray := prog_1_method_45_code
def yX9_dumpByte : MethodName := ⟨RX9, "dumpByte", "(I)I"⟩
abbrev cX9_addConstraint : ByteArray := prog_1_method_46_code
def yX9_addConstraint : MethodName := ⟨RX9, "addConstraint", "(IIII)I"⟩
abbrev cX9_setEnabled : ByteArray := prog_1_method_47_code
def yX9_setEnabled : MethodName := ⟨RX9, "setEnabled", "(IZ)Z"⟩
abbrev cX9_undo : ByteArray := prog_1_method_48_code
def yX9_undo : MethodName := ⟨RX9, "undo", "()I"⟩
abbrev cX9_undoDepth : ByteArray := prog_1_method_49_code
def yX9_undoDepth : MethodName := ⟨RX9, "undoDepth", "()I"⟩
abbrev cX9_saveSnapshot : ByteArray := prog_1_method_50_code
def yX9_saveSnapshot : MethodName := ⟨RX9, "saveSnapshot", "(I)Z"⟩
abbrev cX9_restoreSnapshot : ByteArray := prog_1_method_51_code
def yX9_restoreSnapshot : MethodName := ⟨RX9, "restoreSnapshot", "(I)Z"⟩
abbrev cX9_isConstraint : ByteArray := prog_1_method_52_code
def yX9_isConstraint : MethodName := ⟨RX9, "isConstraint", "(I)Z"⟩
abbrev cX9_isObject : ByteArray := prog_1_method_53_code
def yX9_isObject : MethodName := ⟨RX9, "isObject", "(I)Z"⟩
abbrev cX9_settle : ByteArray := prog_1_method_54_code
def yX9_settle : MethodName := ⟨RX9, "settle", "()V"⟩
abbrev cX9_graphed : ByteArray := prog_1_method_55_code
def yX9_graphed : MethodName := ⟨RX9, "graphed", "()LPointsToSolver$CopyGraph;"⟩
abbrev cX9_dumped : ByteArray := prog_1_method_56_code
def yX9_dumped : MethodName := ⟨RX9, "dumped", "()LPointsToSolver$Dump;"⟩
abbrev cX9_findFact : ByteArray := prog_1_method_57_code
def yX9_findFact : MethodName := ⟨RX9, "findFact", "(II)I"⟩
abbrev cX9_findStep : ByteArray := prog_1_method_58_code
def yX9_findStep : MethodName := ⟨RX9, "findStep", "(III)I"⟩
abbrev cX9_targetsOfCall : ByteArray := prog_1_method_59_code
def yX9_targetsOfCall : MethodName := ⟨RX9, "targetsOfCall", "(I)I"⟩
abbrev cX9_factsLostWithout : ByteArray := prog_1_method_60_code
def yX9_factsLostWithout : MethodName := ⟨RX9, "factsLostWithout", "(I)I"⟩
abbrev cX9_contains : ByteArray := prog_1_method_61_code
def yX9_contains : MethodName := ⟨RX9, "contains", "(II)Z"⟩
abbrev cX9_holds : ByteArray := prog_1_method_62_code
def yX9_holds : MethodName := ⟨RX9, "holds", "(JI)Z"⟩
abbrev cX9_fieldSlot : ByteArray := prog_1_method_63_code
def yX9_fieldSlot : MethodName := ⟨RX9, "fieldSlot", "(II)I"⟩
abbrev cX9_locationOf : ByteArray := prog_1_method_64_code
def yX9_locationOf : MethodName := ⟨RX9, "locationOf", "(I)I"⟩
abbrev cX9_factOf : ByteArray := prog_1_method_65_code
def yX9_factOf : MethodName := ⟨RX9, "factOf", "(II)I"⟩
abbrev cX9_typeAt : ByteArray := prog_1_method_66_code
def yX9_typeAt : MethodName := ⟨RX9, "typeAt", "(II)I"⟩
def RX10 : String := "PointsToSolverModel"
def TX10 : u_T := fun k => match k with
  | 0 => ("PointsToSolverModel", "thrown", "I", false)
  | 1 => ("PointsToSolverModel", "buffer", "[B", true)
  | 2 => ("PointsToSolverModel", "length", "I", false)
  | 3 => ("PointsToSolverModel", "textLength", "I", false)
  | 4 => ("PointsToSolverModel", "tokenStart", "I", false)
  | 5 => ("PointsToSolverModel", "tokenEnd", "I", false)
  | 6 => ("PointsToSolverModel", "token", "I", false)
  | 7 => ("PointsToSolverModel", "word", "J", false)
  | 8 => ("PointsToSolverModel", "error", "I", false)
  | 9 => ("PointsToSolverModel", "errorOffset", "I", false)
  | 10 => ("PointsToSolverModel", "variables", "[I", true)
  | 11 => ("PointsToSolverModel", "objects", "[I", true)
  | 12 => ("PointsToSolverModel", "fields", "[I", true)
  | 13 => ("PointsToSolverModel", "variableNames", "[J", true)
  | 14 => ("PointsToSolverModel", "objectNames", "[J", true)
  | 15 => ("PointsToSolverModel", "fieldNames", "[J", true)
  | 16 => ("PointsToSolverModel", "parameter", "[I", true)
  | 17 => ("PointsToSolverModel", "result", "[I", true)
  | 18 => ("PointsToSolverModel", "state", "[I", true)
  | 19 => ("PointsToSolverModel", "parsed", "[I", true)
  | 20 => ("PointsToSolverModel", "history", "[I", true)
  | 21 => ("PointsToSolverModel", "depth", "I", false)
  | 22 => ("PointsToSolverModel", "slots", "[I", true)
  | 23 => ("PointsToSolverModel", "isSaved", "[Z", true)
  | 24 => ("PointsToSolverModel", "sets", "[I", true)
  | 25 => ("PointsToSolverModel", "before", "[I", true)
  | 26 => ("PointsToSolverModel", "added", "[I", true)
  | 27 => ("PointsToSolverModel", "rounds", "I", false)
  | 28 => ("PointsToSolverModel", "derivedBy", "I", false)
  | 29 => ("PointsToSolverModel", "derivedVia", "I", false)
  | 30 => ("PointsToSolverModel", "derivedSource", "I", false)
  | 31 => ("PointsToSolverModel", "found", "I", false)
  | 32 => ("PointsToSolverModel", "isPrimary", "Z", false)
  | 33 => ("PointsToSolverModel", "pending", "[I", true)
  | 34 => ("PointsToSolverModel", "isMet", "[Z", true)
  | 35 => ("PointsToSolverModel", "pendingMany", "I", false)
  | 36 => ("PointsToSolverModel", "held", "I", false)
  | 37 => ("PointsToSolverModel", "edges", "[J", true)
  | 38 => ("PointsToSolverModel", "reach", "[J", true)
  | 39 => ("PointsToSolverModel", "condensed", "[J", true)
  | 40 => ("PointsToSolverModel", "dump", "[I", true)
  | _ => ("PointsToSolverModel", "dumped", "I", false)
def tyX10 : Nat → FieldType := fun k => match k with
  | 0 => .int
  | 1 => .array .byte
  | 2 => .int
  | 3 => .int
  | 4 => .int
  | 5 => .int
  | 6 => .int
  | 7 => .long
  | 8 => .int
  | 9 => .int
  | 10 => .array .int
  | 11 => .array .int
  | 12 => .array .int
  | 13 => .array .long
  | 14 => .array .long
  | 15 => .array .long
  | 16 => .array .int
  | 17 => .array .int
  | 18 => .array .int
  | 19 => .array .int
  | 20 => .array .int
  | 21 => .int
  | 22 => .array .int
  | 23 => .array .boolean
  | 24 => .array .int
  | 25 => .array .int
  | 26 => .array .int
  | 27 => .int
  | 28 => .int
  | 29 => .int
  | 30 => .int
  | 31 => .int
  | 32 => .boolean
  | 33 => .array .int
  | 34 => .array .boolean
  | 35 => .int
  | 36 => .int
  | 37 => .array .long
  | 38 => .array .long
  | 39 => .array .long
  | 40 => .array .int
  | _ => .int
abbrev wsX100 : List Cond := u_ws RX10 TX10 42
theorem nmX10 : ∀ a, a < 42 → ∀ b, b < 42 → a ≠ b → (TX10 a).2.1 ≠ (TX10 b).2.1 := by decide +kernel
theorem tyX10_ok : ∀ k, k < 42 → parseFieldDescriptor (TX10 k).2.2.1 = some (tyX10 k) := by decide +kernel
abbrev cX10_init : ByteArray := prog_12_method_1_code
def yX10_init : MethodName := ⟨RX10, "<init>", "()V"⟩
abbrev cX10_thrown : ByteArray := prog_12_method_2_code
def yX10_thrown : MethodName := ⟨RX10, "thrown", "()I"⟩
abbrev cX10_within : ByteArray := prog_12_method_3_code
def yX10_within : MethodName := ⟨RX10, "within", "(JJJ)Z"⟩
abbrev cX10_has : ByteArray := prog_12_method_4_code
def yX10_has : MethodName := ⟨RX10, "has", "(II)Z"⟩
abbrev cX10_hasBit : ByteArray := prog_12_method_5_code
def yX10_hasBit : MethodName := ⟨RX10, "hasBit", "(JI)Z"⟩
abbrev cX10_size : ByteArray := prog_12_method_6_code
def yX10_size : MethodName := ⟨RX10, "size", "(I)I"⟩
abbrev cX10_appendInt : ByteArray := prog_12_method_7_code
def yX10_appendInt : MethodName := ⟨RX10, "appendInt", "(I)V"⟩
abbrev cX10_append : ByteArray := prog_12_method_8_code
def yX10_append : MethodName := ⟨RX10, "append", "(IIIII)I"⟩
abbrev cX10_bufferLength : ByteArray := prog_12_method_9_code
def yX10_bufferLength : MethodName := ⟨RX10, "bufferLength", "()I"⟩
abbrev cX10_byteAt : ByteArray := prog_12_method_10_code
def yX10_byteAt : MethodName := ⟨RX10, "byteAt", "(I)I"⟩
abbrev cX10_nextToken : ByteArray := prog_12_method_11_code
def yX10_nextToken : MethodName := ⟨RX10, "nextToken", "()V"⟩
abbrev cX10_must : ByteArray := prog_12_method_12_code
def yX10_must : MethodName := ⟨RX10, "must", "(ZI)Z"⟩
abbrev cX10_coded : ByteArray := prog_12_method_13_code
def yX10_coded : MethodName := ⟨RX10, "coded", "(Ljava/lang/String;)J"⟩
abbrev cX10_is : ByteArray := prog_12_method_14_code
def yX10_is : MethodName := ⟨RX10, "is", "(Ljava/lang/String;)Z"⟩
abbrev cX10_keyword : ByteArray := prog_12_method_15_code
def yX10_keyword : MethodName := ⟨RX10, "keyword", "()I"⟩
abbrev cX10_identifier : ByteArray := prog_12_method_16_code
def yX10_identifier : MethodName := ⟨RX10, "identifier", "([J[II)I"⟩
abbrev cX10_variable : ByteArray := prog_12_method_17_code
def yX10_variable : MethodName := ⟨RX10, "variable", "()I"⟩
abbrev cX10_object : ByteArray := prog_12_method_18_code
def yX10_object : MethodName := ⟨RX10, "object", "()I"⟩
abbrev cX10_field : ByteArray := prog_12_method_19_code
def yX10_field : MethodName := ⟨RX10, "field", "()I"⟩
abbrev cX10_function : ByteArray := prog_12_method_20_code
def yX10_function : MethodName := ⟨RX10, "function", "()V"⟩
abbrev cX10_constraint : ByteArray := prog_12_method_21_code
def yX10_constraint : MethodName := ⟨RX10, "constraint", "(I)V"⟩
abbrev cX10_parse : ByteArray := prog_12_method_22_code
def yX10_parse : MethodName := ⟨RX10, "parse", "(I)I"⟩
abbrev cX10_allOf : ByteArray := prog_12_method_23_code
def yX10_allOf : MethodName := ⟨RX10, "allOf", "(I)I"⟩
abbrev cX10_adoptNames : ByteArray := prog_12_method_24_code
def yX10_adoptNames : MethodName := ⟨RX10, "adoptNames", "([J)V"⟩
abbrev cX10_adopt : ByteArray := prog_12_method_25_code
def yX10_adopt : MethodName := ⟨RX10, "adopt", "()V"⟩
abbrev cX10_variableCount : ByteArray := prog_12_method_26_code
def yX10_variableCount : MethodName := ⟨RX10, "variableCount", "()I"⟩
abbrev cX10_objectCount : ByteArray := prog_12_method_27_code
def yX10_objectCount : MethodName := ⟨RX10, "objectCount", "()I"⟩
abbrev cX10_fieldCount : ByteArray := prog_12_method_28_code
def yX10_fieldCount : MethodName := ⟨RX10, "fieldCount", "()I"⟩
abbrev cX10_constraintCount : ByteArray := prog_12_method_29_code
def yX10_constraintCount : MethodName := ⟨RX10, "constraintCount", "()I"⟩
abbrev cX10_enabledConstraints : ByteArray := prog_12_method_30_code
def yX10_enabledConstraints : MethodName := ⟨RX10, "enabledConstraints", "()I"⟩
abbrev cX10_isFunction : ByteArray := prog_12_method_31_code
def yX10_isFunction : MethodName := ⟨RX10, "isFunction", "(I)Z"⟩
abbrev cX10_functionSet : ByteArray := prog_12_method_32_code
def yX10_functionSet : MethodName := ⟨RX10, "functionSet", "()I"⟩
abbrev cX10_functions : ByteArray := prog_12_method_33_code
def yX10_functions : MethodName := ⟨RX10, "functions", "()I"⟩
abbrev cX10_isConstraint : ByteArray := prog_12_method_34_code
def yX10_isConstraint : MethodName := ⟨RX10, "isConstraint", "(I)Z"⟩
abbrev cX10_isObject : ByteArray := prog_12_method_35_code
def yX10_isObject : MethodName := ⟨RX10, "isObject", "(I)Z"⟩
abbrev cX10_isVariable : ByteArray := prog_12_method_36_code
def yX10_isVariable : MethodName := ⟨RX10, "isVariable", "(I)Z"⟩
abbrev cX10_isField : ByteArray := prog_12_method_37_code
def yX10_isField : MethodName := ⟨RX10, "isField", "(I)Z"⟩
abbrev cX10_isEnabled : ByteArray := prog_12_method_38_code
def yX10_isEnabled : MethodName := ⟨RX10, "isEnabled", "(I)Z"⟩
abbrev cX10_kind : ByteArray := prog_12_method_39_code
def yX10_kind : MethodName := ⟨RX10, "kind", "(I)I"⟩
abbrev cX10_first : ByteArray := prog_12_method_40_code
def yX10_first : MethodName := ⟨RX10, "first", "(I)I"⟩
abbrev cX10_second : ByteArray := prog_12_method_41_code
def yX10_second : MethodName := ⟨RX10, "second", "(I)I"⟩
abbrev cX10_third : ByteArray := prog_12_method_42_code
def yX10_third : MethodName := ⟨RX10, "third", "(I)I"⟩
abbrev cX10_kindOf : ByteArray := prog_12_method_43_code
def yX10_kindOf : MethodName := ⟨RX10, "kindOf", "(I)I"⟩
abbrev cX10_operand : ByteArray := prog_12_method_44_code
def yX10_operand : MethodName := ⟨RX10, "operand", "(II)I"⟩
abbrev cX10_parameterOf : ByteArray := prog_12_method_45_code
def yX10_parameterOf : MethodName := ⟨RX10, "parameterOf", "(I)I"⟩
abbrev cX10_resultOf : ByteArray := prog_12_method_46_code
def yX10_resultOf : MethodName := ⟨RX10, "resultOf", "(I)I"⟩
abbrev cX10_indexOf : ByteArray := prog_12_method_47_code
def yX10_indexOf : MethodName := ⟨RX10, "indexOf", "(I)I"⟩
abbrev cX10_locationOf : ByteArray := prog_12_method_48_code
def yX10_locationOf : MethodName := ⟨RX10, "locationOf", "(I)I"⟩
abbrev cX10_fieldIndex : ByteArray := prog_12_method_49_code
def yX10_fieldIndex : MethodName := ⟨RX10, "fieldIndex", "(II)I"⟩
abbrev cX10_exists : ByteArray := prog_12_method_50_code
def yX10_exists : MethodName := ⟨RX10, "exists", "(I)Z"⟩
abbrev cX10_add : ByteArray := prog_12_method_51_code
def yX10_add : MethodName := ⟨RX10, "add", "(II)V"⟩
abbrev cX10_apply : ByteArray := prog_12_method_52_code
def yX10_apply : MethodName := ⟨RX10, "apply", "(I)V"⟩
abbrev cX10_solve : ByteArray := prog_12_method_53_code
def yX10_solve : MethodName := ⟨RX10, "solve", "()V"⟩
abbrev cX10_facts : ByteArray := prog_12_method_54_code
def yX10_facts : MethodName := ⟨RX10, "facts", "()I"⟩
abbrev cX10_factCount : ByteArray := prog_12_method_55_code
def yX10_factCount : MethodName := ⟨RX10, "factCount", "()I"⟩
abbrev cX10_roundCount : ByteArray := prog_12_method_56_code
def yX10_roundCount : MethodName := ⟨RX10, "roundCount", "()I"⟩
abbrev cX10_pointsTo : ByteArray := prog_12_method_57_code
def yX10_pointsTo : MethodName := ⟨RX10, "pointsTo", "(I)I"⟩
abbrev cX10_pointersTo : ByteArray := prog_12_method_58_code
def yX10_pointersTo : MethodName := ⟨RX10, "pointersTo", "(I)I"⟩
abbrev cX10_commonObjects : ByteArray := prog_12_method_59_code
def yX10_commonObjects : MethodName := ⟨RX10, "commonObjects", "(II)I"⟩
abbrev cX10_reachableObjects : ByteArray := prog_12_method_60_code
def yX10_reachableObjects : MethodName := ⟨RX10, "reachableObjects", "(I)I"⟩
abbrev cX10_isFact : ByteArray := prog_12_method_61_code
def yX10_isFact : MethodName := ⟨RX10, "isFact", "(II)Z"⟩
abbrev cX10_holdsBefore : ByteArray := prog_12_method_62_code
def yX10_holdsBefore : MethodName := ⟨RX10, "holdsBefore", "(III)Z"⟩
abbrev cX10_note : ByteArray := prog_12_method_63_code
def yX10_note : MethodName := ⟨RX10, "note", "(IIIIII)V"⟩
abbrev cX10_derive : ByteArray := prog_12_method_64_code
def yX10_derive : MethodName := ⟨RX10, "derive", "(IIZ)V"⟩
abbrev cX10_deriveCall : ByteArray := prog_12_method_65_code
def yX10_deriveCall : MethodName := ⟨RX10, "deriveCall", "(IIIII)V"⟩
abbrev cX10_areValid : ByteArray := prog_12_method_66_code
def yX10_areValid : MethodName := ⟨RX10, "areValid", "(II)Z"⟩
abbrev cX10_roundOf : ByteArray := prog_12_method_67_code
def yX10_roundOf : MethodName := ⟨RX10, "roundOf", "(II)I"⟩
abbrev cX10_derivationCount : ByteArray := prog_12_method_68_code
def yX10_derivationCount : MethodName := ⟨RX10, "derivationCount", "(II)I"⟩
abbrev cX10_explain : ByteArray := prog_12_method_69_code
def yX10_explain : MethodName := ⟨RX10, "explain", "(III)I"⟩
abbrev cX10_explanationLength : ByteArray := prog_12_method_70_code
def yX10_explanationLength : MethodName := ⟨RX10, "explanationLength", "(II)I"⟩
abbrev cX10_whyNoStep : ByteArray := prog_12_method_71_code
def yX10_whyNoStep : MethodName := ⟨RX10, "whyNoStep", "(III)I"⟩
abbrev cX10_explanationConstraint : ByteArray := prog_12_method_72_code
def yX10_explanationConstraint : MethodName := ⟨RX10, "explanationConstraint", "(III)I"⟩
abbrev cX10_explanationSource : ByteArray := prog_12_method_73_code
def yX10_explanationSource : MethodName := ⟨RX10, "explanationSource", "(III)I"⟩
abbrev cX10_explanationVia : ByteArray := prog_12_method_74_code
def yX10_explanationVia : MethodName := ⟨RX10, "explanationVia", "(III)I"⟩
abbrev cX10_require : ByteArray := prog_12_method_75_code
def yX10_require : MethodName := ⟨RX10, "require", "(II)V"⟩
abbrev cX10_proof : ByteArray := prog_12_method_76_code
def yX10_proof : MethodName := ⟨RX10, "proof", "(II)I"⟩
abbrev cX10_solveWith : ByteArray := prog_12_method_77_code
def yX10_solveWith : MethodName := ⟨RX10, "solveWith", "(I)V"⟩
abbrev cX10_solveAgain : ByteArray := prog_12_method_78_code
def yX10_solveAgain : MethodName := ⟨RX10, "solveAgain", "()V"⟩
abbrev cX10_factsWith : ByteArray := prog_12_method_79_code
def yX10_factsWith : MethodName := ⟨RX10, "factsWith", "(I)I"⟩
abbrev cX10_necessaryConstraints : ByteArray := prog_12_method_80_code
def yX10_necessaryConstraints : MethodName := ⟨RX10, "necessaryConstraints", "(II)I"⟩
abbrev cX10_edge : ByteArray := prog_12_method_81_code
def yX10_edge : MethodName := ⟨RX10, "edge", "(II)V"⟩
abbrev cX10_layEdges : ByteArray := prog_12_method_82_code
def yX10_layEdges : MethodName := ⟨RX10, "layEdges", "()V"⟩
abbrev cX10_layReach : ByteArray := prog_12_method_83_code
def yX10_layReach : MethodName := ⟨RX10, "layReach", "()V"⟩
abbrev cX10_areTogether : ByteArray := prog_12_method_84_code
def yX10_areTogether : MethodName := ⟨RX10, "areTogether", "(II)Z"⟩
abbrev cX10_lowest : ByteArray := prog_12_method_85_code
def yX10_lowest : MethodName := ⟨RX10, "lowest", "(I)I"⟩
abbrev cX10_sizeOf : ByteArray := prog_12_method_86_code
def yX10_sizeOf : MethodName := ⟨RX10, "sizeOf", "(I)I"⟩
abbrev cX10_edgeCount : ByteArray := prog_12_method_87_code
def yX10_edgeCount : MethodName := ⟨RX10, "edgeCount", "()I"⟩
abbrev cX10_hasEdge : ByteArray := prog_12_method_88_code
def yX10_hasEdge : MethodName := ⟨RX10, "hasEdge", "(II)I"⟩
abbrev cX10_distance : ByteArray := prog_12_method_89_code
def yX10_distance : MethodName := ⟨RX10, "distance", "(II)I"⟩
abbrev cX10_componentSize : ByteArray := prog_12_method_90_code
def yX10_componentSize : MethodName := ⟨RX10, "componentSize", "(I)I"⟩
abbrev cX10_representative : ByteArray := prog_12_method_91_code
def yX10_representative : MethodName := ⟨RX10, "representative", "(I)I"⟩
abbrev cX10_cyclicComponentCount : ByteArray := prog_12_method_92_code
def yX10_cyclicComponentCount : MethodName := ⟨RX10, "cyclicComponentCount", "()I"⟩
abbrev cX10_condensedNodeCount : ByteArray := prog_12_method_93_code
def yX10_condensedNodeCount : MethodName := ⟨RX10, "condensedNodeCount", "()I"⟩
abbrev cX10_condensedEdgeCount : ByteArray := prog_12_method_94_code
def yX10_condensedEdgeCount : MethodName := ⟨RX10, "condensedEdgeCount", "()I"⟩
abbrev cX10_targets : ByteArray := prog_12_method_95_code
def yX10_targets : MethodName := ⟨RX10, "targets", "(I)I"⟩
abbrev cX10_callTargets : ByteArray := prog_12_method_96_code
def yX10_callTargets : MethodName := ⟨RX10, "callTargets", "(I)I"⟩
abbrev cX10_callersOf : ByteArray := prog_12_method_97_code
def yX10_callersOf : MethodName := ⟨RX10, "callersOf", "(I)I"⟩
abbrev cX10_uncalledFunctions : ByteArray := prog_12_method_98_code
def yX10_uncalledFunctions : MethodName := ⟨RX10, "uncalledFunctions", "()I"⟩
abbrev cX10_factCountIfToggled : ByteArray := prog_12_method_99_code
def yX10_factCountIfToggled : MethodName := ⟨RX10, "factCountIfToggled", "(I)I"⟩
abbrev cX10_factCountWithout : ByteArray := prog_12_method_100_code
def yX10_factCountWithout : MethodName := ⟨RX10, "factCountWithout", "(I)I"⟩
abbrev cX10_mostInfluentialConstraint : ByteArray := prog_12_method_101_code
def yX10_mostInfluentialConstraint : MethodName := ⟨RX10, "mostInfluentialConstraint", "()I"⟩
abbrev cX10_redundantConstraintCount : ByteArray := prog_12_method_102_code
def yX10_redundantConstraintCount : MethodName := ⟨RX10, "redundantConstraintCount", "()I"⟩
abbrev cX10_write : ByteArray := prog_12_method_103_code
def yX10_write : MethodName := ⟨RX10, "write", "(I)V"⟩
abbrev cX10_writeName : ByteArray := prog_12_method_104_code
def yX10_writeName : MethodName := ⟨RX10, "writeName", "(J)V"⟩
abbrev cX10_layDump : ByteArray := prog_12_method_105_code
def yX10_layDump : MethodName := ⟨RX10, "layDump", "()V"⟩
abbrev cX10_dumpLength : ByteArray := prog_12_method_106_code
def yX10_dumpLength : MethodName := ⟨RX10, "dumpLength", "()I"⟩
abbrev cX10_dumpByte : ByteArray := prog_12_method_107_code
def yX10_dumpByte : MethodName := ⟨RX10, "dumpByte", "(I)I"⟩
abbrev cX10_keepState : ByteArray := prog_12_method_108_code
def yX10_keepState : MethodName := ⟨RX10, "keepState", "()V"⟩
abbrev cX10_areOperands : ByteArray := prog_12_method_109_code
def yX10_areOperands : MethodName := ⟨RX10, "areOperands", "(IIII)Z"⟩
abbrev cX10_addConstraint : ByteArray := prog_12_method_110_code
def yX10_addConstraint : MethodName := ⟨RX10, "addConstraint", "(IIII)I"⟩
abbrev cX10_setEnabled : ByteArray := prog_12_method_111_code
def yX10_setEnabled : MethodName := ⟨RX10, "setEnabled", "(IZ)Z"⟩
abbrev cX10_undo : ByteArray := prog_12_method_112_code
def yX10_undo : MethodName := ⟨RX10, "undo", "()I"⟩
abbrev cX10_undoDepth : ByteArray := prog_12_method_113_code
def yX10_undoDepth : MethodName := ⟨RX10, "undoDepth", "()I"⟩
abbrev cX10_saveSnapshot : ByteArray := prog_12_method_114_code
def yX10_saveSnapshot : MethodName := ⟨RX10, "saveSnapshot", "(I)Z"⟩
abbrev cX10_restoreSnapshot : ByteArray := prog_12_method_115_code
def yX10_restoreSnapshot : MethodName := ⟨RX10, "restoreSnapshot", "(I)Z"⟩
def RJx145de : String := "java/io/Serializable"
def RJx9f9b0 : String := "java/lang/CharSequence"
def RJxb160c : String := "java/lang/Comparable"
def RJ6 : String := "java/lang/Integer"
abbrev cJ6_numberOfTrailingZeros_0f7a4 : ByteArray := prog_15_method_48_code
def yJ6_numberOfTrailingZeros_0f7a4 : MethodName := ⟨RJ6, "numberOfTrailingZeros", "(I)I"⟩
abbrev cJ6_bitCount_0f7a4 : ByteArray := prog_15_method_49_code
def yJ6_bitCount_0f7a4 : MethodName := ⟨RJ6, "bitCount", "(I)I"⟩
def RJ13 : String := "java/lang/Long"
abbrev cJ13_numberOfTrailingZeros_95d88 : ByteArray := prog_16_method_49_code
def yJ13_numberOfTrailingZeros_95d88 : MethodName := ⟨RJ13, "numberOfTrailingZeros", "(J)I"⟩
abbrev cJ13_bitCount_95d88 : ByteArray := prog_16_method_50_code
def yJ13_bitCount_95d88 : MethodName := ⟨RJ13, "bitCount", "(J)I"⟩
def RJ9 : String := "java/lang/Math"
abbrev cJ9_min_7cf53 : ByteArray := prog_17_method_69_code
def yJ9_min_7cf53 : MethodName := ⟨RJ9, "min", "(II)I"⟩
def RJxd2413 : String := "java/lang/Number"
def RJ0 : String := "java/lang/String"
abbrev cJ0_length_8abf5 : ByteArray := prog_20_method_54_code
def yJ0_length_8abf5 : MethodName := ⟨RJ0, "length", "()I"⟩
abbrev cJ0_charAt_5068e : ByteArray := prog_20_method_56_code
def yJ0_charAt_5068e : MethodName := ⟨RJ0, "charAt", "(I)C"⟩
abbrev cJ0_coder_7d493 : ByteArray := prog_20_method_152_code
def yJ0_coder_7d493 : MethodName := ⟨RJ0, "coder", "()B"⟩
abbrev cJ0_isLatin1_aae02 : ByteArray := prog_20_method_154_code
def yJ0_isLatin1_aae02 : MethodName := ⟨RJ0, "isLatin1", "()Z"⟩
abbrev cJ0_checkIndex_df160 : ByteArray := prog_20_method_155_code
def yJ0_checkIndex_df160 : MethodName := ⟨RJ0, "checkIndex", "(II)V"⟩
def RJ1 : String := "java/lang/StringLatin1"
abbrev cJ1_charAt_3b067 : ByteArray := prog_21_method_2_code
def yJ1_charAt_3b067 : MethodName := ⟨RJ1, "charAt", "([BI)C"⟩
def RJ2 : String := "java/lang/StringUTF16"
abbrev cJ2_getChar_3b067 : ByteArray := prog_22_method_5_code
def yJ2_getChar_3b067 : MethodName := ⟨RJ2, "getChar", "([BI)C"⟩
abbrev cJ2_length_9d52b : ByteArray := prog_22_method_6_code
def yJ2_length_9d52b : MethodName := ⟨RJ2, "length", "([B)I"⟩
abbrev cJ2_charAt_3b067 : ByteArray := prog_22_method_83_code
def yJ2_charAt_3b067 : MethodName := ⟨RJ2, "charAt", "([BI)C"⟩
abbrev cJ2_checkIndex_2214a : ByteArray := prog_22_method_91_code
def yJ2_checkIndex_2214a : MethodName := ⟨RJ2, "checkIndex", "(I[B)V"⟩
def RJ10 : String := "java/lang/System"
def RJxfd54e : String := "java/lang/constant/Constable"
def RJx3cf43 : String := "java/lang/constant/ConstantDesc"
def RJ7 : String := "java/util/Arrays"
abbrev cJ7_fill_d0a16 : ByteArray := prog_25_method_101_code
def yJ7_fill_d0a16 : MethodName := ⟨RJ7, "fill", "([JJ)V"⟩
abbrev cJ7_fill_53178 : ByteArray := prog_25_method_103_code
def yJ7_fill_53178 : MethodName := ⟨RJ7, "fill", "([II)V"⟩
def RJ3 : String := "jdk/internal/util/Preconditions"
abbrev cJ3_checkIndex_8e157 : ByteArray := prog_26_method_11_code
def yJ3_checkIndex_8e157 : MethodName := ⟨RJ3, "checkIndex", "(IILjava/util/function/BiFunction;)I"⟩
def RL : String := "PointsToSolverLaw"
abbrev cL_kindOf : ByteArray := method_3_code
def yL_kindOf : MethodName := ⟨RL, "kindOf", "(LPointsToSolver;I[J)I"⟩
abbrev cL_operand : ByteArray := method_4_code
def yL_operand : MethodName := ⟨RL, "operand", "(LPointsToSolver;II[J)I"⟩
abbrev cL_law : ByteArray := code
def yL_law : MethodName := ⟨RL, "law", "([I)Z"⟩
abbrev vwCl : List vw_C := [(RX0, TX0, 6), (RX1, TX1, 4), (RX2, TX2, 2), (RX3, TX3, 3), (RX4, TX4, 3), (RX5, TX5, 9), (RX6, TX6, 7), (RX7, TX7, 11), (RX8, TX8, 1), (RX9, TX9, 12), (RX10, TX10, 42)]
