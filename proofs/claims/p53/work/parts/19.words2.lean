-- deps: 02
/-! More words of the tables: for the inherited methods of the builder. -/
theorem tw_1_70 : Cond.superclass "PointsToSolver$Parser" "java/lang/Object" ∈ TT := zz_in (zz_c1 (List.mem_of_getElem? (i := 70) rfl)) rfl
theorem tw_1_99 : Cond.superclass "PointsToSolver$NameTable" "java/lang/Object" ∈ TT := zz_in (zz_c1 (List.mem_of_getElem? (i := 99) rfl)) rfl
theorem tw_1_137 : Cond.superclass "PointsToSolver$ConstraintList" "java/lang/Object" ∈ TT := zz_in (zz_c1 (List.mem_of_getElem? (i := 137) rfl)) rfl
theorem tw_1_171 : Cond.superclass "PointsToSolver$Program" "java/lang/Object" ∈ TT := zz_in (zz_c1 (List.mem_of_getElem? (i := 171) rfl)) rfl
theorem tw_1_187 : Cond.superclass "PointsToSolver$History" "java/lang/Object" ∈ TT := zz_in (zz_c1 (List.mem_of_getElem? (i := 187) rfl)) rfl
theorem tw_1_235 : Cond.superclass "PointsToSolver$Solution" "java/lang/Object" ∈ TT := zz_in (zz_c1 (List.mem_of_getElem? (i := 235) rfl)) rfl
theorem tw_2_16 : Cond.superclass "PointsToSolver$CopyGraph" "java/lang/Object" ∈ TT := zz_in (zz_c2 (List.mem_of_getElem? (i := 16) rfl)) rfl
theorem tw_2_29 : Cond.superclass "PointsToSolver$Dump" "java/lang/Object" ∈ TT := zz_in (zz_c2 (List.mem_of_getElem? (i := 29) rfl)) rfl
theorem tw_2_39 : Cond.superclass "PointsToSolver$Trial" "java/lang/Object" ∈ TT := zz_in (zz_c2 (List.mem_of_getElem? (i := 39) rfl)) rfl
theorem tw_2_76 : Cond.superclass "PointsToSolver" "java/lang/Object" ∈ TT := zz_in (zz_c2 (List.mem_of_getElem? (i := 76) rfl)) rfl
theorem tw_3_199 : Cond.superclass "java/lang/StringBuilder" "java/lang/AbstractStringBuilder" ∈ TT := zz_in (zz_c3 (List.mem_of_getElem? (i := 199) rfl)) rfl
theorem tw_4_3 : Cond.sameMethod "[B" "java/lang/Object" "clone" "()Ljava/lang/Object;" ∈ TT := zz_in (zz_c4 (List.mem_of_getElem? (i := 3) rfl)) rfl
theorem tw_4_13 : Cond.sameMethod "java/lang/AbstractStringBuilder" "java/lang/AbstractStringBuilder" "isLatin1" "()Z" ∈ TT := zz_in (zz_c4 (List.mem_of_getElem? (i := 13) rfl)) rfl
theorem tw_4_108 : Cond.sameMethod "java/lang/AbstractStringBuilder" "java/lang/AbstractStringBuilder" "getValue" "()[B" ∈ TT := zz_in (zz_c4 (List.mem_of_getElem? (i := 108) rfl)) rfl
theorem tw_4_113 : Cond.sameMethod "java/lang/AbstractStringBuilder" "java/lang/AbstractStringBuilder" "length" "()I" ∈ TT := zz_in (zz_c4 (List.mem_of_getElem? (i := 113) rfl)) rfl
theorem tw_4_149 : Cond.superclass "java/lang/String" "java/lang/Object" ∈ TT := zz_in (zz_c4 (List.mem_of_getElem? (i := 149) rfl)) rfl
theorem tw_4_198 : Cond.superclass "java/lang/Throwable" "java/lang/Object" ∈ TT := zz_in (zz_c4 (List.mem_of_getElem? (i := 198) rfl)) rfl
theorem tw_4_208 : Cond.sameMethod "java/lang/Throwable" "java/lang/Throwable" "fillInStackTrace" "()Ljava/lang/Throwable;" ∈ TT := zz_in (zz_c4 (List.mem_of_getElem? (i := 208) rfl)) rfl
theorem tw_5_0 : Cond.superclass "java/lang/IndexOutOfBoundsException" "java/lang/RuntimeException" ∈ TT := zz_in (zz_c5 (List.mem_of_getElem? (i := 0) rfl)) rfl
theorem tw_5_78 : Cond.sameMethod "java/lang/AbstractStringBuilder" "java/lang/AbstractStringBuilder" "append" "(Ljava/lang/String;)Ljava/lang/AbstractStringBuilder;" ∈ TT := zz_in (zz_c5 (List.mem_of_getElem? (i := 78) rfl)) rfl
theorem tw_5_79 : Cond.sameMethod "java/lang/AbstractStringBuilder" "java/lang/AbstractStringBuilder" "appendNull" "()Ljava/lang/AbstractStringBuilder;" ∈ TT := zz_in (zz_c5 (List.mem_of_getElem? (i := 79) rfl)) rfl
theorem tw_5_80 : Cond.sameMethod "java/lang/AbstractStringBuilder" "java/lang/AbstractStringBuilder" "ensureCapacityInternal" "(I)V" ∈ TT := zz_in (zz_c5 (List.mem_of_getElem? (i := 80) rfl)) rfl
theorem tw_5_81 : Cond.sameMethod "java/lang/AbstractStringBuilder" "java/lang/AbstractStringBuilder" "newCapacity" "(I)I" ∈ TT := zz_in (zz_c5 (List.mem_of_getElem? (i := 81) rfl)) rfl
theorem tw_5_82 : Cond.sameMethod "java/lang/AbstractStringBuilder" "java/lang/AbstractStringBuilder" "putStringAt" "(ILjava/lang/String;)V" ∈ TT := zz_in (zz_c5 (List.mem_of_getElem? (i := 82) rfl)) rfl
theorem tw_5_83 : Cond.sameMethod "java/lang/AbstractStringBuilder" "java/lang/AbstractStringBuilder" "inflateIfNeededFor" "(Ljava/lang/String;)V" ∈ TT := zz_in (zz_c5 (List.mem_of_getElem? (i := 83) rfl)) rfl
theorem tw_5_84 : Cond.sameMethod "java/lang/AbstractStringBuilder" "java/lang/AbstractStringBuilder" "inflate" "()V" ∈ TT := zz_in (zz_c5 (List.mem_of_getElem? (i := 84) rfl)) rfl
theorem tw_5_85 : Cond.sameMethod "java/lang/AbstractStringBuilder" "java/lang/AbstractStringBuilder" "append" "(C)Ljava/lang/AbstractStringBuilder;" ∈ TT := zz_in (zz_c5 (List.mem_of_getElem? (i := 85) rfl)) rfl
theorem tw_5_86 : Cond.sameMethod "java/lang/Throwable" "java/lang/Throwable" "fillInStackTrace" "(I)Ljava/lang/Throwable;" ∈ TT := zz_in (zz_c5 (List.mem_of_getElem? (i := 86) rfl)) rfl
