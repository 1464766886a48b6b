/-! The two big constructors. -/
theorem dX9_init_0 : decode cX9_init 0 = .ok (.aload_n 0, 1) := by decide +kernel
theorem dX9_init_1 : decode cX9_init 1 = .ok (.invokespecial 3, 3) := by decide +kernel
theorem dX9_init_4 : decode cX9_init 4 = .ok (.aload_n 0, 1) := by decide +kernel
theorem dX9_init_5 : decode cX9_init 5 = .ok (.new 9, 3) := by decide +kernel
theorem dX9_init_8 : decode cX9_init 8 = .ok (.dup, 1) := by decide +kernel
theorem dX9_init_9 : decode cX9_init 9 = .ok (.invokespecial 11, 3) := by decide +kernel
theorem dX9_init_12 : decode cX9_init 12 = .ok (.putfield 12, 3) := by decide +kernel
theorem dX9_init_15 : decode cX9_init 15 = .ok (.aload_n 0, 1) := by decide +kernel
theorem dX9_init_16 : decode cX9_init 16 = .ok (.new 16, 3) := by decide +kernel
theorem dX9_init_19 : decode cX9_init 19 = .ok (.dup, 1) := by decide +kernel
theorem dX9_init_20 : decode cX9_init 20 = .ok (.invokespecial 18, 3) := by decide +kernel
theorem dX9_init_23 : decode cX9_init 23 = .ok (.putfield 19, 3) := by decide +kernel
theorem dX9_init_26 : decode cX9_init 26 = .ok (.aload_n 0, 1) := by decide +kernel
theorem dX9_init_27 : decode cX9_init 27 = .ok (.new 16, 3) := by decide +kernel
theorem dX9_init_30 : decode cX9_init 30 = .ok (.dup, 1) := by decide +kernel
theorem dX9_init_31 : decode cX9_init 31 = .ok (.invokespecial 18, 3) := by decide +kernel
theorem dX9_init_34 : decode cX9_init 34 = .ok (.putfield 23, 3) := by decide +kernel
theorem dX9_init_37 : decode cX9_init 37 = .ok (.aload_n 0, 1) := by decide +kernel
theorem dX9_init_38 : decode cX9_init 38 = .ok (.new 26, 3) := by decide +kernel
theorem dX9_init_41 : decode cX9_init 41 = .ok (.dup, 1) := by decide +kernel
theorem dX9_init_42 : decode cX9_init 42 = .ok (.invokespecial 28, 3) := by decide +kernel
theorem dX9_init_45 : decode cX9_init 45 = .ok (.putfield 29, 3) := by decide +kernel
theorem dX9_init_48 : decode cX9_init 48 = .ok (.aload_n 0, 1) := by decide +kernel
theorem dX9_init_49 : decode cX9_init 49 = .ok (.iconst 2, 1) := by decide +kernel
theorem dX9_init_50 : decode cX9_init 50 = .ok (.anewarray 33, 3) := by decide +kernel
theorem dX9_init_53 : decode cX9_init 53 = .ok (.dup, 1) := by decide +kernel
theorem dX9_init_54 : decode cX9_init 54 = .ok (.iconst 0, 1) := by decide +kernel
theorem dX9_init_55 : decode cX9_init 55 = .ok (.new 33, 3) := by decide +kernel
theorem dX9_init_58 : decode cX9_init 58 = .ok (.dup, 1) := by decide +kernel
theorem dX9_init_59 : decode cX9_init 59 = .ok (.invokespecial 35, 3) := by decide +kernel
theorem dX9_init_62 : decode cX9_init 62 = .ok (.aastore, 1) := by decide +kernel
theorem dX9_init_63 : decode cX9_init 63 = .ok (.dup, 1) := by decide +kernel
theorem dX9_init_64 : decode cX9_init 64 = .ok (.iconst 1, 1) := by decide +kernel
theorem dX9_init_65 : decode cX9_init 65 = .ok (.new 33, 3) := by decide +kernel
theorem dX9_init_68 : decode cX9_init 68 = .ok (.dup, 1) := by decide +kernel
theorem dX9_init_69 : decode cX9_init 69 = .ok (.invokespecial 35, 3) := by decide +kernel
theorem dX9_init_72 : decode cX9_init 72 = .ok (.aastore, 1) := by decide +kernel
theorem dX9_init_73 : decode cX9_init 73 = .ok (.putfield 36, 3) := by decide +kernel
theorem dX9_init_76 : decode cX9_init 76 = .ok (.aload_n 0, 1) := by decide +kernel
theorem dX9_init_77 : decode cX9_init 77 = .ok (.iconst 0, 1) := by decide +kernel
theorem dX9_init_78 : decode cX9_init 78 = .ok (.putfield 40, 3) := by decide +kernel
theorem dX9_init_81 : decode cX9_init 81 = .ok (.aload_n 0, 1) := by decide +kernel
theorem dX9_init_82 : decode cX9_init 82 = .ok (.new 44, 3) := by decide +kernel
theorem dX9_init_85 : decode cX9_init 85 = .ok (.dup, 1) := by decide +kernel
theorem dX9_init_86 : decode cX9_init 86 = .ok (.invokespecial 46, 3) := by decide +kernel
theorem dX9_init_89 : decode cX9_init 89 = .ok (.putfield 47, 3) := by decide +kernel
theorem dX9_init_92 : decode cX9_init 92 = .ok (.aload_n 0, 1) := by decide +kernel
theorem dX9_init_93 : decode cX9_init 93 = .ok (.new 51, 3) := by decide +kernel
theorem dX9_init_96 : decode cX9_init 96 = .ok (.dup, 1) := by decide +kernel
theorem dX9_init_97 : decode cX9_init 97 = .ok (.invokespecial 53, 3) := by decide +kernel
theorem dX9_init_100 : decode cX9_init 100 = .ok (.putfield 54, 3) := by decide +kernel
theorem dX9_init_103 : decode cX9_init 103 = .ok (.aload_n 0, 1) := by decide +kernel
theorem dX9_init_104 : decode cX9_init 104 = .ok (.new 58, 3) := by decide +kernel
theorem dX9_init_107 : decode cX9_init 107 = .ok (.dup, 1) := by decide +kernel
theorem dX9_init_108 : decode cX9_init 108 = .ok (.invokespecial 60, 3) := by decide +kernel
theorem dX9_init_111 : decode cX9_init 111 = .ok (.putfield 61, 3) := by decide +kernel
theorem dX9_init_114 : decode cX9_init 114 = .ok (.aload_n 0, 1) := by decide +kernel
theorem dX9_init_115 : decode cX9_init 115 = .ok (.iconst 1, 1) := by decide +kernel
theorem dX9_init_116 : decode cX9_init 116 = .ok (.putfield 65, 3) := by decide +kernel
theorem dX9_init_119 : decode cX9_init 119 = .ok (.aload_n 0, 1) := by decide +kernel
theorem dX9_init_120 : decode cX9_init 120 = .ok (.iconst 1, 1) := by decide +kernel
theorem dX9_init_121 : decode cX9_init 121 = .ok (.putfield 69, 3) := by decide +kernel
theorem dX9_init_124 : decode cX9_init 124 = .ok (.aload_n 0, 1) := by decide +kernel
theorem dX9_init_125 : decode cX9_init 125 = .ok (.new 72, 3) := by decide +kernel
theorem dX9_init_128 : decode cX9_init 128 = .ok (.dup, 1) := by decide +kernel
theorem dX9_init_129 : decode cX9_init 129 = .ok (.invokespecial 74, 3) := by decide +kernel
theorem dX9_init_132 : decode cX9_init 132 = .ok (.putfield 75, 3) := by decide +kernel
theorem dX9_init_135 : decode cX9_init 135 = .ok (.return_, 1) := by decide +kernel
def Dv9 : List Value := [.null, .null, .null, .null, .null, .int 0, .null, .null, .null, .int 0, .int 0, .null]
theorem Dv9_ok : ∀ j, j < 12 → defaultValue (tyX9 j) = vp_V Dv9 j := by
  intro j hj
  match j, hj with
  | 0, _ => rfl
  | 1, _ => rfl
  | 2, _ => rfl
  | 3, _ => rfl
  | 4, _ => rfl
  | 5, _ => rfl
  | 6, _ => rfl
  | 7, _ => rfl
  | 8, _ => rfl
  | 9, _ => rfl
  | 10, _ => rfl
  | 11, _ => rfl
  | j + 12, hj => exact absurd hj (by omega)
def L9 (g : Gh) (a : Nat → Nat) : va_W := [(a 0, .inr (9, [.ref (a 1), .ref (a 4), .ref (a 18), .ref (a 32), .ref (a 34), .int 0, .ref (a 45), .ref (a 54), .ref (a 58), .int 1, .int 1, .ref (a 60)])), (a 1, .inr (5, [.ref (a 2), .int 0, .int 0, .int 0, .int 0, .int 0, .long 0, .int 0, .ref (a 3)])), (a 2, za g 2 600), (a 3, za g 0 3), (a 4, .inr (6, [.ref (a 5), .ref (a 7), .ref (a 9), .ref (a 11), .ref (a 12), .int 0, .ref (a 13)])), (a 5, .inr (4, [.ref (a 6), .int 16, .int 0])), (a 6, za g 1 16), (a 7, .inr (4, [.ref (a 8), .int 10, .int 0])), (a 8, za g 1 16), (a 9, .inr (4, [.ref (a 10), .int 4, .int 0])), (a 10, za g 1 16), (a 11, za g 0 10), (a 12, za g 0 10), (a 13, .inr (0, [.ref (a 14), .ref (a 15), .ref (a 16), .ref (a 17), .int 0, .int 0])), (a 14, za g 0 30), (a 15, za g 0 30), (a 16, za g 0 30), (a 17, za g 0 30), (a 18, .inr (6, [.ref (a 19), .ref (a 21), .ref (a 23), .ref (a 25), .ref (a 26), .int 0, .ref (a 27)])), (a 19, .inr (4, [.ref (a 20), .int 16, .int 0])), (a 20, za g 1 16), (a 21, .inr (4, [.ref (a 22), .int 10, .int 0])), (a 22, za g 1 16), (a 23, .inr (4, [.ref (a 24), .int 4, .int 0])), (a 24, za g 1 16), (a 25, za g 0 10), (a 26, za g 0 10), (a 27, .inr (0, [.ref (a 28), .ref (a 29), .ref (a 30), .ref (a 31), .int 0, .int 0])), (a 28, za g 0 30), (a 29, za g 0 30), (a 30, za g 0 30), (a 31, za g 0 30), (a 32, .inr (3, [.ref (a 33), .int 0, .int 0])), (a 33, za g 0 12), (a 34, .inl (g.2.1 4, 2, .inr (.inr (.inr (.inr (fun i => some (a (zrf zC 34 i)))))))), (a 35, .inr (0, [.ref (a 36), .ref (a 37), .ref (a 38), .ref (a 39), .int 0, .int 0])), (a 36, za g 0 30), (a 37, za g 0 30), (a 38, za g 0 30), (a 39, za g 0 30), (a 40, .inr (0, [.ref (a 41), .ref (a 42), .ref (a 43), .ref (a 44), .int 0, .int 0])), (a 41, za g 0 30), (a 42, za g 0 30), (a 43, za g 0 30), (a 44, za g 0 30), (a 45, .inr (7, [.ref (a 46), .ref (a 47), .int 0, .int 0, .int 0, .ref (a 48), .ref (a 49), .ref (a 50), .ref (a 51), .ref (a 52), .ref (a 53)])), (a 46, za g 0 56), (a 47, za g 0 56), (a 48, za g 0 560), (a 49, za g 0 560), (a 50, za g 0 560), (a 51, za g 0 560), (a 52, za g 0 560), (a 53, za g 0 560), (a 54, .inr (1, [.ref (a 55), .ref (a 56), .ref (a 57), .long 0])), (a 55, za g 1 56), (a 56, za g 1 56), (a 57, za g 1 56), (a 58, .inr (2, [.ref (a 59), .int 0])), (a 59, za g 2 1232), (a 60, .inr (8, [.ref (a 61)])), (a 61, za g 0 56)]
set_option maxHeartbeats 4000000 in
set_option maxRecDepth 100000 in
theorem zC_eq (g : Gh) (a : Nat → Nat) : L9 g a = zcells zC (g.1, g.2.1, a) wC0 := by
  have h1 : List.range 62 = [0, 1, 2, 3, 4, 5, 6, 7, 8, 9, 10, 11, 12, 13, 14, 15, 16, 17, 18, 19, 20, 21, 22, 23, 24, 25, 26, 27, 28, 29, 30, 31, 32, 33, 34, 35, 36, 37, 38, 39, 40, 41, 42, 43, 44, 45, 46, 47, 48, 49, 50, 51, 52, 53, 54, 55, 56, 57, 58, 59, 60, 61] := rfl
  show L9 g a = (List.range 62).map (fun k => (a k, zcl zC (g.1, g.2.1, a) wC0 k (zct zC k)))
  rw [h1]
  exact cons_eq rfl (cons_eq rfl (cons_eq rfl (cons_eq rfl (cons_eq rfl (cons_eq rfl (cons_eq rfl (cons_eq rfl (cons_eq rfl (cons_eq rfl (cons_eq rfl (cons_eq rfl (cons_eq rfl (cons_eq rfl (cons_eq rfl (cons_eq rfl (cons_eq rfl (cons_eq rfl (cons_eq rfl (cons_eq rfl (cons_eq rfl (cons_eq rfl (cons_eq rfl (cons_eq rfl (cons_eq rfl (cons_eq rfl (cons_eq rfl (cons_eq rfl (cons_eq rfl (cons_eq rfl (cons_eq rfl (cons_eq rfl (cons_eq rfl (cons_eq rfl (cons_eq rfl (cons_eq rfl (cons_eq rfl (cons_eq rfl (cons_eq rfl (cons_eq rfl (cons_eq rfl (cons_eq rfl (cons_eq rfl (cons_eq rfl (cons_eq rfl (cons_eq rfl (cons_eq rfl (cons_eq rfl (cons_eq rfl (cons_eq rfl (cons_eq rfl (cons_eq rfl (cons_eq rfl (cons_eq rfl (cons_eq rfl (cons_eq rfl (cons_eq rfl (cons_eq rfl (cons_eq rfl (cons_eq rfl (cons_eq rfl (cons_eq rfl (rfl))))))))))))))))))))))))))))))))))))))))))))))))))))))))))))))
