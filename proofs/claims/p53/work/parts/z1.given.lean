-- deps: 29b
/-! What the entry gives: words, statics, text constants, classes. -/
def GVL : List Cond := flatC (Jvm.Cond.and given_1 narrow_1)
def oTm : Term := .static RX9 "OPERAND_TYPES" "[I"
def kTm : Term := .static RX9 "KEYWORDS" "[J"
def sTm (i : Nat) : Term := .string RL (lsIx i)
theorem gv_o1 : Cond.arrayOf oTm .int ∈ GVL := by decide +kernel
theorem gv_o2 : Cond.eq (.length oTm) (.int (Int32.ofNat 18)) ∈ GVL := by decide +kernel
theorem gv_o3 : ∀ j, j < 18 → Cond.eq (.elem oTm (.int (Int32.ofNat j))) (.int (opT j)) ∈ GVL := by decide +kernel
theorem gv_k1 : Cond.arrayOf kTm .long ∈ GVL := by decide +kernel
theorem gv_k2 : Cond.eq (.length kTm) (.int (Int32.ofNat 6)) ∈ GVL := by decide +kernel
theorem gv_k3 : ∀ j, j < 6 → Cond.eq (.elem kTm (.int (Int32.ofNat j))) (.long (kwT j)) ∈ GVL := by decide +kernel
theorem gv_s1 : ∀ i, i < 9 → Cond.exactly (sTm i) "java/lang/String" ∈ GVL := by decide +kernel
theorem gv_s2 : ∀ i, i < 9 → Cond.eq (.field (sTm i) "java/lang/String" "coder" "B") (.int 0) ∈ GVL := by decide +kernel
theorem gv_s3 : ∀ i, i < 9 → Cond.arrayOf (.field (sTm i) "java/lang/String" "value" "[B") .byte ∈ GVL := by decide +kernel
theorem gv_s4 : ∀ i, i < 9 → Cond.eq (.length (.field (sTm i) "java/lang/String" "value" "[B")) (.int (Int32.ofNat (lsLen.getD i 0))) ∈ GVL := by decide +kernel
theorem gv_s5 : ∀ i, i < 9 → ∀ j, j < lsLen.getD i 0 → Cond.eq (.elem (.field (sTm i) "java/lang/String" "value" "[B") (.int (Int32.ofNat j))) (.int ((lsByt.getD i []).getD j 0)) ∈ GVL := by decide +kernel
theorem gv_s6 : ∀ i, i < 9 → ∀ j, j < 9 → i ≠ j → Cond.not (Cond.eq (sTm i) (sTm j)) ∈ GVL ∨ Cond.not (Cond.eq (sTm j) (sTm i)) ∈ GVL := by decide +kernel
theorem gv_t1 : ∀ i, i < 9 → Cond.stringRef RL (lsIx i) (lsTx i) ∈ tables_1 := by decide +kernel
theorem gv_t3 : Cond.laysStatic RX9 "OPERAND_TYPES" "[I" ∈ tables_1 ∧ Cond.laysStatic RX9 "KEYWORDS" "[J" ∈ tables_1 ∧ Cond.laysStatic "java/lang/String" "COMPACT_STRINGS" "Z" ∈ tables_1 ∧ Cond.laysStatic "jdk/internal/util/Preconditions" "SIOOBE_FORMATTER" "Ljava/util/function/BiFunction;" ∈ tables_1 := by decide +kernel
theorem gv_t4 : Cond.initialized RX9 ∈ tables_1 ∧ Cond.initialized "java/lang/String" ∈ tables_1 ∧ Cond.initialized "jdk/internal/util/Preconditions" ∈ tables_1 := by decide +kernel
theorem gv_t5 : Cond.arrayClass .int ∈ tables_1 ∧ Cond.arrayClass .long ∈ tables_1 ∧ Cond.arrayClass .byte ∈ tables_1 ∧ Cond.arrayOver (.array .int) ∈ tables_1 ∧ Cond.arrayOver (.object RX0) ∈ tables_1 := by decide +kernel
theorem gv_u1 : Cond.eq (.static "java/lang/String" "COMPACT_STRINGS" "Z") (.int 1) ∈ GVL ∧ Cond.isRef (.static "jdk/internal/util/Preconditions" "SIOOBE_FORMATTER" "Ljava/util/function/BiFunction;") ∈ GVL := by decide +kernel
theorem gv_w1 : Cond.castable "[B" "java/lang/Cloneable" ∈ tables_1 := by decide +kernel
theorem gv_p1 : ∀ y ∈ jprv, Cond.privateMethod y ∈ tables_1 ∧ Cond.instanceMethod y ∈ tables_1 := by decide +kernel
theorem gv_p3 : ∀ y ∈ jprv, y.cls = "java/lang/AbstractStringBuilder" := by decide +kernel
theorem gv_p4 : Cond.selects RJ4 ⟨"java/lang/AbstractStringBuilder", "isLatin1", "()Z"⟩ ⟨"java/lang/AbstractStringBuilder", "isLatin1", "()Z"⟩ ∈ tables_1 := by decide +kernel
theorem gv_p2 : Cond.instantiable RJ4 4 ∈ tables_1 := by decide +kernel
theorem vk_S.cg {N : Nat} {len : List Nat} {byt : List (List Int32)} {a1 v1 a2 v2 : Nat → Nat} {A : Nat → Prop} {U : State} {H : Heap} (h : vk_S N len byt a1 v1 A U H) (ha : ∀ i, i < N → a2 i = a1 i) (hv : ∀ i, i < N → v2 i = v1 i) : vk_S N len byt a2 v2 A U H := by
  refine ⟨fun i hi => ?_, fun i j hi hj e => h.2 i j hi hj (by rw [← ha i hi, ← ha j hj]; exact e)⟩
  rw [ha i hi, hv i hi]
  exact h.1 i hi
section GV
variable {s : State} {b : Nat}
/-- a private method is what its own class's call lands in, whatever the receiver's class -/
theorem gv_selP {C : String} {y : MethodName} {args : Array Value} {n : Nat} (hy : y.cls ≠ "java/lang/invoke/MethodHandle" ∧ y.cls ≠ "java/lang/invoke/VarHandle")
    (hC : (Cond.instantiable C n).before args s = true) (hpriv : (Cond.privateMethod y).before args s = true) (hinst : (Cond.instanceMethod y).before args s = true) (hno : ∀ (mk : MethodId), s.methodNamed? y = some mk → (s.vm.classes[mk.cls]?).any (!·.isInterface) = true) :
    (Cond.selects C y y).before args s = true := by
  obtain ⟨c, k, hc, hk, -, hniab, -, -⟩ := Cond.instantiable_spec hC
  obtain ⟨mk, methM, hnamed, hmethM, -, -⟩ := Cond.instanceMethod_spec hinst
  have hfound : s.methodFound? y.cls y.name y.desc = some mk := State.methodFound?_of_named hnamed hy
  have hsel : selectMethod {} s.vm c mk = .method mk := selectMethod_private hmethM (Cond.privateMethod_at hpriv mk methM hnamed hmethM)
  have h3 := hno mk hnamed
  simp only [Cond.before, Cond.holds, Cond.value, hc, hfound, hnamed, hsel, h3]
  simp
theorem gv_abs (htab : ∀ w ∈ tables_1, w.before #[.ref b] s = true) {c : ClassId} (hc : s.vm.findClass "java/lang/AbstractStringBuilder" = some c) : (s.vm.classes[c]?).any (!·.isInterface) = true := by
  have h := htab _ gv_p4
  simp only [Cond.before, Cond.holds, Cond.value] at h
  split at h
  · rename_i c0 r0 m0 e1 e2 e3
    have e4 : m0.cls = c := Option.some.inj ((findClass_of_methodNamed e3).symm.trans hc)
    subst e4
    simp only [beq_iff_eq, Option.some.injEq] at h
    split at h
    · simp only [Bool.and_eq_true] at h
      exact h.2
    · simp at h
  · simp at h
theorem gv_ts (htab : ∀ w ∈ tables_1, w.before #[.ref b] s = true) (hts : ∀ w ∈ lw_tbl, w.before #[.ref b] s = true) : ∀ w ∈ TT, w.before #[.ref b] s = true := by
  intro w hw
  obtain ⟨hw, -⟩ := List.mem_filter.mp hw
  rcases List.mem_append.mp hw with hw | hw
  · obtain ⟨y, hy, rfl⟩ := List.mem_map.mp hw
    have h1 := gv_p1 y hy
    refine gv_selP (n := 4) ?_ (htab _ gv_p2) (htab _ h1.1) (htab _ h1.2) ?_
    · rw [gv_p3 y hy]; exact ⟨by decide, by decide⟩
    · exact fun mk hmk => gv_abs htab (by rw [← gv_p3 y hy]; exact findClass_of_methodNamed hmk)
  · exact hts w hw
theorem gv_stat (htab : ∀ w ∈ tables_1, w.before #[.ref b] s = true) (hG : ∀ w ∈ GVL, w.before #[.ref b] s = true) : ∃ ad : Nat → Nat, ad 1002 = b ∧ ∀ (G : va_G) (T : Nat → ClassId), ZSr (AS s) (G, T, ad) s s.heap := by
  have hA : ∀ a : Nat, a < s.heap.size → ¬ AS s a := fun a h => Nat.not_le.mpr h
  obtain ⟨t1, o1, o2⟩ := va_Tof (N := 18) (f := fun j => .int (opT j)) (A := AS s) (by decide) (hG _ gv_o1) (va_eqt (hG _ gv_o2)) (fun j hj => va_eqt (hG _ (gv_o3 j hj))) hA
  obtain ⟨t2, k1, k2⟩ := va_Tof (N := 6) (f := fun j => .long (kwT j)) (A := AS s) (by decide) (hG _ gv_k1) (va_eqt (hG _ gv_k2)) (fun j hj => va_eqtl (hG _ (gv_k3 j hj))) hA
  obtain ⟨adK, adV, s1, s2⟩ := vk_Sof (N := 9) (tm := sTm) (len := lsLen) (byt := lsByt) (A := AS s) (by decide) (fun i hi => hG _ (gv_s1 i hi)) (fun i hi => hG _ (gv_s2 i hi)) (fun i hi => hG _ (gv_s3 i hi)) (fun i hi => hG _ (gv_s4 i hi)) (fun i hi j hj => hG _ (gv_s5 i hi j hj)) (fun i j hi hj ne => (gv_s6 i hi j hj ne).imp (fun h => hG _ h) (fun h => hG _ h)) hA
  obtain ⟨l1, l2, l3, l4⟩ := gv_t3
  obtain ⟨i1, i2, i3⟩ := gv_t4
  obtain ⟨u1, u2⟩ := gv_u1
  refine ⟨fun k => if k = 1000 then t1 else if k = 1001 then t2 else if k = 1002 then b else if k < 3000 then adK (k - 2000) else adV (k - 3000), rfl, fun G T => ⟨⟨?_, ?_⟩, ⟨?_, ?_⟩, ?_, fun i hi => ?_, ?_, ?_⟩⟩
  · exact va_Zof (htab _ l1) (htab _ i1) o1 hA
  · exact va_Zof (htab _ l2) (htab _ i1) k1 hA
  · exact o2
  · exact k2
  · refine vk_S.cg s1 (fun i hi => ?_) (fun i hi => ?_)
    · show (if 2000 + i = 1000 then t1 else if 2000 + i = 1001 then t2 else if 2000 + i = 1002 then b else if 2000 + i < 3000 then adK (2000 + i - 2000) else adV (2000 + i - 3000)) = adK i
      rw [if_neg (by omega), if_neg (by omega), if_neg (by omega), if_pos (by omega), show 2000 + i - 2000 = i by omega]
    · show (if 3000 + i = 1000 then t1 else if 3000 + i = 1001 then t2 else if 3000 + i = 1002 then b else if 3000 + i < 3000 then adK (3000 + i - 2000) else adV (3000 + i - 3000)) = adV i
      rw [if_neg (by omega), if_neg (by omega), if_neg (by omega), if_neg (by omega), show 3000 + i - 3000 = i by omega]
  · show vk_R RL (lsIx i) (lsTx i) (if 2000 + i = 1000 then t1 else if 2000 + i = 1001 then t2 else if 2000 + i = 1002 then b else if 2000 + i < 3000 then adK (2000 + i - 2000) else adV (2000 + i - 3000)) s
    rw [if_neg (by omega), if_neg (by omega), if_neg (by omega), if_pos (by omega), show 2000 + i - 2000 = i by omega]
    exact vk_R.of (htab _ (gv_t1 i hi)) (s2 i hi)
  · exact va_Zof (htab _ l3) (htab _ i2) (va_eqi (hG _ u1)) hA
  · exact va_Zqof (htab _ l4) (htab _ i3) (hG _ u2) hA
theorem gv_nl (htab : ∀ w ∈ tables_1, w.before #[.ref b] s = true) : ∀ w ∈ NL, va_Nw w s := by
  intro w hw
  obtain ⟨h1, h2⟩ := List.mem_filter.mp hw
  have h4 := htab w h1
  cases w <;> first | exact va_Nw.of rfl h4 | cases h2
theorem gv_ii (htab : ∀ w ∈ tables_1, w.before #[.ref b] s = true) : va_II s := by
  obtain ⟨comp, c, k, h1, -, h3, h4, h5⟩ := arrayOverA_spec (args := #[.ref b]) (first := s) (o := none) (s := s) (idx := []) (htab _ gv_t5.2.2.2.1)
  exact ⟨c, k, comp, h3, h4, h1, h5⟩
theorem gv_ty (htab : ∀ w ∈ tables_1, w.before #[.ref b] s = true) : ∃ T : Nat → ClassId, ∀ (k : Nat) (q : ClassId × FieldType), [(T 0, FieldType.int), (T 1, .long), (T 2, .byte), (T 3, .array .int), (T 4, .object RX0)][k]? = some q → ArrOfT s q.1 q.2 ∧ va_RA s q.1 q.2 := by
  obtain ⟨w0, w1, w2, w3, w4⟩ := gv_t5
  obtain ⟨x0, y0, z0, e0, f0, g0⟩ := Cond.arrayClass_spec (args := #[.ref b]) (first := s) (o := none) (s := s) (idx := []) (htab _ w0)
  obtain ⟨x1, y1, z1, e1, f1, g1⟩ := Cond.arrayClass_spec (args := #[.ref b]) (first := s) (o := none) (s := s) (idx := []) (htab _ w1)
  obtain ⟨x2, y2, z2, e2, f2, g2⟩ := Cond.arrayClass_spec (args := #[.ref b]) (first := s) (o := none) (s := s) (idx := []) (htab _ w2)
  obtain ⟨z3, x3, y3, d3, -, f3, g3, e3⟩ := arrayOverA_spec (args := #[.ref b]) (first := s) (o := none) (s := s) (idx := []) (htab _ w3)
  obtain ⟨z4, x4, y4, d4, -, f4, g4, e4⟩ := Cond.arrayOver_spec (args := #[.ref b]) (first := s) (o := none) (s := s) (idx := []) (htab _ w4)
  refine ⟨fun k => match k with | 0 => x0 | 1 => x1 | 2 => x2 | 3 => x3 | _ => x4, fun k q hq => ?_⟩
  match k, hq with
  | 0, hq => cases hq; exact ⟨fun N z => ⟨(fun k h => by cases h), y0, f0, z0, g0⟩, e0⟩
  | 1, hq => cases hq; exact ⟨fun N z => ⟨(fun k h => by cases h), y1, f1, z1, g1⟩, e1⟩
  | 2, hq => cases hq; exact ⟨fun N z => ⟨(fun k h => by cases h), y2, f2, z2, g2⟩, e2⟩
  | 3, hq => cases hq; exact ⟨fun N z => ⟨(fun k h => by cases h), y3, f3, z3, g3⟩, e3⟩
  | 4, hq => cases hq; exact ⟨fun N z => ⟨(fun k h => by cases h), y4, f4, z4, g4⟩, y4, z4, f4, g4, d4, e4⟩
  | k + 5, hq => simp at hq
theorem gv_cl (ht : ∀ w ∈ TT, w.before #[.ref b] s = true) : ∃ G : va_G, ∀ (k : Nat) (q : vw_C), vwCl[k]? = some q → u_Kn s q.1 q.2.1 q.2.2 (G.1 k) (G.2 k) := by
  obtain ⟨c0, j0, h0⟩ := u_known (C := RX0) (T := TX0) (N := 6) (n := 6) ht zz_u0 (ht _ tw_1_102)
  obtain ⟨c1, j1, h1⟩ := u_known (C := RX1) (T := TX1) (N := 4) (n := 4) ht zz_u1 (ht _ tw_1_237)
  obtain ⟨c2, j2, h2⟩ := u_known (C := RX2) (T := TX2) (N := 2) (n := 2) ht zz_u2 (ht _ tw_2_18)
  obtain ⟨c3, j3, h3⟩ := u_known (C := RX3) (T := TX3) (N := 3) (n := 3) ht zz_u3 (ht _ tw_1_173)
  obtain ⟨c4, j4, h4⟩ := u_known (C := RX4) (T := TX4) (N := 3) (n := 3) ht zz_u4 (ht _ tw_1_80)
  obtain ⟨c5, j5, h5⟩ := u_known (C := RX5) (T := TX5) (N := 9) (n := 9) ht zz_u5 (ht _ tw_1_37)
  obtain ⟨c6, j6, h6⟩ := u_known (C := RX6) (T := TX6) (N := 7) (n := 7) ht zz_u6 (ht _ tw_1_74)
  obtain ⟨c7, j7, h7⟩ := u_known (C := RX7) (T := TX7) (N := 11) (n := 11) ht zz_u7 (ht _ tw_1_192)
  obtain ⟨c8, j8, h8⟩ := u_known (C := RX8) (T := TX8) (N := 1) (n := 1) ht zz_u8 (ht _ tw_2_31)
  obtain ⟨c9, j9, h9⟩ := u_known (C := RX9) (T := TX9) (N := 12) (n := 12) ht zz_u9 (ht _ tw_1_29)
  obtain ⟨c10, j10, h10⟩ := u_known (C := RJ0) (T := TJ0) (N := 4) (n := 4) ht zz_u10 (ht _ tw_4_98)
  obtain ⟨c11, j11, h11⟩ := u_known (C := RJ4) (T := TJ4) (N := 4) (n := 4) ht zz_u11 (ht _ tw_3_171)
  refine ⟨(fun k => match k with | 0 => c0 | 1 => c1 | 2 => c2 | 3 => c3 | 4 => c4 | 5 => c5 | 6 => c6 | 7 => c7 | 8 => c8 | 9 => c9 | 10 => c10 | _ => c11, fun k => match k with | 0 => j0 | 1 => j1 | 2 => j2 | 3 => j3 | 4 => j4 | 5 => j5 | 6 => j6 | 7 => j7 | 8 => j8 | 9 => j9 | 10 => j10 | _ => j11), fun k q hq => ?_⟩
  match k, hq with
  | 0, hq => cases hq; exact h0
  | 1, hq => cases hq; exact h1
  | 2, hq => cases hq; exact h2
  | 3, hq => cases hq; exact h3
  | 4, hq => cases hq; exact h4
  | 5, hq => cases hq; exact h5
  | 6, hq => cases hq; exact h6
  | 7, hq => cases hq; exact h7
  | 8, hq => cases hq; exact h8
  | 9, hq => cases hq; exact h9
  | 10, hq => cases hq; exact h10
  | 11, hq => cases hq; exact h11
  | k + 12, hq => simp at hq
end GV
