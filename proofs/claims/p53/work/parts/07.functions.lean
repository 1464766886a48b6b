def kwCh (i : Nat) : Nat → Int32 := fun k => (kwByt.getD i []).getD k 0 &&& 255
theorem cn_0 : CNm 0 RX0 := ⟨by decide, (RX0, TX0, 6), rfl, rfl⟩
theorem cn_1 : CNm 1 RX1 := ⟨by decide, (RX1, TX1, 4), rfl, rfl⟩
theorem cn_2 : CNm 2 RX2 := ⟨by decide, (RX2, TX2, 2), rfl, rfl⟩
theorem cn_3 : CNm 3 RX3 := ⟨by decide, (RX3, TX3, 3), rfl, rfl⟩
theorem cn_4 : CNm 4 RX4 := ⟨by decide, (RX4, TX4, 3), rfl, rfl⟩
theorem cn_5 : CNm 5 RX5 := ⟨by decide, (RX5, TX5, 9), rfl, rfl⟩
theorem cn_6 : CNm 6 RX6 := ⟨by decide, (RX6, TX6, 7), rfl, rfl⟩
theorem cn_7 : CNm 7 RX7 := ⟨by decide, (RX7, TX7, 11), rfl, rfl⟩
theorem cn_8 : CNm 8 RX8 := ⟨by decide, (RX8, TX8, 1), rfl, rfl⟩
theorem cn_9 : CNm 9 RX9 := ⟨by decide, (RX9, TX9, 12), rfl, rfl⟩

theorem lks_5_121 : LSt RX5 121 "KEYWORDS" "[J" := Or.inr ⟨_, tw_2_116⟩
theorem lks_9_326 : LSt RX9 326 "OPERAND_TYPES" "[I" := Or.inl tw_2_129

def b_X5_appendWord_1 (k0 : Nat) (v_word : Int32) (s1 : Int32 × Wd) : Option ((Int32 × Wd) ⊕ (Wd)) := if (0 : Int32) ≤ s1.1 then Option.bind (if (s1.2.1 (k0) 1) < (600 : Int32) then Option.bind (wrI zC s1.2 ((zrf zC (k0) 0)) ((s1.2.1 (k0) 1)) (jbyte ((jbyte ((jushr (v_word) (s1.1))))))) (fun w6 => Option.bind (some (wsI w6 (k0) 1 (((w6.1 (k0) 1) + (1 : Int32))))) (fun w7 => some w7)) else some s1.2) (fun s4 => some (.inl ((s1.1 + (-8 : Int32)), s4))) else some (.inr s1.2)
def f_X5_appendWord (w : Wd) (k0 : Nat) (v_word : Int32) : Option (Wd) := Option.bind (lp (b_X5_appendWord_1 k0 v_word) NF ((24 : Int32), w)) (fun r2 => some (r2))

def f_X9_append (w : Wd) (k0 : Nat) (v_a : Int32) (v_b : Int32) (v_c : Int32) (v_d : Int32) (v_e : Int32) : Option (Int32 × Wd) := if (600 : Int32) < ((w.1 ((zrf zC (k0) 0)) 1) + (20 : Int32)) then some (((-1 : Int32), w)) else Option.bind ((f_X5_appendWord w ((zrf zC (k0) 0)) (v_a))) (fun w2 => Option.bind ((f_X5_appendWord w2 ((zrf zC (k0) 0)) (v_b))) (fun w3 => Option.bind ((f_X5_appendWord w3 ((zrf zC (k0) 0)) (v_c))) (fun w4 => Option.bind ((f_X5_appendWord w4 ((zrf zC (k0) 0)) (v_d))) (fun w5 => Option.bind ((f_X5_appendWord w5 ((zrf zC (k0) 0)) (v_e))) (fun w6 => some (((w6.1 ((zrf zC (k0) 0)) 1), w6)))))))

def f_X0_clear (w : Wd) (k0 : Nat) : Option (Wd) := Option.bind (some (wsI w (k0) 4 ((0 : Int32)))) (fun w1 => Option.bind (some (wsI w1 (k0) 5 ((0 : Int32)))) (fun w2 => some (w2)))

def f_X6_clear (w : Wd) (k0 : Nat) : Option (Wd) := Option.bind (some (wsI w ((zrf zC (k0) 0)) 2 ((0 : Int32)))) (fun w1 => Option.bind (some (wsI w1 ((zrf zC (k0) 1)) 2 ((0 : Int32)))) (fun w2 => Option.bind (some (wsI w2 ((zrf zC (k0) 2)) 2 ((0 : Int32)))) (fun w3 => Option.bind (some (wsI w3 (k0) 5 ((0 : Int32)))) (fun w4 => Option.bind ((f_X0_clear w4 ((zrf zC (k0) 6)))) (fun w5 => some (w5))))))

def f_X5_isSpace (v_sign : Int32) : Bool := (decide ((v_sign = (32 : Int32)) ∨ (v_sign = (10 : Int32))))

def f_X5_isLetter (v_sign : Int32) : Bool := (decide (((97 : Int32) ≤ v_sign) ∧ (v_sign ≤ (122 : Int32))))

def b_X5_readWord_1 (k0 : Nat) (s2 : Wd) : Option ((Wd) ⊕ (Wd)) := Option.bind (if (s2.1 (k0) 3) < (s2.1 (k0) 2) then Option.bind (rdI zC s2 ((zrf zC (k0) 0)) ((s2.1 (k0) 3))) (fun x7 => if (f_X5_isLetter (x7)) = true then some true else some false) else some false) (fun b4 => if b4 = true then Option.bind (rdI zC s2 ((zrf zC (k0) 0)) ((s2.1 (k0) 3))) (fun x8 => Option.bind (some (wsL s2 (k0) 6 (((jlshl ((s2.2.1 (k0) 6)) ((8 : Int32))) ||| (x8).toInt64)))) (fun w9 => Option.bind (some (wsI w9 (k0) 3 (((w9.1 (k0) 3) + (1 : Int32))))) (fun w10 => some (.inl w10)))) else some (.inr s2))
def f_X5_readWord (w : Wd) (k0 : Nat) : Option (Wd) := Option.bind (some (wsL w (k0) 6 ((0 : Int64)))) (fun w1 => Option.bind (lp (b_X5_readWord_1 k0) NF w1) (fun r3 => Option.bind (some (wsI r3 (k0) 4 ((if ((r3.1 (k0) 3) - (r3.1 (k0) 5)) ≤ (6 : Int32) then (1 : Int32) else (3 : Int32))))) (fun w13 => some (w13))))

def b_X5_nextToken_1 (k0 : Nat) (s1 : Wd) : Option ((Wd) ⊕ (Wd)) := Option.bind (if (s1.1 (k0) 3) < (s1.1 (k0) 2) then Option.bind (rdI zC s1 ((zrf zC (k0) 0)) ((s1.1 (k0) 3))) (fun x6 => if (f_X5_isSpace (x6)) = true then some true else some false) else some false) (fun b3 => if b3 = true then Option.bind (some (wsI s1 (k0) 3 (((s1.1 (k0) 3) + (1 : Int32))))) (fun w7 => some (.inl w7)) else some (.inr s1))
def f_X5_nextToken (w : Wd) (k0 : Nat) : Option (Wd) := Option.bind (lp (b_X5_nextToken_1 k0) NF w) (fun r2 => Option.bind (some (wsI r2 (k0) 5 ((r2.1 (k0) 3)))) (fun w8 => Option.bind (if (w8.1 (k0) 2) ≤ (w8.1 (k0) 3) then Option.bind (some (wsI w8 (k0) 4 ((0 : Int32)))) (fun w20 => some w20) else Option.bind (Option.bind (rdI zC w8 ((zrf zC (k0) 0)) ((w8.1 (k0) 3))) (fun x12 => if (f_X5_isLetter (x12)) = true then Option.bind ((f_X5_readWord w8 (k0))) (fun w19 => some w19) else Option.bind (rdI zC w8 ((zrf zC (k0) 0)) ((w8.1 (k0) 3))) (fun x15 => Option.bind (some (wsI w8 (k0) 4 ((if x15 = (59 : Int32) then (2 : Int32) else (3 : Int32))))) (fun w17 => Option.bind (some (wsI w17 (k0) 3 (((w17.1 (k0) 3) + (1 : Int32))))) (fun w18 => some w18))))) (fun s11 => some s11)) (fun s9 => some (s9))))

def b_X5_keyword_1 (w : Wd) (k0 : Nat) (s1 : Int32) : Option ((Int32) ⊕ ((Unit) ⊕ (Int32))) := if s1 < (6 : Int32) then Option.bind (if (w.1 (k0) 4) = (1 : Int32) then Option.bind (rdS kwT 6 (s1)) (fun x7 => if x7 = (w.2.1 (k0) 6) then some true else some false) else some false) (fun b4 => if b4 = true then some (.inr (.inr s1)) else some (.inl (s1 + (1 : Int32)))) else some (.inr (.inl ()))
def f_X5_keyword (w : Wd) (k0 : Nat) : Option (Int32) := Option.bind (lp (b_X5_keyword_1 w k0) NF (0 : Int32)) (fun r2 => match r2 with | .inl r2x => some ((-1 : Int32)) | .inr q => some q)

def f_X5_fail (w : Wd) (k0 : Nat) (v_kind : Int32) : Option (Wd) := Option.bind (some (wsI w (k0) 7 ((((8 : Int32) * (w.1 (k0) 5)) + v_kind)))) (fun w1 => some (w1))

def f_X0_isFull (w : Wd) (k0 : Nat) : Bool := (decide ((30 : Int32) ≤ (w.1 (k0) 4)))

def b_X4_numberOf_1 (w : Wd) (k0 : Nat) (v_word : Int64) (s1 : Int32) : Option ((Int32) ⊕ ((Unit) ⊕ (Int32 × Wd))) := if s1 < (w.1 (k0) 2) then Option.bind (rdL zC w ((zrf zC (k0) 0)) (s1)) (fun x4 => if x4 = v_word then some (.inr (.inr (s1, w))) else some (.inl (s1 + (1 : Int32)))) else some (.inr (.inl ()))
def f_X4_numberOf (w : Wd) (k0 : Nat) (v_word : Int64) : Option (Int32 × Wd) := Option.bind (lp (b_X4_numberOf_1 w k0 v_word) NF (0 : Int32)) (fun r2 => match r2 with | .inl r2x => if (w.1 (k0) 1) ≤ (w.1 (k0) 2) then some (((-1 : Int32), w)) else Option.bind (wrL zC w ((zrf zC (k0) 0)) ((w.1 (k0) 2)) (v_word)) (fun w7 => Option.bind (some (wsI w7 (k0) 2 (((w7.1 (k0) 2) + (1 : Int32))))) (fun w8 => some ((((w8.1 (k0) 2) - (1 : Int32)), w8)))) | .inr q => some q)

def f_X5_namesOf (w : Wd) (v_into : Nat) (v_type : Int32) : Nat := if v_type = (1 : Int32) then (zrf zC (v_into) 1) else if v_type = (2 : Int32) then (zrf zC (v_into) 2) else (zrf zC (v_into) 0)

def f_X9_contains (v_set : Int32) (v_number : Int32) : Bool := (decide (¬ (((jushr (v_set) (v_number)) &&& (1 : Int32)) = (0 : Int32))))

def f_X6_isFunction (w : Wd) (k0 : Nat) (v_object : Int32) : Bool := (f_X9_contains ((w.1 (k0) 5)) (v_object))

def f_X5_readOperand (w : Wd) (k0 : Nat) (v_into : Nat) (v_statement : Int32) (v_type : Int32) : Option (Int32 × Wd) := if v_type = (3 : Int32) then some (((-2 : Int32), w)) else Option.bind (if ¬ ((w.1 (k0) 4) = (1 : Int32)) then some true else Option.bind ((f_X5_keyword w (k0))) (fun x5 => if ¬ (x5 = (-1 : Int32)) then some true else some false)) (fun b2 => if b2 = true then Option.bind ((f_X5_fail w (k0) ((1 : Int32)))) (fun w6 => some (((-1 : Int32), w6))) else Option.bind ((f_X4_numberOf w ((f_X5_namesOf w (v_into) (v_type))) ((w.2.1 (k0) 6)))) (fun x7 => Option.bind (if x7.1 = (-1 : Int32) then Option.bind ((f_X5_fail x7.2 (k0) ((3 : Int32)))) (fun w17 => some w17) else Option.bind (if ((v_statement = (5 : Int32)) ∧ (v_type = (1 : Int32))) ∧ ((f_X6_isFunction x7.2 (v_into) (x7.1)) = true) then Option.bind ((f_X5_fail x7.2 (k0) ((2 : Int32)))) (fun w15 => some w15) else Option.bind ((f_X5_nextToken x7.2 (k0))) (fun w16 => some w16)) (fun s10 => some s10)) (fun s8 => some ((x7.1, s8)))))

def f_X9_typeAt (w : Wd) (v_statement : Int32) (v_position : Int32) : Option (Int32) := Option.bind (rdS opT 18 (((v_statement * (3 : Int32)) + v_position))) (fun x1 => some (x1))

def f_X6_declareFunction (w : Wd) (k0 : Nat) (v_object : Int32) (v_parameter : Int32) (v_result : Int32) : Option (Wd) := Option.bind (some (wsI w (k0) 5 (((w.1 (k0) 5) ||| (jshl ((1 : Int32)) (v_object)))))) (fun w1 => Option.bind (wrI zC w1 ((zrf zC (k0) 3)) (v_object) (v_parameter)) (fun w2 => Option.bind (wrI zC w2 ((zrf zC (k0) 4)) (v_object) (v_result)) (fun w3 => some (w3))))

def f_X0_add (w : Wd) (k0 : Nat) (v_kind : Int32) (v_first : Int32) (v_second : Int32) (v_third : Int32) : Option (Wd) := if (f_X0_isFull w (k0)) = true then some (w) else Option.bind (wrI zC w ((zrf zC (k0) 0)) ((w.1 (k0) 4)) (v_kind)) (fun w2 => Option.bind (wrI zC w2 ((zrf zC (k0) 1)) ((w2.1 (k0) 4)) (v_first)) (fun w3 => Option.bind (wrI zC w3 ((zrf zC (k0) 2)) ((w3.1 (k0) 4)) (v_second)) (fun w4 => Option.bind (wrI zC w4 ((zrf zC (k0) 3)) ((w4.1 (k0) 4)) (v_third)) (fun w5 => Option.bind (some (wsI w5 (k0) 5 (((w5.1 (k0) 5) ||| (jshl ((1 : Int32)) ((w5.1 (k0) 4))))))) (fun w6 => Option.bind (some (wsI w6 (k0) 4 (((w6.1 (k0) 4) + (1 : Int32))))) (fun w7 => some (w7)))))))

def f_X5_accept (w : Wd) (k0 : Nat) (v_into : Nat) (v_statement : Int32) : Option (Wd) := Option.bind (if v_statement = (5 : Int32) then Option.bind (rdI zC w ((zrf zC (k0) 8)) ((0 : Int32))) (fun x7 => Option.bind (rdI zC w ((zrf zC (k0) 8)) ((1 : Int32))) (fun x8 => Option.bind (rdI zC w ((zrf zC (k0) 8)) ((2 : Int32))) (fun x9 => Option.bind ((f_X6_declareFunction w (v_into) (x7) (x8) (x9))) (fun w10 => some w10)))) else Option.bind (rdI zC w ((zrf zC (k0) 8)) ((0 : Int32))) (fun x3 => Option.bind (rdI zC w ((zrf zC (k0) 8)) ((1 : Int32))) (fun x4 => Option.bind (rdI zC w ((zrf zC (k0) 8)) ((2 : Int32))) (fun x5 => Option.bind ((f_X0_add w ((zrf zC (v_into) 6)) (v_statement) (x3) (x4) (x5))) (fun w6 => some w6))))) (fun s1 => some (s1))

def b_X5_readStatement_1 (k0 : Nat) (x1 : Int32) (v_into : Nat) (s8 : Int32 × Wd) : Option ((Int32 × Wd) ⊕ (Wd)) := if (s8.1 < (3 : Int32)) ∧ ((s8.2.1 (k0) 7) = (0 : Int32)) then Option.bind ((f_X9_typeAt s8.2 (x1) (s8.1))) (fun x13 => Option.bind ((f_X5_readOperand s8.2 (k0) (v_into) (x1) (x13))) (fun x14 => Option.bind (wrI zC x14.2 ((zrf zC (k0) 8)) (s8.1) (x14.1)) (fun w15 => some (.inl ((s8.1 + (1 : Int32)), w15))))) else some (.inr s8.2)
def f_X5_readStatement (w : Wd) (k0 : Nat) (v_into : Nat) : Option (Wd) := Option.bind ((f_X5_keyword w (k0))) (fun x1 => if x1 = (-1 : Int32) then Option.bind ((f_X5_fail w (k0) ((1 : Int32)))) (fun w25 => some (w25)) else if (¬ (x1 = (5 : Int32))) ∧ ((f_X0_isFull w ((zrf zC (v_into) 6))) = true) then Option.bind ((f_X5_fail w (k0) ((3 : Int32)))) (fun w6 => some (w6)) else Option.bind ((f_X5_nextToken w (k0))) (fun w7 => Option.bind (lp (b_X5_readStatement_1 k0 x1 v_into) NF ((0 : Int32), w7)) (fun r9 => Option.bind (if ((r9.1 (k0) 7) = (0 : Int32)) ∧ (¬ ((r9.1 (k0) 4) = (2 : Int32))) then Option.bind ((f_X5_fail r9 (k0) ((1 : Int32)))) (fun w20 => some w20) else some r9) (fun s16 => Option.bind (if (s16.1 (k0) 7) = (0 : Int32) then Option.bind ((f_X5_accept s16 (k0) (v_into) (x1))) (fun w23 => Option.bind ((f_X5_nextToken w23 (k0))) (fun w24 => some w24)) else some s16) (fun s21 => some (s21))))))

def b_X5_read_1 (k0 : Nat) (v_into : Nat) (s7 : Int32 × Wd) : Option ((Int32 × Wd) ⊕ (Wd)) := if ((s7.1 < (600 : Int32)) ∧ (¬ ((s7.2.1 (k0) 4) = (0 : Int32)))) ∧ ((s7.2.1 (k0) 7) = (0 : Int32)) then Option.bind ((f_X5_readStatement s7.2 (k0) (v_into))) (fun w13 => some (.inl ((s7.1 + (1 : Int32)), w13))) else some (.inr s7.2)
def f_X5_read (w : Wd) (k0 : Nat) (v_count : Int32) (v_into : Nat) : Option (Int32 × Wd) := Option.bind (some (wsI w (k0) 2 ((if (w.1 (k0) 1) < v_count then (w.1 (k0) 1) else v_count)))) (fun w1 => Option.bind (some (wsI w1 (k0) 1 ((0 : Int32)))) (fun w2 => Option.bind (some (wsI w2 (k0) 3 ((0 : Int32)))) (fun w3 => Option.bind (some (wsI w3 (k0) 7 ((0 : Int32)))) (fun w4 => Option.bind ((f_X6_clear w4 (v_into))) (fun w5 => Option.bind ((f_X5_nextToken w5 (k0))) (fun w6 => Option.bind (lp (b_X5_read_1 k0 v_into) NF ((0 : Int32), w6)) (fun r8 => some (((r8.1 (k0) 7), r8)))))))))

def f_X3_clear (w : Wd) (k0 : Nat) : Option (Wd) := Option.bind (some (wsI w (k0) 1 ((0 : Int32)))) (fun w1 => Option.bind (some (wsI w1 (k0) 2 ((0 : Int32)))) (fun w2 => some (w2)))

def b_J7_fill_1 (v_a : Nat) (v_val : Int32) (s1 : Int32 × Wd) : Option ((Int32 × Wd) ⊕ (Wd)) := if s1.1 < (nI (zln zC (v_a))) then Option.bind (wrI zC s1.2 (v_a) (s1.1) (v_val)) (fun w4 => some (.inl ((s1.1 + (1 : Int32)), w4))) else some (.inr s1.2)
def f_J7_fill (w : Wd) (v_a : Nat) (v_val : Int32) : Option (Wd) := Option.bind (lp (b_J7_fill_1 v_a v_val) NF ((0 : Int32), w)) (fun r2 => some (r2))

def f_X0_isEnabled (w : Wd) (k0 : Nat) (v_constraint : Int32) : Bool := (f_X9_contains ((w.1 (k0) 5)) (v_constraint))

def f_X9_factOf (v_slot : Int32) (v_object : Int32) : Int32 := ((v_slot * (10 : Int32)) + v_object)

def f_X7_addFact (w : Wd) (k0 : Nat) (v_slot : Int32) (v_object : Int32) (v_constraint : Int32) (v_round : Int32) : Option (Wd) := Option.bind (rdI zC w ((zrf zC (k0) 0)) (v_slot)) (fun x1 => Option.bind (wrI zC w ((zrf zC (k0) 0)) (v_slot) ((x1 ||| (jshl ((1 : Int32)) (v_object))))) (fun w2 => Option.bind (some (wsI w2 (k0) 2 (((w2.1 (k0) 2) + (1 : Int32))))) (fun w3 => Option.bind (some (wsI w3 (k0) 4 (((w3.1 (k0) 4) ||| (jshl ((1 : Int32)) (v_constraint)))))) (fun w4 => Option.bind (wrI zC w4 ((zrf zC (k0) 5)) ((f_X9_factOf (v_slot) (v_object))) (v_round)) (fun w5 => Option.bind (wrI zC w5 ((zrf zC (k0) 6)) ((f_X9_factOf (v_slot) (v_object))) (v_constraint)) (fun w6 => Option.bind (wrI zC w6 ((zrf zC (k0) 7)) ((f_X9_factOf (v_slot) (v_object))) ((-1 : Int32))) (fun w7 => Option.bind (wrI zC w7 ((zrf zC (k0) 8)) ((f_X9_factOf (v_slot) (v_object))) ((-1 : Int32))) (fun w8 => Option.bind (wrI zC w8 ((zrf zC (k0) 9)) ((f_X9_factOf (v_slot) (v_object))) ((1 : Int32))) (fun w9 => Option.bind (wrI zC w9 ((zrf zC (k0) 10)) ((f_X9_factOf (v_slot) (v_object))) ((jshl ((1 : Int32)) (v_constraint)))) (fun w10 => some (w10)))))))))))

def f_X7_applyNew (w : Wd) (k0 : Nat) (v_list : Nat) (v_constraint : Int32) (v_round : Int32) : Option (Wd) := Option.bind (rdI zC w ((zrf zC (v_list) 1)) (v_constraint)) (fun x1 => Option.bind (rdI zC w ((zrf zC (v_list) 2)) (v_constraint)) (fun x2 => Option.bind (Option.bind (rdI zC w ((zrf zC (k0) 0)) (x1)) (fun x4 => if ¬ ((f_X9_contains (x4) (x2)) = true) then Option.bind ((f_X7_addFact w (k0) (x1) (x2) (v_constraint) (v_round))) (fun w6 => some w6) else some w)) (fun s3 => some (s3))))

def f_X6_viaSlot (w : Wd) (k0 : Nat) (v_constraint : Int32) : Option (Int32) := Option.bind (rdI zC w ((zrf zC ((zrf zC (k0) 6)) 0)) (v_constraint)) (fun x1 => if x1 = (2 : Int32) ∨ x1 = (4 : Int32) then Option.bind (rdI zC w ((zrf zC ((zrf zC (k0) 6)) 2)) (v_constraint)) (fun x3 => some (x3)) else if x1 = (3 : Int32) then Option.bind (rdI zC w ((zrf zC ((zrf zC (k0) 6)) 1)) (v_constraint)) (fun x5 => some (x5)) else some ((-1 : Int32)))

def f_X6_viasIn (w : Wd) (k0 : Nat) (v_sets : Nat) (v_constraint : Int32) : Option (Int32) := Option.bind (rdI zC w ((zrf zC ((zrf zC (k0) 6)) 0)) (v_constraint)) (fun x1 => Option.bind ((f_X6_viaSlot w (k0) (v_constraint))) (fun x2 => if x2 = (-1 : Int32) then some ((if x1 = (1 : Int32) then (1 : Int32) else (0 : Int32))) else Option.bind (if x1 = (4 : Int32) then Option.bind (rdI zC w (v_sets) (x2)) (fun x8 => some (x8 &&& (w.1 (k0) 5))) else Option.bind (rdI zC w (v_sets) (x2)) (fun x7 => some x7)) (fun x5 => some (x5))))

def f_X6_flowCount (w : Wd) (k0 : Nat) (v_constraint : Int32) : Option (Int32) := Option.bind (rdI zC w ((zrf zC ((zrf zC (k0) 6)) 0)) (v_constraint)) (fun x2 => some ((if x2 = (4 : Int32) then (2 : Int32) else (1 : Int32))))

def f_X9_fieldSlot (v_object : Int32) (v_field : Int32) : Int32 := (((16 : Int32) + (v_object * (4 : Int32))) + v_field)

def f_X6_flowSource (w : Wd) (k0 : Nat) (v_constraint : Int32) (v_via : Int32) (v_flow : Int32) : Option (Int32) := Option.bind (rdI zC w ((zrf zC ((zrf zC (k0) 6)) 0)) (v_constraint)) (fun x1 => if x1 = (2 : Int32) then Option.bind (rdI zC w ((zrf zC ((zrf zC (k0) 6)) 3)) (v_constraint)) (fun x3 => some ((f_X9_fieldSlot (v_via) (x3)))) else if x1 = (3 : Int32) then Option.bind (rdI zC w ((zrf zC ((zrf zC (k0) 6)) 3)) (v_constraint)) (fun x5 => some (x5)) else if x1 = (4 : Int32) then Option.bind (if v_flow = (0 : Int32) then Option.bind (rdI zC w ((zrf zC ((zrf zC (k0) 6)) 3)) (v_constraint)) (fun x11 => some x11) else Option.bind (rdI zC w ((zrf zC (k0) 4)) (v_via)) (fun x10 => some x10)) (fun x8 => some (x8)) else Option.bind (rdI zC w ((zrf zC ((zrf zC (k0) 6)) 2)) (v_constraint)) (fun x12 => some (x12)))

def f_X6_flowTarget (w : Wd) (k0 : Nat) (v_constraint : Int32) (v_via : Int32) (v_flow : Int32) : Option (Int32) := Option.bind (rdI zC w ((zrf zC ((zrf zC (k0) 6)) 0)) (v_constraint)) (fun x1 => if x1 = (3 : Int32) then Option.bind (rdI zC w ((zrf zC ((zrf zC (k0) 6)) 2)) (v_constraint)) (fun x3 => some ((f_X9_fieldSlot (v_via) (x3)))) else if x1 = (4 : Int32) then Option.bind (if v_flow = (0 : Int32) then Option.bind (rdI zC w ((zrf zC (k0) 3)) (v_via)) (fun x9 => some x9) else Option.bind (rdI zC w ((zrf zC ((zrf zC (k0) 6)) 1)) (v_constraint)) (fun x8 => some x8)) (fun x6 => some (x6)) else Option.bind (rdI zC w ((zrf zC ((zrf zC (k0) 6)) 1)) (v_constraint)) (fun x10 => some (x10)))

def f_X7_derive (w : Wd) (k0 : Nat) (v_fact : Int32) (v_source : Int32) (v_sourceFact : Int32) : Option (Wd) := Option.bind (wrI zC w ((zrf zC (k0) 7)) (v_fact) (v_source)) (fun w1 => Option.bind (rdI zC w1 ((zrf zC (k0) 9)) (v_fact)) (fun x2 => Option.bind (rdI zC w1 ((zrf zC (k0) 9)) (v_sourceFact)) (fun x3 => Option.bind (wrI zC w1 ((zrf zC (k0) 9)) (v_fact) ((x2 + x3))) (fun w4 => Option.bind (rdI zC w4 ((zrf zC (k0) 10)) (v_fact)) (fun x5 => Option.bind (rdI zC w4 ((zrf zC (k0) 10)) (v_sourceFact)) (fun x6 => Option.bind (wrI zC w4 ((zrf zC (k0) 10)) (v_fact) ((x5 ||| x6))) (fun w7 => some (w7))))))))

def f_X7_supply (w : Wd) (k0 : Nat) (v_fact : Int32) (v_via : Int32) (v_viaFact : Int32) : Option (Wd) := Option.bind (wrI zC w ((zrf zC (k0) 8)) (v_fact) (v_via)) (fun w1 => Option.bind (rdI zC w1 ((zrf zC (k0) 10)) (v_fact)) (fun x2 => Option.bind (rdI zC w1 ((zrf zC (k0) 10)) (v_viaFact)) (fun x3 => Option.bind (wrI zC w1 ((zrf zC (k0) 10)) (v_fact) ((x2 ||| x3))) (fun w4 => some (w4)))))

def b_X7_applyFlow_1 (x3 : Int32) (x4 : Int32) (k0 : Nat) (x2 : Int32) (v_constraint : Int32) (v_round : Int32) (x1 : Int32) (x6 : Int32) (v_via : Int32) (s7 : Int32 × Wd) : Option ((Int32 × Wd) ⊕ (Wd)) := if s7.1 < (10 : Int32) then Option.bind (if (f_X9_contains ((x3 &&& (x4 ^^^ (-1 : Int32)))) (s7.1)) = true then Option.bind ((f_X7_addFact s7.2 (k0) (x2) (s7.1) (v_constraint) (v_round))) (fun w12 => Option.bind ((f_X7_derive w12 (k0) ((f_X9_factOf (x2) (s7.1))) (x1) ((f_X9_factOf (x1) (s7.1))))) (fun w13 => Option.bind (if ¬ (x6 = (-1 : Int32)) then Option.bind ((f_X7_supply w13 (k0) ((f_X9_factOf (x2) (s7.1))) (v_via) ((f_X9_factOf (x6) (v_via))))) (fun w16 => some w16) else some w13) (fun s14 => some s14))) else some s7.2) (fun s10 => some (.inl ((s7.1 + (1 : Int32)), s10))) else some (.inr s7.2)
def f_X7_applyFlow (w : Wd) (k0 : Nat) (v_program : Nat) (v_constraint : Int32) (v_via : Int32) (v_flow : Int32) (v_round : Int32) : Option (Wd) := Option.bind ((f_X6_flowSource w (v_program) (v_constraint) (v_via) (v_flow))) (fun x1 => Option.bind ((f_X6_flowTarget w (v_program) (v_constraint) (v_via) (v_flow))) (fun x2 => Option.bind (rdI zC w ((zrf zC (k0) 1)) (x1)) (fun x3 => Option.bind (rdI zC w ((zrf zC (k0) 0)) (x2)) (fun x4 => if (x3 &&& (x4 ^^^ (-1 : Int32))) = (0 : Int32) then some (w) else Option.bind ((f_X6_viaSlot w (v_program) (v_constraint))) (fun x6 => Option.bind (lp (b_X7_applyFlow_1 x3 x4 k0 x2 v_constraint v_round x1 x6 v_via) NF ((0 : Int32), w)) (fun r8 => some (r8)))))))

def b_X7_apply_2 (v_program : Nat) (v_constraint : Int32) (k0 : Nat) (s4 : Int32 × Wd) (v_round : Int32) (s9 : Int32 × Wd) : Option ((Int32 × Wd) ⊕ (Wd)) := Option.bind ((f_X6_flowCount s9.2 (v_program) (v_constraint))) (fun x11 => if s9.1 < x11 then Option.bind ((f_X7_applyFlow s9.2 (k0) (v_program) (v_constraint) (s4.1) (s9.1) (v_round))) (fun w13 => some (.inl ((s9.1 + (1 : Int32)), w13))) else some (.inr s9.2))
def b_X7_apply_1 (x3 : Int32) (v_program : Nat) (v_constraint : Int32) (k0 : Nat) (v_round : Int32) (s4 : Int32 × Wd) : Option ((Int32 × Wd) ⊕ (Wd)) := if s4.1 < (10 : Int32) then Option.bind (if (f_X9_contains (x3) (s4.1)) = true then Option.bind (lp (b_X7_apply_2 v_program v_constraint k0 s4 v_round) NF ((0 : Int32), s4.2)) (fun r10 => some r10) else some s4.2) (fun s7 => some (.inl ((s4.1 + (1 : Int32)), s7))) else some (.inr s4.2)
def f_X7_apply (w : Wd) (k0 : Nat) (v_program : Nat) (v_constraint : Int32) (v_round : Int32) : Option (Wd) := Option.bind (rdI zC w ((zrf zC ((zrf zC (v_program) 6)) 0)) (v_constraint)) (fun x1 => if x1 = (0 : Int32) then Option.bind ((f_X7_applyNew w (k0) ((zrf zC (v_program) 6)) (v_constraint) (v_round))) (fun w14 => some (w14)) else Option.bind ((f_X6_viasIn w (v_program) ((zrf zC (k0) 1)) (v_constraint))) (fun x3 => Option.bind (lp (b_X7_apply_1 x3 v_program v_constraint k0 v_round) NF ((0 : Int32), w)) (fun r5 => some (r5))))

def b_X7_solve_2 (v_program : Nat) (k0 : Nat) (s5 : Bool × Int32 × Wd) (s11 : Int32 × Wd) : Option ((Int32 × Wd) ⊕ (Wd)) := if s11.1 < (s11.2.1 ((zrf zC (v_program) 6)) 4) then Option.bind (if (f_X0_isEnabled s11.2 ((zrf zC (v_program) 6)) (s11.1)) = true then Option.bind ((f_X7_apply s11.2 (k0) (v_program) (s11.1) (s5.2.1))) (fun w16 => some w16) else some s11.2) (fun s14 => some (.inl ((s11.1 + (1 : Int32)), s14))) else some (.inr s11.2)
def b_X7_solve_1 (k0 : Nat) (v_program : Nat) (s5 : Bool × Int32 × Wd) : Option ((Bool × Int32 × Wd) ⊕ (Bool × Wd)) := if (s5.1 = true) ∧ (s5.2.1 ≤ (561 : Int32)) then Option.bind (cpI zC s5.2.2 ((zrf zC (k0) 0)) ((zrf zC (k0) 1)) ((56 : Int32))) (fun w10 => Option.bind (lp (b_X7_solve_2 v_program k0 s5) NF ((0 : Int32), w10)) (fun r12 => Option.bind (some (wsI r12 (k0) 3 ((if (decide ((s5.2.2.1 (k0) 2) < (r12.1 (k0) 2))) = true then s5.2.1 else (r12.1 (k0) 3))))) (fun w21 => some (.inl ((decide ((s5.2.2.1 (k0) 2) < (r12.1 (k0) 2))), (s5.2.1 + (1 : Int32)), w21))))) else some (.inr (s5.1, s5.2.2))
def f_X7_solve (w : Wd) (k0 : Nat) (v_program : Nat) : Option (Wd) := Option.bind ((f_J7_fill w ((zrf zC (k0) 0)) ((0 : Int32)))) (fun w1 => Option.bind (some (wsI w1 (k0) 2 ((0 : Int32)))) (fun w2 => Option.bind (some (wsI w2 (k0) 3 ((0 : Int32)))) (fun w3 => Option.bind (some (wsI w3 (k0) 4 ((0 : Int32)))) (fun w4 => Option.bind (lp (b_X7_solve_1 k0 v_program) NF (true, (1 : Int32), w4)) (fun r6 => some (r6.2))))))

def f_X9_settle (w : Wd) (k0 : Nat) : Option (Wd) := Option.bind (rdD zC w (k0) 1 6) (fun x1 => Option.bind ((f_X7_solve w ((zrf zC (k0) 6)) (x1))) (fun w2 => Option.bind (some (wsI w2 (k0) 9 (bI (true)))) (fun w3 => Option.bind (some (wsI w3 (k0) 10 (bI (true)))) (fun w4 => some (w4)))))

def f_X9_parse (w : Wd) (k0 : Nat) (v_length : Int32) : Option (Int32 × Wd) := if (v_length < (0 : Int32)) ∨ ((w.1 ((zrf zC (k0) 0)) 1) < v_length) then some (((-1 : Int32), w)) else Option.bind (rdD zC w (k0) 2 6) (fun x4 => Option.bind ((f_X5_read w ((zrf zC (k0) 0)) (v_length) (x4))) (fun x5 => if ¬ (x5.1 = (0 : Int32)) then some ((((-2 : Int32) - x5.1), x5.2)) else Option.bind (rdD zC x5.2 (k0) 1 6) (fun x7 => Option.bind (rdD zC x5.2 (k0) 2 6) (fun x8 => Option.bind (some (wsR x5.2 (k0) 1 (x8))) (fun w9 => Option.bind (some (wsR w9 (k0) 2 (x7))) (fun w10 => Option.bind ((f_X3_clear w10 ((zrf zC (k0) 3)))) (fun w11 => Option.bind (some (wsI w11 (k0) 5 ((0 : Int32)))) (fun w12 => Option.bind ((f_X9_settle w12 (k0))) (fun w13 => Option.bind (rdD zC w13 (k0) 1 6) (fun x14 => some (((w13.1 ((zrf zC (x14) 6)) 4), w13))))))))))))

def f_X9_bufferLength (w : Wd) (k0 : Nat) : Int32 := (w.1 ((zrf zC (k0) 0)) 1)

def f_X9_variableCount (w : Wd) (k0 : Nat) : Option (Int32) := Option.bind (rdD zC w (k0) 1 6) (fun x1 => some ((w.1 ((zrf zC (x1) 0)) 2)))

def f_X9_objectCount (w : Wd) (k0 : Nat) : Option (Int32) := Option.bind (rdD zC w (k0) 1 6) (fun x1 => some ((w.1 ((zrf zC (x1) 1)) 2)))

def f_X9_fieldCount (w : Wd) (k0 : Nat) : Option (Int32) := Option.bind (rdD zC w (k0) 1 6) (fun x1 => some ((w.1 ((zrf zC (x1) 2)) 2)))

def f_X9_constraintCount (w : Wd) (k0 : Nat) : Option (Int32) := Option.bind (rdD zC w (k0) 1 6) (fun x1 => some ((w.1 ((zrf zC (x1) 6)) 4)))

def f_X9_enabledConstraints (w : Wd) (k0 : Nat) : Option (Int32) := Option.bind (rdD zC w (k0) 1 6) (fun x1 => some ((w.1 ((zrf zC (x1) 6)) 5)))

def f_X9_functions (w : Wd) (k0 : Nat) : Option (Int32) := Option.bind (rdD zC w (k0) 1 6) (fun x1 => some ((w.1 (x1) 5)))

def f_X9_isObject (w : Wd) (k0 : Nat) (v_object : Int32) : Option (Bool) := Option.bind (if (0 : Int32) ≤ v_object then Option.bind (rdD zC w (k0) 1 6) (fun x5 => if v_object < (w.1 ((zrf zC (x5) 1)) 2) then some true else some false) else some false) (fun b2 => some (b2))

def f_X9_parameterOf (w : Wd) (k0 : Nat) (v_object : Int32) : Option (Int32) := Option.bind ((f_X9_isObject w (k0) (v_object))) (fun x1 => if ¬ (x1 = true) then some ((-1 : Int32)) else Option.bind (Option.bind (rdD zC w (k0) 1 6) (fun x5 => if (f_X6_isFunction w (x5) (v_object)) = true then Option.bind (rdD zC w (k0) 1 6) (fun x7 => Option.bind (rdI zC w ((zrf zC (x7) 3)) (v_object)) (fun x8 => some x8)) else some (-2 : Int32))) (fun x4 => some (x4)))

def f_X9_resultOf (w : Wd) (k0 : Nat) (v_object : Int32) : Option (Int32) := Option.bind ((f_X9_isObject w (k0) (v_object))) (fun x1 => if ¬ (x1 = true) then some ((-1 : Int32)) else Option.bind (Option.bind (rdD zC w (k0) 1 6) (fun x5 => if (f_X6_isFunction w (x5) (v_object)) = true then Option.bind (rdD zC w (k0) 1 6) (fun x7 => Option.bind (rdI zC w ((zrf zC (x7) 4)) (v_object)) (fun x8 => some x8)) else some (-2 : Int32))) (fun x4 => some (x4)))

def f_X9_factCount (w : Wd) (k0 : Nat) : Int32 := (w.1 ((zrf zC (k0) 6)) 2)

def f_X9_roundCount (w : Wd) (k0 : Nat) : Int32 := (w.1 ((zrf zC (k0) 6)) 3)

def f_X6_slotAt (w : Wd) (k0 : Nat) (v_location : Int32) : Int32 := if ((0 : Int32) ≤ v_location) ∧ (v_location < (w.1 ((zrf zC (k0) 0)) 2)) then v_location else if (v_location < (100 : Int32)) ∨ ((140 : Int32) ≤ v_location) then (-1 : Int32) else (if (decide (((jdiv ((v_location - (100 : Int32))) ((4 : Int32))) < (w.1 ((zrf zC (k0) 1)) 2)) ∧ ((jrem ((v_location - (100 : Int32))) ((4 : Int32))) < (w.1 ((zrf zC (k0) 2)) 2)))) = true then (f_X9_fieldSlot ((jdiv ((v_location - (100 : Int32))) ((4 : Int32)))) ((jrem ((v_location - (100 : Int32))) ((4 : Int32))))) else (-1 : Int32))

def f_X9_pointsTo (w : Wd) (k0 : Nat) (v_location : Int32) : Option (Int32) := Option.bind (rdD zC w (k0) 1 6) (fun x1 => Option.bind (if (f_X6_slotAt w (x1) (v_location)) = (-1 : Int32) then some (-1 : Int32) else Option.bind (rdI zC w ((zrf zC ((zrf zC (k0) 6)) 0)) ((f_X6_slotAt w (x1) (v_location)))) (fun x5 => some x5)) (fun x3 => some (x3)))

def b_X9_pointersTo_1 (w : Wd) (k0 : Nat) (v_object : Int32) (s3 : Int32 × Int32) : Option ((Int32 × Int32) ⊕ (Int32)) := if s3.2 < (16 : Int32) then Option.bind (Option.bind (rdI zC w ((zrf zC ((zrf zC (k0) 6)) 0)) (s3.2)) (fun x7 => if (f_X9_contains (x7) (v_object)) = true then some (s3.1 ||| (jshl ((1 : Int32)) (s3.2))) else some s3.1)) (fun s6 => some (.inl (s6, (s3.2 + (1 : Int32))))) else some (.inr s3.1)
def f_X9_pointersTo (w : Wd) (k0 : Nat) (v_object : Int32) : Option (Int32) := Option.bind ((f_X9_isObject w (k0) (v_object))) (fun x1 => if ¬ (x1 = true) then some ((-1 : Int32)) else Option.bind (lp (b_X9_pointersTo_1 w k0 v_object) NF ((0 : Int32), (0 : Int32))) (fun r4 => some (r4)))

def f_X9_commonObjects (w : Wd) (k0 : Nat) (v_first : Int32) (v_second : Int32) : Option (Int32) := Option.bind (rdD zC w (k0) 1 6) (fun x1 => Option.bind (rdD zC w (k0) 1 6) (fun x2 => if ((f_X6_slotAt w (x1) (v_first)) = (-1 : Int32)) ∨ ((f_X6_slotAt w (x2) (v_second)) = (-1 : Int32)) then some ((-1 : Int32)) else Option.bind (rdI zC w ((zrf zC ((zrf zC (k0) 6)) 0)) ((f_X6_slotAt w (x1) (v_first)))) (fun x6 => Option.bind (rdI zC w ((zrf zC ((zrf zC (k0) 6)) 0)) ((f_X6_slotAt w (x2) (v_second)))) (fun x7 => some ((x6 &&& x7))))))

def b_X7_fieldTargets_2 (w : Wd) (k0 : Nat) (s1 : Int32 × Int32) (s6 : Int32 × Int32) : Option ((Int32 × Int32) ⊕ (Int32)) := if s6.2 < (4 : Int32) then Option.bind (rdI zC w ((zrf zC (k0) 0)) ((f_X9_fieldSlot (s1.2) (s6.2)))) (fun x9 => some (.inl ((s6.1 ||| x9), (s6.2 + (1 : Int32))))) else some (.inr s6.1)
def b_X7_fieldTargets_1 (v_objects : Int32) (w : Wd) (k0 : Nat) (s1 : Int32 × Int32) : Option ((Int32 × Int32) ⊕ (Int32)) := if s1.2 < (10 : Int32) then Option.bind (if (f_X9_contains (v_objects) (s1.2)) = true then Option.bind (lp (b_X7_fieldTargets_2 w k0 s1) NF (s1.1, (0 : Int32))) (fun r7 => some r7) else some s1.1) (fun s4 => some (.inl (s4, (s1.2 + (1 : Int32))))) else some (.inr s1.1)
def f_X7_fieldTargets (w : Wd) (k0 : Nat) (v_objects : Int32) : Option (Int32) := Option.bind (lp (b_X7_fieldTargets_1 v_objects w k0) NF ((0 : Int32), (0 : Int32))) (fun r2 => some (r2))

def b_X9_reachableObjects_1 (w : Wd) (k0 : Nat) (s3 : Int32 × Int32) : Option ((Int32 × Int32) ⊕ (Int32)) := if s3.2 < (10 : Int32) then Option.bind ((f_X7_fieldTargets w ((zrf zC (k0) 6)) (s3.1))) (fun x6 => some (.inl ((s3.1 ||| x6), (s3.2 + (1 : Int32))))) else some (.inr s3.1)
def f_X9_reachableObjects (w : Wd) (k0 : Nat) (v_object : Int32) : Option (Int32) := Option.bind ((f_X9_isObject w (k0) (v_object))) (fun x1 => if ¬ (x1 = true) then some ((-1 : Int32)) else Option.bind (lp (b_X9_reachableObjects_1 w k0) NF ((jshl ((1 : Int32)) (v_object)), (1 : Int32))) (fun r4 => some (r4)))

def f_X9_findFact (w : Wd) (k0 : Nat) (v_location : Int32) (v_object : Int32) : Option (Int32) := Option.bind (rdD zC w (k0) 1 6) (fun x1 => Option.bind (if (f_X6_slotAt w (x1) (v_location)) = (-1 : Int32) then some true else Option.bind ((f_X9_isObject w (k0) (v_object))) (fun x5 => if x5 = true then some false else some true)) (fun b2 => if b2 = true then some ((-1 : Int32)) else Option.bind (rdI zC w ((zrf zC ((zrf zC (k0) 6)) 0)) ((f_X6_slotAt w (x1) (v_location)))) (fun x7 => some ((if (f_X9_contains (x7) (v_object)) = true then (f_X9_factOf ((f_X6_slotAt w (x1) (v_location))) (v_object)) else (-2 : Int32))))))

def f_X9_roundOf (w : Wd) (k0 : Nat) (v_location : Int32) (v_object : Int32) : Option (Int32) := Option.bind ((f_X9_findFact w (k0) (v_location) (v_object))) (fun x1 => Option.bind (if x1 < (0 : Int32) then some x1 else Option.bind (rdI zC w ((zrf zC ((zrf zC (k0) 6)) 5)) (x1)) (fun x5 => some x5)) (fun x3 => some (x3)))

def b_X7_countDerivations_2 (w : Wd) (v_program : Nat) (v_constraint : Int32) (s4 : Int32 × Int32) (v_slot : Int32) (k0 : Nat) (v_object : Int32) (s9 : Int32 × Int32) : Option ((Int32 × Int32) ⊕ (Int32)) := Option.bind ((f_X6_flowCount w (v_program) (v_constraint))) (fun x11 => if s9.2 < x11 then Option.bind (Option.bind (Option.bind ((f_X6_flowTarget w (v_program) (v_constraint) (s4.2) (s9.2))) (fun x16 => if x16 = v_slot then Option.bind ((f_X6_flowSource w (v_program) (v_constraint) (s4.2) (s9.2))) (fun x18 => Option.bind (rdI zC w ((zrf zC (k0) 0)) (x18)) (fun x19 => if (f_X9_contains (x19) (v_object)) = true then some true else some false)) else some false)) (fun b14 => if b14 = true then some (s9.1 + (1 : Int32)) else some s9.1)) (fun s13 => some (.inl (s13, (s9.2 + (1 : Int32))))) else some (.inr s9.1))
def b_X7_countDerivations_1 (x3 : Int32) (w : Wd) (v_program : Nat) (v_constraint : Int32) (v_slot : Int32) (k0 : Nat) (v_object : Int32) (s4 : Int32 × Int32) : Option ((Int32 × Int32) ⊕ (Int32)) := if s4.2 < (10 : Int32) then Option.bind (if (f_X9_contains (x3) (s4.2)) = true then Option.bind (lp (b_X7_countDerivations_2 w v_program v_constraint s4 v_slot k0 v_object) NF (s4.1, (0 : Int32))) (fun r10 => some r10) else some s4.1) (fun s7 => some (.inl (s7, (s4.2 + (1 : Int32))))) else some (.inr s4.1)
def f_X7_countDerivations (w : Wd) (k0 : Nat) (v_program : Nat) (v_constraint : Int32) (v_slot : Int32) (v_object : Int32) : Option (Int32) := Option.bind (rdI zC w ((zrf zC ((zrf zC (v_program) 6)) 0)) (v_constraint)) (fun x1 => if x1 = (0 : Int32) then Option.bind (Option.bind (rdI zC w ((zrf zC ((zrf zC (v_program) 6)) 1)) (v_constraint)) (fun x23 => if x23 = v_slot then Option.bind (rdI zC w ((zrf zC ((zrf zC (v_program) 6)) 2)) (v_constraint)) (fun x25 => if x25 = v_object then some true else some false) else some false)) (fun b21 => some ((if b21 = true then (1 : Int32) else (0 : Int32)))) else Option.bind ((f_X6_viasIn w (v_program) ((zrf zC (k0) 0)) (v_constraint))) (fun x3 => Option.bind (lp (b_X7_countDerivations_1 x3 w v_program v_constraint v_slot k0 v_object) NF ((0 : Int32), (0 : Int32))) (fun r5 => some (r5))))

def b_X9_derivationCount_1 (w : Wd) (k0 : Nat) (x3 : Nat) (v_location : Int32) (v_object : Int32) (s4 : Int32 × Int32) : Option ((Int32 × Int32) ⊕ (Int32)) := Option.bind (rdD zC w (k0) 1 6) (fun x6 => if s4.2 < (w.1 ((zrf zC (x6) 6)) 4) then Option.bind (Option.bind (rdD zC w (k0) 1 6) (fun x9 => if (f_X0_isEnabled w ((zrf zC (x9) 6)) (s4.2)) = true then Option.bind (rdD zC w (k0) 1 6) (fun x11 => Option.bind ((f_X7_countDerivations w ((zrf zC (k0) 6)) (x11) (s4.2) ((f_X6_slotAt w (x3) (v_location))) (v_object))) (fun x12 => some (s4.1 + x12))) else some s4.1)) (fun s8 => some (.inl (s8, (s4.2 + (1 : Int32))))) else some (.inr s4.1))
def f_X9_derivationCount (w : Wd) (k0 : Nat) (v_location : Int32) (v_object : Int32) : Option (Int32) := Option.bind ((f_X9_findFact w (k0) (v_location) (v_object))) (fun x1 => if x1 < (0 : Int32) then some ((if x1 = (-2 : Int32) then (0 : Int32) else (-1 : Int32))) else Option.bind (rdD zC w (k0) 1 6) (fun x3 => Option.bind (lp (b_X9_derivationCount_1 w k0 x3 v_location v_object) NF ((0 : Int32), (0 : Int32))) (fun r5 => some (r5))))

def f_X9_explanationLength (w : Wd) (k0 : Nat) (v_location : Int32) (v_object : Int32) : Option (Int32) := Option.bind ((f_X9_findFact w (k0) (v_location) (v_object))) (fun x1 => Option.bind (if x1 < (0 : Int32) then some x1 else Option.bind (rdI zC w ((zrf zC ((zrf zC (k0) 6)) 9)) (x1)) (fun x5 => some x5)) (fun x3 => some (x3)))

def b_X9_findStep_1 (v_step : Int32) (w : Wd) (k0 : Nat) (v_object : Int32) (s9 : Int32 × Int32) : Option ((Int32 × Int32) ⊕ ((Int32) ⊕ (Int32))) := if s9.2 < v_step then Option.bind (rdI zC w ((zrf zC ((zrf zC (k0) 6)) 7)) (s9.1)) (fun x12 => if x12 = (-1 : Int32) then some (.inr (.inr (-2 : Int32))) else some (.inl ((f_X9_factOf (x12) (v_object)), (s9.2 + (1 : Int32))))) else some (.inr (.inl s9.1))
def f_X9_findStep (w : Wd) (k0 : Nat) (v_location : Int32) (v_object : Int32) (v_step : Int32) : Option (Int32) := Option.bind ((f_X9_findFact w (k0) (v_location) (v_object))) (fun x1 => if (x1 = (-1 : Int32)) ∨ (v_step < (0 : Int32)) then some ((-1 : Int32)) else Option.bind (if x1 = (-2 : Int32) then some true else Option.bind (rdI zC w ((zrf zC ((zrf zC (k0) 6)) 9)) (x1)) (fun x8 => if x8 ≤ v_step then some true else some false)) (fun b5 => if b5 = true then some ((-2 : Int32)) else Option.bind (lp (b_X9_findStep_1 v_step w k0 v_object) NF (x1, (0 : Int32))) (fun r10 => match r10 with | .inl r10x => some (r10x) | .inr q => some q)))

def f_X9_explanationConstraint (w : Wd) (k0 : Nat) (v_location : Int32) (v_object : Int32) (v_step : Int32) : Option (Int32) := Option.bind ((f_X9_findStep w (k0) (v_location) (v_object) (v_step))) (fun x1 => Option.bind (if x1 < (0 : Int32) then some x1 else Option.bind (rdI zC w ((zrf zC ((zrf zC (k0) 6)) 6)) (x1)) (fun x5 => some x5)) (fun x3 => some (x3)))

def f_X9_locationOf (v_slot : Int32) : Int32 := (if v_slot < (16 : Int32) then v_slot else ((v_slot - (16 : Int32)) + (100 : Int32)))

def f_X9_explanationSource (w : Wd) (k0 : Nat) (v_location : Int32) (v_object : Int32) (v_step : Int32) : Option (Int32) := Option.bind ((f_X9_findStep w (k0) (v_location) (v_object) (v_step))) (fun x1 => if x1 < (0 : Int32) then some (x1) else Option.bind (rdI zC w ((zrf zC ((zrf zC (k0) 6)) 7)) (x1)) (fun x3 => some ((if x3 = (-1 : Int32) then (-2 : Int32) else (f_X9_locationOf (x3))))))

def f_X9_explanationVia (w : Wd) (k0 : Nat) (v_location : Int32) (v_object : Int32) (v_step : Int32) : Option (Int32) := Option.bind ((f_X9_findStep w (k0) (v_location) (v_object) (v_step))) (fun x1 => if x1 < (0 : Int32) then some (x1) else Option.bind (rdI zC w ((zrf zC ((zrf zC (k0) 6)) 8)) (x1)) (fun x3 => some ((if x3 = (-1 : Int32) then (-2 : Int32) else x3))))

def f_X9_proof (w : Wd) (k0 : Nat) (v_location : Int32) (v_object : Int32) : Option (Int32) := Option.bind ((f_X9_findFact w (k0) (v_location) (v_object))) (fun x1 => if x1 < (0 : Int32) then some ((if x1 = (-2 : Int32) then (0 : Int32) else (-1 : Int32))) else Option.bind (rdI zC w ((zrf zC ((zrf zC (k0) 6)) 10)) (x1)) (fun x3 => some (x3)))

def f_X8_widen (w : Wd) (k0 : Nat) (v_slot : Int32) (v_objects : Int32) : Option (Bool × Wd) := Option.bind (rdI zC w ((zrf zC (k0) 0)) (v_slot)) (fun x1 => if (v_objects &&& (x1 ^^^ (-1 : Int32))) = (0 : Int32) then some ((false, w)) else Option.bind (rdI zC w ((zrf zC (k0) 0)) (v_slot)) (fun x3 => Option.bind (wrI zC w ((zrf zC (k0) 0)) (v_slot) ((x3 ||| v_objects))) (fun w4 => some ((true, w4)))))

def b_X8_apply_2 (v_program : Nat) (v_constraint : Int32) (s4 : Bool × Int32 × Wd) (k0 : Nat) (s9 : Bool × Int32 × Wd) : Option ((Bool × Int32 × Wd) ⊕ (Bool × Wd)) := Option.bind ((f_X6_flowCount s9.2.2 (v_program) (v_constraint))) (fun x11 => if s9.2.1 < x11 then Option.bind ((f_X6_flowSource s9.2.2 (v_program) (v_constraint) (s4.2.1) (s9.2.1))) (fun x13 => Option.bind (Option.bind ((f_X6_flowTarget s9.2.2 (v_program) (v_constraint) (s4.2.1) (s9.2.1))) (fun x15 => Option.bind (rdI zC s9.2.2 ((zrf zC (k0) 0)) (x13)) (fun x16 => Option.bind ((f_X8_widen s9.2.2 (k0) (x15) (x16))) (fun x17 => if x17.1 = true then some (true, x17.2) else some (s9.1, x17.2))))) (fun s14 => some (.inl (s14.1, (s9.2.1 + (1 : Int32)), s14.2)))) else some (.inr (s9.1, s9.2.2)))
def b_X8_apply_1 (x3 : Int32) (v_program : Nat) (v_constraint : Int32) (k0 : Nat) (s4 : Bool × Int32 × Wd) : Option ((Bool × Int32 × Wd) ⊕ (Bool × Wd)) := if s4.2.1 < (10 : Int32) then Option.bind (if (f_X9_contains (x3) (s4.2.1)) = true then Option.bind (lp (b_X8_apply_2 v_program v_constraint s4 k0) NF (s4.1, (0 : Int32), s4.2.2)) (fun r10 => some (r10.1, r10.2)) else some (s4.1, s4.2.2)) (fun s7 => some (.inl (s7.1, (s4.2.1 + (1 : Int32)), s7.2))) else some (.inr (s4.1, s4.2.2))
def f_X8_apply (w : Wd) (k0 : Nat) (v_program : Nat) (v_constraint : Int32) : Option (Bool × Wd) := Option.bind (rdI zC w ((zrf zC ((zrf zC (v_program) 6)) 0)) (v_constraint)) (fun x1 => if x1 = (0 : Int32) then Option.bind (rdI zC w ((zrf zC ((zrf zC (v_program) 6)) 2)) (v_constraint)) (fun x19 => Option.bind (rdI zC w ((zrf zC ((zrf zC (v_program) 6)) 1)) (v_constraint)) (fun x20 => Option.bind ((f_X8_widen w (k0) (x20) ((jshl ((1 : Int32)) (x19))))) (fun x21 => some ((x21.1, x21.2))))) else Option.bind ((f_X6_viasIn w (v_program) ((zrf zC (k0) 0)) (v_constraint))) (fun x3 => Option.bind (lp (b_X8_apply_1 x3 v_program v_constraint k0) NF (false, (0 : Int32), w)) (fun r5 => some ((r5.1, r5.2)))))

def b_X8_solve_2 (v_program : Nat) (v_enabled : Int32) (k0 : Nat) (s7 : Bool × Int32 × Wd) : Option ((Bool × Int32 × Wd) ⊕ (Bool × Wd)) := if s7.2.1 < (s7.2.2.1 ((zrf zC (v_program) 6)) 4) then Option.bind (Option.bind (if (f_X9_contains (v_enabled) (s7.2.1)) = true then Option.bind ((f_X8_apply s7.2.2 (k0) (v_program) (s7.2.1))) (fun x14 => if x14.1 = true then some (true, x14.2) else some (false, x14.2)) else some (false, s7.2.2)) (fun b11 => if b11.1 = true then some (true, b11.2) else some (s7.1, b11.2))) (fun s10 => some (.inl (s10.1, (s7.2.1 + (1 : Int32)), s10.2))) else some (.inr (s7.1, s7.2.2))
def b_X8_solve_1 (v_program : Nat) (v_enabled : Int32) (k0 : Nat) (s2 : Bool × Int32 × Wd) : Option ((Bool × Int32 × Wd) ⊕ (Bool × Wd)) := if (s2.1 = true) ∧ (s2.2.1 ≤ (560 : Int32)) then Option.bind (lp (b_X8_solve_2 v_program v_enabled k0) NF (false, (0 : Int32), s2.2.2)) (fun r8 => some (.inl (r8.1, (s2.2.1 + (1 : Int32)), r8.2))) else some (.inr (s2.1, s2.2.2))
def f_X8_solve (w : Wd) (k0 : Nat) (v_program : Nat) (v_enabled : Int32) : Option (Wd) := Option.bind ((f_J7_fill w ((zrf zC (k0) 0)) ((0 : Int32)))) (fun w1 => Option.bind (lp (b_X8_solve_1 v_program v_enabled k0) NF (true, (0 : Int32), w1)) (fun r3 => some (r3.2)))

def b_X9_necessaryConstraints_1 (k0 : Nat) (x1 : Int32) (w : Wd) (x3 : Nat) (v_location : Int32) (v_object : Int32) (s4 : Int32 × Int32 × Wd) : Option ((Int32 × Int32 × Wd) ⊕ (Int32 × Wd)) := Option.bind (rdD zC s4.2.2 (k0) 1 6) (fun x6 => if s4.2.1 < (s4.2.2.1 ((zrf zC (x6) 6)) 4) then Option.bind (Option.bind (rdI zC s4.2.2 ((zrf zC ((zrf zC (k0) 6)) 10)) (x1)) (fun x9 => if (f_X9_contains (x9) (s4.2.1)) = true then Option.bind (rdD zC s4.2.2 (k0) 1 6) (fun x11 => Option.bind (rdD zC s4.2.2 (k0) 1 6) (fun x12 => Option.bind ((f_X8_solve s4.2.2 ((zrf zC (k0) 11)) (x11) (((s4.2.2.1 ((zrf zC (x12) 6)) 5) &&& ((jshl ((1 : Int32)) (s4.2.1)) ^^^ (-1 : Int32)))))) (fun w13 => Option.bind (Option.bind (rdI zC w13 ((zrf zC ((zrf zC (k0) 11)) 0)) ((f_X6_slotAt w (x3) (v_location)))) (fun x15 => if ¬ ((f_X9_contains (x15) (v_object)) = true) then some (s4.1 ||| (jshl ((1 : Int32)) (s4.2.1))) else some s4.1)) (fun s14 => some (s14, w13))))) else some (s4.1, s4.2.2))) (fun s8 => some (.inl (s8.1, (s4.2.1 + (1 : Int32)), s8.2))) else some (.inr (s4.1, s4.2.2)))
def f_X9_necessaryConstraints (w : Wd) (k0 : Nat) (v_location : Int32) (v_object : Int32) : Option (Int32 × Wd) := Option.bind ((f_X9_findFact w (k0) (v_location) (v_object))) (fun x1 => if x1 < (0 : Int32) then some (((if x1 = (-2 : Int32) then (0 : Int32) else (-1 : Int32)), w)) else Option.bind (rdD zC w (k0) 1 6) (fun x3 => Option.bind (lp (b_X9_necessaryConstraints_1 k0 x1 w x3 v_location v_object) NF ((0 : Int32), (0 : Int32), w)) (fun r5 => some ((r5.1, r5.2)))))

def f_J13_bitCount (v_i : Int64) : Int32 := ((((((((((v_i - ((jlushr (v_i) ((1 : Int32))) &&& (6148914691236517205 : Int64))) &&& (3689348814741910323 : Int64)) + ((jlushr ((v_i - ((jlushr (v_i) ((1 : Int32))) &&& (6148914691236517205 : Int64)))) ((2 : Int32))) &&& (3689348814741910323 : Int64))) + (jlushr ((((v_i - ((jlushr (v_i) ((1 : Int32))) &&& (6148914691236517205 : Int64))) &&& (3689348814741910323 : Int64)) + ((jlushr ((v_i - ((jlushr (v_i) ((1 : Int32))) &&& (6148914691236517205 : Int64)))) ((2 : Int32))) &&& (3689348814741910323 : Int64)))) ((4 : Int32)))) &&& (1085102592571150095 : Int64)) + (jlushr ((((((v_i - ((jlushr (v_i) ((1 : Int32))) &&& (6148914691236517205 : Int64))) &&& (3689348814741910323 : Int64)) + ((jlushr ((v_i - ((jlushr (v_i) ((1 : Int32))) &&& (6148914691236517205 : Int64)))) ((2 : Int32))) &&& (3689348814741910323 : Int64))) + (jlushr ((((v_i - ((jlushr (v_i) ((1 : Int32))) &&& (6148914691236517205 : Int64))) &&& (3689348814741910323 : Int64)) + ((jlushr ((v_i - ((jlushr (v_i) ((1 : Int32))) &&& (6148914691236517205 : Int64)))) ((2 : Int32))) &&& (3689348814741910323 : Int64)))) ((4 : Int32)))) &&& (1085102592571150095 : Int64))) ((8 : Int32)))) + (jlushr (((((((v_i - ((jlushr (v_i) ((1 : Int32))) &&& (6148914691236517205 : Int64))) &&& (3689348814741910323 : Int64)) + ((jlushr ((v_i - ((jlushr (v_i) ((1 : Int32))) &&& (6148914691236517205 : Int64)))) ((2 : Int32))) &&& (3689348814741910323 : Int64))) + (jlushr ((((v_i - ((jlushr (v_i) ((1 : Int32))) &&& (6148914691236517205 : Int64))) &&& (3689348814741910323 : Int64)) + ((jlushr ((v_i - ((jlushr (v_i) ((1 : Int32))) &&& (6148914691236517205 : Int64)))) ((2 : Int32))) &&& (3689348814741910323 : Int64)))) ((4 : Int32)))) &&& (1085102592571150095 : Int64)) + (jlushr ((((((v_i - ((jlushr (v_i) ((1 : Int32))) &&& (6148914691236517205 : Int64))) &&& (3689348814741910323 : Int64)) + ((jlushr ((v_i - ((jlushr (v_i) ((1 : Int32))) &&& (6148914691236517205 : Int64)))) ((2 : Int32))) &&& (3689348814741910323 : Int64))) + (jlushr ((((v_i - ((jlushr (v_i) ((1 : Int32))) &&& (6148914691236517205 : Int64))) &&& (3689348814741910323 : Int64)) + ((jlushr ((v_i - ((jlushr (v_i) ((1 : Int32))) &&& (6148914691236517205 : Int64)))) ((2 : Int32))) &&& (3689348814741910323 : Int64)))) ((4 : Int32)))) &&& (1085102592571150095 : Int64))) ((8 : Int32))))) ((16 : Int32)))) + (jlushr ((((((((v_i - ((jlushr (v_i) ((1 : Int32))) &&& (6148914691236517205 : Int64))) &&& (3689348814741910323 : Int64)) + ((jlushr ((v_i - ((jlushr (v_i) ((1 : Int32))) &&& (6148914691236517205 : Int64)))) ((2 : Int32))) &&& (3689348814741910323 : Int64))) + (jlushr ((((v_i - ((jlushr (v_i) ((1 : Int32))) &&& (6148914691236517205 : Int64))) &&& (3689348814741910323 : Int64)) + ((jlushr ((v_i - ((jlushr (v_i) ((1 : Int32))) &&& (6148914691236517205 : Int64)))) ((2 : Int32))) &&& (3689348814741910323 : Int64)))) ((4 : Int32)))) &&& (1085102592571150095 : Int64)) + (jlushr ((((((v_i - ((jlushr (v_i) ((1 : Int32))) &&& (6148914691236517205 : Int64))) &&& (3689348814741910323 : Int64)) + ((jlushr ((v_i - ((jlushr (v_i) ((1 : Int32))) &&& (6148914691236517205 : Int64)))) ((2 : Int32))) &&& (3689348814741910323 : Int64))) + (jlushr ((((v_i - ((jlushr (v_i) ((1 : Int32))) &&& (6148914691236517205 : Int64))) &&& (3689348814741910323 : Int64)) + ((jlushr ((v_i - ((jlushr (v_i) ((1 : Int32))) &&& (6148914691236517205 : Int64)))) ((2 : Int32))) &&& (3689348814741910323 : Int64)))) ((4 : Int32)))) &&& (1085102592571150095 : Int64))) ((8 : Int32)))) + (jlushr (((((((v_i - ((jlushr (v_i) ((1 : Int32))) &&& (6148914691236517205 : Int64))) &&& (3689348814741910323 : Int64)) + ((jlushr ((v_i - ((jlushr (v_i) ((1 : Int32))) &&& (6148914691236517205 : Int64)))) ((2 : Int32))) &&& (3689348814741910323 : Int64))) + (jlushr ((((v_i - ((jlushr (v_i) ((1 : Int32))) &&& (6148914691236517205 : Int64))) &&& (3689348814741910323 : Int64)) + ((jlushr ((v_i - ((jlushr (v_i) ((1 : Int32))) &&& (6148914691236517205 : Int64)))) ((2 : Int32))) &&& (3689348814741910323 : Int64)))) ((4 : Int32)))) &&& (1085102592571150095 : Int64)) + (jlushr ((((((v_i - ((jlushr (v_i) ((1 : Int32))) &&& (6148914691236517205 : Int64))) &&& (3689348814741910323 : Int64)) + ((jlushr ((v_i - ((jlushr (v_i) ((1 : Int32))) &&& (6148914691236517205 : Int64)))) ((2 : Int32))) &&& (3689348814741910323 : Int64))) + (jlushr ((((v_i - ((jlushr (v_i) ((1 : Int32))) &&& (6148914691236517205 : Int64))) &&& (3689348814741910323 : Int64)) + ((jlushr ((v_i - ((jlushr (v_i) ((1 : Int32))) &&& (6148914691236517205 : Int64)))) ((2 : Int32))) &&& (3689348814741910323 : Int64)))) ((4 : Int32)))) &&& (1085102592571150095 : Int64))) ((8 : Int32))))) ((16 : Int32))))) ((32 : Int32))))).toInt32 &&& (127 : Int32))

def b_X1_countEdges_1 (w : Wd) (k0 : Nat) (s1 : Int32 × Int32) : Option ((Int32 × Int32) ⊕ (Int32)) := if s1.2 < (56 : Int32) then Option.bind (rdL zC w ((zrf zC (k0) 0)) (s1.2)) (fun x4 => some (.inl ((s1.1 + (f_J13_bitCount (x4))), (s1.2 + (1 : Int32))))) else some (.inr s1.1)
def f_X1_countEdges (w : Wd) (k0 : Nat) : Option (Int32) := Option.bind (lp (b_X1_countEdges_1 w k0) NF ((0 : Int32), (0 : Int32))) (fun r2 => some (r2))

def b_J7_fillL_1 (v_a : Nat) (v_val : Int64) (s1 : Int32 × Wd) : Option ((Int32 × Wd) ⊕ (Wd)) := if s1.1 < (nI (zln zC (v_a))) then Option.bind (wrL zC s1.2 (v_a) (s1.1) (v_val)) (fun w4 => some (.inl ((s1.1 + (1 : Int32)), w4))) else some (.inr s1.2)
def f_J7_fillL (w : Wd) (v_a : Nat) (v_val : Int64) : Option (Wd) := Option.bind (lp (b_J7_fillL_1 v_a v_val) NF ((0 : Int32), w)) (fun r2 => some (r2))

def b_X1_addEdges_2 (v_program : Nat) (v_constraint : Int32) (s1 : Int32 × Wd) (k0 : Nat) (s6 : Int32 × Wd) : Option ((Int32 × Wd) ⊕ (Wd)) := Option.bind ((f_X6_flowCount s6.2 (v_program) (v_constraint))) (fun x8 => if s6.1 < x8 then Option.bind ((f_X6_flowSource s6.2 (v_program) (v_constraint) (s1.1) (s6.1))) (fun x10 => Option.bind ((f_X6_flowTarget s6.2 (v_program) (v_constraint) (s1.1) (s6.1))) (fun x11 => Option.bind (if ¬ (x10 = x11) then Option.bind (rdL zC s6.2 ((zrf zC (k0) 0)) (x10)) (fun x14 => Option.bind (wrL zC s6.2 ((zrf zC (k0) 0)) (x10) ((x14 ||| (jlshl ((1 : Int64)) (x11))))) (fun w15 => some w15)) else some s6.2) (fun s12 => some (.inl ((s6.1 + (1 : Int32)), s12))))) else some (.inr s6.2))
def b_X1_addEdges_1 (v_viaSet : Int32) (v_program : Nat) (v_constraint : Int32) (k0 : Nat) (s1 : Int32 × Wd) : Option ((Int32 × Wd) ⊕ (Wd)) := if s1.1 < (10 : Int32) then Option.bind (if (f_X9_contains (v_viaSet) (s1.1)) = true then Option.bind (lp (b_X1_addEdges_2 v_program v_constraint s1 k0) NF ((0 : Int32), s1.2)) (fun r7 => some r7) else some s1.2) (fun s4 => some (.inl ((s1.1 + (1 : Int32)), s4))) else some (.inr s1.2)
def f_X1_addEdges (w : Wd) (k0 : Nat) (v_program : Nat) (v_constraint : Int32) (v_viaSet : Int32) : Option (Wd) := Option.bind (lp (b_X1_addEdges_1 v_viaSet v_program v_constraint k0) NF ((0 : Int32), w)) (fun r2 => some (r2))

def b_X1_findExisting_1 (v_program : Nat) (k0 : Nat) (s2 : Int32 × Wd) : Option ((Int32 × Wd) ⊕ (Wd)) := if s2.1 < (56 : Int32) then Option.bind (if (f_X6_slotAt s2.2 (v_program) ((f_X9_locationOf (s2.1)))) = s2.1 then Option.bind (some (wsL s2.2 (k0) 3 (((s2.2.2.1 (k0) 3) ||| (jlshl ((1 : Int64)) (s2.1)))))) (fun w7 => some w7) else some s2.2) (fun s5 => some (.inl ((s2.1 + (1 : Int32)), s5))) else some (.inr s2.2)
def f_X1_findExisting (w : Wd) (k0 : Nat) (v_program : Nat) : Option (Wd) := Option.bind (some (wsL w (k0) 3 ((0 : Int64)))) (fun w1 => Option.bind (lp (b_X1_findExisting_1 v_program k0) NF ((0 : Int32), w1)) (fun r3 => some (r3)))

def f_X9_holds (v_set : Int64) (v_slot : Int32) : Bool := (decide (¬ (((jlushr (v_set) (v_slot)) &&& (1 : Int64)) = (0 : Int64))))

def b_X1_findReached_1 (k0 : Nat) (s1 : Int32 × Wd) : Option ((Int32 × Wd) ⊕ (Wd)) := if s1.1 < (56 : Int32) then Option.bind (rdL zC s1.2 ((zrf zC (k0) 0)) (s1.1)) (fun x4 => Option.bind (wrL zC s1.2 ((zrf zC (k0) 1)) (s1.1) ((x4 ||| (jlshl ((1 : Int64)) (s1.1))))) (fun w5 => some (.inl ((s1.1 + (1 : Int32)), w5)))) else some (.inr s1.2)
def b_X1_findReached_3 (k0 : Nat) (s6 : Int32 × Wd) (s9 : Int32 × Wd) : Option ((Int32 × Wd) ⊕ (Wd)) := if s9.1 < (56 : Int32) then Option.bind (Option.bind (rdL zC s9.2 ((zrf zC (k0) 1)) (s9.1)) (fun x13 => if (f_X9_holds (x13) (s6.1)) = true then Option.bind (rdL zC s9.2 ((zrf zC (k0) 1)) (s9.1)) (fun x15 => Option.bind (rdL zC s9.2 ((zrf zC (k0) 1)) (s6.1)) (fun x16 => Option.bind (wrL zC s9.2 ((zrf zC (k0) 1)) (s9.1) ((x15 ||| x16))) (fun w17 => some w17))) else some s9.2)) (fun s12 => some (.inl ((s9.1 + (1 : Int32)), s12))) else some (.inr s9.2)
def b_X1_findReached_2 (k0 : Nat) (s6 : Int32 × Wd) : Option ((Int32 × Wd) ⊕ (Wd)) := if s6.1 < (56 : Int32) then Option.bind (lp (b_X1_findReached_3 k0 s6) NF ((0 : Int32), s6.2)) (fun r10 => some (.inl ((s6.1 + (1 : Int32)), r10))) else some (.inr s6.2)
def f_X1_findReached (w : Wd) (k0 : Nat) : Option (Wd) := Option.bind (lp (b_X1_findReached_1 k0) NF ((0 : Int32), w)) (fun r2 => Option.bind (lp (b_X1_findReached_2 k0) NF ((0 : Int32), r2)) (fun r7 => some (r7)))

def b_X1_findComponents_2 (s1 : Int32 × Wd) (k0 : Nat) (s4 : Int64 × Int32) : Option ((Int64 × Int32) ⊕ (Int64)) := if s4.2 < (56 : Int32) then Option.bind (Option.bind (Option.bind (rdL zC s1.2 ((zrf zC (k0) 1)) (s1.1)) (fun x10 => if (f_X9_holds (x10) (s4.2)) = true then Option.bind (rdL zC s1.2 ((zrf zC (k0) 1)) (s4.2)) (fun x12 => if (f_X9_holds (x12) (s1.1)) = true then some true else some false) else some false)) (fun b8 => if b8 = true then some (s4.1 ||| (jlshl ((1 : Int64)) (s4.2))) else some s4.1)) (fun s7 => some (.inl (s7, (s4.2 + (1 : Int32))))) else some (.inr s4.1)
def b_X1_findComponents_1 (k0 : Nat) (s1 : Int32 × Wd) : Option ((Int32 × Wd) ⊕ (Wd)) := if s1.1 < (56 : Int32) then Option.bind (lp (b_X1_findComponents_2 s1 k0) NF ((0 : Int64), (0 : Int32))) (fun r5 => Option.bind (wrL zC s1.2 ((zrf zC (k0) 2)) (s1.1) (r5)) (fun w13 => some (.inl ((s1.1 + (1 : Int32)), w13)))) else some (.inr s1.2)
def f_X1_findComponents (w : Wd) (k0 : Nat) : Option (Wd) := Option.bind (lp (b_X1_findComponents_1 k0) NF ((0 : Int32), w)) (fun r2 => some (r2))

def b_X1_build_1 (v_program : Nat) (v_solution : Nat) (k0 : Nat) (s2 : Int32 × Wd) : Option ((Int32 × Wd) ⊕ (Wd)) := if s2.1 < (s2.2.1 ((zrf zC (v_program) 6)) 4) then Option.bind (if (f_X0_isEnabled s2.2 ((zrf zC (v_program) 6)) (s2.1)) = true then Option.bind ((f_X6_viasIn s2.2 (v_program) ((zrf zC (v_solution) 0)) (s2.1))) (fun x7 => Option.bind ((f_X1_addEdges s2.2 (k0) (v_program) (s2.1) (x7))) (fun w8 => some w8)) else some s2.2) (fun s5 => some (.inl ((s2.1 + (1 : Int32)), s5))) else some (.inr s2.2)
def f_X1_build (w : Wd) (k0 : Nat) (v_program : Nat) (v_solution : Nat) : Option (Wd) := Option.bind ((f_J7_fillL w ((zrf zC (k0) 0)) ((0 : Int64)))) (fun w1 => Option.bind (lp (b_X1_build_1 v_program v_solution k0) NF ((0 : Int32), w1)) (fun r3 => Option.bind ((f_X1_findExisting r3 (k0) (v_program))) (fun w9 => Option.bind ((f_X1_findReached w9 (k0))) (fun w10 => Option.bind ((f_X1_findComponents w10 (k0))) (fun w11 => some (w11))))))

def f_X9_graphed (w : Wd) (k0 : Nat) : Option (Nat × Wd) := Option.bind (Option.bind (rdB (w.1 (k0) 9)) (fun x2 => if x2 = true then Option.bind (rdD zC w (k0) 1 6) (fun x4 => Option.bind ((f_X1_build w ((zrf zC (k0) 7)) (x4) ((zrf zC (k0) 6)))) (fun w5 => Option.bind (some (wsI w5 (k0) 9 (bI (false)))) (fun w6 => some w6))) else some w)) (fun s1 => some (((zrf zC (k0) 7), s1)))

def f_X9_edgeCount (w : Wd) (k0 : Nat) : Option (Int32 × Wd) := Option.bind ((f_X9_graphed w (k0))) (fun x1 => Option.bind ((f_X1_countEdges x1.2 (x1.1))) (fun x2 => some ((x2, x1.2))))

def f_X9_hasEdge (w : Wd) (k0 : Nat) (v_from : Int32) (v_to : Int32) : Option (Int32 × Wd) := Option.bind (rdD zC w (k0) 1 6) (fun x1 => Option.bind (rdD zC w (k0) 1 6) (fun x2 => if (((f_X6_slotAt w (x1) (v_from)) = (-1 : Int32)) ∨ ((f_X6_slotAt w (x2) (v_to)) = (-1 : Int32))) ∨ ((f_X6_slotAt w (x1) (v_from)) = (f_X6_slotAt w (x2) (v_to))) then some (((-1 : Int32), w)) else Option.bind ((f_X9_graphed w (k0))) (fun x8 => Option.bind (rdL zC x8.2 ((zrf zC (x8.1) 0)) ((f_X6_slotAt w (x1) (v_from)))) (fun x9 => some (((if (f_X9_holds (x9) ((f_X6_slotAt w (x2) (v_to)))) = true then (1 : Int32) else (0 : Int32)), x8.2))))))

def b_X1_targetsOf_1 (v_slots : Int64) (w : Wd) (k0 : Nat) (s1 : Int64 × Int32) : Option ((Int64 × Int32) ⊕ (Int64)) := if s1.2 < (56 : Int32) then Option.bind (if (f_X9_holds (v_slots) (s1.2)) = true then Option.bind (rdL zC w ((zrf zC (k0) 0)) (s1.2)) (fun x6 => some (s1.1 ||| x6)) else some s1.1) (fun s4 => some (.inl (s4, (s1.2 + (1 : Int32))))) else some (.inr s1.1)
def f_X1_targetsOf (w : Wd) (k0 : Nat) (v_slots : Int64) : Option (Int64) := Option.bind (lp (b_X1_targetsOf_1 v_slots w k0) NF ((0 : Int64), (0 : Int32))) (fun r2 => some (r2))

def b_X1_shortestPath_1 (v_to : Int32) (w : Wd) (k0 : Nat) (s1 : Int64 × Int32) : Option ((Int64 × Int32) ⊕ ((Int64) ⊕ (Int32))) := if s1.2 < (56 : Int32) then if (f_X9_holds (s1.1) (v_to)) = true then some (.inr (.inr s1.2)) else Option.bind ((f_X1_targetsOf w (k0) (s1.1))) (fun x5 => some (.inl ((s1.1 ||| x5), (s1.2 + (1 : Int32))))) else some (.inr (.inl s1.1))
def f_X1_shortestPath (w : Wd) (k0 : Nat) (v_from : Int32) (v_to : Int32) : Option (Int32) := Option.bind (lp (b_X1_shortestPath_1 v_to w k0) NF ((jlshl ((1 : Int64)) (v_from)), (0 : Int32))) (fun r2 => match r2 with | .inl r2x => some ((-2 : Int32)) | .inr q => some q)

def f_X9_distance (w : Wd) (k0 : Nat) (v_from : Int32) (v_to : Int32) : Option (Int32 × Wd) := Option.bind (rdD zC w (k0) 1 6) (fun x1 => Option.bind (rdD zC w (k0) 1 6) (fun x2 => if ((f_X6_slotAt w (x1) (v_from)) = (-1 : Int32)) ∨ ((f_X6_slotAt w (x2) (v_to)) = (-1 : Int32)) then some (((-1 : Int32), w)) else Option.bind ((f_X9_graphed w (k0))) (fun x6 => Option.bind ((f_X1_shortestPath x6.2 (x6.1) ((f_X6_slotAt w (x1) (v_from))) ((f_X6_slotAt w (x2) (v_to))))) (fun x7 => some ((x7, x6.2))))))

def f_X9_componentSize (w : Wd) (k0 : Nat) (v_location : Int32) : Option (Int32 × Wd) := Option.bind (rdD zC w (k0) 1 6) (fun x1 => Option.bind (if (f_X6_slotAt w (x1) (v_location)) = (-1 : Int32) then some ((-1 : Int32), w) else Option.bind ((f_X9_graphed w (k0))) (fun x5 => Option.bind (rdL zC x5.2 ((zrf zC (x5.1) 2)) ((f_X6_slotAt w (x1) (v_location)))) (fun x6 => some ((f_J13_bitCount (x6)), x5.2)))) (fun x3 => some ((x3.1, x3.2))))

def f_J6_numberOfTrailingZeros (v_i : Int32) : Option (Int32) := if ((v_i ^^^ (-1 : Int32)) &&& (v_i - (1 : Int32))) ≤ (0 : Int32) then some ((((v_i ^^^ (-1 : Int32)) &&& (v_i - (1 : Int32))) &&& (32 : Int32))) else Option.bind (if (65536 : Int32) < ((v_i ^^^ (-1 : Int32)) &&& (v_i - (1 : Int32))) then some ((jushr (((v_i ^^^ (-1 : Int32)) &&& (v_i - (1 : Int32)))) ((16 : Int32))), ((1 : Int32) + (16 : Int32))) else some (((v_i ^^^ (-1 : Int32)) &&& (v_i - (1 : Int32))), (1 : Int32))) (fun s2 => Option.bind (if (256 : Int32) < s2.1 then some ((jushr (s2.1) ((8 : Int32))), (s2.2 + (8 : Int32))) else some (s2.1, s2.2)) (fun s4 => Option.bind (if (16 : Int32) < s4.1 then some ((jushr (s4.1) ((4 : Int32))), (s4.2 + (4 : Int32))) else some (s4.1, s4.2)) (fun s6 => Option.bind (if (4 : Int32) < s6.1 then some ((jushr (s6.1) ((2 : Int32))), (s6.2 + (2 : Int32))) else some (s6.1, s6.2)) (fun s8 => some ((s8.2 + (jushr (s8.1) ((1 : Int32)))))))))

def f_J13_numberOfTrailingZeros (v_i : Int64) : Option (Int32) := Option.bind (if (v_i).toInt32 = (0 : Int32) then Option.bind ((f_J6_numberOfTrailingZeros (((jlushr (v_i) ((32 : Int32)))).toInt32))) (fun x5 => some ((32 : Int32) + x5)) else Option.bind ((f_J6_numberOfTrailingZeros ((v_i).toInt32))) (fun x4 => some x4)) (fun x2 => some (x2))

def f_X1_lowestOf (w : Wd) (k0 : Nat) (v_slot : Int32) : Option (Int32) := Option.bind (rdL zC w ((zrf zC (k0) 2)) (v_slot)) (fun x1 => Option.bind ((f_J13_numberOfTrailingZeros (x1))) (fun x2 => some (x2)))

def f_X9_representative (w : Wd) (k0 : Nat) (v_location : Int32) : Option (Int32 × Wd) := Option.bind (rdD zC w (k0) 1 6) (fun x1 => Option.bind (if (f_X6_slotAt w (x1) (v_location)) = (-1 : Int32) then some ((-1 : Int32), w) else Option.bind ((f_X9_graphed w (k0))) (fun x5 => Option.bind ((f_X1_lowestOf x5.2 (x5.1) ((f_X6_slotAt w (x1) (v_location))))) (fun x6 => some ((f_X9_locationOf (x6)), x5.2)))) (fun x3 => some ((x3.1, x3.2))))

def f_X1_isLowest (w : Wd) (k0 : Nat) (v_slot : Int32) : Option (Bool) := Option.bind (if (f_X9_holds ((w.2.1 (k0) 3)) (v_slot)) = true then Option.bind ((f_X1_lowestOf w (k0) (v_slot))) (fun x5 => if x5 = v_slot then some true else some false) else some false) (fun b2 => some (b2))

def b_X1_countComponents_1 (w : Wd) (k0 : Nat) (v_leastSize : Int32) (s1 : Int32 × Int32) : Option ((Int32 × Int32) ⊕ (Int32)) := if s1.2 < (56 : Int32) then Option.bind (Option.bind (Option.bind ((f_X1_isLowest w (k0) (s1.2))) (fun x7 => if x7 = true then Option.bind (rdL zC w ((zrf zC (k0) 2)) (s1.2)) (fun x9 => if v_leastSize ≤ (f_J13_bitCount (x9)) then some true else some false) else some false)) (fun b5 => if b5 = true then some (s1.1 + (1 : Int32)) else some s1.1)) (fun s4 => some (.inl (s4, (s1.2 + (1 : Int32))))) else some (.inr s1.1)
def f_X1_countComponents (w : Wd) (k0 : Nat) (v_leastSize : Int32) : Option (Int32) := Option.bind (lp (b_X1_countComponents_1 w k0 v_leastSize) NF ((0 : Int32), (0 : Int32))) (fun r2 => some (r2))

def f_X9_cyclicComponentCount (w : Wd) (k0 : Nat) : Option (Int32 × Wd) := Option.bind ((f_X9_graphed w (k0))) (fun x1 => Option.bind ((f_X1_countComponents x1.2 (x1.1) ((2 : Int32)))) (fun x2 => some ((x2, x1.2))))

def f_X9_condensedNodeCount (w : Wd) (k0 : Nat) : Option (Int32 × Wd) := Option.bind ((f_X9_graphed w (k0))) (fun x1 => Option.bind ((f_X1_countComponents x1.2 (x1.1) ((1 : Int32)))) (fun x2 => some ((x2, x1.2))))

def b_X1_lowestOfAll_1 (v_slots : Int64) (w : Wd) (k0 : Nat) (s1 : Int64 × Int32) : Option ((Int64 × Int32) ⊕ (Int64)) := if s1.2 < (56 : Int32) then Option.bind (if (f_X9_holds (v_slots) (s1.2)) = true then Option.bind ((f_X1_lowestOf w (k0) (s1.2))) (fun x6 => some (s1.1 ||| (jlshl ((1 : Int64)) (x6)))) else some s1.1) (fun s4 => some (.inl (s4, (s1.2 + (1 : Int32))))) else some (.inr s1.1)
def f_X1_lowestOfAll (w : Wd) (k0 : Nat) (v_slots : Int64) : Option (Int64) := Option.bind (lp (b_X1_lowestOfAll_1 v_slots w k0) NF ((0 : Int64), (0 : Int32))) (fun r2 => some (r2))

def b_X1_countCondensedEdges_1 (w : Wd) (k0 : Nat) (s1 : Int32 × Int32) : Option ((Int32 × Int32) ⊕ (Int32)) := if s1.2 < (56 : Int32) then Option.bind (Option.bind ((f_X1_isLowest w (k0) (s1.2))) (fun x5 => if x5 = true then Option.bind (rdL zC w ((zrf zC (k0) 2)) (s1.2)) (fun x7 => Option.bind ((f_X1_targetsOf w (k0) (x7))) (fun x8 => Option.bind (rdL zC w ((zrf zC (k0) 2)) (s1.2)) (fun x9 => Option.bind ((f_X1_lowestOfAll w (k0) ((x8 &&& (x9 ^^^ (-1 : Int64)))))) (fun x10 => some (s1.1 + (f_J13_bitCount (x10))))))) else some s1.1)) (fun s4 => some (.inl (s4, (s1.2 + (1 : Int32))))) else some (.inr s1.1)
def f_X1_countCondensedEdges (w : Wd) (k0 : Nat) : Option (Int32) := Option.bind (lp (b_X1_countCondensedEdges_1 w k0) NF ((0 : Int32), (0 : Int32))) (fun r2 => some (r2))

def f_X9_condensedEdgeCount (w : Wd) (k0 : Nat) : Option (Int32 × Wd) := Option.bind ((f_X9_graphed w (k0))) (fun x1 => Option.bind ((f_X1_countCondensedEdges x1.2 (x1.1))) (fun x2 => some ((x2, x1.2))))

def f_X9_isConstraint (w : Wd) (k0 : Nat) (v_constraint : Int32) : Option (Bool) := Option.bind (if (0 : Int32) ≤ v_constraint then Option.bind (rdD zC w (k0) 1 6) (fun x5 => if v_constraint < (w.1 ((zrf zC (x5) 6)) 4) then some true else some false) else some false) (fun b2 => some (b2))

def f_X9_targetsOfCall (w : Wd) (k0 : Nat) (v_constraint : Int32) : Option (Int32) := Option.bind (Option.bind (rdD zC w (k0) 1 6) (fun x3 => Option.bind (rdI zC w ((zrf zC ((zrf zC (x3) 6)) 0)) (v_constraint)) (fun x4 => if ¬ (x4 = (4 : Int32)) then some true else Option.bind (rdD zC w (k0) 1 6) (fun x6 => if (f_X0_isEnabled w ((zrf zC (x6) 6)) (v_constraint)) = true then some false else some true)))) (fun b1 => if b1 = true then some ((0 : Int32)) else Option.bind (rdD zC w (k0) 1 6) (fun x7 => Option.bind ((f_X6_viasIn w (x7) ((zrf zC ((zrf zC (k0) 6)) 0)) (v_constraint))) (fun x8 => some (x8))))

def f_X9_callTargets (w : Wd) (k0 : Nat) (v_constraint : Int32) : Option (Int32) := Option.bind (Option.bind ((f_X9_isConstraint w (k0) (v_constraint))) (fun x3 => if x3 = true then Option.bind (rdD zC w (k0) 1 6) (fun x5 => Option.bind (rdI zC w ((zrf zC ((zrf zC (x5) 6)) 0)) (v_constraint)) (fun x6 => if ¬ (x6 = (4 : Int32)) then some true else some false)) else some true)) (fun b1 => if b1 = true then some ((-1 : Int32)) else Option.bind ((f_X9_targetsOfCall w (k0) (v_constraint))) (fun x7 => some (x7)))

def b_X9_callersOf_1 (w : Wd) (k0 : Nat) (v_object : Int32) (s3 : Int32 × Int32) : Option ((Int32 × Int32) ⊕ (Int32)) := Option.bind (rdD zC w (k0) 1 6) (fun x5 => if s3.2 < (w.1 ((zrf zC (x5) 6)) 4) then Option.bind (Option.bind ((f_X9_targetsOfCall w (k0) (s3.2))) (fun x8 => if (f_X9_contains (x8) (v_object)) = true then some (s3.1 ||| (jshl ((1 : Int32)) (s3.2))) else some s3.1)) (fun s7 => some (.inl (s7, (s3.2 + (1 : Int32))))) else some (.inr s3.1))
def f_X9_callersOf (w : Wd) (k0 : Nat) (v_object : Int32) : Option (Int32) := Option.bind ((f_X9_isObject w (k0) (v_object))) (fun x1 => if ¬ (x1 = true) then some ((-1 : Int32)) else Option.bind (lp (b_X9_callersOf_1 w k0 v_object) NF ((0 : Int32), (0 : Int32))) (fun r4 => some (r4)))

def b_X9_uncalledFunctions_1 (w : Wd) (k0 : Nat) (s2 : Int32 × Int32) : Option ((Int32 × Int32) ⊕ (Int32)) := Option.bind (rdD zC w (k0) 1 6) (fun x4 => if s2.2 < (w.1 ((zrf zC (x4) 6)) 4) then Option.bind ((f_X9_targetsOfCall w (k0) (s2.2))) (fun x6 => some (.inl ((s2.1 &&& (x6 ^^^ (-1 : Int32))), (s2.2 + (1 : Int32))))) else some (.inr s2.1))
def f_X9_uncalledFunctions (w : Wd) (k0 : Nat) : Option (Int32) := Option.bind (rdD zC w (k0) 1 6) (fun x1 => Option.bind (lp (b_X9_uncalledFunctions_1 w k0) NF ((w.1 (x1) 5), (0 : Int32))) (fun r3 => some (r3)))

def f_J6_bitCount (v_i : Int32) : Int32 := ((((((((v_i - ((jushr (v_i) ((1 : Int32))) &&& (1431655765 : Int32))) &&& (858993459 : Int32)) + ((jushr ((v_i - ((jushr (v_i) ((1 : Int32))) &&& (1431655765 : Int32)))) ((2 : Int32))) &&& (858993459 : Int32))) + (jushr ((((v_i - ((jushr (v_i) ((1 : Int32))) &&& (1431655765 : Int32))) &&& (858993459 : Int32)) + ((jushr ((v_i - ((jushr (v_i) ((1 : Int32))) &&& (1431655765 : Int32)))) ((2 : Int32))) &&& (858993459 : Int32)))) ((4 : Int32)))) &&& (252645135 : Int32)) + (jushr ((((((v_i - ((jushr (v_i) ((1 : Int32))) &&& (1431655765 : Int32))) &&& (858993459 : Int32)) + ((jushr ((v_i - ((jushr (v_i) ((1 : Int32))) &&& (1431655765 : Int32)))) ((2 : Int32))) &&& (858993459 : Int32))) + (jushr ((((v_i - ((jushr (v_i) ((1 : Int32))) &&& (1431655765 : Int32))) &&& (858993459 : Int32)) + ((jushr ((v_i - ((jushr (v_i) ((1 : Int32))) &&& (1431655765 : Int32)))) ((2 : Int32))) &&& (858993459 : Int32)))) ((4 : Int32)))) &&& (252645135 : Int32))) ((8 : Int32)))) + (jushr (((((((v_i - ((jushr (v_i) ((1 : Int32))) &&& (1431655765 : Int32))) &&& (858993459 : Int32)) + ((jushr ((v_i - ((jushr (v_i) ((1 : Int32))) &&& (1431655765 : Int32)))) ((2 : Int32))) &&& (858993459 : Int32))) + (jushr ((((v_i - ((jushr (v_i) ((1 : Int32))) &&& (1431655765 : Int32))) &&& (858993459 : Int32)) + ((jushr ((v_i - ((jushr (v_i) ((1 : Int32))) &&& (1431655765 : Int32)))) ((2 : Int32))) &&& (858993459 : Int32)))) ((4 : Int32)))) &&& (252645135 : Int32)) + (jushr ((((((v_i - ((jushr (v_i) ((1 : Int32))) &&& (1431655765 : Int32))) &&& (858993459 : Int32)) + ((jushr ((v_i - ((jushr (v_i) ((1 : Int32))) &&& (1431655765 : Int32)))) ((2 : Int32))) &&& (858993459 : Int32))) + (jushr ((((v_i - ((jushr (v_i) ((1 : Int32))) &&& (1431655765 : Int32))) &&& (858993459 : Int32)) + ((jushr ((v_i - ((jushr (v_i) ((1 : Int32))) &&& (1431655765 : Int32)))) ((2 : Int32))) &&& (858993459 : Int32)))) ((4 : Int32)))) &&& (252645135 : Int32))) ((8 : Int32))))) ((16 : Int32)))) &&& (63 : Int32))

def b_X8_countFacts_1 (w : Wd) (k0 : Nat) (s1 : Int32 × Int32) : Option ((Int32 × Int32) ⊕ (Int32)) := if s1.2 < (56 : Int32) then Option.bind (rdI zC w ((zrf zC (k0) 0)) (s1.2)) (fun x4 => some (.inl ((s1.1 + (f_J6_bitCount (x4))), (s1.2 + (1 : Int32))))) else some (.inr s1.1)
def f_X8_countFacts (w : Wd) (k0 : Nat) : Option (Int32) := Option.bind (lp (b_X8_countFacts_1 w k0) NF ((0 : Int32), (0 : Int32))) (fun r2 => some (r2))

def f_X9_factCountIfToggled (w : Wd) (k0 : Nat) (v_constraint : Int32) : Option (Int32 × Wd) := Option.bind ((f_X9_isConstraint w (k0) (v_constraint))) (fun x1 => if ¬ (x1 = true) then some (((-1 : Int32), w)) else Option.bind (rdD zC w (k0) 1 6) (fun x3 => Option.bind (rdD zC w (k0) 1 6) (fun x4 => Option.bind ((f_X8_solve w ((zrf zC (k0) 11)) (x3) (((w.1 ((zrf zC (x4) 6)) 5) ^^^ (jshl ((1 : Int32)) (v_constraint)))))) (fun w5 => Option.bind ((f_X8_countFacts w5 ((zrf zC (k0) 11)))) (fun x6 => some ((x6, w5)))))))

def f_X0_all (w : Wd) (k0 : Nat) : Int32 := ((jshl ((1 : Int32)) ((w.1 (k0) 4))) - (1 : Int32))

def f_X9_factCountWithout (w : Wd) (k0 : Nat) (v_constraints : Int32) : Option (Int32 × Wd) := Option.bind (rdD zC w (k0) 1 6) (fun x1 => if ¬ ((v_constraints &&& ((f_X0_all w ((zrf zC (x1) 6))) ^^^ (-1 : Int32))) = (0 : Int32)) then some (((-1 : Int32), w)) else Option.bind (rdD zC w (k0) 1 6) (fun x3 => Option.bind (rdD zC w (k0) 1 6) (fun x4 => Option.bind ((f_X8_solve w ((zrf zC (k0) 11)) (x3) (((w.1 ((zrf zC (x4) 6)) 5) &&& (v_constraints ^^^ (-1 : Int32)))))) (fun w5 => Option.bind ((f_X8_countFacts w5 ((zrf zC (k0) 11)))) (fun x6 => some ((x6, w5)))))))

def f_X9_factsLostWithout (w : Wd) (k0 : Nat) (v_constraint : Int32) : Option (Int32 × Wd) := if ¬ ((f_X9_contains ((w.1 ((zrf zC (k0) 6)) 4)) (v_constraint)) = true) then some (((0 : Int32), w)) else Option.bind (rdD zC w (k0) 1 6) (fun x2 => Option.bind (rdD zC w (k0) 1 6) (fun x3 => Option.bind ((f_X8_solve w ((zrf zC (k0) 11)) (x2) (((w.1 ((zrf zC (x3) 6)) 5) &&& ((jshl ((1 : Int32)) (v_constraint)) ^^^ (-1 : Int32)))))) (fun w4 => Option.bind ((f_X8_countFacts w4 ((zrf zC (k0) 11)))) (fun x5 => some ((((w4.1 ((zrf zC (k0) 6)) 2) - x5), w4))))))

def b_X9_mostInfluentialConstraint_1 (k0 : Nat) (s1 : Int32 × Int32 × Int32 × Wd) : Option ((Int32 × Int32 × Int32 × Wd) ⊕ (Int32 × Int32 × Wd)) := Option.bind (rdD zC s1.2.2.2 (k0) 1 6) (fun x3 => if s1.2.2.1 < (s1.2.2.2.1 ((zrf zC (x3) 6)) 4) then Option.bind (Option.bind (rdD zC s1.2.2.2 (k0) 1 6) (fun x6 => if (f_X0_isEnabled s1.2.2.2 ((zrf zC (x6) 6)) (s1.2.2.1)) = true then Option.bind ((f_X9_factsLostWithout s1.2.2.2 (k0) (s1.2.2.1))) (fun x8 => Option.bind (if s1.2.1 < x8.1 then some (s1.2.2.1, x8.1) else some (s1.1, s1.2.1)) (fun s9 => some (s9.1, s9.2, x8.2))) else some (s1.1, s1.2.1, s1.2.2.2))) (fun s5 => some (.inl (s5.1, s5.2.1, (s1.2.2.1 + (1 : Int32)), s5.2.2))) else some (.inr (s1.1, s1.2.1, s1.2.2.2)))
def f_X9_mostInfluentialConstraint (w : Wd) (k0 : Nat) : Option (Int32 × Wd) := Option.bind (lp (b_X9_mostInfluentialConstraint_1 k0) NF ((-2 : Int32), (0 : Int32), (0 : Int32), w)) (fun r2 => some ((r2.1, r2.2.2)))

def b_X9_redundantConstraintCount_1 (k0 : Nat) (s1 : Int32 × Int32 × Wd) : Option ((Int32 × Int32 × Wd) ⊕ (Int32 × Wd)) := Option.bind (rdD zC s1.2.2 (k0) 1 6) (fun x3 => if s1.2.1 < (s1.2.2.1 ((zrf zC (x3) 6)) 4) then Option.bind (Option.bind (Option.bind (rdD zC s1.2.2 (k0) 1 6) (fun x8 => if (f_X0_isEnabled s1.2.2 ((zrf zC (x8) 6)) (s1.2.1)) = true then Option.bind ((f_X9_factsLostWithout s1.2.2 (k0) (s1.2.1))) (fun x10 => if x10.1 = (0 : Int32) then some (true, x10.2) else some (false, x10.2)) else some (false, s1.2.2))) (fun b6 => if b6.1 = true then some ((s1.1 + (1 : Int32)), b6.2) else some (s1.1, b6.2))) (fun s5 => some (.inl (s5.1, (s1.2.1 + (1 : Int32)), s5.2))) else some (.inr (s1.1, s1.2.2)))
def f_X9_redundantConstraintCount (w : Wd) (k0 : Nat) : Option (Int32 × Wd) := Option.bind (lp (b_X9_redundantConstraintCount_1 k0) NF ((0 : Int32), (0 : Int32), w)) (fun r2 => some ((r2.1, r2.2)))

def f_X2_writeByte (w : Wd) (k0 : Nat) (v_sign : Int32) : Option (Wd) := Option.bind (if (w.1 (k0) 1) < (1232 : Int32) then Option.bind (wrI zC w ((zrf zC (k0) 0)) ((w.1 (k0) 1)) (jbyte ((jbyte (v_sign))))) (fun w3 => Option.bind (some (wsI w3 (k0) 1 (((w3.1 (k0) 1) + (1 : Int32))))) (fun w4 => some w4)) else some w) (fun s1 => some (s1))

def b_X2_writeName_1 (v_word : Int64) (k0 : Nat) (s1 : Int32 × Wd) : Option ((Int32 × Wd) ⊕ (Wd)) := if (0 : Int32) ≤ s1.1 then Option.bind (if ¬ ((((jlushr (v_word) ((s1.1 * (8 : Int32))))).toInt32 &&& (255 : Int32)) = (0 : Int32)) then Option.bind ((f_X2_writeByte s1.2 (k0) ((((jlushr (v_word) ((s1.1 * (8 : Int32))))).toInt32 &&& (255 : Int32))))) (fun w6 => some w6) else some s1.2) (fun s4 => some (.inl ((s1.1 + (-1 : Int32)), s4))) else some (.inr s1.2)
def f_X2_writeName (w : Wd) (k0 : Nat) (v_word : Int64) : Option (Wd) := Option.bind (lp (b_X2_writeName_1 v_word k0) NF ((5 : Int32), w)) (fun r2 => some (r2))

def b_X2_writeObjects_1 (v_names : Nat) (v_set : Int32) (k0 : Nat) (s1 : Int32 × Wd) : Option ((Int32 × Wd) ⊕ (Wd)) := if s1.1 < (s1.2.1 (v_names) 2) then Option.bind (if (f_X9_contains (v_set) (s1.1)) = true then Option.bind ((f_X2_writeByte s1.2 (k0) ((32 : Int32)))) (fun w6 => Option.bind (rdL zC w6 ((zrf zC (v_names) 0)) (s1.1)) (fun x7 => Option.bind ((f_X2_writeName w6 (k0) (x7))) (fun w8 => some w8))) else some s1.2) (fun s4 => some (.inl ((s1.1 + (1 : Int32)), s4))) else some (.inr s1.2)
def f_X2_writeObjects (w : Wd) (k0 : Nat) (v_names : Nat) (v_set : Int32) : Option (Wd) := Option.bind (lp (b_X2_writeObjects_1 v_names v_set k0) NF ((0 : Int32), w)) (fun r2 => some (r2))

def b_X2_write_1 (v_program : Nat) (v_solution : Nat) (k0 : Nat) (s2 : Int32 × Wd) : Option ((Int32 × Wd) ⊕ (Wd)) := if s2.1 < (s2.2.1 ((zrf zC (v_program) 0)) 2) then Option.bind (Option.bind (rdI zC s2.2 ((zrf zC (v_solution) 0)) (s2.1)) (fun x6 => if ¬ (x6 = (0 : Int32)) then Option.bind (rdL zC s2.2 ((zrf zC ((zrf zC (v_program) 0)) 0)) (s2.1)) (fun x8 => Option.bind ((f_X2_writeName s2.2 (k0) (x8))) (fun w9 => Option.bind (rdI zC w9 ((zrf zC (v_solution) 0)) (s2.1)) (fun x10 => Option.bind ((f_X2_writeObjects w9 (k0) ((zrf zC (v_program) 1)) (x10))) (fun w11 => Option.bind ((f_X2_writeByte w11 (k0) ((59 : Int32)))) (fun w12 => some w12))))) else some s2.2)) (fun s5 => some (.inl ((s2.1 + (1 : Int32)), s5))) else some (.inr s2.2)
def f_X2_write (w : Wd) (k0 : Nat) (v_program : Nat) (v_solution : Nat) : Option (Wd) := Option.bind (some (wsI w (k0) 1 ((0 : Int32)))) (fun w1 => Option.bind (lp (b_X2_write_1 v_program v_solution k0) NF ((0 : Int32), w1)) (fun r3 => some (r3)))

def f_X9_dumped (w : Wd) (k0 : Nat) : Option (Nat × Wd) := Option.bind (Option.bind (rdB (w.1 (k0) 10)) (fun x2 => if x2 = true then Option.bind (rdD zC w (k0) 1 6) (fun x4 => Option.bind ((f_X2_write w ((zrf zC (k0) 8)) (x4) ((zrf zC (k0) 6)))) (fun w5 => Option.bind (some (wsI w5 (k0) 10 (bI (false)))) (fun w6 => some w6))) else some w)) (fun s1 => some (((zrf zC (k0) 8), s1)))

def f_X9_dumpLength (w : Wd) (k0 : Nat) : Option (Int32 × Wd) := Option.bind ((f_X9_dumped w (k0))) (fun x1 => some (((x1.2.1 (x1.1) 1), x1.2)))

def f_X9_dumpByte (w : Wd) (k0 : Nat) (v_index : Int32) : Option (Int32 × Wd) := Option.bind ((f_X9_dumped w (k0))) (fun x1 => Option.bind (if (v_index < (0 : Int32)) ∨ ((x1.2.1 (x1.1) 1) ≤ v_index) then some (-1 : Int32) else Option.bind (rdI zC x1.2 ((zrf zC (x1.1) 0)) (v_index)) (fun x7 => some x7)) (fun x3 => some ((x3, x1.2))))

def f_X6_mayStandAt (w : Wd) (k0 : Nat) (v_kind : Int32) (v_position : Int32) (v_number : Int32) : Option (Bool) := Option.bind ((f_X9_typeAt w (v_kind) (v_position))) (fun x1 => if x1 = (0 : Int32) then some ((decide (((0 : Int32) ≤ v_number) ∧ (v_number < (w.1 ((zrf zC (k0) 0)) 2))))) else if x1 = (1 : Int32) then some ((decide (((0 : Int32) ≤ v_number) ∧ (v_number < (w.1 ((zrf zC (k0) 1)) 2))))) else if x1 = (2 : Int32) then some ((decide (((0 : Int32) ≤ v_number) ∧ (v_number < (w.1 ((zrf zC (k0) 2)) 2))))) else some ((decide (v_number = (-2 : Int32)))))

def f_X3_push (w : Wd) (k0 : Nat) (v_change : Int32) : Option (Wd) := Option.bind (wrI zC w ((zrf zC (k0) 0)) ((w.1 (k0) 1)) (v_change)) (fun w1 => Option.bind (some (wsI w1 (k0) 1 ((jrem (((w1.1 (k0) 1) + (1 : Int32))) ((12 : Int32)))))) (fun w2 => Option.bind (some (wsI w2 (k0) 2 ((if (12 : Int32) < ((w2.1 (k0) 2) + (1 : Int32)) then (12 : Int32) else ((w2.1 (k0) 2) + (1 : Int32)))))) (fun w3 => some (w3))))

def f_X9_addConstraint (w : Wd) (k0 : Nat) (v_kind : Int32) (v_first : Int32) (v_second : Int32) (v_third : Int32) : Option (Int32 × Wd) := Option.bind (if v_kind < (0 : Int32) then some true else if (4 : Int32) < v_kind then some true else Option.bind (rdD zC w (k0) 1 6) (fun x5 => Option.bind ((f_X6_mayStandAt w (x5) (v_kind) ((0 : Int32)) (v_first))) (fun x6 => if x6 = true then Option.bind (rdD zC w (k0) 1 6) (fun x8 => Option.bind ((f_X6_mayStandAt w (x8) (v_kind) ((1 : Int32)) (v_second))) (fun x9 => if x9 = true then Option.bind (rdD zC w (k0) 1 6) (fun x11 => Option.bind ((f_X6_mayStandAt w (x11) (v_kind) ((2 : Int32)) (v_third))) (fun x12 => if x12 = true then some false else some true)) else some true)) else some true))) (fun b1 => if b1 = true then some (((-1 : Int32), w)) else Option.bind (rdD zC w (k0) 1 6) (fun x13 => if (f_X0_isFull w ((zrf zC (x13) 6))) = true then some (((-2 : Int32), w)) else Option.bind (rdD zC w (k0) 1 6) (fun x15 => Option.bind ((f_X0_add w ((zrf zC (x15) 6)) (v_kind) (v_first) (v_second) (v_third))) (fun w16 => Option.bind ((f_X3_push w16 ((zrf zC (k0) 3)) ((-1 : Int32)))) (fun w17 => Option.bind ((f_X9_settle w17 (k0))) (fun w18 => Option.bind (rdD zC w18 (k0) 1 6) (fun x19 => some ((((w18.1 ((zrf zC (x19) 6)) 4) - (1 : Int32)), w18)))))))))

def f_X0_toggle (w : Wd) (k0 : Nat) (v_constraint : Int32) : Option (Wd) := Option.bind (some (wsI w (k0) 5 (((w.1 (k0) 5) ^^^ (jshl ((1 : Int32)) (v_constraint)))))) (fun w1 => some (w1))

def f_X9_setEnabled (w : Wd) (k0 : Nat) (v_constraint : Int32) (v_enabled : Bool) : Option (Bool × Wd) := Option.bind (Option.bind ((f_X9_isConstraint w (k0) (v_constraint))) (fun x3 => if x3 = true then Option.bind (rdD zC w (k0) 1 6) (fun x5 => if (f_X0_isEnabled w ((zrf zC (x5) 6)) (v_constraint)) = v_enabled then some true else some false) else some true)) (fun b1 => if b1 = true then some ((false, w)) else Option.bind (rdD zC w (k0) 1 6) (fun x6 => Option.bind ((f_X0_toggle w ((zrf zC (x6) 6)) (v_constraint))) (fun w7 => Option.bind ((f_X3_push w7 ((zrf zC (k0) 3)) (v_constraint))) (fun w8 => Option.bind ((f_X9_settle w8 (k0))) (fun w9 => some ((true, w9)))))))

def f_X3_pop (w : Wd) (k0 : Nat) : Option (Int32 × Wd) := Option.bind (some (wsI w (k0) 1 ((jrem ((((w.1 (k0) 1) + (12 : Int32)) - (1 : Int32))) ((12 : Int32)))))) (fun w1 => Option.bind (some (wsI w1 (k0) 2 (((w1.1 (k0) 2) - (1 : Int32))))) (fun w2 => Option.bind (rdI zC w2 ((zrf zC (k0) 0)) ((w2.1 (k0) 1))) (fun x3 => some ((x3, w2)))))

def f_X0_removeLast (w : Wd) (k0 : Nat) : Option (Wd) := Option.bind (if (0 : Int32) < (w.1 (k0) 4) then Option.bind (some (wsI w (k0) 4 (((w.1 (k0) 4) - (1 : Int32))))) (fun w3 => Option.bind (some (wsI w3 (k0) 5 (((w3.1 (k0) 5) &&& ((jshl ((1 : Int32)) ((w3.1 (k0) 4))) ^^^ (-1 : Int32)))))) (fun w4 => some w4)) else some w) (fun s1 => some (s1))

def f_X9_undo (w : Wd) (k0 : Nat) : Option (Int32 × Wd) := if (w.1 ((zrf zC (k0) 3)) 2) = (0 : Int32) then some (((-2 : Int32), w)) else Option.bind ((f_X3_pop w ((zrf zC (k0) 3)))) (fun x2 => Option.bind (if x2.1 = (-1 : Int32) then Option.bind (rdD zC x2.2 (k0) 1 6) (fun x7 => Option.bind ((f_X0_removeLast x2.2 ((zrf zC (x7) 6)))) (fun w8 => some w8)) else Option.bind (rdD zC x2.2 (k0) 1 6) (fun x5 => Option.bind ((f_X0_toggle x2.2 ((zrf zC (x5) 6)) (x2.1))) (fun w6 => some w6))) (fun s3 => Option.bind ((f_X9_settle s3 (k0))) (fun w9 => some (((w9.1 ((zrf zC (k0) 3)) 2), w9)))))

def f_X9_undoDepth (w : Wd) (k0 : Nat) : Int32 := (w.1 ((zrf zC (k0) 3)) 2)

def f_X0_copyFrom (w : Wd) (k0 : Nat) (v_other : Nat) : Option (Wd) := Option.bind (cpI zC w ((zrf zC (v_other) 0)) ((zrf zC (k0) 0)) ((30 : Int32))) (fun w1 => Option.bind (cpI zC w1 ((zrf zC (v_other) 1)) ((zrf zC (k0) 1)) ((30 : Int32))) (fun w2 => Option.bind (cpI zC w2 ((zrf zC (v_other) 2)) ((zrf zC (k0) 2)) ((30 : Int32))) (fun w3 => Option.bind (cpI zC w3 ((zrf zC (v_other) 3)) ((zrf zC (k0) 3)) ((30 : Int32))) (fun w4 => Option.bind (some (wsI w4 (k0) 4 ((w4.1 (v_other) 4)))) (fun w5 => Option.bind (some (wsI w5 (k0) 5 ((w5.1 (v_other) 5)))) (fun w6 => some (w6)))))))

def f_X9_saveSnapshot (w : Wd) (k0 : Nat) (v_slot : Int32) : Option (Bool × Wd) := if (v_slot < (0 : Int32)) ∨ ((2 : Int32) ≤ v_slot) then some ((false, w)) else Option.bind (rdQ zC ((zrf zC (k0) 4)) (v_slot) 0) (fun x4 => Option.bind (rdD zC w (k0) 1 6) (fun x5 => Option.bind ((f_X0_copyFrom w (x4) ((zrf zC (x5) 6)))) (fun w6 => Option.bind (some (wsI w6 (k0) 5 (((w6.1 (k0) 5) ||| (jshl ((1 : Int32)) (v_slot)))))) (fun w7 => some ((true, w7))))))

def f_X9_restoreSnapshot (w : Wd) (k0 : Nat) (v_slot : Int32) : Option (Bool × Wd) := if ((v_slot < (0 : Int32)) ∨ ((2 : Int32) ≤ v_slot)) ∨ (¬ ((f_X9_contains ((w.1 (k0) 5)) (v_slot)) = true)) then some ((false, w)) else Option.bind (rdD zC w (k0) 1 6) (fun x5 => Option.bind (rdQ zC ((zrf zC (k0) 4)) (v_slot) 0) (fun x6 => Option.bind ((f_X0_copyFrom w ((zrf zC (x5) 6)) (x6))) (fun w7 => Option.bind ((f_X3_clear w7 ((zrf zC (k0) 3)))) (fun w8 => Option.bind ((f_X9_settle w8 (k0))) (fun w9 => some ((true, w9)))))))

def f_X0_operandAt (w : Wd) (k0 : Nat) (v_constraint : Int32) (v_position : Int32) : Option (Int32) := if v_position = (0 : Int32) then Option.bind (rdI zC w ((zrf zC (k0) 1)) (v_constraint)) (fun x2 => some (x2)) else if v_position = (1 : Int32) then Option.bind (rdI zC w ((zrf zC (k0) 2)) (v_constraint)) (fun x4 => some (x4)) else Option.bind (rdI zC w ((zrf zC (k0) 3)) (v_constraint)) (fun x5 => some (x5))

def f_X10_thrown (w : Wd) (k0 : Nat) : Int32 := (w.1 (k0) 0)

def f_X10_within (v_v : Int64) (v_low : Int64) (v_high : Int64) : Bool := (decide ((v_low ≤ v_v) ∧ (v_v ≤ v_high)))

def f_X10_has (v_set : Int32) (v_k : Int32) : Bool := (decide (((jshr (v_set) (v_k)) &&& (1 : Int32)) = (1 : Int32)))

def f_X10_hasBit (v_set : Int64) (v_k : Int32) : Bool := (decide (((jlshr (v_set) (v_k)) &&& (1 : Int64)) = (1 : Int64)))

def b_X10_size_1 (s1 : Int32 × Int32) : Option ((Int32 × Int32) ⊕ (Int32)) := if ¬ (s1.2 = (0 : Int32)) then some (.inl ((s1.1 + (1 : Int32)), (s1.2 &&& (s1.2 - (1 : Int32))))) else some (.inr s1.1)
def f_X10_size (v_set : Int32) : Option (Int32) := Option.bind (lp b_X10_size_1 NF ((0 : Int32), v_set)) (fun r2 => some (r2))

def b_X10_appendInt_1 (k0 : Nat) (v_v : Int32) (s1 : Int32 × Wd) : Option ((Int32 × Wd) ⊕ (Wd)) := if (0 : Int32) ≤ s1.1 then Option.bind (wrI zM s1.2 ((zrf zM (k0) 1)) ((s1.2.1 (k0) 2)) (jbyte ((jbyte ((jshr (v_v) (s1.1))))))) (fun w4 => Option.bind (some (wsI w4 (k0) 2 (((w4.1 (k0) 2) + (1 : Int32))))) (fun w5 => some (.inl ((s1.1 + (-8 : Int32)), w5)))) else some (.inr s1.2)
def f_X10_appendInt (w : Wd) (k0 : Nat) (v_v : Int32) : Option (Wd) := Option.bind (lp (b_X10_appendInt_1 k0 v_v) NF ((24 : Int32), w)) (fun r2 => some (r2))

def f_X10_append (w : Wd) (k0 : Nat) (v_a : Int32) (v_b : Int32) (v_c : Int32) (v_d : Int32) (v_e : Int32) : Option (Int32 × Wd) := Option.bind (some (wsI w (k0) 0 ((0 : Int32)))) (fun w1 => if (600 : Int32) < ((w1.1 (k0) 2) + (20 : Int32)) then some (((-1 : Int32), w1)) else Option.bind ((f_X10_appendInt w1 (k0) (v_a))) (fun w3 => Option.bind ((f_X10_appendInt w3 (k0) (v_b))) (fun w4 => Option.bind ((f_X10_appendInt w4 (k0) (v_c))) (fun w5 => Option.bind ((f_X10_appendInt w5 (k0) (v_d))) (fun w6 => Option.bind ((f_X10_appendInt w6 (k0) (v_e))) (fun w7 => some (((w7.1 (k0) 2), w7))))))))

def f_X10_bufferLength (w : Wd) (k0 : Nat) : Option (Int32 × Wd) := Option.bind (some (wsI w (k0) 0 ((0 : Int32)))) (fun w1 => some (((w1.1 (k0) 2), w1)))

def f_X10_byteAt (w : Wd) (k0 : Nat) (v_k : Int32) : Option (Int32) := Option.bind (if v_k < (w.1 (k0) 3) then Option.bind (rdI zM w ((zrf zM (k0) 1)) (v_k)) (fun x4 => some (x4 &&& (255 : Int32))) else some (-1 : Int32)) (fun x2 => some (x2))

def b_X10_nextToken_1 (k0 : Nat) (s2 : Wd) : Option ((Wd) ⊕ (Wd)) := Option.bind (Option.bind ((f_X10_byteAt s2 (k0) ((s2.1 (k0) 4)))) (fun x6 => if x6 = (32 : Int32) then some true else Option.bind ((f_X10_byteAt s2 (k0) ((s2.1 (k0) 4)))) (fun x8 => if x8 = (10 : Int32) then some true else some false))) (fun b4 => if b4 = true then Option.bind (some (wsI s2 (k0) 4 (((s2.1 (k0) 4) + (1 : Int32))))) (fun w9 => some (.inl w9)) else some (.inr s2))
def b_X10_nextToken_2 (k0 : Nat) (s21 : Wd) : Option ((Wd) ⊕ (Wd)) := Option.bind ((f_X10_byteAt s21 (k0) ((s21.1 (k0) 5)))) (fun x23 => if (f_X10_within ((x23).toInt64) ((97 : Int64)) ((122 : Int64))) = true then Option.bind (if ((s21.1 (k0) 5) - (s21.1 (k0) 4)) < (6 : Int32) then Option.bind ((f_X10_byteAt s21 (k0) ((s21.1 (k0) 5)))) (fun x28 => some ((jlshl ((s21.2.1 (k0) 7)) ((5 : Int32))) ||| ((x28).toInt64 - (96 : Int64)))) else some (s21.2.1 (k0) 7)) (fun x26 => Option.bind (some (wsL s21 (k0) 7 (x26))) (fun w29 => Option.bind (some (wsI w29 (k0) 5 (((w29.1 (k0) 5) + (1 : Int32))))) (fun w30 => some (.inl w30)))) else some (.inr s21))
def f_X10_nextToken (w : Wd) (k0 : Nat) : Option (Wd) := Option.bind (some (wsI w (k0) 4 ((w.1 (k0) 5)))) (fun w1 => Option.bind (lp (b_X10_nextToken_1 k0) NF w1) (fun r3 => Option.bind ((f_X10_byteAt r3 (k0) ((r3.1 (k0) 4)))) (fun x10 => Option.bind (some (wsI r3 (k0) 5 (((r3.1 (k0) 4) + (1 : Int32))))) (fun w11 => Option.bind (some (wsI w11 (k0) 6 ((3 : Int32)))) (fun w12 => Option.bind (some (wsL w12 (k0) 7 ((0 : Int64)))) (fun w13 => Option.bind (if x10 = (-1 : Int32) then Option.bind (some (wsI w13 (k0) 5 ((w13.1 (k0) 4)))) (fun w35 => Option.bind (some (wsI w35 (k0) 6 ((0 : Int32)))) (fun w36 => some w36)) else Option.bind (if x10 = (59 : Int32) then Option.bind (some (wsI w13 (k0) 6 ((2 : Int32)))) (fun w34 => some w34) else Option.bind (if (f_X10_within ((x10).toInt64) ((97 : Int64)) ((122 : Int64))) = true then Option.bind (some (wsI w13 (k0) 5 ((w13.1 (k0) 4)))) (fun w20 => Option.bind (lp (b_X10_nextToken_2 k0) NF w20) (fun r22 => Option.bind (some (wsI r22 (k0) 6 ((if (6 : Int32) < ((r22.1 (k0) 5) - (r22.1 (k0) 4)) then (3 : Int32) else (1 : Int32))))) (fun w33 => some w33))) else some w13) (fun s18 => some s18)) (fun s16 => some s16)) (fun s14 => some (s14))))))))

def f_X10_must (w : Wd) (k0 : Nat) (v_condition : Bool) (v_kind : Int32) : Option (Bool × Wd) := Option.bind (if ((w.1 (k0) 8) = (0 : Int32)) ∧ (¬ (v_condition = true)) then Option.bind (some (wsI w (k0) 8 (v_kind))) (fun w5 => Option.bind (some (wsI w5 (k0) 9 ((w5.1 (k0) 4)))) (fun w6 => some w6)) else some w) (fun s1 => some (((decide ((s1.1 (k0) 8) = (0 : Int32))), s1)))

def b_X10_coded_1 (v_w : Nat) (s1 : Int64 × Int32) : Option ((Int64 × Int32) ⊕ (Int64)) := if s1.2 < (nI (kwLen.getD (v_w) 0)) then Option.bind (rdS (kwCh (v_w)) (kwLen.getD (v_w) 0) (s1.2)) (fun x4 => some (.inl (((jlshl (s1.1) ((5 : Int32))) ||| ((x4).toInt64 - (96 : Int64))), (s1.2 + (1 : Int32))))) else some (.inr s1.1)
def f_X10_coded (v_w : Nat) : Option (Int64) := Option.bind (lp (b_X10_coded_1 v_w) NF ((0 : Int64), (0 : Int32))) (fun r2 => some (r2))

def f_X10_is (w : Wd) (k0 : Nat) (v_w : Nat) : Option (Bool) := Option.bind (if (w.1 (k0) 8) = (0 : Int32) then if (w.1 (k0) 6) = (1 : Int32) then Option.bind ((f_X10_coded (v_w))) (fun x6 => if (w.2.1 (k0) 7) = x6 then some true else some false) else some false else some false) (fun b2 => some (b2))

def f_X10_keyword (w : Wd) (k0 : Nat) : Option (Int32) := Option.bind (Option.bind ((f_X10_is w (k0) (0))) (fun x3 => if x3 = true then some (0 : Int32) else Option.bind (Option.bind ((f_X10_is w (k0) (1))) (fun x7 => if x7 = true then some (1 : Int32) else Option.bind (Option.bind ((f_X10_is w (k0) (2))) (fun x11 => if x11 = true then some (2 : Int32) else Option.bind (Option.bind ((f_X10_is w (k0) (3))) (fun x15 => if x15 = true then some (3 : Int32) else Option.bind (Option.bind ((f_X10_is w (k0) (4))) (fun x19 => if x19 = true then some (4 : Int32) else Option.bind ((f_X10_is w (k0) (5))) (fun x22 => some (if x22 = true then (5 : Int32) else (-1 : Int32))))) (fun x18 => some x18))) (fun x14 => some x14))) (fun x10 => some x10))) (fun x6 => some x6))) (fun x2 => some (x2))

def b_X10_identifier_1 (x6 : Bool × Wd) (v_many : Nat) (v_names : Nat) (k0 : Nat) (s8 : Int32) : Option ((Int32) ⊕ (Int32)) := Option.bind (Option.bind (rdI zM x6.2 (v_many) ((1 : Int32))) (fun x12 => if s8 < x12 then Option.bind (rdL zM x6.2 (v_names) (((jdiv ((nI (zln zM (v_names)))) ((2 : Int32))) + s8))) (fun x14 => if ¬ (x14 = (x6.2.2.1 (k0) 7)) then some true else some false) else some false)) (fun b10 => if b10 = true then some (.inl (s8 + (1 : Int32))) else some (.inr s8))
def f_X10_identifier (w : Wd) (k0 : Nat) (v_names : Nat) (v_many : Nat) (v_most : Int32) : Option (Int32 × Wd) := Option.bind (if (w.1 (k0) 6) = (1 : Int32) then Option.bind ((f_X10_keyword w (k0))) (fun x5 => if x5 < (0 : Int32) then some true else some false) else some false) (fun b2 => Option.bind ((f_X10_must w (k0) (b2) ((1 : Int32)))) (fun x6 => if ¬ (x6.1 = true) then some (((0 : Int32), x6.2)) else Option.bind (lp (b_X10_identifier_1 x6 v_many v_names k0) NF (0 : Int32)) (fun r9 => Option.bind (show Option ((Wd) ⊕ (Int32 × Wd)) from Option.bind (rdI zM x6.2 (v_many) ((1 : Int32))) (fun x16 => if r9 = x16 then Option.bind (rdI zM x6.2 (v_many) ((1 : Int32))) (fun x19 => Option.bind ((f_X10_must x6.2 (k0) ((decide (x19 < v_most))) ((3 : Int32)))) (fun x21 => if ¬ (x21.1 = true) then some (.inr ((0 : Int32), x21.2)) else Option.bind (wrL zM x21.2 (v_names) (((jdiv ((nI (zln zM (v_names)))) ((2 : Int32))) + r9)) ((x21.2.2.1 (k0) 7))) (fun w23 => Option.bind (rdI zM w23 (v_many) ((1 : Int32))) (fun x24 => Option.bind (wrI zM w23 (v_many) ((1 : Int32)) ((x24 + (1 : Int32)))) (fun w25 => some (.inl w25)))))) else some (.inl x6.2))) (fun s15 => match s15 with | .inl s15x => Option.bind ((f_X10_nextToken s15x (k0))) (fun w26 => some ((r9, w26))) | .inr q => some q))))

def f_X10_variable (w : Wd) (k0 : Nat) : Option (Int32 × Wd) := Option.bind ((f_X10_identifier w (k0) ((zrf zM (k0) 13)) ((zrf zM (k0) 10)) ((16 : Int32)))) (fun x1 => some ((x1.1, x1.2)))

def f_X10_object (w : Wd) (k0 : Nat) : Option (Int32 × Wd) := Option.bind (rdI zM w ((zrf zM (k0) 11)) ((1 : Int32))) (fun x1 => Option.bind ((f_X10_identifier w (k0) ((zrf zM (k0) 14)) ((zrf zM (k0) 11)) ((10 : Int32)))) (fun x2 => Option.bind (Option.bind (rdI zM x2.2 ((zrf zM (k0) 11)) ((1 : Int32))) (fun x4 => if x1 < x4 then Option.bind (wrI zM x2.2 ((zrf zM (k0) 16)) (((10 : Int32) + x2.1)) ((-2 : Int32))) (fun w6 => Option.bind (wrI zM w6 ((zrf zM (k0) 17)) (((10 : Int32) + x2.1)) ((-2 : Int32))) (fun w7 => some w7)) else some x2.2)) (fun s3 => some ((x2.1, s3)))))

def f_X10_field (w : Wd) (k0 : Nat) : Option (Int32 × Wd) := Option.bind ((f_X10_identifier w (k0) ((zrf zM (k0) 15)) ((zrf zM (k0) 12)) ((4 : Int32)))) (fun x1 => some ((x1.1, x1.2)))

def b_X10_function_1 (w1 : Wd) (k0 : Nat) (s7 : Bool × Int32) : Option ((Bool × Int32) ⊕ (Bool)) := Option.bind (rdI zM w1 ((zrf zM (k0) 11)) ((1 : Int32))) (fun x9 => if s7.2 < x9 then Option.bind (Option.bind (rdL zM w1 ((zrf zM (k0) 14)) (((10 : Int32) + s7.2))) (fun x14 => if x14 = (w1.2.1 (k0) 7) then Option.bind (rdI zM w1 ((zrf zM (k0) 16)) (((10 : Int32) + s7.2))) (fun x16 => if ¬ (x16 = (-2 : Int32)) then some true else some false) else some false)) (fun b12 => some (.inl ((s7.1 || b12), (s7.2 + (1 : Int32))))) else some (.inr s7.1))
def f_X10_function (w : Wd) (k0 : Nat) : Option (Wd) := Option.bind ((f_X10_nextToken w (k0))) (fun w1 => Option.bind (if (w1.1 (k0) 6) = (1 : Int32) then Option.bind ((f_X10_keyword w1 (k0))) (fun x6 => if x6 < (0 : Int32) then some true else some false) else some false) (fun b3 => Option.bind (lp (b_X10_function_1 w1 k0) NF (false, (0 : Int32))) (fun r8 => Option.bind (if b3 = true then Option.bind ((f_X10_must w1 (k0) ((decide (¬ (r8 = true)))) ((2 : Int32)))) (fun x22 => if x22.1 = true then some (false, x22.2) else some (true, x22.2)) else some (false, w1)) (fun b17 => if b17.1 = true then some (b17.2) else Option.bind ((f_X10_object b17.2 (k0))) (fun x23 => Option.bind ((f_X10_variable x23.2 (k0))) (fun x24 => Option.bind ((f_X10_variable x24.2 (k0))) (fun x25 => if ¬ ((x25.2.1 (k0) 8) = (0 : Int32)) then some (x25.2) else Option.bind (wrI zM x25.2 ((zrf zM (k0) 16)) (((10 : Int32) + x23.1)) (x24.1)) (fun w27 => Option.bind (wrI zM w27 ((zrf zM (k0) 17)) (((10 : Int32) + x23.1)) (x25.1)) (fun w28 => some (w28))))))))))

def f_X10_constraint (w : Wd) (k0 : Nat) (v_kind : Int32) : Option (Wd) := Option.bind (rdI zM w ((zrf zM (k0) 19)) ((0 : Int32))) (fun x2 => Option.bind ((f_X10_must w (k0) ((decide (x2 < (30 : Int32)))) ((3 : Int32)))) (fun x4 => if ¬ (x4.1 = true) then some (x4.2) else Option.bind ((f_X10_nextToken x4.2 (k0))) (fun w6 => Option.bind (rdI zM w6 ((zrf zM (k0) 19)) ((0 : Int32))) (fun x7 => Option.bind (wrI zM w6 ((zrf zM (k0) 19)) (((2 : Int32) + ((4 : Int32) * x7))) (v_kind)) (fun w8 => Option.bind ((f_X10_variable w8 (k0))) (fun x9 => Option.bind (wrI zM x9.2 ((zrf zM (k0) 19)) ((((2 : Int32) + ((4 : Int32) * x7)) + (1 : Int32))) (x9.1)) (fun w10 => Option.bind (if v_kind = (0 : Int32) then Option.bind ((f_X10_object w10 (k0))) (fun x19 => some (x19.1, x19.2)) else Option.bind (if v_kind = (3 : Int32) then Option.bind ((f_X10_field w10 (k0))) (fun x18 => some (x18.1, x18.2)) else Option.bind ((f_X10_variable w10 (k0))) (fun x17 => some (x17.1, x17.2))) (fun x15 => some (x15.1, x15.2))) (fun x12 => Option.bind (wrI zM x12.2 ((zrf zM (k0) 19)) ((((2 : Int32) + ((4 : Int32) * x7)) + (2 : Int32))) (x12.1)) (fun w20 => Option.bind (if v_kind = (2 : Int32) then Option.bind ((f_X10_field w20 (k0))) (fun x30 => some (x30.1, x30.2)) else Option.bind (if (v_kind = (3 : Int32)) ∨ (v_kind = (4 : Int32)) then Option.bind ((f_X10_variable w20 (k0))) (fun x29 => some (x29.1, x29.2)) else some ((-2 : Int32), w20)) (fun x25 => some (x25.1, x25.2))) (fun x22 => Option.bind (wrI zM x22.2 ((zrf zM (k0) 19)) ((((2 : Int32) + ((4 : Int32) * x7)) + (3 : Int32))) (x22.1)) (fun w31 => Option.bind (rdI zM w31 ((zrf zM (k0) 19)) ((0 : Int32))) (fun x32 => Option.bind (wrI zM w31 ((zrf zM (k0) 19)) ((0 : Int32)) ((x32 + (1 : Int32)))) (fun w33 => some (w33))))))))))))))

def f_X10_allOf (v_n : Int32) : Int32 := ((jshl ((1 : Int32)) (v_n)) - (1 : Int32))

def b_X10_adoptNames_1 (v_names : Nat) (s1 : Int32 × Wd) : Option ((Int32 × Wd) ⊕ (Wd)) := if s1.1 < (jdiv ((nI (zln zM (v_names)))) ((2 : Int32))) then Option.bind (rdL zM s1.2 (v_names) (((jdiv ((nI (zln zM (v_names)))) ((2 : Int32))) + s1.1))) (fun x4 => Option.bind (wrL zM s1.2 (v_names) (s1.1) (x4)) (fun w5 => some (.inl ((s1.1 + (1 : Int32)), w5)))) else some (.inr s1.2)
def f_X10_adoptNames (w : Wd) (v_names : Nat) : Option (Wd) := Option.bind (lp (b_X10_adoptNames_1 v_names) NF ((0 : Int32), w)) (fun r2 => some (r2))

def b_X10_adopt_1 (k0 : Nat) (s10 : Int32 × Wd) : Option ((Int32 × Wd) ⊕ (Wd)) := if s10.1 < (10 : Int32) then Option.bind (rdI zM s10.2 ((zrf zM (k0) 16)) (((10 : Int32) + s10.1))) (fun x13 => Option.bind (wrI zM s10.2 ((zrf zM (k0) 16)) (s10.1) (x13)) (fun w14 => Option.bind (rdI zM w14 ((zrf zM (k0) 17)) (((10 : Int32) + s10.1))) (fun x15 => Option.bind (wrI zM w14 ((zrf zM (k0) 17)) (s10.1) (x15)) (fun w16 => some (.inl ((s10.1 + (1 : Int32)), w16)))))) else some (.inr s10.2)
def b_X10_adopt_2 (k0 : Nat) (s17 : Int32 × Wd) : Option ((Int32 × Wd) ⊕ (Wd)) := if s17.1 < (122 : Int32) then Option.bind (rdI zM s17.2 ((zrf zM (k0) 19)) (s17.1)) (fun x20 => Option.bind (wrI zM s17.2 ((zrf zM (k0) 18)) (s17.1) (x20)) (fun w21 => some (.inl ((s17.1 + (1 : Int32)), w21)))) else some (.inr s17.2)
def f_X10_adopt (w : Wd) (k0 : Nat) : Option (Wd) := Option.bind (rdI zM w ((zrf zM (k0) 10)) ((1 : Int32))) (fun x1 => Option.bind (wrI zM w ((zrf zM (k0) 10)) ((0 : Int32)) (x1)) (fun w2 => Option.bind (rdI zM w2 ((zrf zM (k0) 11)) ((1 : Int32))) (fun x3 => Option.bind (wrI zM w2 ((zrf zM (k0) 11)) ((0 : Int32)) (x3)) (fun w4 => Option.bind (rdI zM w4 ((zrf zM (k0) 12)) ((1 : Int32))) (fun x5 => Option.bind (wrI zM w4 ((zrf zM (k0) 12)) ((0 : Int32)) (x5)) (fun w6 => Option.bind ((f_X10_adoptNames w6 ((zrf zM (k0) 13)))) (fun w7 => Option.bind ((f_X10_adoptNames w7 ((zrf zM (k0) 14)))) (fun w8 => Option.bind ((f_X10_adoptNames w8 ((zrf zM (k0) 15)))) (fun w9 => Option.bind (lp (b_X10_adopt_1 k0) NF ((0 : Int32), w9)) (fun r11 => Option.bind (lp (b_X10_adopt_2 k0) NF ((0 : Int32), r11)) (fun r18 => Option.bind (some (wsI r18 (k0) 21 ((0 : Int32)))) (fun w22 => Option.bind (wrI zM w22 ((zrf zM (k0) 23)) ((0 : Int32)) (bI (false))) (fun w23 => Option.bind (wrI zM w23 ((zrf zM (k0) 23)) ((1 : Int32)) (bI (false))) (fun w24 => some (w24)))))))))))))))

def f_X10_isEnabled (w : Wd) (k0 : Nat) (v_c : Int32) : Option (Bool) := Option.bind (rdI zM w ((zrf zM (k0) 18)) ((1 : Int32))) (fun x1 => some ((f_X10_has (x1) (v_c))))

def f_X10_kind (w : Wd) (k0 : Nat) (v_c : Int32) : Option (Int32) := Option.bind (rdI zM w ((zrf zM (k0) 18)) (((2 : Int32) + ((4 : Int32) * v_c)))) (fun x1 => some (x1))

def f_X10_add (w : Wd) (k0 : Nat) (v_index : Int32) (v_objectsToAdd : Int32) : Option (Wd) := Option.bind (rdI zM w ((zrf zM (k0) 24)) (v_index)) (fun x1 => Option.bind (wrI zM w ((zrf zM (k0) 24)) (v_index) ((x1 ||| v_objectsToAdd))) (fun w2 => some (w2)))

def f_X10_first (w : Wd) (k0 : Nat) (v_c : Int32) : Option (Int32) := Option.bind (rdI zM w ((zrf zM (k0) 18)) (((3 : Int32) + ((4 : Int32) * v_c)))) (fun x1 => some (x1))

def f_X10_second (w : Wd) (k0 : Nat) (v_c : Int32) : Option (Int32) := Option.bind (rdI zM w ((zrf zM (k0) 18)) (((4 : Int32) + ((4 : Int32) * v_c)))) (fun x1 => some (x1))

def f_X10_fieldIndex (v_o : Int32) (v_f : Int32) : Int32 := (((16 : Int32) + ((4 : Int32) * v_o)) + v_f)

def f_X10_third (w : Wd) (k0 : Nat) (v_c : Int32) : Option (Int32) := Option.bind (rdI zM w ((zrf zM (k0) 18)) (((5 : Int32) + ((4 : Int32) * v_c)))) (fun x1 => some (x1))

def f_X10_isFunction (w : Wd) (k0 : Nat) (v_o : Int32) : Option (Bool) := Option.bind (rdI zM w ((zrf zM (k0) 16)) (v_o)) (fun x2 => some ((decide (¬ (x2 = (-2 : Int32))))))

def b_X10_apply_1 (k0 : Nat) (v_c : Int32) (s13 : Int32 × Wd) : Option ((Int32 × Wd) ⊕ (Wd)) := Option.bind (rdI zM s13.2 ((zrf zM (k0) 11)) ((0 : Int32))) (fun x15 => if s13.1 < x15 then Option.bind (Option.bind ((f_X10_second s13.2 (k0) (v_c))) (fun x18 => Option.bind (rdI zM s13.2 ((zrf zM (k0) 25)) (x18)) (fun x19 => if (f_X10_has (x19) (s13.1)) = true then Option.bind ((f_X10_first s13.2 (k0) (v_c))) (fun x21 => Option.bind ((f_X10_third s13.2 (k0) (v_c))) (fun x22 => Option.bind (rdI zM s13.2 ((zrf zM (k0) 25)) ((f_X10_fieldIndex (s13.1) (x22)))) (fun x23 => Option.bind ((f_X10_add s13.2 (k0) (x21) (x23))) (fun w24 => some w24)))) else some s13.2))) (fun s17 => some (.inl ((s13.1 + (1 : Int32)), s17))) else some (.inr s13.2))
def b_X10_apply_2 (k0 : Nat) (v_c : Int32) (s26 : Int32 × Wd) : Option ((Int32 × Wd) ⊕ (Wd)) := Option.bind (rdI zM s26.2 ((zrf zM (k0) 11)) ((0 : Int32))) (fun x28 => if s26.1 < x28 then Option.bind (Option.bind ((f_X10_first s26.2 (k0) (v_c))) (fun x31 => Option.bind (rdI zM s26.2 ((zrf zM (k0) 25)) (x31)) (fun x32 => if (f_X10_has (x32) (s26.1)) = true then Option.bind ((f_X10_second s26.2 (k0) (v_c))) (fun x34 => Option.bind ((f_X10_third s26.2 (k0) (v_c))) (fun x35 => Option.bind (rdI zM s26.2 ((zrf zM (k0) 25)) (x35)) (fun x36 => Option.bind ((f_X10_add s26.2 (k0) ((f_X10_fieldIndex (s26.1) (x34))) (x36))) (fun w37 => some w37)))) else some s26.2))) (fun s30 => some (.inl ((s26.1 + (1 : Int32)), s30))) else some (.inr s26.2))
def b_X10_apply_3 (k0 : Nat) (v_c : Int32) (s38 : Int32 × Wd) : Option ((Int32 × Wd) ⊕ (Wd)) := Option.bind (rdI zM s38.2 ((zrf zM (k0) 11)) ((0 : Int32))) (fun x40 => if s38.1 < x40 then Option.bind (Option.bind ((f_X10_second s38.2 (k0) (v_c))) (fun x44 => Option.bind (rdI zM s38.2 ((zrf zM (k0) 25)) (x44)) (fun x45 => if (f_X10_has (x45) (s38.1)) = true then Option.bind ((f_X10_isFunction s38.2 (k0) (s38.1))) (fun x47 => if x47 = true then some false else some true) else some true))) (fun b42 => if b42 = true then some (.inl ((s38.1 + (1 : Int32)), s38.2)) else Option.bind (rdI zM s38.2 ((zrf zM (k0) 16)) (s38.1)) (fun x48 => Option.bind ((f_X10_third s38.2 (k0) (v_c))) (fun x49 => Option.bind (rdI zM s38.2 ((zrf zM (k0) 25)) (x49)) (fun x50 => Option.bind ((f_X10_add s38.2 (k0) (x48) (x50))) (fun w51 => Option.bind ((f_X10_first w51 (k0) (v_c))) (fun x52 => Option.bind (rdI zM w51 ((zrf zM (k0) 17)) (s38.1)) (fun x53 => Option.bind (rdI zM w51 ((zrf zM (k0) 25)) (x53)) (fun x54 => Option.bind ((f_X10_add w51 (k0) (x52) (x54))) (fun w55 => some (.inl ((s38.1 + (1 : Int32)), w55))))))))))) else some (.inr s38.2))
def f_X10_apply (w : Wd) (k0 : Nat) (v_c : Int32) : Option (Wd) := Option.bind ((f_X10_kind w (k0) (v_c))) (fun x2 => Option.bind (if x2 = (0 : Int32) then Option.bind ((f_X10_first w (k0) (v_c))) (fun x4 => Option.bind ((f_X10_second w (k0) (v_c))) (fun x5 => Option.bind ((f_X10_add w (k0) (x4) ((jshl ((1 : Int32)) (x5))))) (fun w6 => some w6))) else if x2 = (1 : Int32) then Option.bind ((f_X10_first w (k0) (v_c))) (fun x8 => Option.bind ((f_X10_second w (k0) (v_c))) (fun x9 => Option.bind (rdI zM w ((zrf zM (k0) 25)) (x9)) (fun x10 => Option.bind ((f_X10_add w (k0) (x8) (x10))) (fun w11 => some w11)))) else if x2 = (2 : Int32) then Option.bind (lp (b_X10_apply_1 k0 v_c) NF ((0 : Int32), w)) (fun r14 => some r14) else if x2 = (3 : Int32) then Option.bind (lp (b_X10_apply_2 k0 v_c) NF ((0 : Int32), w)) (fun r27 => some r27) else Option.bind (lp (b_X10_apply_3 k0 v_c) NF ((0 : Int32), w)) (fun r39 => some r39)) (fun s1 => some (s1)))

def b_X10_solve_1 (k0 : Nat) (s1 : Int32 × Wd) : Option ((Int32 × Wd) ⊕ (Wd)) := if s1.1 < (56 : Int32) then Option.bind (wrI zM s1.2 ((zrf zM (k0) 24)) (s1.1) ((0 : Int32))) (fun w4 => some (.inl ((s1.1 + (1 : Int32)), w4))) else some (.inr s1.2)
def b_X10_solve_3 (k0 : Nat) (s9 : Int32 × Wd) : Option ((Int32 × Wd) ⊕ (Wd)) := if s9.1 < (56 : Int32) then Option.bind (rdI zM s9.2 ((zrf zM (k0) 24)) (s9.1)) (fun x12 => Option.bind (wrI zM s9.2 ((zrf zM (k0) 25)) (s9.1) (x12)) (fun w13 => some (.inl ((s9.1 + (1 : Int32)), w13)))) else some (.inr s9.2)
def b_X10_solve_4 (k0 : Nat) (s14 : Int32 × Wd) : Option ((Int32 × Wd) ⊕ (Wd)) := Option.bind (rdI zM s14.2 ((zrf zM (k0) 18)) ((0 : Int32))) (fun x16 => if s14.1 < x16 then Option.bind (Option.bind ((f_X10_isEnabled s14.2 (k0) (s14.1))) (fun x19 => if x19 = true then Option.bind ((f_X10_apply s14.2 (k0) (s14.1))) (fun w21 => some w21) else some s14.2)) (fun s18 => some (.inl ((s14.1 + (1 : Int32)), s18))) else some (.inr s14.2))
def b_X10_solve_6 (x25 : Int32) (x26 : Int32) (k0 : Nat) (s22 : Bool × Int32 × Wd) (s28 : Int32 × Wd) : Option ((Int32 × Wd) ⊕ (Wd)) := if s28.1 < (10 : Int32) then Option.bind (if (f_X10_has ((x25 &&& (x26 ^^^ (-1 : Int32)))) (s28.1)) = true then Option.bind (wrI zM s28.2 ((zrf zM (k0) 26)) ((((10 : Int32) * s22.2.1) + s28.1)) (((s28.2.1 (k0) 27) + (1 : Int32)))) (fun w33 => some w33) else some s28.2) (fun s31 => some (.inl ((s28.1 + (1 : Int32)), s31))) else some (.inr s28.2)
def b_X10_solve_5 (k0 : Nat) (s22 : Bool × Int32 × Wd) : Option ((Bool × Int32 × Wd) ⊕ (Bool × Wd)) := if s22.2.1 < (56 : Int32) then Option.bind (rdI zM s22.2.2 ((zrf zM (k0) 24)) (s22.2.1)) (fun x25 => Option.bind (rdI zM s22.2.2 ((zrf zM (k0) 25)) (s22.2.1)) (fun x26 => if (x25 &&& (x26 ^^^ (-1 : Int32))) = (0 : Int32) then some (.inl (s22.1, (s22.2.1 + (1 : Int32)), s22.2.2)) else Option.bind (lp (b_X10_solve_6 x25 x26 k0 s22) NF ((0 : Int32), s22.2.2)) (fun r29 => some (.inl (true, (s22.2.1 + (1 : Int32)), r29))))) else some (.inr (s22.1, s22.2.2))
def b_X10_solve_2 (k0 : Nat) (s6 : Bool × Wd) : Option ((Bool × Wd) ⊕ (Bool × Wd)) := if s6.1 = true then Option.bind (lp (b_X10_solve_3 k0) NF ((0 : Int32), s6.2)) (fun r10 => Option.bind (lp (b_X10_solve_4 k0) NF ((0 : Int32), r10)) (fun r15 => Option.bind (lp (b_X10_solve_5 k0) NF (false, (0 : Int32), r15)) (fun r23 => Option.bind (some (wsI r23.2 (k0) 27 (((r23.2.1 (k0) 27) + (if r23.1 = true then (1 : Int32) else (0 : Int32)))))) (fun w36 => some (.inl (r23.1, w36)))))) else some (.inr (s6.1, s6.2))
def f_X10_solve (w : Wd) (k0 : Nat) : Option (Wd) := Option.bind (lp (b_X10_solve_1 k0) NF ((0 : Int32), w)) (fun r2 => Option.bind (some (wsI r2 (k0) 27 ((0 : Int32)))) (fun w5 => Option.bind (lp (b_X10_solve_2 k0) NF (true, w5)) (fun r7 => some (r7.2))))

def b_X10_parse_1 (k0 : Nat) (s12 : Wd) : Option ((Wd) ⊕ (Wd)) := if ((s12.1 (k0) 8) = (0 : Int32)) ∧ (¬ ((s12.1 (k0) 6) = (0 : Int32))) then Option.bind ((f_X10_keyword s12 (k0))) (fun x17 => Option.bind (if x17 = (5 : Int32) then Option.bind ((f_X10_function s12 (k0))) (fun w26 => some w26) else Option.bind (Option.bind ((f_X10_must s12 (k0) ((decide ((0 : Int32) ≤ x17))) ((1 : Int32)))) (fun x23 => if x23.1 = true then Option.bind ((f_X10_constraint x23.2 (k0) (x17))) (fun w25 => some w25) else some x23.2)) (fun s20 => some s20)) (fun s18 => Option.bind (Option.bind ((f_X10_must s18 (k0) ((decide ((s18.1 (k0) 6) = (2 : Int32)))) ((1 : Int32)))) (fun x30 => if x30.1 = true then Option.bind ((f_X10_nextToken x30.2 (k0))) (fun w32 => some w32) else some x30.2)) (fun s27 => some (.inl s27)))) else some (.inr s12)
def f_X10_parse (w : Wd) (k0 : Nat) (v_n : Int32) : Option (Int32 × Wd) := Option.bind (some (wsI w (k0) 0 ((0 : Int32)))) (fun w1 => if ¬ ((f_X10_within ((v_n).toInt64) ((0 : Int64)) (((w1.1 (k0) 2)).toInt64)) = true) then some (((-1 : Int32), w1)) else Option.bind (some (wsI w1 (k0) 3 (v_n))) (fun w3 => Option.bind (some (wsI w3 (k0) 2 ((0 : Int32)))) (fun w4 => Option.bind (some (wsI w4 (k0) 5 ((0 : Int32)))) (fun w5 => Option.bind (some (wsI w5 (k0) 8 ((0 : Int32)))) (fun w6 => Option.bind (wrI zM w6 ((zrf zM (k0) 10)) ((1 : Int32)) ((0 : Int32))) (fun w7 => Option.bind (wrI zM w7 ((zrf zM (k0) 11)) ((1 : Int32)) ((0 : Int32))) (fun w8 => Option.bind (wrI zM w8 ((zrf zM (k0) 12)) ((1 : Int32)) ((0 : Int32))) (fun w9 => Option.bind (wrI zM w9 ((zrf zM (k0) 19)) ((0 : Int32)) ((0 : Int32))) (fun w10 => Option.bind ((f_X10_nextToken w10 (k0))) (fun w11 => Option.bind (lp (b_X10_parse_1 k0) NF w11) (fun r13 => if ¬ ((r13.1 (k0) 8) = (0 : Int32)) then some ((((-2 : Int32) - (((8 : Int32) * (r13.1 (k0) 9)) + (r13.1 (k0) 8))), r13)) else Option.bind (rdI zM r13 ((zrf zM (k0) 19)) ((0 : Int32))) (fun x34 => Option.bind (wrI zM r13 ((zrf zM (k0) 19)) ((1 : Int32)) ((f_X10_allOf (x34)))) (fun w35 => Option.bind ((f_X10_adopt w35 (k0))) (fun w36 => Option.bind ((f_X10_solve w36 (k0))) (fun w37 => Option.bind (rdI zM w37 ((zrf zM (k0) 18)) ((0 : Int32))) (fun x38 => some ((x38, w37))))))))))))))))))

def f_X10_variableCount (w : Wd) (k0 : Nat) : Option (Int32 × Wd) := Option.bind (some (wsI w (k0) 0 ((0 : Int32)))) (fun w1 => Option.bind (rdI zM w1 ((zrf zM (k0) 10)) ((0 : Int32))) (fun x2 => some ((x2, w1))))

def f_X10_objectCount (w : Wd) (k0 : Nat) : Option (Int32 × Wd) := Option.bind (some (wsI w (k0) 0 ((0 : Int32)))) (fun w1 => Option.bind (rdI zM w1 ((zrf zM (k0) 11)) ((0 : Int32))) (fun x2 => some ((x2, w1))))

def f_X10_fieldCount (w : Wd) (k0 : Nat) : Option (Int32 × Wd) := Option.bind (some (wsI w (k0) 0 ((0 : Int32)))) (fun w1 => Option.bind (rdI zM w1 ((zrf zM (k0) 12)) ((0 : Int32))) (fun x2 => some ((x2, w1))))

def f_X10_constraintCount (w : Wd) (k0 : Nat) : Option (Int32 × Wd) := Option.bind (some (wsI w (k0) 0 ((0 : Int32)))) (fun w1 => Option.bind (rdI zM w1 ((zrf zM (k0) 18)) ((0 : Int32))) (fun x2 => some ((x2, w1))))

def f_X10_enabledConstraints (w : Wd) (k0 : Nat) : Option (Int32 × Wd) := Option.bind (some (wsI w (k0) 0 ((0 : Int32)))) (fun w1 => Option.bind (rdI zM w1 ((zrf zM (k0) 18)) ((1 : Int32))) (fun x2 => some ((x2, w1))))

def b_X10_functionSet_1 (w : Wd) (k0 : Nat) (s1 : Int32 × Int32) : Option ((Int32 × Int32) ⊕ (Int32)) := Option.bind (rdI zM w ((zrf zM (k0) 11)) ((0 : Int32))) (fun x3 => if s1.2 < x3 then Option.bind ((f_X10_isFunction w (k0) (s1.2))) (fun x6 => some (.inl ((s1.1 ||| (if x6 = true then (jshl ((1 : Int32)) (s1.2)) else (0 : Int32))), (s1.2 + (1 : Int32))))) else some (.inr s1.1))
def f_X10_functionSet (w : Wd) (k0 : Nat) : Option (Int32) := Option.bind (lp (b_X10_functionSet_1 w k0) NF ((0 : Int32), (0 : Int32))) (fun r2 => some (r2))

def f_X10_functions (w : Wd) (k0 : Nat) : Option (Int32 × Wd) := Option.bind (some (wsI w (k0) 0 ((0 : Int32)))) (fun w1 => Option.bind ((f_X10_functionSet w1 (k0))) (fun x2 => some ((x2, w1))))

def f_X10_isConstraint (w : Wd) (k0 : Nat) (v_c : Int32) : Option (Bool) := Option.bind (rdI zM w ((zrf zM (k0) 18)) ((0 : Int32))) (fun x1 => some ((f_X10_within ((v_c).toInt64) ((0 : Int64)) (((x1 - (1 : Int32))).toInt64))))

def f_X10_isObject (w : Wd) (k0 : Nat) (v_o : Int32) : Option (Bool) := Option.bind (rdI zM w ((zrf zM (k0) 11)) ((0 : Int32))) (fun x1 => some ((f_X10_within ((v_o).toInt64) ((0 : Int64)) (((x1 - (1 : Int32))).toInt64))))

def f_X10_isVariable (w : Wd) (k0 : Nat) (v_v : Int32) : Option (Bool) := Option.bind (rdI zM w ((zrf zM (k0) 10)) ((0 : Int32))) (fun x1 => some ((f_X10_within ((v_v).toInt64) ((0 : Int64)) (((x1 - (1 : Int32))).toInt64))))

def f_X10_isField (w : Wd) (k0 : Nat) (v_f : Int32) : Option (Bool) := Option.bind (rdI zM w ((zrf zM (k0) 12)) ((0 : Int32))) (fun x1 => some ((f_X10_within ((v_f).toInt64) ((0 : Int64)) (((x1 - (1 : Int32))).toInt64))))

def f_X10_kindOf (w : Wd) (k0 : Nat) (v_c : Int32) : Option (Int32 × Wd) := Option.bind ((f_X10_isConstraint w (k0) (v_c))) (fun x2 => Option.bind (some (wsI w (k0) 0 ((if x2 = true then (0 : Int32) else (1 : Int32))))) (fun w4 => Option.bind (if (w4.1 (k0) 0) = (0 : Int32) then Option.bind ((f_X10_kind w4 (k0) (v_c))) (fun x8 => some x8) else some (0 : Int32)) (fun x6 => some ((x6, w4)))))

def f_X10_operand (w : Wd) (k0 : Nat) (v_c : Int32) (v_position : Int32) : Option (Int32 × Wd) := Option.bind ((f_X10_isConstraint w (k0) (v_c))) (fun x2 => Option.bind (some (wsI w (k0) 0 ((if (x2 = true) ∧ ((f_X10_within ((v_position).toInt64) ((0 : Int64)) ((2 : Int64))) = true) then (0 : Int32) else (1 : Int32))))) (fun w5 => Option.bind (if (w5.1 (k0) 0) = (0 : Int32) then Option.bind (rdI zM w5 ((zrf zM (k0) 18)) ((((3 : Int32) + ((4 : Int32) * v_c)) + v_position))) (fun x9 => some x9) else some (0 : Int32)) (fun x7 => some ((x7, w5)))))

def f_X10_parameterOf (w : Wd) (k0 : Nat) (v_o : Int32) : Option (Int32 × Wd) := Option.bind (some (wsI w (k0) 0 ((0 : Int32)))) (fun w1 => Option.bind (Option.bind ((f_X10_isObject w1 (k0) (v_o))) (fun x4 => if x4 = true then Option.bind (rdI zM w1 ((zrf zM (k0) 16)) (v_o)) (fun x6 => some x6) else some (-1 : Int32))) (fun x3 => some ((x3, w1))))

def f_X10_resultOf (w : Wd) (k0 : Nat) (v_o : Int32) : Option (Int32 × Wd) := Option.bind (some (wsI w (k0) 0 ((0 : Int32)))) (fun w1 => Option.bind (Option.bind ((f_X10_isObject w1 (k0) (v_o))) (fun x4 => if x4 = true then Option.bind (rdI zM w1 ((zrf zM (k0) 17)) (v_o)) (fun x6 => some x6) else some (-1 : Int32))) (fun x3 => some ((x3, w1))))

def f_X10_indexOf (w : Wd) (k0 : Nat) (v_location : Int32) : Option (Int32) := Option.bind ((f_X10_isVariable w (k0) (v_location))) (fun x1 => if x1 = true then some (v_location) else Option.bind (Option.bind (if (0 : Int32) ≤ (v_location - (100 : Int32)) then Option.bind ((f_X10_isObject w (k0) ((jdiv ((v_location - (100 : Int32))) ((4 : Int32)))))) (fun x8 => if x8 = true then Option.bind ((f_X10_isField w (k0) ((jrem ((v_location - (100 : Int32))) ((4 : Int32)))))) (fun x10 => if x10 = true then some true else some false) else some false) else some false) (fun b5 => if b5 = true then some ((16 : Int32) + (v_location - (100 : Int32))) else some (-1 : Int32))) (fun x4 => some (x4)))

def f_X10_locationOf (v_index : Int32) : Int32 := (if v_index < (16 : Int32) then v_index else ((v_index - (16 : Int32)) + (100 : Int32)))

def f_X10_exists (w : Wd) (k0 : Nat) (v_index : Int32) : Option (Bool) := Option.bind (if v_index < (16 : Int32) then Option.bind ((f_X10_isVariable w (k0) (v_index))) (fun x10 => some x10) else Option.bind (Option.bind ((f_X10_isObject w (k0) ((jdiv ((v_index - (16 : Int32))) ((4 : Int32)))))) (fun x7 => if x7 = true then Option.bind ((f_X10_isField w (k0) ((jrem ((v_index - (16 : Int32))) ((4 : Int32)))))) (fun x9 => if x9 = true then some true else some false) else some false)) (fun b5 => some b5)) (fun x2 => some (x2))

def b_X10_facts_1 (w : Wd) (k0 : Nat) (s1 : Int32 × Int32) : Option ((Int32 × Int32) ⊕ (Int32)) := if s1.2 < (56 : Int32) then Option.bind (rdI zM w ((zrf zM (k0) 24)) (s1.2)) (fun x4 => Option.bind ((f_X10_size (x4))) (fun x5 => some (.inl ((s1.1 + x5), (s1.2 + (1 : Int32)))))) else some (.inr s1.1)
def f_X10_facts (w : Wd) (k0 : Nat) : Option (Int32) := Option.bind (lp (b_X10_facts_1 w k0) NF ((0 : Int32), (0 : Int32))) (fun r2 => some (r2))

def f_X10_factCount (w : Wd) (k0 : Nat) : Option (Int32 × Wd) := Option.bind (some (wsI w (k0) 0 ((0 : Int32)))) (fun w1 => Option.bind ((f_X10_facts w1 (k0))) (fun x2 => some ((x2, w1))))

def f_X10_roundCount (w : Wd) (k0 : Nat) : Option (Int32 × Wd) := Option.bind (some (wsI w (k0) 0 ((0 : Int32)))) (fun w1 => some (((w1.1 (k0) 27), w1)))

def f_X10_pointsTo (w : Wd) (k0 : Nat) (v_location : Int32) : Option (Int32 × Wd) := Option.bind (some (wsI w (k0) 0 ((0 : Int32)))) (fun w1 => Option.bind ((f_X10_indexOf w1 (k0) (v_location))) (fun x2 => Option.bind (if x2 < (0 : Int32) then some (-1 : Int32) else Option.bind (rdI zM w1 ((zrf zM (k0) 24)) (x2)) (fun x6 => some x6)) (fun x4 => some ((x4, w1)))))

def b_X10_pointersTo_1 (w1 : Wd) (k0 : Nat) (v_o : Int32) (s4 : Int32 × Int32) : Option ((Int32 × Int32) ⊕ (Int32)) := Option.bind (rdI zM w1 ((zrf zM (k0) 10)) ((0 : Int32))) (fun x6 => if s4.2 < x6 then Option.bind (rdI zM w1 ((zrf zM (k0) 24)) (s4.2)) (fun x9 => some (.inl ((s4.1 ||| (if (f_X10_has (x9) (v_o)) = true then (jshl ((1 : Int32)) (s4.2)) else (0 : Int32))), (s4.2 + (1 : Int32))))) else some (.inr s4.1))
def f_X10_pointersTo (w : Wd) (k0 : Nat) (v_o : Int32) : Option (Int32 × Wd) := Option.bind (some (wsI w (k0) 0 ((0 : Int32)))) (fun w1 => Option.bind ((f_X10_isObject w1 (k0) (v_o))) (fun x2 => if ¬ (x2 = true) then some (((-1 : Int32), w1)) else Option.bind (lp (b_X10_pointersTo_1 w1 k0 v_o) NF ((0 : Int32), (0 : Int32))) (fun r5 => some ((r5, w1)))))

def f_X10_commonObjects (w : Wd) (k0 : Nat) (v_a : Int32) (v_b : Int32) : Option (Int32 × Wd) := Option.bind (some (wsI w (k0) 0 ((0 : Int32)))) (fun w1 => Option.bind ((f_X10_indexOf w1 (k0) (v_a))) (fun x2 => Option.bind ((f_X10_indexOf w1 (k0) (v_b))) (fun x3 => Option.bind (if (x2 < (0 : Int32)) ∨ (x3 < (0 : Int32)) then some (-1 : Int32) else Option.bind (rdI zM w1 ((zrf zM (k0) 24)) (x2)) (fun x9 => Option.bind (rdI zM w1 ((zrf zM (k0) 24)) (x3)) (fun x10 => some (x9 &&& x10)))) (fun x5 => some ((x5, w1))))))

def b_X10_reachableObjects_3 (w1 : Wd) (k0 : Nat) (s4 : Int32 × Int32) (s7 : Int32 × Int32) (s11 : Int32 × Int32) : Option ((Int32 × Int32) ⊕ (Int32)) := Option.bind (rdI zM w1 ((zrf zM (k0) 12)) ((0 : Int32))) (fun x13 => if s11.2 < x13 then Option.bind (if (f_X10_has (s4.1) (s7.2)) = true then Option.bind (rdI zM w1 ((zrf zM (k0) 24)) ((f_X10_fieldIndex (s7.2) (s11.2)))) (fun x18 => some x18) else some (0 : Int32)) (fun x16 => some (.inl ((s11.1 ||| x16), (s11.2 + (1 : Int32))))) else some (.inr s11.1))
def b_X10_reachableObjects_2 (w1 : Wd) (k0 : Nat) (s4 : Int32 × Int32) (s7 : Int32 × Int32) : Option ((Int32 × Int32) ⊕ (Int32)) := Option.bind (rdI zM w1 ((zrf zM (k0) 11)) ((0 : Int32))) (fun x9 => if s7.2 < x9 then Option.bind (lp (b_X10_reachableObjects_3 w1 k0 s4 s7) NF (s7.1, (0 : Int32))) (fun r12 => some (.inl (r12, (s7.2 + (1 : Int32))))) else some (.inr s7.1))
def b_X10_reachableObjects_1 (w1 : Wd) (k0 : Nat) (s4 : Int32 × Int32) : Option ((Int32 × Int32) ⊕ (Int32 × Int32)) := if ¬ (s4.1 = s4.2) then Option.bind (lp (b_X10_reachableObjects_2 w1 k0 s4) NF (s4.1, (0 : Int32))) (fun r8 => some (.inl (r8, s4.1))) else some (.inr (s4.1, s4.2))
def f_X10_reachableObjects (w : Wd) (k0 : Nat) (v_object : Int32) : Option (Int32 × Wd) := Option.bind (some (wsI w (k0) 0 ((0 : Int32)))) (fun w1 => Option.bind ((f_X10_isObject w1 (k0) (v_object))) (fun x2 => if ¬ (x2 = true) then some (((-1 : Int32), w1)) else Option.bind (lp (b_X10_reachableObjects_1 w1 k0) NF ((jshl ((1 : Int32)) (v_object)), (0 : Int32))) (fun r5 => some ((r5.1, w1)))))

def f_X10_isFact (w : Wd) (k0 : Nat) (v_index : Int32) (v_o : Int32) : Option (Bool) := Option.bind (rdI zM w ((zrf zM (k0) 24)) (v_index)) (fun x1 => some ((f_X10_has (x1) (v_o))))

def f_X10_holdsBefore (w : Wd) (k0 : Nat) (v_index : Int32) (v_o : Int32) (v_round : Int32) : Option (Bool) := Option.bind (Option.bind ((f_X10_isFact w (k0) (v_index) (v_o))) (fun x4 => if x4 = true then Option.bind (rdB (w.1 (k0) 32)) (fun x6 => if x6 = true then Option.bind (rdI zM w ((zrf zM (k0) 26)) ((((10 : Int32) * v_index) + v_o))) (fun x8 => if x8 < v_round then some true else some false) else some true) else some false)) (fun b2 => some (b2))

def f_X10_note (w : Wd) (k0 : Nat) (v_c : Int32) (v_via : Int32) (v_supply : Int32) (v_source : Int32) (v_o : Int32) (v_round : Int32) : Option (Wd) := Option.bind (if (0 : Int32) ≤ v_supply then Option.bind ((f_X10_holdsBefore w (k0) (v_supply) (v_via) (v_round))) (fun x7 => if x7 = true then if (0 : Int32) ≤ v_source then Option.bind ((f_X10_holdsBefore w (k0) (v_source) (v_o) (v_round))) (fun x10 => if x10 = true then some false else some true) else some false else some true) else if (0 : Int32) ≤ v_source then Option.bind ((f_X10_holdsBefore w (k0) (v_source) (v_o) (v_round))) (fun x5 => if x5 = true then some false else some true) else some false) (fun b1 => if b1 = true then some (w) else Option.bind (if (w.1 (k0) 31) = (0 : Int32) then Option.bind (some (wsI w (k0) 28 (v_c))) (fun w13 => Option.bind (some (wsI w13 (k0) 29 (v_via))) (fun w14 => Option.bind (some (wsI w14 (k0) 30 (v_source))) (fun w15 => some w15))) else some w) (fun s11 => Option.bind (some (wsI s11 (k0) 31 (((s11.1 (k0) 31) + (1 : Int32))))) (fun w16 => some (w16))))

def f_X10_deriveCall (w : Wd) (k0 : Nat) (v_c : Int32) (v_via : Int32) (v_index : Int32) (v_o : Int32) (v_round : Int32) : Option (Wd) := Option.bind ((f_X10_isFunction w (k0) (v_via))) (fun x1 => if ¬ (x1 = true) then some (w) else Option.bind (Option.bind (rdI zM w ((zrf zM (k0) 16)) (v_via)) (fun x4 => if x4 = v_index then Option.bind ((f_X10_second w (k0) (v_c))) (fun x6 => Option.bind ((f_X10_third w (k0) (v_c))) (fun x7 => Option.bind ((f_X10_note w (k0) (v_c) (v_via) (x6) (x7) (v_o) (v_round))) (fun w8 => some w8))) else some w)) (fun s3 => Option.bind (Option.bind ((f_X10_first s3 (k0) (v_c))) (fun x10 => if x10 = v_index then Option.bind ((f_X10_second s3 (k0) (v_c))) (fun x12 => Option.bind (rdI zM s3 ((zrf zM (k0) 17)) (v_via)) (fun x13 => Option.bind ((f_X10_note s3 (k0) (v_c) (v_via) (x12) (x13) (v_o) (v_round))) (fun w14 => some w14))) else some s3)) (fun s9 => some (s9))))

def b_X10_derive_2 (k0 : Nat) (s4 : Int32 × Wd) (v_index : Int32) (v_o : Int32) (x3 : Int32) (s27 : Int32 × Wd) : Option ((Int32 × Wd) ⊕ (Wd)) := Option.bind (rdI zM s27.2 ((zrf zM (k0) 11)) ((0 : Int32))) (fun x29 => if s27.1 < x29 then Option.bind (Option.bind ((f_X10_first s27.2 (k0) (s4.1))) (fun x32 => if x32 = v_index then Option.bind ((f_X10_second s27.2 (k0) (s4.1))) (fun x34 => Option.bind ((f_X10_third s27.2 (k0) (s4.1))) (fun x35 => Option.bind ((f_X10_note s27.2 (k0) (s4.1) (s27.1) (x34) ((f_X10_fieldIndex (s27.1) (x35))) (v_o) (x3))) (fun w36 => some w36))) else some s27.2)) (fun s31 => some (.inl ((s27.1 + (1 : Int32)), s31))) else some (.inr s27.2))
def b_X10_derive_3 (k0 : Nat) (s4 : Int32 × Wd) (v_index : Int32) (v_o : Int32) (x3 : Int32) (s38 : Int32 × Wd) : Option ((Int32 × Wd) ⊕ (Wd)) := Option.bind (rdI zM s38.2 ((zrf zM (k0) 11)) ((0 : Int32))) (fun x40 => if s38.1 < x40 then Option.bind (Option.bind ((f_X10_second s38.2 (k0) (s4.1))) (fun x43 => if (f_X10_fieldIndex (s38.1) (x43)) = v_index then Option.bind ((f_X10_first s38.2 (k0) (s4.1))) (fun x45 => Option.bind ((f_X10_third s38.2 (k0) (s4.1))) (fun x46 => Option.bind ((f_X10_note s38.2 (k0) (s4.1) (s38.1) (x45) (x46) (v_o) (x3))) (fun w47 => some w47))) else some s38.2)) (fun s42 => some (.inl ((s38.1 + (1 : Int32)), s42))) else some (.inr s38.2))
def b_X10_derive_4 (k0 : Nat) (s4 : Int32 × Wd) (v_index : Int32) (v_o : Int32) (x3 : Int32) (s48 : Int32 × Wd) : Option ((Int32 × Wd) ⊕ (Wd)) := Option.bind (rdI zM s48.2 ((zrf zM (k0) 11)) ((0 : Int32))) (fun x50 => if s48.1 < x50 then Option.bind ((f_X10_deriveCall s48.2 (k0) (s4.1) (s48.1) (v_index) (v_o) (x3))) (fun w52 => some (.inl ((s48.1 + (1 : Int32)), w52))) else some (.inr s48.2))
def b_X10_derive_1 (k0 : Nat) (v_index : Int32) (v_o : Int32) (x3 : Int32) (s4 : Int32 × Wd) : Option ((Int32 × Wd) ⊕ (Wd)) := Option.bind (rdI zM s4.2 ((zrf zM (k0) 18)) ((0 : Int32))) (fun x6 => if s4.1 < x6 then Option.bind ((f_X10_isEnabled s4.2 (k0) (s4.1))) (fun x8 => if ¬ (x8 = true) then some (.inl ((s4.1 + (1 : Int32)), s4.2)) else Option.bind ((f_X10_kind s4.2 (k0) (s4.1))) (fun x11 => Option.bind (if x11 = (0 : Int32) then Option.bind (Option.bind (Option.bind ((f_X10_first s4.2 (k0) (s4.1))) (fun x16 => if x16 = v_index then Option.bind ((f_X10_second s4.2 (k0) (s4.1))) (fun x18 => if x18 = v_o then some true else some false) else some false)) (fun b14 => if b14 = true then Option.bind ((f_X10_note s4.2 (k0) (s4.1) ((-2 : Int32)) ((-1 : Int32)) ((-1 : Int32)) (v_o) (x3))) (fun w19 => some w19) else some s4.2)) (fun s13 => some s13) else if x11 = (1 : Int32) then Option.bind (Option.bind ((f_X10_first s4.2 (k0) (s4.1))) (fun x22 => if x22 = v_index then Option.bind ((f_X10_second s4.2 (k0) (s4.1))) (fun x24 => Option.bind ((f_X10_note s4.2 (k0) (s4.1) ((-2 : Int32)) ((-1 : Int32)) (x24) (v_o) (x3))) (fun w25 => some w25)) else some s4.2)) (fun s21 => some s21) else if x11 = (2 : Int32) then Option.bind (lp (b_X10_derive_2 k0 s4 v_index v_o x3) NF ((0 : Int32), s4.2)) (fun r28 => some r28) else if x11 = (3 : Int32) then Option.bind (lp (b_X10_derive_3 k0 s4 v_index v_o x3) NF ((0 : Int32), s4.2)) (fun r39 => some r39) else Option.bind (lp (b_X10_derive_4 k0 s4 v_index v_o x3) NF ((0 : Int32), s4.2)) (fun r49 => some r49)) (fun s10 => some (.inl ((s4.1 + (1 : Int32)), s10))))) else some (.inr s4.2))
def f_X10_derive (w : Wd) (k0 : Nat) (v_index : Int32) (v_o : Int32) (v_primary : Bool) : Option (Wd) := Option.bind (some (wsI w (k0) 32 (bI (v_primary)))) (fun w1 => Option.bind (some (wsI w1 (k0) 31 ((0 : Int32)))) (fun w2 => Option.bind (rdI zM w2 ((zrf zM (k0) 26)) ((((10 : Int32) * v_index) + v_o))) (fun x3 => Option.bind (lp (b_X10_derive_1 k0 v_index v_o x3) NF ((0 : Int32), w2)) (fun r5 => some (r5)))))

def f_X10_areValid (w : Wd) (k0 : Nat) (v_location : Int32) (v_o : Int32) : Option (Bool) := Option.bind (Option.bind ((f_X10_indexOf w (k0) (v_location))) (fun x4 => if (0 : Int32) ≤ x4 then Option.bind ((f_X10_isObject w (k0) (v_o))) (fun x6 => if x6 = true then some true else some false) else some false)) (fun b2 => some (b2))

def f_X10_roundOf (w : Wd) (k0 : Nat) (v_location : Int32) (v_o : Int32) : Option (Int32 × Wd) := Option.bind (some (wsI w (k0) 0 ((0 : Int32)))) (fun w1 => Option.bind ((f_X10_areValid w1 (k0) (v_location) (v_o))) (fun x2 => if ¬ (x2 = true) then some (((-1 : Int32), w1)) else Option.bind ((f_X10_indexOf w1 (k0) (v_location))) (fun x4 => Option.bind (Option.bind ((f_X10_isFact w1 (k0) (x4) (v_o))) (fun x7 => if x7 = true then Option.bind (rdI zM w1 ((zrf zM (k0) 26)) ((((10 : Int32) * x4) + v_o))) (fun x9 => some x9) else some (-2 : Int32))) (fun x6 => some ((x6, w1))))))

def f_X10_derivationCount (w : Wd) (k0 : Nat) (v_location : Int32) (v_o : Int32) : Option (Int32 × Wd) := Option.bind (some (wsI w (k0) 0 ((0 : Int32)))) (fun w1 => Option.bind ((f_X10_areValid w1 (k0) (v_location) (v_o))) (fun x2 => if ¬ (x2 = true) then some (((-1 : Int32), w1)) else Option.bind ((f_X10_indexOf w1 (k0) (v_location))) (fun x4 => Option.bind ((f_X10_isFact w1 (k0) (x4) (v_o))) (fun x5 => if ¬ (x5 = true) then some (((0 : Int32), w1)) else Option.bind ((f_X10_derive w1 (k0) (x4) (v_o) (false))) (fun w7 => some (((w7.1 (k0) 31), w7)))))))

def b_X10_explain_1 (k0 : Nat) (v_o : Int32) (v_step : Int32) (s2 : Int32 × Int32 × Wd) : Option ((Int32 × Int32 × Wd) ⊕ ((Int32 × Int32 × Wd) ⊕ (Int32 × Wd))) := if (0 : Int32) ≤ s2.1 then Option.bind ((f_X10_derive s2.2.2 (k0) (s2.1) (v_o) (true))) (fun w5 => if s2.2.1 = v_step then some (.inr (.inr (s2.2.1, w5))) else some (.inl ((w5.1 (k0) 30), (s2.2.1 + (1 : Int32)), w5))) else some (.inr (.inl (s2.1, s2.2.1, s2.2.2)))
def f_X10_explain (w : Wd) (k0 : Nat) (v_location : Int32) (v_o : Int32) (v_step : Int32) : Option (Int32 × Wd) := Option.bind ((f_X10_indexOf w (k0) (v_location))) (fun x1 => Option.bind (lp (b_X10_explain_1 k0 v_o v_step) NF (x1, (0 : Int32), w)) (fun r3 => match r3 with | .inl r3x => some ((r3x.2.1, r3x.2.2)) | .inr q => some q))

def f_X10_explanationLength (w : Wd) (k0 : Nat) (v_location : Int32) (v_o : Int32) : Option (Int32 × Wd) := Option.bind (some (wsI w (k0) 0 ((0 : Int32)))) (fun w1 => Option.bind ((f_X10_areValid w1 (k0) (v_location) (v_o))) (fun x2 => if ¬ (x2 = true) then some (((-1 : Int32), w1)) else Option.bind (Option.bind ((f_X10_indexOf w1 (k0) (v_location))) (fun x6 => Option.bind ((f_X10_isFact w1 (k0) (x6) (v_o))) (fun x7 => if x7 = true then Option.bind ((f_X10_explain w1 (k0) (v_location) (v_o) ((-2 : Int32)))) (fun x9 => some (x9.1, x9.2)) else some ((-2 : Int32), w1)))) (fun x5 => some ((x5.1, x5.2)))))

def f_X10_whyNoStep (w : Wd) (k0 : Nat) (v_location : Int32) (v_o : Int32) (v_step : Int32) : Option (Int32 × Wd) := Option.bind ((f_X10_areValid w (k0) (v_location) (v_o))) (fun x1 => if (¬ (x1 = true)) ∨ (v_step < (0 : Int32)) then some (((-1 : Int32), w)) else Option.bind ((f_X10_indexOf w (k0) (v_location))) (fun x5 => Option.bind ((f_X10_isFact w (k0) (x5) (v_o))) (fun x6 => if ¬ (x6 = true) then some (((-2 : Int32), w)) else Option.bind (Option.bind (Option.bind ((f_X10_explain w (k0) (v_location) (v_o) ((-2 : Int32)))) (fun x12 => if v_step < x12.1 then Option.bind ((f_X10_explain x12.2 (k0) (v_location) (v_o) (v_step))) (fun x14 => if x14.1 = v_step then some (true, x14.2) else some (false, x14.2)) else some (false, x12.2))) (fun b10 => if b10.1 = true then some ((0 : Int32), b10.2) else some ((-2 : Int32), b10.2))) (fun x9 => some ((x9.1, x9.2))))))

def f_X10_explanationConstraint (w : Wd) (k0 : Nat) (v_location : Int32) (v_o : Int32) (v_step : Int32) : Option (Int32 × Wd) := Option.bind (some (wsI w (k0) 0 ((0 : Int32)))) (fun w1 => Option.bind ((f_X10_whyNoStep w1 (k0) (v_location) (v_o) (v_step))) (fun x2 => some (((if ¬ (x2.1 = (0 : Int32)) then x2.1 else (x2.2.1 (k0) 28)), x2.2))))

def f_X10_explanationSource (w : Wd) (k0 : Nat) (v_location : Int32) (v_o : Int32) (v_step : Int32) : Option (Int32 × Wd) := Option.bind (some (wsI w (k0) 0 ((0 : Int32)))) (fun w1 => Option.bind ((f_X10_whyNoStep w1 (k0) (v_location) (v_o) (v_step))) (fun x2 => some (((if ¬ (x2.1 = (0 : Int32)) then x2.1 else (if (x2.2.1 (k0) 30) < (0 : Int32) then (-2 : Int32) else (f_X10_locationOf ((x2.2.1 (k0) 30))))), x2.2))))

def f_X10_explanationVia (w : Wd) (k0 : Nat) (v_location : Int32) (v_o : Int32) (v_step : Int32) : Option (Int32 × Wd) := Option.bind (some (wsI w (k0) 0 ((0 : Int32)))) (fun w1 => Option.bind ((f_X10_whyNoStep w1 (k0) (v_location) (v_o) (v_step))) (fun x2 => some (((if ¬ (x2.1 = (0 : Int32)) then x2.1 else (x2.2.1 (k0) 29)), x2.2))))

def f_X10_require (w : Wd) (k0 : Nat) (v_index : Int32) (v_o : Int32) : Option (Wd) := Option.bind (rdZ zM w ((zrf zM (k0) 34)) ((((10 : Int32) * v_index) + v_o))) (fun x1 => if x1 = true then some (w) else Option.bind (wrI zM w ((zrf zM (k0) 34)) ((((10 : Int32) * v_index) + v_o)) (bI (true))) (fun w3 => Option.bind (wrI zM w3 ((zrf zM (k0) 33)) ((w3.1 (k0) 35)) ((((10 : Int32) * v_index) + v_o))) (fun w4 => Option.bind (some (wsI w4 (k0) 35 (((w4.1 (k0) 35) + (1 : Int32))))) (fun w5 => some (w5)))))

def b_X10_proof_1 (k0 : Nat) (s7 : Int32 × Wd) : Option ((Int32 × Wd) ⊕ (Wd)) := if s7.1 < (560 : Int32) then Option.bind (wrI zM s7.2 ((zrf zM (k0) 34)) (s7.1) (bI (false))) (fun w10 => some (.inl ((s7.1 + (1 : Int32)), w10))) else some (.inr s7.2)
def b_X10_proof_2 (k0 : Nat) (s14 : Int32 × Int32 × Wd) : Option ((Int32 × Int32 × Wd) ⊕ (Int32 × Wd)) := if s14.2.1 < (s14.2.2.1 (k0) 35) then Option.bind (rdI zM s14.2.2 ((zrf zM (k0) 33)) (s14.2.1)) (fun x17 => Option.bind (rdI zM s14.2.2 ((zrf zM (k0) 33)) (s14.2.1)) (fun x18 => Option.bind ((f_X10_derive s14.2.2 (k0) ((jdiv (x18) ((10 : Int32)))) ((jrem (x17) ((10 : Int32)))) (true))) (fun w19 => Option.bind (if (0 : Int32) ≤ (w19.1 (k0) 30) then Option.bind ((f_X10_require w19 (k0) ((w19.1 (k0) 30)) ((jrem (x17) ((10 : Int32)))))) (fun w22 => some w22) else some w19) (fun s20 => Option.bind (if (0 : Int32) ≤ (s20.1 (k0) 29) then Option.bind (Option.bind ((f_X10_kind s20 (k0) ((s20.1 (k0) 28)))) (fun x27 => if x27 = (3 : Int32) then Option.bind ((f_X10_first s20 (k0) ((s20.1 (k0) 28)))) (fun x30 => some x30) else Option.bind ((f_X10_second s20 (k0) ((s20.1 (k0) 28)))) (fun x29 => some x29))) (fun x26 => Option.bind ((f_X10_require s20 (k0) (x26) ((s20.1 (k0) 29)))) (fun w31 => some w31)) else some s20) (fun s23 => some (.inl ((s14.1 ||| (jshl ((1 : Int32)) ((w19.1 (k0) 28)))), (s14.2.1 + (1 : Int32)), s23))))))) else some (.inr (s14.1, s14.2.2))
def f_X10_proof (w : Wd) (k0 : Nat) (v_location : Int32) (v_o : Int32) : Option (Int32 × Wd) := Option.bind (some (wsI w (k0) 0 ((0 : Int32)))) (fun w1 => Option.bind ((f_X10_areValid w1 (k0) (v_location) (v_o))) (fun x2 => if ¬ (x2 = true) then some (((-1 : Int32), w1)) else Option.bind ((f_X10_indexOf w1 (k0) (v_location))) (fun x4 => Option.bind ((f_X10_isFact w1 (k0) (x4) (v_o))) (fun x5 => if ¬ (x5 = true) then some (((0 : Int32), w1)) else Option.bind (lp (b_X10_proof_1 k0) NF ((0 : Int32), w1)) (fun r8 => Option.bind (some (wsI r8 (k0) 35 ((0 : Int32)))) (fun w11 => Option.bind ((f_X10_indexOf w11 (k0) (v_location))) (fun x12 => Option.bind ((f_X10_require w11 (k0) (x12) (v_o))) (fun w13 => Option.bind (lp (b_X10_proof_2 k0) NF ((0 : Int32), (0 : Int32), w13)) (fun r15 => some ((r15.1, r15.2)))))))))))

def f_X10_solveWith (w : Wd) (k0 : Nat) (v_enabled : Int32) : Option (Wd) := Option.bind (rdI zM w ((zrf zM (k0) 18)) ((1 : Int32))) (fun x1 => Option.bind (some (wsI w (k0) 36 (x1))) (fun w2 => Option.bind (wrI zM w2 ((zrf zM (k0) 18)) ((1 : Int32)) (v_enabled)) (fun w3 => Option.bind ((f_X10_solve w3 (k0))) (fun w4 => some (w4)))))

def f_X10_solveAgain (w : Wd) (k0 : Nat) : Option (Wd) := Option.bind (wrI zM w ((zrf zM (k0) 18)) ((1 : Int32)) ((w.1 (k0) 36))) (fun w1 => Option.bind ((f_X10_solve w1 (k0))) (fun w2 => some (w2)))

def f_X10_factsWith (w : Wd) (k0 : Nat) (v_enabled : Int32) : Option (Int32 × Wd) := Option.bind ((f_X10_solveWith w (k0) (v_enabled))) (fun w1 => Option.bind ((f_X10_facts w1 (k0))) (fun x2 => Option.bind ((f_X10_solveAgain w1 (k0))) (fun w3 => some ((x2, w3)))))

def b_X10_necessaryConstraints_1 (k0 : Nat) (x4 : Int32) (v_o : Int32) (s7 : Int32 × Int32 × Wd) : Option ((Int32 × Int32 × Wd) ⊕ (Int32 × Wd)) := Option.bind (rdI zM s7.2.2 ((zrf zM (k0) 18)) ((0 : Int32))) (fun x9 => if s7.2.1 < x9 then Option.bind ((f_X10_isEnabled s7.2.2 (k0) (s7.2.1))) (fun x11 => if ¬ (x11 = true) then some (.inl (s7.1, (s7.2.1 + (1 : Int32)), s7.2.2)) else Option.bind (rdI zM s7.2.2 ((zrf zM (k0) 18)) ((1 : Int32))) (fun x13 => Option.bind ((f_X10_solveWith s7.2.2 (k0) ((x13 &&& ((jshl ((1 : Int32)) (s7.2.1)) ^^^ (-1 : Int32)))))) (fun w14 => Option.bind ((f_X10_isFact w14 (k0) (x4) (v_o))) (fun x16 => Option.bind ((f_X10_solveAgain w14 (k0))) (fun w18 => some (.inl ((s7.1 ||| (if x16 = true then (0 : Int32) else (jshl ((1 : Int32)) (s7.2.1)))), (s7.2.1 + (1 : Int32)), w18))))))) else some (.inr (s7.1, s7.2.2)))
def f_X10_necessaryConstraints (w : Wd) (k0 : Nat) (v_location : Int32) (v_o : Int32) : Option (Int32 × Wd) := Option.bind (some (wsI w (k0) 0 ((0 : Int32)))) (fun w1 => Option.bind ((f_X10_areValid w1 (k0) (v_location) (v_o))) (fun x2 => if ¬ (x2 = true) then some (((-1 : Int32), w1)) else Option.bind ((f_X10_indexOf w1 (k0) (v_location))) (fun x4 => Option.bind ((f_X10_isFact w1 (k0) (x4) (v_o))) (fun x5 => if ¬ (x5 = true) then some (((0 : Int32), w1)) else Option.bind (lp (b_X10_necessaryConstraints_1 k0 x4 v_o) NF ((0 : Int32), (0 : Int32), w1)) (fun r8 => some ((r8.1, r8.2)))))))

def f_X10_edge (w : Wd) (k0 : Nat) (v_from : Int32) (v_to : Int32) : Option (Wd) := Option.bind (if ¬ (v_from = v_to) then Option.bind (rdL zM w ((zrf zM (k0) 37)) (v_from)) (fun x3 => Option.bind (wrL zM w ((zrf zM (k0) 37)) (v_from) ((x3 ||| (jlshl ((1 : Int64)) (v_to))))) (fun w4 => some w4)) else some w) (fun s1 => some (s1))

def b_X10_layEdges_1 (k0 : Nat) (s1 : Int32 × Wd) : Option ((Int32 × Wd) ⊕ (Wd)) := if s1.1 < (56 : Int32) then Option.bind (wrL zM s1.2 ((zrf zM (k0) 37)) (s1.1) ((0 : Int64))) (fun w4 => some (.inl ((s1.1 + (1 : Int32)), w4))) else some (.inr s1.2)
def b_X10_layEdges_3 (k0 : Nat) (s5 : Int32 × Wd) (s17 : Int32 × Wd) : Option ((Int32 × Wd) ⊕ (Wd)) := Option.bind (rdI zM s17.2 ((zrf zM (k0) 11)) ((0 : Int32))) (fun x19 => if s17.1 < x19 then Option.bind (Option.bind (Option.bind ((f_X10_kind s17.2 (k0) (s5.1))) (fun x24 => if x24 = (2 : Int32) then Option.bind ((f_X10_second s17.2 (k0) (s5.1))) (fun x26 => Option.bind (rdI zM s17.2 ((zrf zM (k0) 24)) (x26)) (fun x27 => if (f_X10_has (x27) (s17.1)) = true then some true else some false)) else some false)) (fun b22 => if b22 = true then Option.bind ((f_X10_third s17.2 (k0) (s5.1))) (fun x28 => Option.bind ((f_X10_first s17.2 (k0) (s5.1))) (fun x29 => Option.bind ((f_X10_edge s17.2 (k0) ((f_X10_fieldIndex (s17.1) (x28))) (x29))) (fun w30 => some w30))) else some s17.2)) (fun s21 => Option.bind (Option.bind (Option.bind ((f_X10_kind s21 (k0) (s5.1))) (fun x34 => if x34 = (3 : Int32) then Option.bind ((f_X10_first s21 (k0) (s5.1))) (fun x36 => Option.bind (rdI zM s21 ((zrf zM (k0) 24)) (x36)) (fun x37 => if (f_X10_has (x37) (s17.1)) = true then some true else some false)) else some false)) (fun b32 => if b32 = true then Option.bind ((f_X10_third s21 (k0) (s5.1))) (fun x38 => Option.bind ((f_X10_second s21 (k0) (s5.1))) (fun x39 => Option.bind ((f_X10_edge s21 (k0) (x38) ((f_X10_fieldIndex (s17.1) (x39))))) (fun w40 => some w40))) else some s21)) (fun s31 => Option.bind (Option.bind (Option.bind ((f_X10_kind s31 (k0) (s5.1))) (fun x44 => if x44 = (4 : Int32) then Option.bind ((f_X10_second s31 (k0) (s5.1))) (fun x46 => Option.bind (rdI zM s31 ((zrf zM (k0) 24)) (x46)) (fun x47 => if (f_X10_has (x47) (s17.1)) = true then Option.bind ((f_X10_isFunction s31 (k0) (s17.1))) (fun x49 => if x49 = true then some true else some false) else some false)) else some false)) (fun b42 => if b42 = true then Option.bind ((f_X10_third s31 (k0) (s5.1))) (fun x50 => Option.bind (rdI zM s31 ((zrf zM (k0) 16)) (s17.1)) (fun x51 => Option.bind ((f_X10_edge s31 (k0) (x50) (x51))) (fun w52 => Option.bind (rdI zM w52 ((zrf zM (k0) 17)) (s17.1)) (fun x53 => Option.bind ((f_X10_first w52 (k0) (s5.1))) (fun x54 => Option.bind ((f_X10_edge w52 (k0) (x53) (x54))) (fun w55 => some w55)))))) else some s31)) (fun s41 => some (.inl ((s17.1 + (1 : Int32)), s41))))) else some (.inr s17.2))
def b_X10_layEdges_2 (k0 : Nat) (s5 : Int32 × Wd) : Option ((Int32 × Wd) ⊕ (Wd)) := Option.bind (rdI zM s5.2 ((zrf zM (k0) 18)) ((0 : Int32))) (fun x7 => if s5.1 < x7 then Option.bind ((f_X10_isEnabled s5.2 (k0) (s5.1))) (fun x9 => if ¬ (x9 = true) then some (.inl ((s5.1 + (1 : Int32)), s5.2)) else Option.bind (Option.bind ((f_X10_kind s5.2 (k0) (s5.1))) (fun x12 => if x12 = (1 : Int32) then Option.bind ((f_X10_second s5.2 (k0) (s5.1))) (fun x14 => Option.bind ((f_X10_first s5.2 (k0) (s5.1))) (fun x15 => Option.bind ((f_X10_edge s5.2 (k0) (x14) (x15))) (fun w16 => some w16))) else some s5.2)) (fun s11 => Option.bind (lp (b_X10_layEdges_3 k0 s5) NF ((0 : Int32), s11)) (fun r18 => some (.inl ((s5.1 + (1 : Int32)), r18))))) else some (.inr s5.2))
def f_X10_layEdges (w : Wd) (k0 : Nat) : Option (Wd) := Option.bind (lp (b_X10_layEdges_1 k0) NF ((0 : Int32), w)) (fun r2 => Option.bind (lp (b_X10_layEdges_2 k0) NF ((0 : Int32), r2)) (fun r6 => some (r6)))

def b_X10_layReach_1 (k0 : Nat) (s2 : Int32 × Wd) : Option ((Int32 × Wd) ⊕ (Wd)) := if s2.1 < (56 : Int32) then Option.bind (rdL zM s2.2 ((zrf zM (k0) 37)) (s2.1)) (fun x5 => Option.bind (wrL zM s2.2 ((zrf zM (k0) 38)) (s2.1) ((x5 ||| (jlshl ((1 : Int64)) (s2.1))))) (fun w6 => some (.inl ((s2.1 + (1 : Int32)), w6)))) else some (.inr s2.2)
def b_X10_layReach_3 (k0 : Nat) (s7 : Int32 × Wd) (s10 : Int32 × Wd) : Option ((Int32 × Wd) ⊕ (Wd)) := if s10.1 < (56 : Int32) then Option.bind (Option.bind (rdL zM s10.2 ((zrf zM (k0) 38)) (s10.1)) (fun x14 => if (f_X10_hasBit (x14) (s7.1)) = true then Option.bind (rdL zM s10.2 ((zrf zM (k0) 38)) (s10.1)) (fun x16 => Option.bind (rdL zM s10.2 ((zrf zM (k0) 38)) (s7.1)) (fun x17 => Option.bind (wrL zM s10.2 ((zrf zM (k0) 38)) (s10.1) ((x16 ||| x17))) (fun w18 => some w18))) else some s10.2)) (fun s13 => some (.inl ((s10.1 + (1 : Int32)), s13))) else some (.inr s10.2)
def b_X10_layReach_2 (k0 : Nat) (s7 : Int32 × Wd) : Option ((Int32 × Wd) ⊕ (Wd)) := if s7.1 < (56 : Int32) then Option.bind (lp (b_X10_layReach_3 k0 s7) NF ((0 : Int32), s7.2)) (fun r11 => some (.inl ((s7.1 + (1 : Int32)), r11))) else some (.inr s7.2)
def f_X10_layReach (w : Wd) (k0 : Nat) : Option (Wd) := Option.bind ((f_X10_layEdges w (k0))) (fun w1 => Option.bind (lp (b_X10_layReach_1 k0) NF ((0 : Int32), w1)) (fun r3 => Option.bind (lp (b_X10_layReach_2 k0) NF ((0 : Int32), r3)) (fun r8 => some (r8))))

def f_X10_areTogether (w : Wd) (k0 : Nat) (v_a : Int32) (v_b : Int32) : Option (Bool) := Option.bind (Option.bind (rdL zM w ((zrf zM (k0) 38)) (v_a)) (fun x4 => if (f_X10_hasBit (x4) (v_b)) = true then Option.bind (rdL zM w ((zrf zM (k0) 38)) (v_b)) (fun x6 => if (f_X10_hasBit (x6) (v_a)) = true then some true else some false) else some false)) (fun b2 => some (b2))

def b_X10_lowest_1 (w : Wd) (k0 : Nat) (v_k : Int32) (s1 : Int32) : Option ((Int32) ⊕ (Int32)) := Option.bind ((f_X10_areTogether w (k0) (s1) (v_k))) (fun x3 => if ¬ (x3 = true) then some (.inl (s1 + (1 : Int32))) else some (.inr s1))
def f_X10_lowest (w : Wd) (k0 : Nat) (v_k : Int32) : Option (Int32) := Option.bind (lp (b_X10_lowest_1 w k0 v_k) NF (0 : Int32)) (fun r2 => some (r2))

def b_X10_sizeOf_1 (w : Wd) (k0 : Nat) (v_k : Int32) (s1 : Int32 × Int32) : Option ((Int32 × Int32) ⊕ (Int32)) := if s1.2 < (56 : Int32) then Option.bind ((f_X10_areTogether w (k0) (s1.2) (v_k))) (fun x5 => some (.inl ((s1.1 + (if x5 = true then (1 : Int32) else (0 : Int32))), (s1.2 + (1 : Int32))))) else some (.inr s1.1)
def f_X10_sizeOf (w : Wd) (k0 : Nat) (v_k : Int32) : Option (Int32) := Option.bind (lp (b_X10_sizeOf_1 w k0 v_k) NF ((0 : Int32), (0 : Int32))) (fun r2 => some (r2))

def b_X10_edgeCount_2 (w2 : Wd) (k0 : Nat) (s3 : Int32 × Int32) (s6 : Int32 × Int32) : Option ((Int32 × Int32) ⊕ (Int32)) := if s6.2 < (56 : Int32) then Option.bind (rdL zM w2 ((zrf zM (k0) 37)) (s3.2)) (fun x10 => some (.inl ((s6.1 + (if (f_X10_hasBit (x10) (s6.2)) = true then (1 : Int32) else (0 : Int32))), (s6.2 + (1 : Int32))))) else some (.inr s6.1)
def b_X10_edgeCount_1 (w2 : Wd) (k0 : Nat) (s3 : Int32 × Int32) : Option ((Int32 × Int32) ⊕ (Int32)) := if s3.2 < (56 : Int32) then Option.bind (lp (b_X10_edgeCount_2 w2 k0 s3) NF (s3.1, (0 : Int32))) (fun r7 => some (.inl (r7, (s3.2 + (1 : Int32))))) else some (.inr s3.1)
def f_X10_edgeCount (w : Wd) (k0 : Nat) : Option (Int32 × Wd) := Option.bind (some (wsI w (k0) 0 ((0 : Int32)))) (fun w1 => Option.bind ((f_X10_layEdges w1 (k0))) (fun w2 => Option.bind (lp (b_X10_edgeCount_1 w2 k0) NF ((0 : Int32), (0 : Int32))) (fun r4 => some ((r4, w2)))))

def f_X10_hasEdge (w : Wd) (k0 : Nat) (v_from : Int32) (v_to : Int32) : Option (Int32 × Wd) := Option.bind (some (wsI w (k0) 0 ((0 : Int32)))) (fun w1 => Option.bind ((f_X10_indexOf w1 (k0) (v_from))) (fun x2 => Option.bind ((f_X10_indexOf w1 (k0) (v_to))) (fun x3 => if ((x2 < (0 : Int32)) ∨ (x3 < (0 : Int32))) ∨ (x2 = x3) then some (((-1 : Int32), w1)) else Option.bind ((f_X10_layEdges w1 (k0))) (fun w8 => Option.bind (rdL zM w8 ((zrf zM (k0) 37)) (x2)) (fun x10 => some (((if (f_X10_hasBit (x10) (x3)) = true then (1 : Int32) else (0 : Int32)), w8)))))))

def b_X10_distance_2 (s8 : Int64 × Int32) (w7 : Wd) (k0 : Nat) (s12 : Int64 × Int32) : Option ((Int64 × Int32) ⊕ (Int64)) := if s12.2 < (56 : Int32) then Option.bind (if (f_X10_hasBit (s8.1) (s12.2)) = true then Option.bind (rdL zM w7 ((zrf zM (k0) 37)) (s12.2)) (fun x18 => some x18) else some (0 : Int64)) (fun x16 => some (.inl ((s12.1 ||| x16), (s12.2 + (1 : Int32))))) else some (.inr s12.1)
def b_X10_distance_1 (x3 : Int32) (w7 : Wd) (k0 : Nat) (s8 : Int64 × Int32) : Option ((Int64 × Int32) ⊕ ((Int64) ⊕ (Int32 × Wd))) := if s8.2 < (56 : Int32) then if (f_X10_hasBit (s8.1) (x3)) = true then some (.inr (.inr (s8.2, w7))) else Option.bind (lp (b_X10_distance_2 s8 w7 k0) NF (s8.1, (0 : Int32))) (fun r13 => some (.inl (r13, (s8.2 + (1 : Int32))))) else some (.inr (.inl s8.1))
def f_X10_distance (w : Wd) (k0 : Nat) (v_from : Int32) (v_to : Int32) : Option (Int32 × Wd) := Option.bind (some (wsI w (k0) 0 ((0 : Int32)))) (fun w1 => Option.bind ((f_X10_indexOf w1 (k0) (v_from))) (fun x2 => Option.bind ((f_X10_indexOf w1 (k0) (v_to))) (fun x3 => if (x2 < (0 : Int32)) ∨ (x3 < (0 : Int32)) then some (((-1 : Int32), w1)) else Option.bind ((f_X10_layEdges w1 (k0))) (fun w7 => Option.bind (lp (b_X10_distance_1 x3 w7 k0) NF ((jlshl ((1 : Int64)) (x2)), (0 : Int32))) (fun r9 => match r9 with | .inl r9x => some (((-2 : Int32), w7)) | .inr q => some q)))))

def f_X10_componentSize (w : Wd) (k0 : Nat) (v_location : Int32) : Option (Int32 × Wd) := Option.bind (some (wsI w (k0) 0 ((0 : Int32)))) (fun w1 => Option.bind ((f_X10_indexOf w1 (k0) (v_location))) (fun x2 => if x2 < (0 : Int32) then some (((-1 : Int32), w1)) else Option.bind ((f_X10_layReach w1 (k0))) (fun w4 => Option.bind ((f_X10_sizeOf w4 (k0) (x2))) (fun x5 => some ((x5, w4))))))

def f_X10_representative (w : Wd) (k0 : Nat) (v_location : Int32) : Option (Int32 × Wd) := Option.bind (some (wsI w (k0) 0 ((0 : Int32)))) (fun w1 => Option.bind ((f_X10_indexOf w1 (k0) (v_location))) (fun x2 => if x2 < (0 : Int32) then some (((-1 : Int32), w1)) else Option.bind ((f_X10_layReach w1 (k0))) (fun w4 => Option.bind ((f_X10_lowest w4 (k0) (x2))) (fun x5 => some (((f_X10_locationOf (x5)), w4))))))

def b_X10_cyclicComponentCount_1 (w2 : Wd) (k0 : Nat) (s3 : Int32 × Int32) : Option ((Int32 × Int32) ⊕ (Int32)) := if s3.2 < (56 : Int32) then Option.bind (Option.bind (Option.bind ((f_X10_exists w2 (k0) (s3.2))) (fun x10 => if x10 = true then Option.bind ((f_X10_lowest w2 (k0) (s3.2))) (fun x12 => if x12 = s3.2 then Option.bind ((f_X10_sizeOf w2 (k0) (s3.2))) (fun x14 => if (1 : Int32) < x14 then some true else some false) else some false) else some false)) (fun b8 => if b8 = true then some (1 : Int32) else some (0 : Int32))) (fun x7 => some (.inl ((s3.1 + x7), (s3.2 + (1 : Int32))))) else some (.inr s3.1)
def f_X10_cyclicComponentCount (w : Wd) (k0 : Nat) : Option (Int32 × Wd) := Option.bind (some (wsI w (k0) 0 ((0 : Int32)))) (fun w1 => Option.bind ((f_X10_layReach w1 (k0))) (fun w2 => Option.bind (lp (b_X10_cyclicComponentCount_1 w2 k0) NF ((0 : Int32), (0 : Int32))) (fun r4 => some ((r4, w2)))))

def b_X10_condensedNodeCount_1 (w2 : Wd) (k0 : Nat) (s3 : Int32 × Int32) : Option ((Int32 × Int32) ⊕ (Int32)) := if s3.2 < (56 : Int32) then Option.bind (Option.bind (Option.bind ((f_X10_exists w2 (k0) (s3.2))) (fun x10 => if x10 = true then Option.bind ((f_X10_lowest w2 (k0) (s3.2))) (fun x12 => if x12 = s3.2 then some true else some false) else some false)) (fun b8 => if b8 = true then some (1 : Int32) else some (0 : Int32))) (fun x7 => some (.inl ((s3.1 + x7), (s3.2 + (1 : Int32))))) else some (.inr s3.1)
def f_X10_condensedNodeCount (w : Wd) (k0 : Nat) : Option (Int32 × Wd) := Option.bind (some (wsI w (k0) 0 ((0 : Int32)))) (fun w1 => Option.bind ((f_X10_layReach w1 (k0))) (fun w2 => Option.bind (lp (b_X10_condensedNodeCount_1 w2 k0) NF ((0 : Int32), (0 : Int32))) (fun r4 => some ((r4, w2)))))

def b_X10_condensedEdgeCount_1 (k0 : Nat) (s3 : Int32 × Wd) : Option ((Int32 × Wd) ⊕ (Wd)) := if s3.1 < (56 : Int32) then Option.bind (wrL zM s3.2 ((zrf zM (k0) 39)) (s3.1) ((0 : Int64))) (fun w6 => some (.inl ((s3.1 + (1 : Int32)), w6))) else some (.inr s3.2)
def b_X10_condensedEdgeCount_3 (k0 : Nat) (s7 : Int32 × Wd) (s10 : Int32 × Wd) : Option ((Int32 × Wd) ⊕ (Wd)) := if s10.1 < (56 : Int32) then Option.bind (Option.bind (Option.bind (rdL zM s10.2 ((zrf zM (k0) 37)) (s7.1)) (fun x16 => if (f_X10_hasBit (x16) (s10.1)) = true then Option.bind ((f_X10_areTogether s10.2 (k0) (s7.1) (s10.1))) (fun x18 => if x18 = true then some false else some true) else some false)) (fun b14 => if b14 = true then Option.bind ((f_X10_lowest s10.2 (k0) (s7.1))) (fun x19 => Option.bind (rdL zM s10.2 ((zrf zM (k0) 39)) (x19)) (fun x20 => Option.bind ((f_X10_lowest s10.2 (k0) (s10.1))) (fun x21 => Option.bind (wrL zM s10.2 ((zrf zM (k0) 39)) (x19) ((x20 ||| (jlshl ((1 : Int64)) (x21))))) (fun w22 => some w22)))) else some s10.2)) (fun s13 => some (.inl ((s10.1 + (1 : Int32)), s13))) else some (.inr s10.2)
def b_X10_condensedEdgeCount_2 (k0 : Nat) (s7 : Int32 × Wd) : Option ((Int32 × Wd) ⊕ (Wd)) := if s7.1 < (56 : Int32) then Option.bind (lp (b_X10_condensedEdgeCount_3 k0 s7) NF ((0 : Int32), s7.2)) (fun r11 => some (.inl ((s7.1 + (1 : Int32)), r11))) else some (.inr s7.2)
def b_X10_condensedEdgeCount_5 (r8 : Wd) (k0 : Nat) (s23 : Int32 × Int32) (s26 : Int32 × Int32) : Option ((Int32 × Int32) ⊕ (Int32)) := if s26.2 < (56 : Int32) then Option.bind (rdL zM r8 ((zrf zM (k0) 39)) (s23.2)) (fun x30 => some (.inl ((s26.1 + (if (f_X10_hasBit (x30) (s26.2)) = true then (1 : Int32) else (0 : Int32))), (s26.2 + (1 : Int32))))) else some (.inr s26.1)
def b_X10_condensedEdgeCount_4 (r8 : Wd) (k0 : Nat) (s23 : Int32 × Int32) : Option ((Int32 × Int32) ⊕ (Int32)) := if s23.2 < (56 : Int32) then Option.bind (lp (b_X10_condensedEdgeCount_5 r8 k0 s23) NF (s23.1, (0 : Int32))) (fun r27 => some (.inl (r27, (s23.2 + (1 : Int32))))) else some (.inr s23.1)
def f_X10_condensedEdgeCount (w : Wd) (k0 : Nat) : Option (Int32 × Wd) := Option.bind (some (wsI w (k0) 0 ((0 : Int32)))) (fun w1 => Option.bind ((f_X10_layReach w1 (k0))) (fun w2 => Option.bind (lp (b_X10_condensedEdgeCount_1 k0) NF ((0 : Int32), w2)) (fun r4 => Option.bind (lp (b_X10_condensedEdgeCount_2 k0) NF ((0 : Int32), r4)) (fun r8 => Option.bind (lp (b_X10_condensedEdgeCount_4 r8 k0) NF ((0 : Int32), (0 : Int32))) (fun r24 => some ((r24, r8)))))))

def f_X10_targets (w : Wd) (k0 : Nat) (v_c : Int32) : Option (Int32) := Option.bind (Option.bind ((f_X10_isEnabled w (k0) (v_c))) (fun x3 => if x3 = true then Option.bind ((f_X10_second w (k0) (v_c))) (fun x5 => Option.bind (rdI zM w ((zrf zM (k0) 24)) (x5)) (fun x6 => Option.bind ((f_X10_functionSet w (k0))) (fun x7 => some (x6 &&& x7)))) else some (0 : Int32))) (fun x2 => some (x2))

def f_X10_callTargets (w : Wd) (k0 : Nat) (v_c : Int32) : Option (Int32 × Wd) := Option.bind (some (wsI w (k0) 0 ((0 : Int32)))) (fun w1 => Option.bind (Option.bind (Option.bind ((f_X10_isConstraint w1 (k0) (v_c))) (fun x6 => if x6 = true then Option.bind ((f_X10_kind w1 (k0) (v_c))) (fun x8 => if x8 = (4 : Int32) then some true else some false) else some false)) (fun b4 => if b4 = true then Option.bind ((f_X10_targets w1 (k0) (v_c))) (fun x9 => some x9) else some (-1 : Int32))) (fun x3 => some ((x3, w1))))

def b_X10_callersOf_1 (w1 : Wd) (k0 : Nat) (v_o : Int32) (s4 : Int32 × Int32) : Option ((Int32 × Int32) ⊕ (Int32)) := Option.bind (rdI zM w1 ((zrf zM (k0) 18)) ((0 : Int32))) (fun x6 => if s4.2 < x6 then Option.bind (Option.bind (Option.bind ((f_X10_kind w1 (k0) (s4.2))) (fun x12 => if x12 = (4 : Int32) then Option.bind ((f_X10_targets w1 (k0) (s4.2))) (fun x14 => if (f_X10_has (x14) (v_o)) = true then some true else some false) else some false)) (fun b10 => if b10 = true then some (jshl ((1 : Int32)) (s4.2)) else some (0 : Int32))) (fun x9 => some (.inl ((s4.1 ||| x9), (s4.2 + (1 : Int32))))) else some (.inr s4.1))
def f_X10_callersOf (w : Wd) (k0 : Nat) (v_o : Int32) : Option (Int32 × Wd) := Option.bind (some (wsI w (k0) 0 ((0 : Int32)))) (fun w1 => Option.bind ((f_X10_isObject w1 (k0) (v_o))) (fun x2 => if ¬ (x2 = true) then some (((-1 : Int32), w1)) else Option.bind (lp (b_X10_callersOf_1 w1 k0 v_o) NF ((0 : Int32), (0 : Int32))) (fun r5 => some ((r5, w1)))))

def b_X10_uncalledFunctions_1 (w1 : Wd) (k0 : Nat) (s3 : Int32 × Int32) : Option ((Int32 × Int32) ⊕ (Int32)) := Option.bind (rdI zM w1 ((zrf zM (k0) 18)) ((0 : Int32))) (fun x5 => if s3.2 < x5 then Option.bind (Option.bind ((f_X10_kind w1 (k0) (s3.2))) (fun x8 => if x8 = (4 : Int32) then Option.bind ((f_X10_targets w1 (k0) (s3.2))) (fun x10 => some (s3.1 &&& (x10 ^^^ (-1 : Int32)))) else some s3.1)) (fun s7 => some (.inl (s7, (s3.2 + (1 : Int32))))) else some (.inr s3.1))
def f_X10_uncalledFunctions (w : Wd) (k0 : Nat) : Option (Int32 × Wd) := Option.bind (some (wsI w (k0) 0 ((0 : Int32)))) (fun w1 => Option.bind ((f_X10_functionSet w1 (k0))) (fun x2 => Option.bind (lp (b_X10_uncalledFunctions_1 w1 k0) NF (x2, (0 : Int32))) (fun r4 => some ((r4, w1)))))

def f_X10_factCountIfToggled (w : Wd) (k0 : Nat) (v_c : Int32) : Option (Int32 × Wd) := Option.bind (some (wsI w (k0) 0 ((0 : Int32)))) (fun w1 => Option.bind (Option.bind ((f_X10_isConstraint w1 (k0) (v_c))) (fun x4 => if x4 = true then Option.bind (rdI zM w1 ((zrf zM (k0) 18)) ((1 : Int32))) (fun x6 => Option.bind ((f_X10_factsWith w1 (k0) ((x6 ^^^ (jshl ((1 : Int32)) (v_c)))))) (fun x7 => some (x7.1, x7.2))) else some ((-1 : Int32), w1))) (fun x3 => some ((x3.1, x3.2))))

def f_X10_factCountWithout (w : Wd) (k0 : Nat) (v_constraints : Int32) : Option (Int32 × Wd) := Option.bind (some (wsI w (k0) 0 ((0 : Int32)))) (fun w1 => Option.bind (Option.bind (rdI zM w1 ((zrf zM (k0) 18)) ((0 : Int32))) (fun x4 => if (v_constraints &&& ((f_X10_allOf (x4)) ^^^ (-1 : Int32))) = (0 : Int32) then Option.bind (rdI zM w1 ((zrf zM (k0) 18)) ((1 : Int32))) (fun x6 => Option.bind ((f_X10_factsWith w1 (k0) ((x6 &&& (v_constraints ^^^ (-1 : Int32)))))) (fun x7 => some (x7.1, x7.2))) else some ((-1 : Int32), w1))) (fun x3 => some ((x3.1, x3.2))))

def b_X10_mostInfluentialConstraint_1 (k0 : Nat) (s3 : Int32 × Int32 × Int32 × Wd) : Option ((Int32 × Int32 × Int32 × Wd) ⊕ (Int32 × Int32 × Wd)) := Option.bind (rdI zM s3.2.2.2 ((zrf zM (k0) 18)) ((0 : Int32))) (fun x5 => if s3.2.2.1 < x5 then Option.bind ((f_X10_isEnabled s3.2.2.2 (k0) (s3.2.2.1))) (fun x7 => if ¬ (x7 = true) then some (.inl (s3.1, s3.2.1, (s3.2.2.1 + (1 : Int32)), s3.2.2.2)) else Option.bind (rdI zM s3.2.2.2 ((zrf zM (k0) 18)) ((1 : Int32))) (fun x9 => Option.bind ((f_X10_factsWith s3.2.2.2 (k0) ((x9 &&& ((jshl ((1 : Int32)) (s3.2.2.1)) ^^^ (-1 : Int32)))))) (fun x10 => if s3.2.1 ≤ x10.1 then some (.inl (s3.1, s3.2.1, (s3.2.2.1 + (1 : Int32)), x10.2)) else some (.inl (s3.2.2.1, x10.1, (s3.2.2.1 + (1 : Int32)), x10.2))))) else some (.inr (s3.1, s3.2.1, s3.2.2.2)))
def f_X10_mostInfluentialConstraint (w : Wd) (k0 : Nat) : Option (Int32 × Wd) := Option.bind (some (wsI w (k0) 0 ((0 : Int32)))) (fun w1 => Option.bind ((f_X10_facts w1 (k0))) (fun x2 => Option.bind (lp (b_X10_mostInfluentialConstraint_1 k0) NF ((-2 : Int32), x2, (0 : Int32), w1)) (fun r4 => some ((r4.1, r4.2.2)))))

def b_X10_redundantConstraintCount_1 (k0 : Nat) (x2 : Int32) (s3 : Int32 × Int32 × Wd) : Option ((Int32 × Int32 × Wd) ⊕ (Int32 × Wd)) := Option.bind (rdI zM s3.2.2 ((zrf zM (k0) 18)) ((0 : Int32))) (fun x5 => if s3.2.1 < x5 then Option.bind (Option.bind (Option.bind ((f_X10_isEnabled s3.2.2 (k0) (s3.2.1))) (fun x11 => if x11 = true then Option.bind (rdI zM s3.2.2 ((zrf zM (k0) 18)) ((1 : Int32))) (fun x13 => Option.bind ((f_X10_factsWith s3.2.2 (k0) ((x13 &&& ((jshl ((1 : Int32)) (s3.2.1)) ^^^ (-1 : Int32)))))) (fun x14 => if x14.1 = x2 then some (true, x14.2) else some (false, x14.2))) else some (false, s3.2.2))) (fun b9 => if b9.1 = true then some ((1 : Int32), b9.2) else some ((0 : Int32), b9.2))) (fun x8 => some (.inl ((s3.1 + x8.1), (s3.2.1 + (1 : Int32)), x8.2))) else some (.inr (s3.1, s3.2.2)))
def f_X10_redundantConstraintCount (w : Wd) (k0 : Nat) : Option (Int32 × Wd) := Option.bind (some (wsI w (k0) 0 ((0 : Int32)))) (fun w1 => Option.bind ((f_X10_facts w1 (k0))) (fun x2 => Option.bind (lp (b_X10_redundantConstraintCount_1 k0 x2) NF ((0 : Int32), (0 : Int32), w1)) (fun r4 => some ((r4.1, r4.2)))))

def f_X10_write (w : Wd) (k0 : Nat) (v_c : Int32) : Option (Wd) := Option.bind (wrI zM w ((zrf zM (k0) 40)) ((w.1 (k0) 41)) (v_c)) (fun w1 => Option.bind (some (wsI w1 (k0) 41 (((w1.1 (k0) 41) + (1 : Int32))))) (fun w2 => some (w2)))

def b_X10_writeName_1 (v_name : Int64) (k0 : Nat) (s1 : Int32 × Wd) : Option ((Int32 × Wd) ⊕ (Wd)) := if (0 : Int32) ≤ s1.1 then Option.bind (if (0 : Int64) < ((jlshr (v_name) (s1.1)) &&& (31 : Int64)) then Option.bind ((f_X10_write s1.2 (k0) (((96 : Int32) + (((jlshr (v_name) (s1.1)) &&& (31 : Int64))).toInt32)))) (fun w6 => some w6) else some s1.2) (fun s4 => some (.inl ((s1.1 + (-5 : Int32)), s4))) else some (.inr s1.2)
def f_X10_writeName (w : Wd) (k0 : Nat) (v_name : Int64) : Option (Wd) := Option.bind (lp (b_X10_writeName_1 v_name k0) NF ((25 : Int32), w)) (fun r2 => some (r2))

def b_X10_layDump_2 (k0 : Nat) (s2 : Int32 × Wd) (s10 : Int32 × Wd) : Option ((Int32 × Wd) ⊕ (Wd)) := Option.bind (rdI zM s10.2 ((zrf zM (k0) 11)) ((0 : Int32))) (fun x12 => if s10.1 < x12 then Option.bind (rdI zM s10.2 ((zrf zM (k0) 24)) (s2.1)) (fun x14 => if ¬ ((f_X10_has (x14) (s10.1)) = true) then some (.inl ((s10.1 + (1 : Int32)), s10.2)) else Option.bind ((f_X10_write s10.2 (k0) ((32 : Int32)))) (fun w16 => Option.bind (rdL zM w16 ((zrf zM (k0) 14)) (s10.1)) (fun x17 => Option.bind ((f_X10_writeName w16 (k0) (x17))) (fun w18 => some (.inl ((s10.1 + (1 : Int32)), w18)))))) else some (.inr s10.2))
def b_X10_layDump_1 (k0 : Nat) (s2 : Int32 × Wd) : Option ((Int32 × Wd) ⊕ (Wd)) := Option.bind (rdI zM s2.2 ((zrf zM (k0) 10)) ((0 : Int32))) (fun x4 => if s2.1 < x4 then Option.bind (rdI zM s2.2 ((zrf zM (k0) 24)) (s2.1)) (fun x6 => if x6 = (0 : Int32) then some (.inl ((s2.1 + (1 : Int32)), s2.2)) else Option.bind (rdL zM s2.2 ((zrf zM (k0) 13)) (s2.1)) (fun x8 => Option.bind ((f_X10_writeName s2.2 (k0) (x8))) (fun w9 => Option.bind (lp (b_X10_layDump_2 k0 s2) NF ((0 : Int32), w9)) (fun r11 => Option.bind ((f_X10_write r11 (k0) ((59 : Int32)))) (fun w19 => some (.inl ((s2.1 + (1 : Int32)), w19))))))) else some (.inr s2.2))
def f_X10_layDump (w : Wd) (k0 : Nat) : Option (Wd) := Option.bind (some (wsI w (k0) 41 ((0 : Int32)))) (fun w1 => Option.bind (lp (b_X10_layDump_1 k0) NF ((0 : Int32), w1)) (fun r3 => some (r3)))

def f_X10_dumpLength (w : Wd) (k0 : Nat) : Option (Int32 × Wd) := Option.bind (some (wsI w (k0) 0 ((0 : Int32)))) (fun w1 => Option.bind ((f_X10_layDump w1 (k0))) (fun w2 => some (((w2.1 (k0) 41), w2))))

def f_X10_dumpByte (w : Wd) (k0 : Nat) (v_index : Int32) : Option (Int32 × Wd) := Option.bind (some (wsI w (k0) 0 ((0 : Int32)))) (fun w1 => Option.bind ((f_X10_layDump w1 (k0))) (fun w2 => Option.bind (if (f_X10_within ((v_index).toInt64) ((0 : Int64)) ((((w2.1 (k0) 41) - (1 : Int32))).toInt64)) = true then Option.bind (rdI zM w2 ((zrf zM (k0) 40)) (v_index)) (fun x6 => some x6) else some (-1 : Int32)) (fun x4 => some ((x4, w2)))))

def b_X10_keepState_1 (k0 : Nat) (s3 : Int32 × Wd) : Option ((Int32 × Wd) ⊕ (Wd)) := if s3.1 < (1342 : Int32) then Option.bind (rdI zM s3.2 ((zrf zM (k0) 20)) ((s3.1 + (122 : Int32)))) (fun x6 => Option.bind (wrI zM s3.2 ((zrf zM (k0) 20)) (s3.1) (x6)) (fun w7 => some (.inl ((s3.1 + (1 : Int32)), w7)))) else some (.inr s3.2)
def b_X10_keepState_2 (k0 : Nat) (s9 : Int32 × Wd) : Option ((Int32 × Wd) ⊕ (Wd)) := if s9.1 < (122 : Int32) then Option.bind (rdI zM s9.2 ((zrf zM (k0) 18)) (s9.1)) (fun x12 => Option.bind (wrI zM s9.2 ((zrf zM (k0) 20)) ((((122 : Int32) * (s9.2.1 (k0) 21)) + s9.1)) (x12)) (fun w13 => some (.inl ((s9.1 + (1 : Int32)), w13)))) else some (.inr s9.2)
def f_X10_keepState (w : Wd) (k0 : Nat) : Option (Wd) := Option.bind (if (w.1 (k0) 21) = (12 : Int32) then Option.bind (lp (b_X10_keepState_1 k0) NF ((0 : Int32), w)) (fun r4 => Option.bind (some (wsI r4 (k0) 21 (((r4.1 (k0) 21) - (1 : Int32))))) (fun w8 => some w8)) else some w) (fun s1 => Option.bind (lp (b_X10_keepState_2 k0) NF ((0 : Int32), s1)) (fun r10 => Option.bind (some (wsI r10 (k0) 21 (((r10.1 (k0) 21) + (1 : Int32))))) (fun w14 => some (w14))))

def f_X10_areOperands (w : Wd) (k0 : Nat) (v_kind : Int32) (v_a : Int32) (v_b : Int32) (v_c : Int32) : Option (Bool) := Option.bind ((f_X10_isVariable w (k0) (v_a))) (fun x1 => if ¬ (x1 = true) then some (false) else if v_kind = (0 : Int32) then Option.bind ((f_X10_isObject w (k0) (v_b))) (fun x5 => some ((decide ((x5 = true) ∧ (v_c = (-2 : Int32)))))) else if v_kind = (1 : Int32) then Option.bind ((f_X10_isVariable w (k0) (v_b))) (fun x10 => some ((decide ((x10 = true) ∧ (v_c = (-2 : Int32)))))) else if v_kind = (2 : Int32) then Option.bind (Option.bind ((f_X10_isVariable w (k0) (v_b))) (fun x17 => if x17 = true then Option.bind ((f_X10_isField w (k0) (v_c))) (fun x19 => if x19 = true then some true else some false) else some false)) (fun b15 => some (b15)) else if v_kind = (3 : Int32) then Option.bind (Option.bind ((f_X10_isField w (k0) (v_b))) (fun x24 => if x24 = true then Option.bind ((f_X10_isVariable w (k0) (v_c))) (fun x26 => if x26 = true then some true else some false) else some false)) (fun b22 => some (b22)) else if v_kind = (4 : Int32) then Option.bind (Option.bind ((f_X10_isVariable w (k0) (v_b))) (fun x31 => if x31 = true then Option.bind ((f_X10_isVariable w (k0) (v_c))) (fun x33 => if x33 = true then some true else some false) else some false)) (fun b29 => some (b29)) else some (false))

def f_X10_addConstraint (w : Wd) (k0 : Nat) (v_kind : Int32) (v_a : Int32) (v_b : Int32) (v_c : Int32) : Option (Int32 × Wd) := Option.bind (some (wsI w (k0) 0 ((0 : Int32)))) (fun w1 => Option.bind ((f_X10_areOperands w1 (k0) (v_kind) (v_a) (v_b) (v_c))) (fun x2 => if ¬ (x2 = true) then some (((-1 : Int32), w1)) else Option.bind (rdI zM w1 ((zrf zM (k0) 18)) ((0 : Int32))) (fun x4 => if x4 = (30 : Int32) then some (((-2 : Int32), w1)) else Option.bind ((f_X10_keepState w1 (k0))) (fun w6 => Option.bind (rdI zM w6 ((zrf zM (k0) 18)) ((0 : Int32))) (fun x7 => Option.bind (wrI zM w6 ((zrf zM (k0) 18)) (((2 : Int32) + ((4 : Int32) * x7))) (v_kind)) (fun w8 => Option.bind (wrI zM w8 ((zrf zM (k0) 18)) (((3 : Int32) + ((4 : Int32) * x7))) (v_a)) (fun w9 => Option.bind (wrI zM w9 ((zrf zM (k0) 18)) (((4 : Int32) + ((4 : Int32) * x7))) (v_b)) (fun w10 => Option.bind (wrI zM w10 ((zrf zM (k0) 18)) (((5 : Int32) + ((4 : Int32) * x7))) (v_c)) (fun w11 => Option.bind (wrI zM w11 ((zrf zM (k0) 18)) ((0 : Int32)) ((x7 + (1 : Int32)))) (fun w12 => Option.bind (rdI zM w12 ((zrf zM (k0) 18)) ((1 : Int32))) (fun x13 => Option.bind (wrI zM w12 ((zrf zM (k0) 18)) ((1 : Int32)) ((x13 ||| (jshl ((1 : Int32)) (x7))))) (fun w14 => Option.bind ((f_X10_solve w14 (k0))) (fun w15 => some ((x7, w15)))))))))))))))

def f_X10_setEnabled (w : Wd) (k0 : Nat) (v_c : Int32) (v_enabled : Bool) : Option (Bool × Wd) := Option.bind (some (wsI w (k0) 0 ((0 : Int32)))) (fun w1 => Option.bind (Option.bind ((f_X10_isConstraint w1 (k0) (v_c))) (fun x4 => if x4 = true then Option.bind ((f_X10_isEnabled w1 (k0) (v_c))) (fun x6 => if x6 = v_enabled then some true else some false) else some true)) (fun b2 => if b2 = true then some ((false, w1)) else Option.bind ((f_X10_keepState w1 (k0))) (fun w7 => Option.bind (rdI zM w7 ((zrf zM (k0) 18)) ((1 : Int32))) (fun x8 => Option.bind (wrI zM w7 ((zrf zM (k0) 18)) ((1 : Int32)) ((x8 ^^^ (jshl ((1 : Int32)) (v_c))))) (fun w9 => Option.bind ((f_X10_solve w9 (k0))) (fun w10 => some ((true, w10))))))))

def b_X10_undo_1 (k0 : Nat) (s4 : Int32 × Wd) : Option ((Int32 × Wd) ⊕ (Wd)) := if s4.1 < (122 : Int32) then Option.bind (rdI zM s4.2 ((zrf zM (k0) 20)) ((((122 : Int32) * (s4.2.1 (k0) 21)) + s4.1))) (fun x7 => Option.bind (wrI zM s4.2 ((zrf zM (k0) 18)) (s4.1) (x7)) (fun w8 => some (.inl ((s4.1 + (1 : Int32)), w8)))) else some (.inr s4.2)
def f_X10_undo (w : Wd) (k0 : Nat) : Option (Int32 × Wd) := Option.bind (some (wsI w (k0) 0 ((0 : Int32)))) (fun w1 => if (w1.1 (k0) 21) = (0 : Int32) then some (((-2 : Int32), w1)) else Option.bind (some (wsI w1 (k0) 21 (((w1.1 (k0) 21) - (1 : Int32))))) (fun w3 => Option.bind (lp (b_X10_undo_1 k0) NF ((0 : Int32), w3)) (fun r5 => Option.bind ((f_X10_solve r5 (k0))) (fun w9 => some (((w9.1 (k0) 21), w9))))))

def f_X10_undoDepth (w : Wd) (k0 : Nat) : Option (Int32 × Wd) := Option.bind (some (wsI w (k0) 0 ((0 : Int32)))) (fun w1 => some (((w1.1 (k0) 21), w1)))

def b_X10_saveSnapshot_1 (k0 : Nat) (v_slot : Int32) (s3 : Int32 × Wd) : Option ((Int32 × Wd) ⊕ (Wd)) := if s3.1 < (122 : Int32) then Option.bind (rdI zM s3.2 ((zrf zM (k0) 18)) (s3.1)) (fun x6 => Option.bind (wrI zM s3.2 ((zrf zM (k0) 22)) ((((122 : Int32) * v_slot) + s3.1)) (x6)) (fun w7 => some (.inl ((s3.1 + (1 : Int32)), w7)))) else some (.inr s3.2)
def f_X10_saveSnapshot (w : Wd) (k0 : Nat) (v_slot : Int32) : Option (Bool × Wd) := Option.bind (some (wsI w (k0) 0 ((0 : Int32)))) (fun w1 => if ¬ ((f_X10_within ((v_slot).toInt64) ((0 : Int64)) ((1 : Int64))) = true) then some ((false, w1)) else Option.bind (lp (b_X10_saveSnapshot_1 k0 v_slot) NF ((0 : Int32), w1)) (fun r4 => Option.bind (wrI zM r4 ((zrf zM (k0) 23)) (v_slot) (bI (true))) (fun w8 => some ((true, w8)))))

def b_X10_restoreSnapshot_1 (k0 : Nat) (v_slot : Int32) (s6 : Int32 × Wd) : Option ((Int32 × Wd) ⊕ (Wd)) := if s6.1 < (122 : Int32) then Option.bind (rdI zM s6.2 ((zrf zM (k0) 22)) ((((122 : Int32) * v_slot) + s6.1))) (fun x9 => Option.bind (wrI zM s6.2 ((zrf zM (k0) 18)) (s6.1) (x9)) (fun w10 => some (.inl ((s6.1 + (1 : Int32)), w10)))) else some (.inr s6.2)
def f_X10_restoreSnapshot (w : Wd) (k0 : Nat) (v_slot : Int32) : Option (Bool × Wd) := Option.bind (some (wsI w (k0) 0 ((0 : Int32)))) (fun w1 => Option.bind (if (f_X10_within ((v_slot).toInt64) ((0 : Int64)) ((1 : Int64))) = true then Option.bind (rdZ zM w1 ((zrf zM (k0) 23)) (v_slot)) (fun x5 => if x5 = true then some false else some true) else some true) (fun b2 => if b2 = true then some ((false, w1)) else Option.bind (lp (b_X10_restoreSnapshot_1 k0 v_slot) NF ((0 : Int32), w1)) (fun r7 => Option.bind (some (wsI r7 (k0) 21 ((0 : Int32)))) (fun w11 => Option.bind ((f_X10_solve w11 (k0))) (fun w12 => some ((true, w12)))))))

theorem ms_X5_appendWord : MSt yX5_appendWord cX5_appendWord 3 none 1 := ⟨tw_3_166, tw_1_2, by decide, by decide, by decide +kernel⟩
theorem im_X5_appendWord : IMt yX5_appendWord := ⟨tw_3_165, ts_3_10⟩

theorem ms_X9_append : MSt yX9_append cX9_append 6 (some .int) 5 := ⟨tw_3_162, tw_1_1, by decide, by decide, by decide +kernel⟩
theorem im_X9_append : IMt yX9_append := ⟨tw_3_160, tw_3_161⟩

theorem ms_X0_clear : MSt yX0_clear cX0_clear 1 none 0 := ⟨tw_2_93, tw_1_6, by decide, by decide, by decide +kernel⟩
theorem im_X0_clear : IMt yX0_clear := ⟨tw_2_92, ts_1_2⟩

theorem ms_X6_clear : MSt yX6_clear cX6_clear 1 none 0 := ⟨tw_2_89, tw_1_3, by decide, by decide, by decide +kernel⟩
theorem im_X6_clear : IMt yX6_clear := ⟨tw_2_88, ts_1_1⟩

theorem ms_X5_isSpace : MSt yX5_isSpace cX5_isSpace 1 (some .boolean) 1 := ⟨tw_2_100, tw_1_2, by decide, by decide, by decide +kernel⟩

theorem ms_X5_isLetter : MSt yX5_isLetter cX5_isLetter 1 (some .boolean) 1 := ⟨tw_2_103, tw_1_2, by decide, by decide, by decide +kernel⟩

theorem ms_X5_readWord : MSt yX5_readWord cX5_readWord 1 none 0 := ⟨tw_2_107, tw_1_2, by decide, by decide, by decide +kernel⟩
theorem im_X5_readWord : IMt yX5_readWord := ⟨tw_2_106, ts_1_4⟩

theorem ms_X5_nextToken : MSt yX5_nextToken cX5_nextToken 1 none 0 := ⟨tw_2_97, tw_1_2, by decide, by decide, by decide +kernel⟩
theorem im_X5_nextToken : IMt yX5_nextToken := ⟨tw_2_96, ts_1_3⟩

theorem ms_X5_keyword : MSt yX5_keyword cX5_keyword 2 (some .int) 0 := ⟨tw_2_115, tw_1_2, by decide, by decide, by decide +kernel⟩
theorem im_X5_keyword : IMt yX5_keyword := ⟨tw_2_114, ts_1_6⟩

theorem ms_X5_fail : MSt yX5_fail cX5_fail 2 none 1 := ⟨tw_2_121, tw_1_2, by decide, by decide, by decide +kernel⟩
theorem im_X5_fail : IMt yX5_fail := ⟨tw_2_120, ts_1_7⟩

theorem ms_X0_isFull : MSt yX0_isFull cX0_isFull 1 (some .boolean) 0 := ⟨tw_2_125, tw_1_6, by decide, by decide, by decide +kernel⟩
theorem im_X0_isFull : IMt yX0_isFull := ⟨tw_2_124, ts_1_8⟩

theorem ms_X4_numberOf : MSt yX4_numberOf cX4_numberOf 4 (some .int) 1 := ⟨tw_2_141, tw_1_4, by decide, by decide, by decide +kernel⟩
theorem im_X4_numberOf : IMt yX4_numberOf := ⟨tw_2_140, ts_1_10⟩

theorem ms_X5_namesOf : MSt yX5_namesOf cX5_namesOf 2 (some (.object "PointsToSolver$NameTable")) 2 := ⟨tw_2_137, tw_1_2, by decide, by decide, by decide +kernel⟩

theorem ms_X9_contains : MSt yX9_contains cX9_contains 2 (some .boolean) 2 := ⟨tw_2_148, tw_1_1, by decide, by decide, by decide +kernel⟩

theorem ms_X6_isFunction : MSt yX6_isFunction cX6_isFunction 2 (some .boolean) 1 := ⟨tw_2_145, tw_1_3, by decide, by decide, by decide +kernel⟩
theorem im_X6_isFunction : IMt yX6_isFunction := ⟨tw_2_144, ts_1_11⟩

theorem ms_X5_readOperand : MSt yX5_readOperand cX5_readOperand 5 (some .int) 3 := ⟨tw_2_134, tw_1_2, by decide, by decide, by decide +kernel⟩
theorem im_X5_readOperand : IMt yX5_readOperand := ⟨tw_2_133, ts_1_9⟩

theorem ms_X9_typeAt : MSt yX9_typeAt cX9_typeAt 2 (some .int) 2 := ⟨tw_2_128, tw_1_1, by decide, by decide, by decide +kernel⟩

theorem ms_X6_declareFunction : MSt yX6_declareFunction cX6_declareFunction 4 none 3 := ⟨tw_2_156, tw_1_3, by decide, by decide, by decide +kernel⟩
theorem im_X6_declareFunction : IMt yX6_declareFunction := ⟨tw_2_155, ts_1_13⟩

theorem ms_X0_add : MSt yX0_add cX0_add 5 none 4 := ⟨tw_2_160, tw_1_6, by decide, by decide, by decide +kernel⟩
theorem im_X0_add : IMt yX0_add := ⟨tw_2_159, ts_1_14⟩

theorem ms_X5_accept : MSt yX5_accept cX5_accept 3 none 2 := ⟨tw_2_152, tw_1_2, by decide, by decide, by decide +kernel⟩
theorem im_X5_accept : IMt yX5_accept := ⟨tw_2_151, ts_1_12⟩

theorem ms_X5_readStatement : MSt yX5_readStatement cX5_readStatement 4 none 1 := ⟨tw_2_111, tw_1_2, by decide, by decide, by decide +kernel⟩
theorem im_X5_readStatement : IMt yX5_readStatement := ⟨tw_2_110, ts_1_5⟩

theorem ms_X5_read : MSt yX5_read cX5_read 4 (some .int) 2 := ⟨tw_2_84, tw_1_2, by decide, by decide, by decide +kernel⟩
theorem im_X5_read : IMt yX5_read := ⟨tw_2_83, ts_1_0⟩

theorem ms_X3_clear : MSt yX3_clear cX3_clear 1 none 0 := ⟨tw_2_165, tw_1_7, by decide, by decide, by decide +kernel⟩
theorem im_X3_clear : IMt yX3_clear := ⟨tw_2_164, ts_1_15⟩

theorem ms_J7_fill : MSt yJ7_fill_53178 cJ7_fill_53178 4 none 2 := ⟨tw_2_176, tw_1_12, by decide, by decide, by decide +kernel⟩

theorem ms_X0_isEnabled : MSt yX0_isEnabled cX0_isEnabled 2 (some .boolean) 1 := ⟨tw_2_183, tw_1_6, by decide, by decide, by decide +kernel⟩
theorem im_X0_isEnabled : IMt yX0_isEnabled := ⟨tw_2_182, ts_2_2⟩

theorem ms_X9_factOf : MSt yX9_factOf cX9_factOf 2 (some .int) 2 := ⟨tw_2_200, tw_1_1, by decide, by decide, by decide +kernel⟩

theorem ms_X7_addFact : MSt yX7_addFact cX7_addFact 6 none 4 := ⟨tw_2_197, tw_1_8, by decide, by decide, by decide +kernel⟩
theorem im_X7_addFact : IMt yX7_addFact := ⟨tw_2_196, ts_2_5⟩

theorem ms_X7_applyNew : MSt yX7_applyNew cX7_applyNew 6 none 3 := ⟨tw_2_192, tw_1_8, by decide, by decide, by decide +kernel⟩
theorem im_X7_applyNew : IMt yX7_applyNew := ⟨tw_2_191, ts_2_4⟩

theorem ms_X6_viaSlot : MSt yX6_viaSlot cX6_viaSlot 2 (some .int) 1 := ⟨tw_2_208, tw_1_3, by decide, by decide, by decide +kernel⟩
theorem im_X6_viaSlot : IMt yX6_viaSlot := ⟨tw_2_207, ts_2_7⟩

theorem ms_X6_viasIn : MSt yX6_viasIn cX6_viasIn 5 (some .int) 2 := ⟨tw_2_204, tw_1_3, by decide, by decide, by decide +kernel⟩
theorem im_X6_viasIn : IMt yX6_viasIn := ⟨tw_2_203, ts_2_6⟩

theorem ms_X6_flowCount : MSt yX6_flowCount cX6_flowCount 2 (some .int) 1 := ⟨tw_2_212, tw_1_3, by decide, by decide, by decide +kernel⟩
theorem im_X6_flowCount : IMt yX6_flowCount := ⟨tw_2_211, ts_2_8⟩

theorem ms_X9_fieldSlot : MSt yX9_fieldSlot cX9_fieldSlot 2 (some .int) 2 := ⟨tw_2_223, tw_1_1, by decide, by decide, by decide +kernel⟩

theorem ms_X6_flowSource : MSt yX6_flowSource cX6_flowSource 4 (some .int) 3 := ⟨tw_2_220, tw_1_3, by decide, by decide, by decide +kernel⟩
theorem im_X6_flowSource : IMt yX6_flowSource := ⟨tw_2_219, ts_2_10⟩

theorem ms_X6_flowTarget : MSt yX6_flowTarget cX6_flowTarget 4 (some .int) 3 := ⟨tw_2_227, tw_1_3, by decide, by decide, by decide +kernel⟩
theorem im_X6_flowTarget : IMt yX6_flowTarget := ⟨tw_2_226, ts_2_11⟩

theorem ms_X7_derive : MSt yX7_derive cX7_derive 4 none 3 := ⟨tw_2_232, tw_1_8, by decide, by decide, by decide +kernel⟩
theorem im_X7_derive : IMt yX7_derive := ⟨tw_2_231, ts_2_12⟩

theorem ms_X7_supply : MSt yX7_supply cX7_supply 4 none 3 := ⟨tw_2_236, tw_1_8, by decide, by decide, by decide +kernel⟩
theorem im_X7_supply : IMt yX7_supply := ⟨tw_2_235, ts_2_13⟩

theorem ms_X7_applyFlow : MSt yX7_applyFlow cX7_applyFlow 11 none 5 := ⟨tw_2_216, tw_1_8, by decide, by decide, by decide +kernel⟩
theorem im_X7_applyFlow : IMt yX7_applyFlow := ⟨tw_2_215, ts_2_9⟩

theorem ms_X7_apply : MSt yX7_apply cX7_apply 7 none 3 := ⟨tw_2_188, tw_1_8, by decide, by decide, by decide +kernel⟩
theorem im_X7_apply : IMt yX7_apply := ⟨tw_2_187, ts_2_3⟩

theorem ms_X7_solve : MSt yX7_solve cX7_solve 6 none 1 := ⟨tw_2_173, tw_1_8, by decide, by decide, by decide +kernel⟩
theorem im_X7_solve : IMt yX7_solve := ⟨tw_2_172, ts_2_1⟩

theorem ms_X9_settle : MSt yX9_settle cX9_settle 1 none 0 := ⟨tw_2_169, tw_1_1, by decide, by decide, by decide +kernel⟩
theorem im_X9_settle : IMt yX9_settle := ⟨tw_2_168, ts_2_0⟩

theorem ms_X9_parse : MSt yX9_parse cX9_parse 4 (some .int) 1 := ⟨tw_2_80, tw_1_1, by decide, by decide, by decide +kernel⟩
theorem im_X9_parse : IMt yX9_parse := ⟨tw_2_78, tw_2_79⟩


theorem ms_X9_variableCount : MSt yX9_variableCount cX9_variableCount 1 (some .int) 0 := ⟨tw_4_159, tw_1_1, by decide, by decide, by decide +kernel⟩
theorem im_X9_variableCount : IMt yX9_variableCount := ⟨tw_4_157, tw_4_158⟩

theorem ms_X9_objectCount : MSt yX9_objectCount cX9_objectCount 1 (some .int) 0 := ⟨tw_3_0, tw_1_1, by decide, by decide, by decide +kernel⟩
theorem im_X9_objectCount : IMt yX9_objectCount := ⟨tw_2_238, tw_2_239⟩

theorem ms_X9_fieldCount : MSt yX9_fieldCount cX9_fieldCount 1 (some .int) 0 := ⟨tw_4_163, tw_1_1, by decide, by decide, by decide +kernel⟩
theorem im_X9_fieldCount : IMt yX9_fieldCount := ⟨tw_4_161, tw_4_162⟩

theorem ms_X9_constraintCount : MSt yX9_constraintCount cX9_constraintCount 1 (some .int) 0 := ⟨tw_3_4, tw_1_1, by decide, by decide, by decide +kernel⟩
theorem im_X9_constraintCount : IMt yX9_constraintCount := ⟨tw_3_2, tw_3_3⟩

theorem ms_X9_enabledConstraints : MSt yX9_enabledConstraints cX9_enabledConstraints 1 (some .int) 0 := ⟨tw_3_8, tw_1_1, by decide, by decide, by decide +kernel⟩
theorem im_X9_enabledConstraints : IMt yX9_enabledConstraints := ⟨tw_3_6, tw_3_7⟩


theorem ms_X9_isObject : MSt yX9_isObject cX9_isObject 2 (some .boolean) 1 := ⟨tw_3_36, tw_1_1, by decide, by decide, by decide +kernel⟩
theorem im_X9_isObject : IMt yX9_isObject := ⟨tw_3_35, ts_3_0⟩

theorem ms_X9_parameterOf : MSt yX9_parameterOf cX9_parameterOf 2 (some .int) 1 := ⟨tw_5_13, tw_1_1, by decide, by decide, by decide +kernel⟩
theorem im_X9_parameterOf : IMt yX9_parameterOf := ⟨tw_5_11, tw_5_12⟩

theorem ms_X9_resultOf : MSt yX9_resultOf cX9_resultOf 2 (some .int) 1 := ⟨tw_5_18, tw_1_1, by decide, by decide, by decide +kernel⟩
theorem im_X9_resultOf : IMt yX9_resultOf := ⟨tw_5_16, tw_5_17⟩

theorem ms_X9_factCount : MSt yX9_factCount cX9_factCount 1 (some .int) 0 := ⟨tw_3_12, tw_1_1, by decide, by decide, by decide +kernel⟩
theorem im_X9_factCount : IMt yX9_factCount := ⟨tw_3_10, tw_3_11⟩

theorem ms_X9_roundCount : MSt yX9_roundCount cX9_roundCount 1 (some .int) 0 := ⟨tw_3_16, tw_1_1, by decide, by decide, by decide +kernel⟩
theorem im_X9_roundCount : IMt yX9_roundCount := ⟨tw_3_14, tw_3_15⟩

theorem ms_X6_slotAt : MSt yX6_slotAt cX6_slotAt 6 (some .int) 1 := ⟨tw_3_24, tw_1_3, by decide, by decide, by decide +kernel⟩
theorem im_X6_slotAt : IMt yX6_slotAt := ⟨tw_3_23, ts_2_14⟩

theorem ms_X9_pointsTo : MSt yX9_pointsTo cX9_pointsTo 3 (some .int) 1 := ⟨tw_3_20, tw_1_1, by decide, by decide, by decide +kernel⟩
theorem im_X9_pointsTo : IMt yX9_pointsTo := ⟨tw_3_18, tw_3_19⟩





theorem ms_X9_findFact : MSt yX9_findFact cX9_findFact 4 (some .int) 2 := ⟨tw_3_32, tw_1_1, by decide, by decide, by decide +kernel⟩
theorem im_X9_findFact : IMt yX9_findFact := ⟨tw_3_31, ts_2_15⟩

theorem ms_X9_roundOf : MSt yX9_roundOf cX9_roundOf 4 (some .int) 2 := ⟨tw_3_28, tw_1_1, by decide, by decide, by decide +kernel⟩
theorem im_X9_roundOf : IMt yX9_roundOf := ⟨tw_3_26, tw_3_27⟩






theorem ms_X9_locationOf : MSt yX9_locationOf cX9_locationOf 1 (some .int) 1 := ⟨tw_3_70, tw_1_1, by decide, by decide, by decide +kernel⟩








theorem ms_J13_bitCount : MSt yJ13_bitCount_95d88 cJ13_bitCount_95d88 2 (some .int) 1 := ⟨tw_3_104, tw_1_14, by decide, by decide, by decide +kernel⟩

theorem ms_X1_countEdges : MSt yX1_countEdges cX1_countEdges 3 (some .int) 0 := ⟨tw_5_36, tw_1_9, by decide, by decide, by decide +kernel⟩
theorem im_X1_countEdges : IMt yX1_countEdges := ⟨tw_5_35, ts_3_14⟩

theorem ms_J7_fillL : MSt yJ7_fill_d0a16 cJ7_fill_d0a16 5 none 2 := ⟨tw_3_53, tw_1_12, by decide, by decide, by decide +kernel⟩

theorem ms_X1_addEdges : MSt yX1_addEdges cX1_addEdges 8 none 3 := ⟨tw_3_59, tw_1_9, by decide, by decide, by decide +kernel⟩
theorem im_X1_addEdges : IMt yX1_addEdges := ⟨tw_3_58, ts_3_3⟩

theorem ms_X1_findExisting : MSt yX1_findExisting cX1_findExisting 3 none 1 := ⟨tw_3_67, tw_1_9, by decide, by decide, by decide +kernel⟩
theorem im_X1_findExisting : IMt yX1_findExisting := ⟨tw_3_66, ts_3_4⟩

theorem ms_X9_holds : MSt yX9_holds cX9_holds 3 (some .boolean) 2 := ⟨tw_3_78, tw_1_1, by decide, by decide, by decide +kernel⟩

theorem ms_X1_findReached : MSt yX1_findReached cX1_findReached 3 none 0 := ⟨tw_3_75, tw_1_9, by decide, by decide, by decide +kernel⟩
theorem im_X1_findReached : IMt yX1_findReached := ⟨tw_3_74, ts_3_5⟩

theorem ms_X1_findComponents : MSt yX1_findComponents cX1_findComponents 5 none 0 := ⟨tw_3_82, tw_1_9, by decide, by decide, by decide +kernel⟩
theorem im_X1_findComponents : IMt yX1_findComponents := ⟨tw_3_81, ts_3_6⟩

theorem ms_X1_build : MSt yX1_build cX1_build 4 none 2 := ⟨tw_3_50, tw_1_9, by decide, by decide, by decide +kernel⟩
theorem im_X1_build : IMt yX1_build := ⟨tw_3_49, ts_3_2⟩

theorem ms_X9_graphed : MSt yX9_graphed cX9_graphed 1 (some (.object "PointsToSolver$CopyGraph")) 0 := ⟨tw_3_46, tw_1_1, by decide, by decide, by decide +kernel⟩
theorem im_X9_graphed : IMt yX9_graphed := ⟨tw_3_45, ts_3_1⟩

theorem ms_X9_edgeCount : MSt yX9_edgeCount cX9_edgeCount 1 (some .int) 0 := ⟨tw_5_32, tw_1_1, by decide, by decide, by decide +kernel⟩
theorem im_X9_edgeCount : IMt yX9_edgeCount := ⟨tw_5_30, tw_5_31⟩

theorem ms_X9_hasEdge : MSt yX9_hasEdge cX9_hasEdge 5 (some .int) 2 := ⟨tw_5_27, tw_1_1, by decide, by decide, by decide +kernel⟩
theorem im_X9_hasEdge : IMt yX9_hasEdge := ⟨tw_5_25, tw_5_26⟩

theorem ms_X1_targetsOf : MSt yX1_targetsOf cX1_targetsOf 6 (some .long) 1 := ⟨tw_5_49, tw_1_9, by decide, by decide, by decide +kernel⟩
theorem im_X1_targetsOf : IMt yX1_targetsOf := ⟨tw_5_48, ts_4_0⟩

theorem ms_X1_shortestPath : MSt yX1_shortestPath cX1_shortestPath 6 (some .int) 2 := ⟨tw_5_45, tw_1_9, by decide, by decide, by decide +kernel⟩
theorem im_X1_shortestPath : IMt yX1_shortestPath := ⟨tw_5_44, ts_3_15⟩

theorem ms_X9_distance : MSt yX9_distance cX9_distance 5 (some .int) 2 := ⟨tw_5_41, tw_1_1, by decide, by decide, by decide +kernel⟩
theorem im_X9_distance : IMt yX9_distance := ⟨tw_5_39, tw_5_40⟩

theorem ms_X9_componentSize : MSt yX9_componentSize cX9_componentSize 3 (some .int) 1 := ⟨tw_5_53, tw_1_1, by decide, by decide, by decide +kernel⟩
theorem im_X9_componentSize : IMt yX9_componentSize := ⟨tw_5_51, tw_5_52⟩

theorem ms_J6_numberOfTrailingZeros : MSt yJ6_numberOfTrailingZeros_0f7a4 cJ6_numberOfTrailingZeros_0f7a4 2 (some .int) 1 := ⟨tw_3_100, tw_1_15, by decide, by decide, by decide +kernel⟩

theorem ms_J13_numberOfTrailingZeros : MSt yJ13_numberOfTrailingZeros_95d88 cJ13_numberOfTrailingZeros_95d88 3 (some .int) 1 := ⟨tw_3_97, tw_1_14, by decide, by decide, by decide +kernel⟩

theorem ms_X1_lowestOf : MSt yX1_lowestOf cX1_lowestOf 2 (some .int) 1 := ⟨tw_3_94, tw_1_9, by decide, by decide, by decide +kernel⟩
theorem im_X1_lowestOf : IMt yX1_lowestOf := ⟨tw_3_93, ts_3_9⟩

theorem ms_X9_representative : MSt yX9_representative cX9_representative 3 (some .int) 1 := ⟨tw_5_58, tw_1_1, by decide, by decide, by decide +kernel⟩
theorem im_X9_representative : IMt yX9_representative := ⟨tw_5_56, tw_5_57⟩

theorem ms_X1_isLowest : MSt yX1_isLowest cX1_isLowest 2 (some .boolean) 1 := ⟨tw_3_90, tw_1_9, by decide, by decide, by decide +kernel⟩
theorem im_X1_isLowest : IMt yX1_isLowest := ⟨tw_3_89, ts_3_8⟩

theorem ms_X1_countComponents : MSt yX1_countComponents cX1_countComponents 4 (some .int) 1 := ⟨tw_3_86, tw_1_9, by decide, by decide, by decide +kernel⟩
theorem im_X1_countComponents : IMt yX1_countComponents := ⟨tw_3_85, ts_3_7⟩

theorem ms_X9_cyclicComponentCount : MSt yX9_cyclicComponentCount cX9_cyclicComponentCount 1 (some .int) 0 := ⟨tw_5_64, tw_1_1, by decide, by decide, by decide +kernel⟩
theorem im_X9_cyclicComponentCount : IMt yX9_cyclicComponentCount := ⟨tw_5_62, tw_5_63⟩

theorem ms_X9_condensedNodeCount : MSt yX9_condensedNodeCount cX9_condensedNodeCount 1 (some .int) 0 := ⟨tw_3_42, tw_1_1, by decide, by decide, by decide +kernel⟩
theorem im_X9_condensedNodeCount : IMt yX9_condensedNodeCount := ⟨tw_3_40, tw_3_41⟩

theorem ms_X1_lowestOfAll : MSt yX1_lowestOfAll cX1_lowestOfAll 6 (some .long) 1 := ⟨tw_5_77, tw_1_9, by decide, by decide, by decide +kernel⟩
theorem im_X1_lowestOfAll : IMt yX1_lowestOfAll := ⟨tw_5_76, ts_4_2⟩

theorem ms_X1_countCondensedEdges : MSt yX1_countCondensedEdges cX1_countCondensedEdges 5 (some .int) 0 := ⟨tw_5_72, tw_1_9, by decide, by decide, by decide +kernel⟩
theorem im_X1_countCondensedEdges : IMt yX1_countCondensedEdges := ⟨tw_5_71, ts_4_1⟩

theorem ms_X9_condensedEdgeCount : MSt yX9_condensedEdgeCount cX9_condensedEdgeCount 1 (some .int) 0 := ⟨tw_5_68, tw_1_1, by decide, by decide, by decide +kernel⟩
theorem im_X9_condensedEdgeCount : IMt yX9_condensedEdgeCount := ⟨tw_5_66, tw_5_67⟩

theorem ms_X9_isConstraint : MSt yX9_isConstraint cX9_isConstraint 2 (some .boolean) 1 := ⟨tw_4_175, tw_1_1, by decide, by decide, by decide +kernel⟩
theorem im_X9_isConstraint : IMt yX9_isConstraint := ⟨tw_4_174, ts_3_11⟩
































theorem ms_X0_operandAt : MSt yX0_operandAt cX0_operandAt 3 (some .int) 2 := ⟨tw_5_5, tw_1_6, by decide, by decide, by decide +kernel⟩
theorem im_X0_operandAt : IMt yX0_operandAt := ⟨tw_5_4, ts_3_13⟩



















































































































theorem rr_X5_namesOf {w : Wd} {v_into : Nat} {v_type : Int32} {r : Nat} (h : f_X5_namesOf w v_into v_type = r) (hv : zct zC v_into = 6) : zct zC r = 4 := by
  unfold f_X5_namesOf at h
  by_cases c1 : v_type = (1 : Int32)
  · rw [if_pos c1] at h; rw [← h]; exact rt_C_6_1 hv
  · rw [if_neg c1] at h
    by_cases c2 : v_type = (2 : Int32)
    · rw [if_pos c2] at h; rw [← h]; exact rt_C_6_2 hv
    · rw [if_neg c2] at h; rw [← h]; exact rt_C_6_0 hv
theorem rr_X9_graphed {w : Wd} {k0 : Nat} {r : Nat × Wd} (h : f_X9_graphed w k0 = some r) (hv : zct zC k0 = 9) : zct zC r.1 = 1 := by
  unfold f_X9_graphed at h
  obtain ⟨s1, -, h⟩ := ob h
  rw [← Option.some.inj h]
  exact rt_C_9_7 hv
theorem rr_X9_dumped {w : Wd} {k0 : Nat} {r : Nat × Wd} (h : f_X9_dumped w k0 = some r) (hv : zct zC k0 = 9) : zct zC r.1 = 2 := by
  unfold f_X9_dumped at h
  obtain ⟨s1, -, h⟩ := ob h
  rw [← Option.some.inj h]
  exact rt_C_9_8 hv
