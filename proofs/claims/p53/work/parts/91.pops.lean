/-! The program while it is read; its operands. -/
def FpC (q : Nat) (c0 c : Wd) : Prop := (∀ p, p ≠ 1 → p ≠ 3 → ¬ (q ≤ p ∧ p ≤ q + 13) → c.1 p = c0.1 p) ∧ (∀ j, ¬ (2 ≤ j ∧ j ≤ 7) → c.1 1 j = c0.1 1 j) ∧ (∀ p, p ≠ 1 → ¬ (q ≤ p ∧ p ≤ q + 13) → c.2.1 p = c0.2.1 p) ∧ (c.2.2 = c0.2.2 ∧ ∀ ty, ty < 3 → c.1 (q + 1 + 2 * ty) 1 = c0.1 (q + 1 + 2 * ty) 1)
def FpM (m0 m : Wd) : Prop := (∀ p, p ≠ 0 → ¬ (2 ≤ p ∧ p ≤ 4) → p ≠ 8 → p ≠ 9 → p ≠ 11 → m.1 p = m0.1 p) ∧ (∀ j, ¬ (4 ≤ j ∧ j ≤ 9) → m.1 0 j = m0.1 0 j) ∧ (∀ p, 2 ≤ p → p ≤ 4 → m.1 p 0 = m0.1 p 0) ∧ (∀ j, j < 10 → m.1 8 j = m0.1 8 j ∧ m.1 9 j = m0.1 9 j) ∧ (∀ p, p ≠ 0 → ¬ (5 ≤ p ∧ p ≤ 7) → m.2.1 p = m0.2.1 p) ∧ (∀ ty, ty < 3 → ∀ j, j < lim ty → m.2.1 (5 + ty) j = m0.2.1 (5 + ty) j) ∧ m.2.2 = m0.2.2
def FnR (q : Nat) (P : PK) (c m : Wd) : Prop := c.1 q 5 = fs P ∧ (∀ o, bt (fs P) o = true → c.1 (q + 7) o = nI (pr P o) ∧ c.1 (q + 8) o = nI (rs P o)) ∧ ∀ o, o < no P → (bt (fs P) o = true → m.1 8 (10 + o) = nI (pr P o) ∧ m.1 9 (10 + o) = nI (rs P o)) ∧ (bt (fs P) o = false → m.1 8 (10 + o) = -2 ∧ m.1 9 (10 + o) = -2)
def LsR (q : Nat) (K : CK) (c m : Wd) : Prop := RLc c (q + 9) K ∧ m.1 11 0 = nI (nc K) ∧ ∀ i, i < nc K → m.1 11 (2 + 4 * i) = nI (kd K i) ∧ m.1 11 (3 + 4 * i) = nI (ka K i) ∧ m.1 11 (4 + 4 * i) = nI (kb K i) ∧ m.1 11 (5 + 4 * i) = thI (kd K i) (kc K i)
def mkP (N : Nat → Nat) (fs : Int32) (pr rs : Nat → Nat) : PK := (N 0, N 1, N 2, fs, pr, rs)
/-- the program read so far, and where the reading stands -/
def JB (q : Nat) (T : Nat → Nat) (n s e k : Nat) (N : Nat → Nat) (W : Nat → Nat → Wrd) (P : PK) (K : CK) (c0 m0 c m : Wd) : Prop :=
  FpC q c0 c ∧ FpM m0 m ∧ LX T n s e k c m ∧ NoEr c m ∧ (∀ ty, ty < 3 → Tab q ty (N ty) (W ty) c m) ∧ (nv P = N 0 ∧ no P = N 1 ∧ nf P = N 2) ∧ FnR q P c m ∧ LsR q K c m ∧ PWF P ∧ CWF P K ∧ ∀ i, bt (en K) i = decide (i < nc K)
def mop (ty : Nat) (m : Wd) : Option (Int32 × Wd) := if ty = 0 then f_X10_variable m 0 else if ty = 1 then f_X10_object m 0 else f_X10_field m 0
section PO
variable {T : Nat → Nat} {n s e k a q ty cnt v o i : Nat} {N : Nat → Nat} {W : Nat → Nat → Wrd} {P : PK} {K : CK} {c0 m0 c c' d m m' r w : Wd} {st : Nat}
theorem FpC.fi (hq : PC q) (ht : ty < 3) (h : FpC q c0 c) (f : FiC q ty c c') : FpC q c0 c' := by
  have hq4 : 4 ≤ q := by rcases hq with rfl | rfl <;> omega
  exact ⟨fun p p1 p2 p3 => (f.1 p p1 (by omega)).trans (h.1 p p1 p2 p3), fun j j1 => (f.2.2.1 j (by omega) (by omega) (by omega) (by omega)).trans (h.2.1 j j1), fun p p1 p2 => (f.2.2.2.1 p p1 (by omega)).trans (h.2.2.1 p p1 p2), ⟨f.2.2.2.2.trans h.2.2.2.1, fun t ht2 => by
    by_cases z : t = ty
    · rw [z, f.2.1 1 (by omega)]; exact h.2.2.2.2 ty ht
    · rw [f.1 _ (by omega) (by omega)]; exact h.2.2.2.2 t ht2⟩⟩
theorem FpM.fi (ht : ty < 3) (h : FpM m0 m) (f : FiM ty m m') : FpM m0 m' := by
  refine ⟨fun p p1 p2 p3 p4 p5 => (f.1 p p1 (by omega)).trans (h.1 p p1 p2 p3 p4 p5), fun j j1 => (f.2.2.1 j j1).trans (h.2.1 j j1), fun p p1 p2 => ?_, fun j hj => ?_, fun p p1 p2 => (f.2.2.2.1 p p1 (by omega)).trans (h.2.2.2.2.1 p p1 p2), fun t ht2 j hj => ?_, f.2.2.2.2.2.trans h.2.2.2.2.2.2⟩
  · by_cases z : p = 2 + ty
    · rw [z]; exact f.2.1.trans (h.2.2.1 _ (by omega) (by omega))
    · rw [f.1 p (by omega) z]; exact h.2.2.1 p p1 p2
  · rw [f.1 8 (by omega) (by omega), f.1 9 (by omega) (by omega)]; exact h.2.2.2.1 j hj
  · by_cases z : t = ty
    · subst z; exact (f.2.2.2.2.1 j hj).trans (h.2.2.2.2.2.1 t ht2 j hj)
    · rw [f.2.2.2.1 _ (by omega) (by omega)]; exact h.2.2.2.2.2.1 t ht2 j hj
theorem Tab.other {t : Nat} {U : Nat → Wrd} (hq : PC q) (ht : t < 3) (hty : ty < 3) (hne : t ≠ ty) (h : Tab q t cnt U c m) (f : FiC q ty c c') (g : FiM ty m m') : Tab q t cnt U c' m' := by
  have hq4 : 4 ≤ q := by rcases hq with rfl | rfl <;> omega
  obtain ⟨h1, h2, h3, h4, h5, h6⟩ := h
  exact ⟨h1, by rw [f.1 _ (by omega) (by omega)]; exact h2, by rw [f.1 _ (by omega) (by omega)]; exact h3, by rw [g.1 _ (by omega) (by omega)]; exact h4, fun v hv => by rw [f.2.2.2.1 _ (by omega) (by omega), g.2.2.2.1 _ (by omega) (by omega)]; exact h5 v hv, h6⟩
theorem CWF.up {P' : PK} (h : CWF P K) (h1 : nv P ≤ nv P') (h2 : no P ≤ no P') (h3 : nf P ≤ nf P') : CWF P' K := ⟨h.1, h.2.1, fun i hi => by
  obtain ⟨g0, g1, g2, g3, g4, g5, g6⟩ := h.2.2 i hi
  exact ⟨g0, by omega, fun z => by have := g2 z; omega, fun z => by have := g3 z; omega, fun z => by have := g4 z; omega, fun z => by have := g5 z; omega, fun z => by have := g6 z; omega⟩⟩
theorem LsR.fi (hq : PC q) (ht : ty < 3) (h : LsR q K c m) (f : FiC q ty c c') (g1 : m'.1 11 = m.1 11) : LsR q K c' m' := by
  have hq4 : 4 ≤ q := by rcases hq with rfl | rfl <;> omega
  unfold LsR RLc at *
  rw [f.1 _ (by omega) (by omega), f.1 _ (by omega) (by omega), f.1 _ (by omega) (by omega), f.1 _ (by omega) (by omega), f.1 _ (by omega) (by omega), g1]
  exact h
theorem mop_var : mop 0 m = Option.bind (f_X10_identifier m 0 (5 + 0) (2 + 0) (nI (lim 0))) (fun x1 => some (x1.1, x1.2)) := rfl
theorem mop_fld : mop 2 m = Option.bind (f_X10_identifier m 0 (5 + 2) (2 + 2) (nI (lim 2))) (fun x1 => some (x1.1, x1.2)) := rfl
theorem mop_obj : mop 1 m = Option.bind (rdI zM m (2 + 1) (1 : Int32)) (fun x1 => Option.bind (f_X10_identifier m 0 (5 + 1) (2 + 1) (nI (lim 1))) (fun x2 => Option.bind (Option.bind (rdI zM x2.2 (2 + 1) (1 : Int32)) (fun x4 => if x1 < x4 then Option.bind (wrI zM x2.2 8 ((10 : Int32) + x2.1) (-2 : Int32)) (fun w6 => Option.bind (wrI zM w6 9 ((10 : Int32) + x2.1) (-2 : Int32)) (fun w7 => some w7)) else some x2.2)) (fun s3 => some (x2.1, s3)))) := rfl
theorem rd_many (ht : ty < 3) : rdI zM m (2 + ty) (1 : Int32) = some (m.1 (2 + ty) 1) := rdI_M (j := 1) (by rw [(zmn ht).2]; omega)
/-- what an operand's reading comes to, in the program -/
def OpJ (q : Nat) (T : Nat → Nat) (n e ty : Nat) (N : Nat → Nat) (P : PK) (K : CK) (c0 m0 c m : Wd) (f g : Option (Int32 × Wd)) : Prop := ∃ r c' m', f = some (r, c') ∧ c'.1 3 = c.1 3 ∧ m'.1 11 = m.1 11 ∧ 
  ((FpC q c0 c' ∧ FpM m0 m' ∧ Er c' m' ∧ g = some (0, m')) ∨ (∃ v N' W' P' s' e' k', r = nI v ∧ g = some (nI v, m') ∧ v < N' ty ∧ (∀ t, t < 3 → N t ≤ N' t) ∧ (fs P' = fs P ∧ pr P' = pr P ∧ rs P' = rs P) ∧ e ≤ s' ∧ JB q T n s' e' k' N' W' P' K c0 m0 c' m'))
theorem both_op (hq : PC q) (ht : ty < 3) (hst : st < 6) (h : JB q T n s e k N W P K c0 m0 c m) (hdup : st = 5 → ty = 1 → nmq k (wd T s e) = true → ∀ v, v < N 1 → cN (W 1 v) = cN (wd T s e) → bt (fs P) v = false) : OpJ q T n e ty N P K c0 m0 c m (f_X5_readOperand c 1 q (nI st) (nI ty)) (mop ty m) := by
  have hq4 : 4 ≤ q := by rcases hq with rfl | rfl <;> omega
  obtain ⟨f1, f2, hL, hE, hT, ⟨e0, e1, e2⟩, hF, hK, hP, hC, hen⟩ := h
  obtain ⟨hF1, hF2, hF3⟩ := hF
  obtain ⟨r, c', m1, x1, x2, x3, x4⟩ := both_operand (st := st) hq ht hL hE (hT ty ht) hst (fun z5 z1 z0 => by
    subst z1
    refine ⟨fun v hv hz => by rw [hF1]; exact hdup z5 rfl z0 v hv hz, ?_⟩
    rw [hF1]
    cases y : bt (fs P) (N 1) with
    | false => rfl
    | true => have := (hP.2.2.2 _ y).1; omega)
  have c3 : c'.1 3 = c.1 3 := x2.1 3 (by omega) (by omega)
  have c11 : m1.1 11 = m.1 11 := x3.1 11 (by omega) (by omega)
  rcases x4 with ⟨y1, y2, y3⟩ | ⟨v, cnt', W', s', e', k', rfl, y2, y3, y4, y5, y6, y7, y8⟩
  · refine ⟨r, c', m1, x1, c3, c11, Or.inl ⟨f1.fi hq ht x2, f2.fi ht x3, y1, ?_⟩⟩
    have hh : ty = 0 ∨ ty = 1 ∨ ty = 2 := by omega
    rcases hh with rfl | rfl | rfl
    · rw [mop_var, y2]; rfl
    · rw [mop_obj, rd_many (by omega), Option.bind_some, y2, Option.bind_some]
      dsimp only
      rw [rd_many (by omega), y3, Option.bind_some, if_neg (fun z => by
        have := Int32.lt_iff_toInt_lt.mp z
        omega)]
      rfl
    · rw [mop_fld, y2]; rfl
  · have hcnt : N ty ≤ cnt' := by rcases y5 with ⟨z, _⟩ | ⟨z, _⟩ <;> omega
    have hlim := y4.1
    have hmop : ∃ m', mop ty m = some (nI v, m') ∧ (∀ p, p ≠ 8 → p ≠ 9 → m'.1 p = m1.1 p) ∧ m'.2 = m1.2 ∧ (∀ j, ¬ (ty = 1 ∧ cnt' = N 1 + 1 ∧ j = 10 + N 1) → m'.1 8 j = m1.1 8 j ∧ m'.1 9 j = m1.1 9 j) ∧ (ty = 1 → cnt' = N 1 + 1 → m'.1 8 (10 + N 1) = -2 ∧ m'.1 9 (10 + N 1) = -2) := by
      have hh : ty = 0 ∨ ty = 1 ∨ ty = 2 := by omega
      rcases hh with rfl | rfl | rfl
      · exact ⟨m1, by rw [mop_var, y2]; rfl, fun _ _ _ => rfl, rfl, fun _ _ => ⟨rfl, rfl⟩, fun z => by omega⟩
      · have t4 := (hT 1 ht).2.2.2.1
        have u4 := y4.2.2.2.1
        have l1 : lim 1 = 10 := rfl
        rw [mop_obj, rd_many (by omega), Option.bind_some, y2, Option.bind_some]
        dsimp only
        rw [rd_many (by omega), Option.bind_some, t4, u4]
        rcases y5 with ⟨z, _⟩ | ⟨z, z2⟩
        · rw [if_neg (fun y => by have := (n_lt (by omega) (by omega)).mp y; omega), Option.bind_some]
          exact ⟨m1, rfl, fun _ _ _ => rfl, rfl, fun _ _ => ⟨rfl, rfl⟩, fun _ y => by omega⟩
        · rw [if_pos ((n_lt (by omega) (by omega)).mpr (by omega))]
          have a10 : (10 : Int32) + nI v = nI (10 + N 1) := (nI_add 10 v).trans (by rw [z2])
          rw [a10, wrI_M (show 10 + N 1 < 20 by omega), Option.bind_some, wrI_M (show 10 + N 1 < 20 by omega), Option.bind_some, Option.bind_some]
          refine ⟨_, rfl, fun p p1 p2 => by rw [wsI_o _ _ _ p2, wsI_o _ _ _ p1], rfl, fun j hj => ?_, fun _ _ => ?_⟩
          · have hj2 : j ≠ 10 + N 1 := fun y => hj ⟨rfl, z, y⟩
            exact ⟨by rw [wsI_o _ _ _ (by omega), wsI_s, upd_o hj2], by rw [wsI_s, upd_o hj2, wsI_o _ _ _ (by omega)]⟩
          · exact ⟨by rw [wsI_o _ _ _ (by omega), wsI_s, upd_s], by rw [wsI_s, upd_s]⟩
      · exact ⟨m1, by rw [mop_fld, y2]; rfl, fun _ _ _ => rfl, rfl, fun _ _ => ⟨rfl, rfl⟩, fun z => by omega⟩
    obtain ⟨m', g1, g2, g3, g4, g5⟩ := hmop
    refine ⟨nI v, c', m', x1, c3, (g2 11 (by omega) (by omega)).trans c11, Or.inr ⟨v, fun t => if t = ty then cnt' else N t, fun t => if t = ty then W' else W t, mkP (fun t => if t = ty then cnt' else N t) (fs P) P.2.2.2.2.1 P.2.2.2.2.2, s', e', k', rfl, g1, ?_, fun t _ => ?_, ⟨rfl, rfl, rfl⟩, y7, ?_⟩⟩
    · dsimp only
      rw [if_pos rfl]; exact y3
    · dsimp only
      by_cases z : t = ty
      · rw [if_pos z, z]; exact hcnt
      · rw [if_neg z]; exact Nat.le_refl _
    · have up : ∀ t, N t ≤ (if t = ty then cnt' else N t) := fun t => by
        by_cases z : t = ty
        · rw [if_pos z, z]; exact hcnt
        · rw [if_neg z]; exact Nat.le_refl _
      have lm : ∀ t, t < 3 → (if t = ty then cnt' else N t) ≤ lim t := fun t ht2 => by
        by_cases z : t = ty
        · rw [if_pos z, z]; exact hlim
        · rw [if_neg z]; exact (hT t ht2).1
      have F2 : FpM m0 m1 := f2.fi ht x3
      have hPw : PWF (mkP (fun t => if t = ty then cnt' else N t) (fs P) P.2.2.2.2.1 P.2.2.2.2.2) := ⟨lm 0 (by omega), lm 1 (by omega), lm 2 (by omega), fun o ho => by
        have := hP.2.2.2 o ho
        have u0 := up 0
        have u1 := up 1
        exact ⟨Nat.lt_of_lt_of_le (Nat.lt_of_lt_of_le this.1 (Nat.le_of_eq e1)) u1, Nat.lt_of_lt_of_le (Nat.lt_of_lt_of_le this.2.1 (Nat.le_of_eq e0)) u0, Nat.lt_of_lt_of_le (Nat.lt_of_lt_of_le this.2.2 (Nat.le_of_eq e0)) u0⟩⟩
      refine ⟨f1.fi hq ht x2, ?_, ?_, ⟨y8.1, by rw [g2 0 (by omega) (by omega)]; exact y8.2⟩, fun t ht2 => ?_, ⟨rfl, rfl, rfl⟩, ⟨?_, fun o ho => ?_, fun o ho => ?_⟩, ?_, hPw, hC.up (Nat.le_trans (Nat.le_of_eq e0) (up 0)) (Nat.le_trans (Nat.le_of_eq e1) (up 1)) (Nat.le_trans (Nat.le_of_eq e2) (up 2)), hen⟩
      · obtain ⟨q1, q2, q3, q4, q5, q6, q7⟩ := F2
        refine ⟨fun p p1 p2 p3 p4 p5 => by rw [g2 p p3 p4]; exact q1 p p1 p2 p3 p4 p5, fun j hj => by rw [g2 0 (by omega) (by omega)]; exact q2 j hj, fun p p1 p2 => by rw [g2 p (by omega) (by omega)]; exact q3 p p1 p2, fun j hj => ?_, by rw [g3]; exact q5, by rw [g3]; exact q6, by rw [g3]; exact q7⟩
        rw [(g4 j (by omega)).1, (g4 j (by omega)).2]; exact q4 j hj
      · obtain ⟨l1, l2, l3, l4, l5⟩ := y6
        exact ⟨l1, ⟨l2.1, by rw [g2 0 (by omega) (by omega)]; exact l2.2.1, fun j hj => by rw [g2 1 (by omega) (by omega)]; exact l2.2.2 j hj⟩, l3, ⟨by rw [g2 0 (by omega) (by omega)]; exact l4.1, by rw [g2 0 (by omega) (by omega)]; exact l4.2.1, by rw [g2 0 (by omega) (by omega)]; exact l4.2.2.1, by rw [g3]; exact l4.2.2.2⟩, l5⟩
      · have tt : Tab q t (if t = ty then cnt' else N t) (if t = ty then W' else W t) c' m1 := by
          by_cases z : t = ty
          · rw [if_pos z, if_pos z, z]; exact y4
          · rw [if_neg z, if_neg z]; exact (hT t ht2).other hq ht2 ht z x2 x3
        obtain ⟨b1, b2, b3, b4, b5, b6⟩ := tt
        exact ⟨b1, b2, b3, by rw [g2 _ (by omega) (by omega)]; exact b4, fun v hv => by rw [g3]; exact b5 v hv, b6⟩
      · rw [x2.1 q (by omega) (by omega)]; exact hF1
      · rw [x2.1 (q + 7) (by omega) (by omega), x2.1 (q + 8) (by omega) (by omega)]; exact hF2 o ho
      · have ho' : o < (if 1 = ty then cnt' else N 1) := ho
        have m89 : m1.1 8 = m.1 8 ∧ m1.1 9 = m.1 9 := ⟨x3.1 8 (by omega) (by omega), x3.1 9 (by omega) (by omega)⟩
        by_cases z : ty = 1 ∧ cnt' = N 1 + 1 ∧ o = N 1
        · obtain ⟨z1, z2, z3⟩ := z
          have hn : bt (fs P) o = false := by
            cases y : bt (fs P) o with
            | false => rfl
            | true => have := (hP.2.2.2 _ y).1; omega
          have := g5 z1 z2
          rw [z3]
          rw [z3] at hn
          exact ⟨fun y => absurd ((show bt (fs P) (N 1) = true from y).symm.trans hn) (by decide), fun _ => this⟩
        · have ho2 : o < no P := by
            by_cases y : 1 = ty
            · rw [if_pos y] at ho'
              rcases y5 with ⟨w1, _⟩ | ⟨w1, _⟩
              · rw [e1, y, ← w1]; exact ho'
              · subst y
                have : o ≠ N 1 := fun t => z ⟨rfl, w1, t⟩
                omega
            · rw [if_neg y] at ho'
              omega
          have hne : ¬ (ty = 1 ∧ cnt' = N 1 + 1 ∧ 10 + o = 10 + N 1) := fun y => z ⟨y.1, y.2.1, by omega⟩
          rw [(g4 (10 + o) hne).1, (g4 (10 + o) hne).2, m89.1, m89.2]
          exact hF3 o ho2
      · exact hK.fi hq ht x2 ((g2 11 (by omega) (by omega)).trans c11)
end PO
