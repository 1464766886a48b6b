/-! The operands of addConstraint. -/
def stand (P : PK) (t : Nat) (y : Int32) : Bool := if opT t = 0 then inR y (nv P) else if opT t = 1 then inR y (no P) else if opT t = 2 then inR y (nf P) else decide (y = -2)
/-- may a constraint of kind k with these operands stand? -/
def okOp (P : PK) (k : Nat) (a b d : Int32) : Bool := inR a (nv P) && (if k = 0 then inR b (no P) && decide (d = -2) else if k = 1 then inR b (nv P) && decide (d = -2) else if k = 2 then inR b (nv P) && inR d (nf P) else if k = 3 then inR b (nf P) && inR d (nv P) else inR b (nv P) && inR d (nv P))
section OP
variable {p : Nat} {P : PK} {K K' : CK} {c m w : Wd} {v a b d y : Int32} {k j : Nat}
theorem c_stand (h : Base p P K c m) (hk : k ≤ 4) (hj : j < 3) : f_X6_mayStandAt c p (nI k) (nI j) y = some (stand P (k * 3 + j) y) := by
  unfold f_X6_mayStandAt f_X9_typeAt
  show Option.bind (Option.bind (rdS opT 18 (nI k * nI 3 + nI j)) _) _ = _
  rw [pk_mul, nI_add, rdS_at (show k * 3 + j < 18 by omega) (by omega), Option.bind_some, Option.bind_some, zp0 h.1, zp1 h.1, zp2 h.1, h.2.2.1.1, h.2.2.1.2.1, h.2.2.1.2.2.1]
  unfold stand inR
  by_cases h0 : opT (k * 3 + j) = 0
  · rw [if_pos h0, if_pos h0]
  · rw [if_neg h0, if_neg h0]
    by_cases h1 : opT (k * 3 + j) = 1
    · rw [if_pos h1, if_pos h1]
    · rw [if_neg h1, if_neg h1]
      by_cases h2 : opT (k * 3 + j) = 2
      · rw [if_pos h2, if_pos h2]
      · rw [if_neg h2, if_neg h2]
theorem stand_ok (hk : k ≤ 4) : (stand P (k * 3 + 0) a && (stand P (k * 3 + 1) b && stand P (k * 3 + 2) d)) = okOp P k a b d := by
  have : k = 0 ∨ k = 1 ∨ k = 2 ∨ k = 3 ∨ k = 4 := by omega
  rcases this with rfl | rfl | rfl | rfl | rfl <;> rfl
/-- the class refuses -/
theorem c_refuse (h : Base p P K c m) : (if v < (0 : Int32) then some true else if (4 : Int32) < v then some true else Option.bind (rdD zC c (0) 1 6) (fun x5 => Option.bind ((f_X6_mayStandAt c (x5) (v) ((0 : Int32)) (a))) (fun x6 => if x6 = true then Option.bind (rdD zC c (0) 1 6) (fun x8 => Option.bind ((f_X6_mayStandAt c (x8) (v) ((1 : Int32)) (b))) (fun x9 => if x9 = true then Option.bind (rdD zC c (0) 1 6) (fun x11 => Option.bind ((f_X6_mayStandAt c (x11) (v) ((2 : Int32)) (d))) (fun x12 => if x12 = true then some false else some true)) else some true)) else some true)))
    = some (if v < 0 ∨ 4 < v then true else !okOp P v.toNatClampNeg a b d) := by
  by_cases h1 : v < 0
  · rw [if_pos h1, if_pos (Or.inl h1)]
  · rw [if_neg h1]
    by_cases h2 : 4 < v
    · rw [if_pos h2, if_pos (Or.inr h2)]
    · rw [if_neg h2, if_neg (fun z => z.elim h1 h2)]
      obtain ⟨k, hk, rfl⟩ := nI_of h1
      have hk4 : k ≤ 4 := by
        refine Classical.byContradiction fun q => h2 ((nI_ltI (a := 4) (by omega) hk).mpr (by omega))
      rw [h.rp, Option.bind_some, n_cl (by omega), ← stand_ok hk4, show f_X6_mayStandAt c p (nI k) 0 a = some (stand P (k * 3 + 0) a) from c_stand (j := 0) h hk4 (by decide), Option.bind_some]
      cases stand P (k * 3 + 0) a with
      | false => rfl
      | true =>
        rw [if_pos rfl, Option.bind_some, show f_X6_mayStandAt c p (nI k) 1 b = some (stand P (k * 3 + 1) b) from c_stand (j := 1) h hk4 (by decide), Option.bind_some]
        cases stand P (k * 3 + 1) b with
        | false => rfl
        | true =>
          rw [if_pos rfl, Option.bind_some, show f_X6_mayStandAt c p (nI k) 2 d = some (stand P (k * 3 + 2) d) from c_stand (j := 2) h hk4 (by decide), Option.bind_some]
          cases stand P (k * 3 + 2) d <;> rfl
/-- the reference refuses -/
theorem m_refuse (h : Base p P K c m) : f_X10_areOperands m 0 v a b d = some (if v < 0 ∨ 4 < v then false else okOp P v.toNatClampNeg a b d) := by
  unfold f_X10_areOperands
  rw [m_isVariable h, Option.bind_some]
  by_cases hv : v < 0 ∨ 4 < v
  · rw [if_pos hv]
    have ne : ∀ k, k ≤ 4 → ¬ v = nI k := fun k hk z => by
      rcases hv with q | q
      · rw [z] at q; exact nI_pos (by omega) q
      · rw [z] at q
        have := (nI_ltI (a := 4) (by omega) (by omega)).mp q
        omega
    cases inR a (nv P) with
    | false => rfl
    | true =>
      rw [if_neg (fun z => z rfl), if_neg (show ¬ v = (0 : Int32) from ne 0 (by omega)), if_neg (show ¬ v = (1 : Int32) from ne 1 (by omega)), if_neg (show ¬ v = (2 : Int32) from ne 2 (by omega)), if_neg (show ¬ v = (3 : Int32) from ne 3 (by omega)), if_neg (show ¬ v = (4 : Int32) from ne 4 (by omega))]
  · rw [if_neg hv]
    obtain ⟨k, hk, rfl⟩ := nI_of (fun z => hv (Or.inl z))
    have hk4 : k ≤ 4 := Classical.byContradiction fun q => hv (Or.inr ((nI_ltI (a := 4) (by omega) hk).mpr (by omega)))
    rw [n_cl (by omega)]
    unfold okOp
    cases inR a (nv P) with
    | false => rfl
    | true =>
      rw [if_neg (fun z => z rfl), m_isObject h, m_isVariable h, m_isVariable h, m_isField h, m_isField h]
      have : k = 0 ∨ k = 1 ∨ k = 2 ∨ k = 3 ∨ k = 4 := by omega
      rcases this with rfl | rfl | rfl | rfl | rfl
      · rw [if_pos (by decide), Option.bind_some]
        cases inR b (no P) <;> simp
      · rw [if_neg (by decide), if_pos (by decide), Option.bind_some]
        cases inR b (nv P) <;> simp
      · rw [if_neg (by decide), if_neg (by decide), if_pos (by decide), Option.bind_some, Option.bind_some]
        cases inR b (nv P) <;> cases inR d (nf P) <;> rfl
      · rw [if_neg (by decide), if_neg (by decide), if_neg (by decide), if_pos (by decide), Option.bind_some, Option.bind_some]
        cases inR b (nf P) <;> cases inR d (nv P) <;> rfl
      · rw [if_neg (by decide), if_neg (by decide), if_neg (by decide), if_neg (by decide), if_pos (by decide), Option.bind_some, Option.bind_some]
        cases inR b (nv P) <;> cases inR d (nv P) <;> rfl
end OP
