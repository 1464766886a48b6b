/-! Counting the bits of a set; how many facts. -/
theorem size_dec : ∀ n, n < 1024 → f_X10_size (nI n) = some (nI (cn (bt (nI n)) 10)) := by decide +kernel
theorem bc_dec : ∀ n, n < 1024 → f_J6_bitCount (nI n) = nI (cn (bt (nI n)) 10) := by decide +kernel
theorem small_set {x : Int32} (h : ∀ j, bt x j = true → j < 10) : ∃ n, n < 1024 ∧ x = nI n := by
  refine ⟨x.toBitVec.toNat, ?_, ?_⟩
  · refine Nat.lt_pow_two_of_testBit (n := 10) _ fun i hi => ?_
    cases e : x.toBitVec.toNat.testBit i with
    | false => rfl
    | true =>
      have : bt x i = true := e
      have := h i this
      omega
  · exact Int32.toBitVec_inj.mp (BitVec.eq_of_toNat_eq (by
      show x.toBitVec.toNat = (BitVec.ofNat 32 x.toBitVec.toNat).toNat
      rw [BitVec.toNat_ofNat, Nat.mod_eq_of_lt x.toBitVec.isLt]))
theorem size_cn {x : Int32} (h : ∀ j, bt x j = true → j < 10) : f_X10_size x = some (nI (cn (bt x) 10)) := by
  obtain ⟨n, hn, rfl⟩ := small_set h
  exact size_dec n hn
theorem bc_cn {x : Int32} (h : ∀ j, bt x j = true → j < 10) : f_J6_bitCount x = nI (cn (bt x) 10) := by
  obtain ⟨n, hn, rfl⟩ := small_set h
  exact bc_dec n hn
theorem cn_split (q : Nat → Bool) (a n : Nat) : cn q (a + n) = cn q a + cn (fun j => q (a + j)) n := by
  induction n with
  | zero => rfl
  | succ n ih => rw [show a + (n + 1) = (a + n) + 1 from rfl, cn, ih, cn]; omega
theorem cnt_slot (T : Nat → Int32) (k : Nat) : cn (fct T) (10 * (k + 1)) = cn (fct T) (10 * k) + cn (bt (T k)) 10 := by
  rw [show 10 * (k + 1) = 10 * k + 10 by omega, cn_split]
  congr 1
  exact cn_cong fun i hi => fct_at hi
section CT
variable {p : Nat} {P : PK} {K : CK} {c m : Wd} {T : Nat → Int32}
theorem m_factsT (hT : ∀ k, k < 56 → m.1 15 k = T k) (h10 : ∀ k o, bt (T k) o = true → o < 10) : f_X10_facts m 0 = some (nI (cntT T)) := by
  unfold f_X10_facts
  refine wp_is ?_
  rw [wp_bind]
  refine wp_mono (lp_inv (fun i s => s.2 = nI i ∧ s.1 = nI (cn (fct T) (10 * i))) (fun r => r = nI (cntT T)) 56 ?_ ?_ (by decide) ⟨rfl, rfl⟩) (fun a q => wp_some.mpr q)
  · rintro i ⟨a, s⟩ hi ⟨h1, h2⟩
    dsimp only at h1 h2
    subst h1; subst h2
    unfold b_X10_facts_1
    dsimp only
    rw [if_pos (show nI i < (56 : Int32) from (n_lt (b := 56) (by omega) (by omega)).mpr hi)]
    show wp (Option.bind (rdI zM m 15 (nI i)) _) _
    rw [rdI_M (show i < 56 from hi), Option.bind_some, hT i hi, size_cn (h10 i), Option.bind_some, wp_some]
    exact ⟨nI_1 i, by dsimp only; rw [nI_add, cnt_slot]⟩
  · rintro ⟨a, s⟩ ⟨h1, h2⟩
    dsimp only at h1 h2
    subst h1; subst h2
    unfold b_X10_facts_1
    dsimp only
    rw [if_neg (show ¬ nI 56 < (56 : Int32) by decide), wp_some]
    rfl
theorem c_factsT (hT : ∀ k, k < 56 → c.1 61 k = T k) (h10 : ∀ k o, bt (T k) o = true → o < 10) : f_X8_countFacts c 60 = some (nI (cntT T)) := by
  unfold f_X8_countFacts
  refine wp_is ?_
  rw [wp_bind]
  refine wp_mono (lp_inv (fun i s => s.2 = nI i ∧ s.1 = nI (cn (fct T) (10 * i))) (fun r => r = nI (cntT T)) 56 ?_ ?_ (by decide) ⟨rfl, rfl⟩) (fun a q => wp_some.mpr q)
  · rintro i ⟨a, s⟩ hi ⟨h1, h2⟩
    dsimp only at h1 h2
    subst h1; subst h2
    unfold b_X8_countFacts_1
    dsimp only
    rw [if_pos (show nI i < (56 : Int32) from (n_lt (b := 56) (by omega) (by omega)).mpr hi)]
    show wp (Option.bind (rdI zC c 61 (nI i)) _) _
    rw [rdI_C (show i < 56 from hi), Option.bind_some, hT i hi, bc_cn (h10 i), wp_some]
    exact ⟨nI_1 i, by dsimp only; rw [nI_add, cnt_slot]⟩
  · rintro ⟨a, s⟩ ⟨h1, h2⟩
    dsimp only at h1 h2
    subst h1; subst h2
    unfold b_X8_countFacts_1
    dsimp only
    rw [if_neg (show ¬ nI 56 < (56 : Int32) by decide), wp_some]
    rfl
theorem SS_10 (hP : PWF P) (hK : CWF P K) {r k o : Nat} (h : bt (SS P K r k) o = true) : o < 10 := by
  have := (SS_ok hP hK r k o h).2
  have := hP.2.1
  omega
theorem q_factCount (h : Base p P K c m) : QS (some (f_X9_factCount c 0)) (f_X10_factCount m 0) m := by
  refine ⟨nI (cntT (SS P K (RR P K))), ?_, ?_⟩
  · unfold f_X9_factCount
    show some (c.1 45 2) = _
    rw [h.2.2.2.2.2.2.2.2.1.2.2.1]
  · unfold f_X10_factCount
    rw [Option.bind_some, m_factsT h.m0.2.2.2.2.2.2.2.2.2.1 (fun k o q => SS_10 h.2.2.2.2.2.2.1 h.2.2.2.2.2.2.2.1 q)]; rfl
end CT
