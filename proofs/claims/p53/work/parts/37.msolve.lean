/-! What the reference holds of a program and a list of constraints; its solve. -/
def RPm (m : Wd) (P : PK) : Prop := m.1 2 0 = nI (nv P) ∧ m.1 3 0 = nI (no P) ∧ m.1 4 0 = nI (nf P) ∧ ∀ o, o < no P → (bt (fs P) o = true → m.1 8 o = nI (pr P o) ∧ m.1 9 o = nI (rs P o)) ∧ (bt (fs P) o = false → m.1 8 o = -2 ∧ m.1 9 o = -2)
def RLm (m : Wd) (K : CK) : Prop := m.1 10 0 = nI (nc K) ∧ m.1 10 1 = en K ∧ ∀ i, i < nc K → m.1 10 (2 + 4 * i) = nI (kd K i) ∧ m.1 10 (3 + 4 * i) = nI (ka K i) ∧ m.1 10 (4 + 4 * i) = nI (kb K i) ∧ m.1 10 (5 + 4 * i) = thI (kd K i) (kc K i)
theorem m_ix (a i : Nat) : nI a + nI 4 * nI i = nI (a + 4 * i) := by rw [pk_mul, nI_add]
theorem m_fieldIndex (o f : Nat) : f_X10_fieldIndex (nI o) (nI f) = nI (16 + 4 * o + f) := by
  unfold f_X10_fieldIndex
  show (nI 16 + nI 4 * nI o) + nI f = _
  rw [pk_mul, nI_add, nI_add]
section MR
variable {m : Wd} {P : PK} {K : CK} {i : Nat}
theorem m_kind (h : RLm m K) (hn : nc K ≤ 30) (hi : i < nc K) : f_X10_kind m 0 (nI i) = some (nI (kd K i)) := by
  unfold f_X10_kind
  show Option.bind (rdI zM m 10 (nI 2 + nI 4 * nI i)) _ = _
  rw [m_ix, rdI_M (show 2 + 4 * i < 122 by omega), Option.bind_some, (h.2.2 i hi).1]
theorem m_first (h : RLm m K) (hn : nc K ≤ 30) (hi : i < nc K) : f_X10_first m 0 (nI i) = some (nI (ka K i)) := by
  unfold f_X10_first
  show Option.bind (rdI zM m 10 (nI 3 + nI 4 * nI i)) _ = _
  rw [m_ix, rdI_M (show 3 + 4 * i < 122 by omega), Option.bind_some, (h.2.2 i hi).2.1]
theorem m_second (h : RLm m K) (hn : nc K ≤ 30) (hi : i < nc K) : f_X10_second m 0 (nI i) = some (nI (kb K i)) := by
  unfold f_X10_second
  show Option.bind (rdI zM m 10 (nI 4 + nI 4 * nI i)) _ = _
  rw [m_ix, rdI_M (show 4 + 4 * i < 122 by omega), Option.bind_some, (h.2.2 i hi).2.2.1]
theorem m_third (h : RLm m K) (hn : nc K ≤ 30) (hi : i < nc K) : f_X10_third m 0 (nI i) = some (thI (kd K i) (kc K i)) := by
  unfold f_X10_third
  show Option.bind (rdI zM m 10 (nI 5 + nI 4 * nI i)) _ = _
  rw [m_ix, rdI_M (show 5 + 4 * i < 122 by omega), Option.bind_some, (h.2.2 i hi).2.2.2]
theorem m_isEnabled (h : RLm m K) (hi : i < 32) : f_X10_isEnabled m 0 (nI i) = some (bt (en K) i) := by
  unfold f_X10_isEnabled
  show Option.bind (rdI zM m 10 (nI 1)) _ = _
  rw [rdI_M (show 1 < 122 by omega), Option.bind_some, h.2.1, has_bt hi]
theorem m_count (h : RLm m K) : rdI zM m (zrf zM 0 18) (0 : Int32) = some (nI (nc K)) := by
  show rdI zM m 10 (nI 0) = _
  rw [rdI_M (show 0 < 122 by omega), h.1]
theorem m_objects (h : RPm m P) : rdI zM m (zrf zM 0 11) (0 : Int32) = some (nI (no P)) := by
  show rdI zM m 3 (nI 0) = _
  rw [rdI_M (show 0 < 2 by omega), h.2.1]
theorem m_isFunction (h : RPm m P) (hP : PWF P) {o : Nat} (ho : o < no P) : f_X10_isFunction m 0 (nI o) = some (bt (fs P) o) := by
  have h10 := hP.2.1
  unfold f_X10_isFunction
  show Option.bind (rdI zM m 8 (nI o)) _ = _
  rw [rdI_M (show o < 20 by omega), Option.bind_some]
  cases hb : bt (fs P) o with
  | true =>
    rw [((h.2.2.2 o ho).1 hb).1, decide_eq_true (n_m2 (by have := (hP.2.2.2 o hb).2.1; have := hP.1; omega))]
  | false => rw [((h.2.2.2 o ho).2 hb).1, decide_eq_false (fun z => z rfl)]
theorem m_add {k : Nat} {x : Int32} (hk : k < 56) : f_X10_add m 0 (nI k) x = some (wsI m 15 k (m.1 15 k ||| x)) := by
  unfold f_X10_add
  show Option.bind (rdI zM m 15 (nI k)) (fun x1 => Option.bind (wrI zM m 15 (nI k) (x1 ||| x)) _) = _
  rw [rdI_M (show k < 56 from hk), Option.bind_some, wrI_M (show k < 56 from hk)]
  rfl
theorem RPm.keep {m0 : Wd} (h : RPm m0 P) (k : ∀ q, 0 < q → q < 10 → m.1 q = m0.1 q) : RPm m P := by
  unfold RPm at h ⊢
  rw [k 2 (by omega) (by omega), k 3 (by omega) (by omega), k 4 (by omega) (by omega), k 8 (by omega) (by omega), k 9 (by omega) (by omega)]
  exact h
theorem RLm.keep {m0 : Wd} (h : RLm m0 K) (k : m.1 10 = m0.1 10) : RLm m K := by
  unfold RLm at h ⊢
  rw [k]
  exact h
end MR
section MR2
variable {P : PK} {K : CK} {B : Nat → Int32} {m0 m : Wd} {i v k o s t : Nat} {E : Nat → Nat → Bool}
theorem exn_two (hv : v < 10) (hi : i < nc K) (he : bt (en K) i = true) (hk : kd K i ≠ 0) : exn P K B (20 * i + 2 * (v + 1)) k o = (exn P K B (20 * i + 2 * v) k o || (bt (vset P K B i) v && ((decide (ftg P K i v 0 = k) && bt (B (fsr P K i v 0)) o) || (decide (kd K i = 4) && (decide (ftg P K i v 1 = k) && bt (B (fsr P K i v 1)) o))))) := by
  rw [show 20 * i + 2 * (v + 1) = (20 * i + 2 * v + 1) + 1 by omega, exn_succ, exn_succ, dvn_flow hv (by omega) hi he hk, show dvn P K B k o (20 * i + 2 * v) = dvn P K B k o (20 * i + 2 * v + 0) from rfl, dvn_flow hv (by omega) hi he hk]
  unfold fcn
  by_cases h4 : kd K i = 4
  · rw [if_pos h4, decide_eq_true h4, decide_eq_true (show 0 < 2 by omega), decide_eq_true (show 1 < 2 by omega)]
    cases bt (vset P K B i) v <;> simp [Bool.or_assoc]
  · rw [if_neg h4, decide_eq_false h4, decide_eq_true (show 0 < 1 by omega), decide_eq_false (show ¬ 1 < 1 by omega)]
    cases bt (vset P K B i) v <;> simp
theorem exn_end (hi : i < nc K) (he : bt (en K) i = true) (hk : kd K i ≠ 0) {w : Nat} (hw : w ≤ 10) (h : ∀ v, w ≤ v → v < 10 → bt (vset P K B i) v = false) : exn P K B (20 * (i + 1)) k o = exn P K B (20 * i + 2 * w) k o := by
  refine exb_same (by omega) fun n h1 h2 => ?_
  have e : n = 20 * i + 2 * ((n - 20 * i) / 2) + (n - 20 * i) % 2 := by omega
  rw [e, dvn_flow (by omega) (by omega) hi he hk, h _ (by omega) (by omega)]
  simp
/-- what a round of the reference stands on; what it has added so far -/
def MS0 (P : PK) (K : CK) (m0 : Wd) (B : Nat → Int32) : Prop := RPm m0 P ∧ RLm m0 K ∧ PWF P ∧ CWF P K ∧ TOK P B ∧ ∀ k, k < 56 → m0.1 16 k = B k
def MI (m0 : Wd) (B : Nat → Int32) (E : Nat → Nat → Bool) (m : Wd) : Prop := (∀ q, q ≠ 15 → m.1 q = m0.1 q) ∧ m.2 = m0.2 ∧ ∀ k o, k < 56 → o < 32 → bt (m.1 15 k) o = (bt (B k) o || E k o)
theorem MI.cong {E2 : Nat → Nat → Bool} (h : MI m0 B E m) (e : ∀ k o, k < 56 → o < 32 → E2 k o = E k o) : MI m0 B E2 m := ⟨h.1, h.2.1, fun k o hk ho => by rw [e k o hk ho]; exact h.2.2 k o hk ho⟩
theorem MI.add (h : MI m0 B E m) (hk : k < 56) (x : Int32) : MI m0 B (fun a b => E a b || (decide (k = a) && bt x b)) (wsI m 15 k (m.1 15 k ||| x)) := by
  refine ⟨fun q hq => by rw [wsI_o _ _ _ hq]; exact h.1 q hq, h.2.1, fun a b ha hb => ?_⟩
  rw [wsI_s]
  show _ = (bt (B a) b || (E a b || (decide (k = a) && bt x b)))
  by_cases e : a = k
  · subst e
    rw [upd_s, b_or, h.2.2 a b ha hb, decide_eq_true rfl, Bool.true_and, Bool.or_assoc]
  · rw [upd_o e, h.2.2 a b ha hb, decide_eq_false (fun z : k = a => e z.symm)]
    simp
theorem m_before (hs : s < 56) (h0 : MS0 P K m0 B) (h : MI m0 B E m) : rdI zM m (zrf zM 0 25) (nI s) = some (B s) := by
  show rdI zM m 16 (nI s) = _
  rw [rdI_M (show s < 56 from hs), h.1 16 (by omega), h0.2.2.2.2.2 s hs]
theorem m_apply (h0 : MS0 P K m0 B) (hi : i < nc K) (he : bt (en K) i = true) (h : MI m0 B (exn P K B (20 * i)) m) : wp (f_X10_apply m 0 (nI i)) (MI m0 B (exn P K B (20 * (i + 1)))) := by
  have h0' := h0
  obtain ⟨hP, hL, hPw, hKw, hB, h16⟩ := h0
  have hn := hKw.1
  have hr := hKw.2.2 i hi
  obtain ⟨g0, g1, g2, g3, g4, g5, g6⟩ := hr
  obtain ⟨q1, q2, q3, q4⟩ := id hPw
  have rp : ∀ {E : Nat → Nat → Bool} {w : Wd}, MI m0 B E w → RPm w P ∧ RLm w K := fun x => ⟨hP.keep fun q _ hq => x.1 q (by omega), hL.keep (x.1 10 (by omega))⟩
  unfold f_X10_apply
  rw [m_kind (rp h).2 hn hi, Option.bind_some, wp_bind]
  refine wp_mono (R := fun s => wp (some s) (MI m0 B (exn P K B (20 * (i + 1))))) ?_ (fun a q => q)
  simp only [wp_some]
  rcases kd_cases (hKw.2.2 i hi) with hk | hk | hk | hk | hk
  · rw [hk, if_pos (by decide), m_first (rp h).2 hn hi, Option.bind_some, m_second (rp h).2 hn hi, Option.bind_some, m_add (by omega), Option.bind_some, wp_some]
    refine (h.add (by omega) _).cong fun a b ha hb => ?_
    have hno := g2 hk
    rw [bt_bit (by omega) hb]
    have e1 : exn P K B (20 * (i + 1)) a b = exn P K B (20 * i + 1) a b := exb_same (by omega) fun n h1 h2 => dvn_new0 (by omega) (by omega) hk
    rw [e1, exn_succ, dvn_new hi he hk]
    congr 1
    rw [← Bool.decide_and]
    exact decide_eq_decide.mpr ⟨fun z => ⟨z.1, z.2.symm⟩, fun z => ⟨z.1, z.2.symm⟩⟩
  · have hb := g3 hk
    rw [hk, if_neg (by decide), if_pos (by decide), m_first (rp h).2 hn hi, Option.bind_some, m_second (rp h).2 hn hi, Option.bind_some, m_before (by omega) h0' h, Option.bind_some, m_add (by omega), Option.bind_some, wp_some]
    refine (h.add (by omega) _).cong fun a b ha hb => ?_
    rw [exn_end hi he (by omega) (w := 0 + 1) (by omega) (fun v h1 h2 => ?_), exn_two (by omega) hi he (by omega)]
    · unfold vset ftg fsr
      rw [hk]
      simp
      rw [show bt 1 0 = true by decide]
      simp
    · unfold vset
      rw [if_pos hk]
      exact (by decide +kernel : ∀ i, i < 32 → i ≠ 0 → bt 1 i = false) v (by omega) (by omega)
  · have hb := g4 hk
    rw [hk, if_neg (by decide), if_neg (by decide), if_pos (by decide), wp_bind]
    have hvs : ∀ v, bt (vset P K B i) v = bt (B (kb K i)) v := fun v => by unfold vset; rw [hk]; rfl
    refine wp_mono (lp_inv (fun v s => s.1 = nI v ∧ MI m0 B (exn P K B (20 * i + 2 * v)) s.2) (MI m0 B (exn P K B (20 * (i + 1)))) (no P) ?_ ?_ (by unfold NF; omega) ⟨rfl, h⟩) (fun a q => wp_some.mpr q)
    · rintro v ⟨sv, w⟩ hv ⟨rfl, hI⟩
      dsimp only at hI
      unfold b_X10_apply_1
      dsimp only
      rw [m_objects (rp hI).1, Option.bind_some, if_pos ((n_lt (by omega) (by omega)).mpr hv), m_second (rp hI).2 hn hi, Option.bind_some, m_before (by omega) h0' hI, Option.bind_some, has_bt (by omega)]
      cases hbv : bt (B (kb K i)) v with
      | false =>
        rw [if_neg (by decide), Option.bind_some, wp_some]
        refine ⟨nI_1 v, hI.cong fun a b ha hb2 => ?_⟩
        rw [exn_two (by omega) hi he (by omega), hvs, hbv]; simp
      | true =>
        have hs : 16 + 4 * v + kc K i < 56 := by omega
        rw [if_pos rfl, m_first (rp hI).2 hn hi, Option.bind_some, m_third (rp hI).2 hn hi, Option.bind_some, th_big (by omega), m_fieldIndex, m_before hs h0' hI, Option.bind_some, m_add (by omega), Option.bind_some, Option.bind_some, wp_some]
        refine ⟨nI_1 v, (hI.add (by omega) _).cong fun a b ha hb2 => ?_⟩
        rw [exn_two (by omega) hi he (by omega), hvs, hbv]
        unfold ftg fsr
        rw [hk]; simp
    · rintro ⟨sv, w⟩ ⟨rfl, hI⟩
      dsimp only at hI
      unfold b_X10_apply_1
      dsimp only
      rw [m_objects (rp hI).1, Option.bind_some, if_neg (fun z => Nat.lt_irrefl _ ((n_lt (by omega) (by omega)).mp z)), wp_some]
      exact hI.cong fun a b ha hb2 => exn_end hi he (by omega) (by omega) fun v h1 h2 => by
        cases e : bt (vset P K B i) v with
        | false => rfl
        | true => have := (vset_lt hPw hB e).2.1 (by omega); omega
  · have hb := g5 hk
    rw [hk, if_neg (by decide), if_neg (by decide), if_neg (by decide), if_pos (by decide), wp_bind]
    have hvs : ∀ v, bt (vset P K B i) v = bt (B (ka K i)) v := fun v => by unfold vset; rw [hk]; rfl
    refine wp_mono (lp_inv (fun v s => s.1 = nI v ∧ MI m0 B (exn P K B (20 * i + 2 * v)) s.2) (MI m0 B (exn P K B (20 * (i + 1)))) (no P) ?_ ?_ (by unfold NF; omega) ⟨rfl, h⟩) (fun a q => wp_some.mpr q)
    · rintro v ⟨sv, w⟩ hv ⟨rfl, hI⟩
      dsimp only at hI
      unfold b_X10_apply_2
      dsimp only
      rw [m_objects (rp hI).1, Option.bind_some, if_pos ((n_lt (by omega) (by omega)).mpr hv), m_first (rp hI).2 hn hi, Option.bind_some, m_before (by omega) h0' hI, Option.bind_some, has_bt (by omega)]
      cases hbv : bt (B (ka K i)) v with
      | false =>
        rw [if_neg (by decide), Option.bind_some, wp_some]
        refine ⟨nI_1 v, hI.cong fun a b ha hb2 => ?_⟩
        rw [exn_two (by omega) hi he (by omega), hvs, hbv]; simp
      | true =>
        have hs : 16 + 4 * v + kb K i < 56 := by omega
        rw [if_pos rfl, m_second (rp hI).2 hn hi, Option.bind_some, m_third (rp hI).2 hn hi, Option.bind_some, th_big (by omega), m_before (by omega) h0' hI, Option.bind_some, m_fieldIndex, m_add hs, Option.bind_some, Option.bind_some, wp_some]
        refine ⟨nI_1 v, (hI.add hs _).cong fun a b ha hb2 => ?_⟩
        rw [exn_two (by omega) hi he (by omega), hvs, hbv]
        unfold ftg fsr
        rw [hk]; simp
    · rintro ⟨sv, w⟩ ⟨rfl, hI⟩
      dsimp only at hI
      unfold b_X10_apply_2
      dsimp only
      rw [m_objects (rp hI).1, Option.bind_some, if_neg (fun z => Nat.lt_irrefl _ ((n_lt (by omega) (by omega)).mp z)), wp_some]
      exact hI.cong fun a b ha hb2 => exn_end hi he (by omega) (by omega) fun v h1 h2 => by
        cases e : bt (vset P K B i) v with
        | false => rfl
        | true => have := (vset_lt hPw hB e).2.1 (by omega); omega
  · have hb := g6 hk
    rw [hk, if_neg (by decide), if_neg (by decide), if_neg (by decide), if_neg (by decide), wp_bind]
    have hvs : ∀ v, bt (vset P K B i) v = (bt (B (kb K i)) v && bt (fs P) v) := fun v => by unfold vset; rw [hk]; exact b_and _ _ _
    refine wp_mono (lp_inv (fun v s => s.1 = nI v ∧ MI m0 B (exn P K B (20 * i + 2 * v)) s.2) (MI m0 B (exn P K B (20 * (i + 1)))) (no P) ?_ ?_ (by unfold NF; omega) ⟨rfl, h⟩) (fun a q => wp_some.mpr q)
    · rintro v ⟨sv, w⟩ hv ⟨rfl, hI⟩
      dsimp only at hI
      unfold b_X10_apply_3
      dsimp only
      rw [m_objects (rp hI).1, Option.bind_some, if_pos ((n_lt (by omega) (by omega)).mpr hv), m_second (rp hI).2 hn hi, Option.bind_some, m_before (by omega) h0' hI, Option.bind_some, has_bt (by omega)]
      have off : bt (vset P K B i) v = false → wp (some (Sum.inl (nI v + 1, w)) : Option ((Int32 × Wd) ⊕ Wd)) (lpS (fun s => s.1 = nI (v + 1) ∧ MI m0 B (exn P K B (20 * i + 2 * (v + 1))) s.2) (MI m0 B (exn P K B (20 * (i + 1))))) := fun e => by
        rw [wp_some]
        refine ⟨nI_1 v, hI.cong fun a b ha hb2 => ?_⟩
        rw [exn_two (by omega) hi he (by omega), e]; simp
      cases hbv : bt (B (kb K i)) v with
      | false =>
        rw [if_neg (by decide), Option.bind_some, if_pos rfl]
        exact off (by rw [hvs, hbv]; rfl)
      | true =>
        rw [if_pos rfl, m_isFunction (rp hI).1 hPw hv, Option.bind_some]
        cases hbf : bt (fs P) v with
        | false =>
          rw [if_neg (by decide), Option.bind_some, if_pos rfl]
          exact off (by rw [hvs, hbf, Bool.and_false])
        | true =>
          obtain ⟨f1, f2, f3⟩ := q4 v hbf
          have hpr := ((rp hI).1.2.2.2 v hv).1 hbf
          rw [if_pos rfl, Option.bind_some, if_neg (by decide)]
          show wp (Option.bind (rdI zM w 8 (nI v)) _) _
          rw [rdI_M (show v < 20 by omega), Option.bind_some, hpr.1, m_third (rp hI).2 hn hi, Option.bind_some, th_big (by omega), m_before (by omega) h0' hI, Option.bind_some, m_add (by omega), Option.bind_some]
          have hI2 := hI.add (k := pr P v) (by omega) (B (kc K i))
          generalize wsI w 15 (pr P v) (w.1 15 (pr P v) ||| B (kc K i)) = w2 at hI2 ⊢
          have hpr2 := ((rp hI2).1.2.2.2 v hv).1 hbf
          rw [m_first (rp hI2).2 hn hi, Option.bind_some]
          show wp (Option.bind (rdI zM w2 9 (nI v)) _) _
          rw [rdI_M (show v < 20 by omega), Option.bind_some, hpr2.2, m_before (by omega) h0' hI2, Option.bind_some, m_add (by omega), Option.bind_some, wp_some]
          refine ⟨nI_1 v, (hI2.add (by omega) _).cong fun a b ha hb2 => ?_⟩
          rw [exn_two (by omega) hi he (by omega), hvs, hbv, hbf]
          unfold ftg fsr
          rw [hk]; simp [Bool.or_assoc]
    · rintro ⟨sv, w⟩ ⟨rfl, hI⟩
      dsimp only at hI
      unfold b_X10_apply_3
      dsimp only
      rw [m_objects (rp hI).1, Option.bind_some, if_neg (fun z => Nat.lt_irrefl _ ((n_lt (by omega) (by omega)).mp z)), wp_some]
      exact hI.cong fun a b ha hb2 => exn_end hi he (by omega) (by omega) fun v h1 h2 => by
        cases e : bt (vset P K B i) v with
        | false => rfl
        | true => have := (vset_lt hPw hB e).2.1 (by omega); omega
end MR2
