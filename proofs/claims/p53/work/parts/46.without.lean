/-! Solutions with fewer constraints; what a constraint that no first derivation uses changes: nothing. -/
section WO
variable {P : PK} {K : CK} {T U B : Nat → Int32} {e e' : Int32} {k o n i j : Nat} {c m d : Wd} {p : Nat}
theorem rd_lt (hP : PWF P) (hK : CWF P K) {r : Nat} (hr : r < 600) (h : bt (SS P K r k) o = true) : rd P K k o ≤ r := (rd_ok hP hK hr h).2.1
theorem RR_lt : RR P K < 600 := by have := (RR_ok (P := P) (K := K)).1; omega
theorem fact_ind (hP : PWF P) (hK : CWF P K) {Φ : Nat → Nat → Prop} (H : ∀ k o, bt (LF P K k) o = true → (∀ k' o', bt (LF P K k') o' = true → rd P K k' o' < rd P K k o → Φ k' o') → Φ k o) : ∀ k o, bt (LF P K k) o = true → Φ k o := by
  have key : ∀ r k o, rd P K k o ≤ r → bt (LF P K k) o = true → Φ k o := by
    intro r
    induction r with
    | zero =>
      intro k o h1 h2
      have := (rd_ok hP hK RR_lt (show bt (SS P K (RR P K) k) o = true from h2)).1
      omega
    | succ r ih => exact fun k o h1 h2 => H k o h2 fun k' o' h3 h4 => ih k' o' (by omega) h3
  exact fun k o h => key _ k o (Nat.le_refl _) h
/-- the first derivation of a fact, taken apart -/
theorem fact_pd (hP : PWF P) (hK : CWF P K) (h : bt (LF P K k) o = true) : pd P K k o < 600 ∧ pd P K k o / 20 < nc K ∧ bt (en K) (pd P K k o / 20) = true ∧ rd P K k o < 600 ∧
    ((kd K (pd P K k o / 20) = 0 ∧ pd P K k o % 20 = 0 ∧ ka K (pd P K k o / 20) = k ∧ kb K (pd P K k o / 20) = o) ∨
     (kd K (pd P K k o / 20) ≠ 0 ∧ pd P K k o % 2 < fcn K (pd P K k o / 20) ∧ bt (vset P K (SS P K (rd P K k o - 1)) (pd P K k o / 20)) (pd P K k o % 20 / 2) = true ∧ ftg P K (pd P K k o / 20) (pd P K k o % 20 / 2) (pd P K k o % 2) = k ∧ bt (SS P K (rd P K k o - 1) (fsr P K (pd P K k o / 20) (pd P K k o % 20 / 2) (pd P K k o % 2))) o = true)) := by
  obtain ⟨p1, p2, p3⟩ := pd_ok hP hK RR_lt (show bt (SS P K (RR P K) k) o = true from h)
  have h30 := hK.1
  have hr := (rd_ok hP hK RR_lt (show bt (SS P K (RR P K) k) o = true from h)).2.1
  have := RR_lt (P := P) (K := K)
  unfold dvn at p1
  simp only [Bool.and_eq_true, decide_eq_true_eq] at p1
  obtain ⟨⟨hi, he⟩, p1⟩ := p1
  refine ⟨by omega, hi, he, by omega, ?_⟩
  by_cases hk : kd K (pd P K k o / 20) = 0
  · rw [if_pos hk] at p1
    simp only [decide_eq_true_eq] at p1
    exact Or.inl ⟨hk, p1⟩
  · rw [if_neg hk] at p1
    simp only [Bool.and_eq_true, decide_eq_true_eq] at p1
    exact Or.inr ⟨hk, p1.1.1.1, p1.1.1.2, p1.1.2, p1.2⟩
/-- what was there before a round is in the solution, and came earlier -/
theorem early (hP : PWF P) (hK : CWF P K) {k' o' : Nat} (h : bt (LF P K k) o = true) (h' : bt (SS P K (rd P K k o - 1) k') o' = true) : bt (LF P K k') o' = true ∧ rd P K k' o' < rd P K k o := by
  obtain ⟨a, b, -, -⟩ := rd_ok hP hK RR_lt (show bt (SS P K (RR P K) k) o = true from h)
  have := RR_lt (P := P) (K := K)
  exact ⟨SS_mono hP hK (by omega) h', by have := rd_lt hP hK (show rd P K k o - 1 < 600 by omega) h'; omega⟩
/-- the same first derivation in other sets, with other constraints enabled -/
theorem dvn_other (hP : PWF P) (hK : CWF P K) (h : bt (LF P K k) o = true) (he : bt e (pd P K k o / 20) = true)
    (hs : kd K (pd P K k o / 20) ≠ 0 → bt (T (fsr P K (pd P K k o / 20) (pd P K k o % 20 / 2) (pd P K k o % 2))) o = true)
    (hv : 2 ≤ kd K (pd P K k o / 20) → bt (T (vsl K (pd P K k o / 20))) (pd P K k o % 20 / 2) = true) : dvn P (setE K e) T k o (pd P K k o) = true := by
  obtain ⟨p1, p2, p3, p4, p5⟩ := fact_pd hP hK h
  unfold dvn
  rw [decide_eq_true (show pd P K k o / 20 < nc (setE K e) from p2), show bt (en (setE K e)) (pd P K k o / 20) = true from he]
  rcases p5 with ⟨q0, q1, q2, q3⟩ | ⟨q0, q1, q2, q3, q4⟩
  · rw [if_pos (show kd (setE K e) (pd P K k o / 20) = 0 from q0), decide_eq_true (show pd P K k o % 20 = 0 ∧ ka (setE K e) (pd P K k o / 20) = k ∧ kb (setE K e) (pd P K k o / 20) = o from ⟨q1, q2, q3⟩)]; rfl
  · have hw := vset_lt hP (SS_ok hP hK _) q2
    have hvv : bt (vset P (setE K e) T (pd P K k o / 20)) (pd P K k o % 20 / 2) = true := by
      show bt (vset P K T _) _ = true
      have hv2 := hv
      unfold vset at q2 ⊢
      unfold vsl at hv2
      by_cases h1 : kd K (pd P K k o / 20) = 1
      · rw [if_pos h1] at q2 ⊢; exact q2
      · rw [if_neg h1] at q2 ⊢
        by_cases h2 : kd K (pd P K k o / 20) = 2
        · rw [if_pos h2]
          have := hv2 (by omega)
          rw [if_neg (by omega)] at this; exact this
        · rw [if_neg h2] at q2 ⊢
          by_cases h3 : kd K (pd P K k o / 20) = 3
          · rw [if_pos h3]
            have := hv2 (by omega)
            rw [if_pos h3] at this; exact this
          · rw [if_neg h3] at q2 ⊢
            by_cases h4 : kd K (pd P K k o / 20) = 4
            · rw [if_pos h4, b_and, Bool.and_eq_true] at q2 ⊢
              have := hv2 (by omega)
              rw [if_neg h3] at this
              exact ⟨this, q2.2⟩
            · omega
    rw [if_neg (show ¬ kd (setE K e) (pd P K k o / 20) = 0 from q0), hvv, decide_eq_true (show pd P K k o % 2 < fcn (setE K e) (pd P K k o / 20) from q1), decide_eq_true (show ftg P (setE K e) (pd P K k o / 20) (pd P K k o % 20 / 2) (pd P K k o % 2) = k from q3), show bt (T (fsr P (setE K e) (pd P K k o / 20) (pd P K k o % 20 / 2) (pd P K k o % 2))) o = true from hs q0]; rfl
/-- fewer constraints, fewer facts -/
theorem LF_sub (hP : PWF P) (hK : CWF P K) (hE : CWF P (setE K e)) (he : ∀ j, bt e j = true → bt (en K) j = true) (h : bt (LF P (setE K e) k) o = true) : bt (LF P K k) o = true := by
  refine LF_least hP hE (T := LF P K) (fun n k o _ hd => LF_closed hP hK (n := n) ?_) h
  unfold dvn at hd ⊢
  simp only [Bool.and_eq_true] at hd ⊢
  exact ⟨⟨hd.1.1, he _ hd.1.2⟩, hd.2⟩
def wo (K : CK) (i : Nat) : Int32 := en K &&& (jshl 1 (nI i) ^^^ (-1 : Int32))
theorem bt_wo (hi : i < 32) (hj : j < 32) : bt (wo K i) j = (bt (en K) j && !decide (j = i)) := by
  unfold wo
  rw [b_and, bt_not hj, bt_bit hi hj]
theorem wo_ok (hK : CWF P K) (hi : i < 32) : CWF P (setE K (wo K i)) := ⟨hK.1, fun j hj => hK.2.1 j (by
  have h32 : j < 32 := by
    rcases Nat.lt_or_ge j 32 with q | q
    · exact q
    · rw [show bt (en (setE K (wo K i))) j = bt (wo K i) j from rfl, b_big q] at hj; cases hj
  rw [show bt (en (setE K (wo K i))) j = bt (wo K i) j from rfl, bt_wo hi h32, Bool.and_eq_true] at hj
  exact hj.1), hK.2.2⟩
/-- a constraint of no first derivation -/
theorem LF_unused (hP : PWF P) (hK : CWF P K) (hi : i < 32) (hu : ∀ k o, bt (LF P K k) o = true → pd P K k o / 20 ≠ i) : LF P (setE K (wo K i)) = LF P K := by
  have hE := wo_ok hK hi
  funext k
  refine b_ext fun o ho => ?_
  have sub : ∀ k o, bt (LF P K k) o = true → bt (LF P (setE K (wo K i)) k) o = true := by
    refine fact_ind hP hK fun k o h ih => ?_
    obtain ⟨p1, p2, p3, p4, p5⟩ := fact_pd hP hK h
    have h30 := hK.1
    refine LF_closed hP hE (n := pd P K k o) (dvn_other hP hK h ?_ (fun hk => ?_) (fun hk => ?_))
    · rw [bt_wo hi (by omega), p3, decide_eq_false (hu k o h)]; rfl
    · rcases p5 with ⟨q0, -⟩ | ⟨q0, q1, q2, q3, q4⟩
      · exact absurd q0 hk
      · exact ih _ _ (early hP hK h q4).1 (early hP hK h q4).2
    · rcases p5 with ⟨q0, -⟩ | ⟨q0, q1, q2, q3, q4⟩
      · omega
      · have q5 := vsl_bt hk (vset_lt hP (SS_ok hP hK _) q2).2.2.2.2.2 q2
        exact ih _ _ (early hP hK h q5).1 (early hP hK h q5).2
  cases h1 : bt (LF P K k) o with
  | true => exact sub k o h1
  | false =>
    cases h2 : bt (LF P (setE K (wo K i)) k) o with
    | false => rfl
    | true =>
      rw [LF_sub hP hK hE (fun j hj => by
        have h32 : j < 32 := by
          rcases Nat.lt_or_ge j 32 with q | q
          · exact q
          · rw [b_big q] at hj; cases hj
        rw [bt_wo hi h32, Bool.and_eq_true] at hj
        exact hj.1) h2] at h1
      cases h1
/-- the proof that the class keeps of a fact: constraints enabled; without a constraint that is not in it the fact stays -/
theorem proof_en (hP : PWF P) (hK : CWF P K) (hs : SolC P K c) (hj : j < 32) : ∀ k o, bt (LF P K k) o = true → bt (c.1 53 (10 * k + o)) j = true → bt (en K) j = true := by
  refine fact_ind hP hK fun k o h ih hb => ?_
  have ok := LF_ok hP hK k o h
  have := hP.2.1
  have st := (hs.2.1 k o ok.1 (by omega) h).2.2.2.2.2
  obtain ⟨p1, p2, p3, p4, p5⟩ := fact_pd hP hK h
  have h30 := hK.1
  rw [st] at hb
  have bit : bt (jshl 1 (nI (pd P K k o / 20))) j = true → bt (en K) j = true := fun z => by
    rw [bt_bit (by omega) hj, decide_eq_true_eq] at z
    rw [z]; exact p3
  rcases p5 with ⟨q0, -⟩ | ⟨q0, q1, q2, q3, q4⟩
  · rw [if_pos q0] at hb; exact bit hb
  · rw [if_neg q0] at hb
    have src : bt (c.1 53 (10 * fsr P K (pd P K k o / 20) (pd P K k o % 20 / 2) (pd P K k o % 2) + o)) j = true → bt (en K) j = true := ih _ _ (early hP hK h q4).1 (early hP hK h q4).2
    by_cases k1 : kd K (pd P K k o / 20) = 1
    · rw [if_pos k1, b_or, Bool.or_eq_true] at hb
      exact hb.elim bit src
    · rw [if_neg k1, b_or, b_or, Bool.or_eq_true, Bool.or_eq_true] at hb
      have q5 := vsl_bt (by omega) (vset_lt hP (SS_ok hP hK _) q2).2.2.2.2.2 q2
      exact hb.elim (fun z => z.elim bit src) (ih _ _ (early hP hK h q5).1 (early hP hK h q5).2)
theorem proof_wo (hP : PWF P) (hK : CWF P K) (hs : SolC P K c) (hi : i < 32) : ∀ k o, bt (LF P K k) o = true → bt (c.1 53 (10 * k + o)) i = false → bt (LF P (setE K (wo K i)) k) o = true := by
  have hE := wo_ok hK hi
  refine fact_ind hP hK fun k o h ih hb => ?_
  have ok := LF_ok hP hK k o h
  have := hP.2.1
  have st := (hs.2.1 k o ok.1 (by omega) h).2.2.2.2.2
  obtain ⟨p1, p2, p3, p4, p5⟩ := fact_pd hP hK h
  have h30 := hK.1
  rw [st] at hb
  have bit : bt (jshl 1 (nI (pd P K k o / 20))) i = false → bt (wo K i) (pd P K k o / 20) = true := fun z => by
    rw [bt_bit (by omega) hi, decide_eq_false_iff_not] at z
    rw [bt_wo hi (by omega), p3, decide_eq_false (fun q => z q.symm)]; rfl
  rcases p5 with ⟨q0, -⟩ | ⟨q0, q1, q2, q3, q4⟩
  · rw [if_pos q0] at hb
    exact LF_closed hP hE (n := pd P K k o) (dvn_other hP hK h (bit hb) (fun z => absurd q0 z) (fun z => by omega))
  · rw [if_neg q0] at hb
    have src : bt (c.1 53 (10 * fsr P K (pd P K k o / 20) (pd P K k o % 20 / 2) (pd P K k o % 2) + o)) i = false → bt (LF P (setE K (wo K i)) (fsr P K (pd P K k o / 20) (pd P K k o % 20 / 2) (pd P K k o % 2))) o = true := ih _ _ (early hP hK h q4).1 (early hP hK h q4).2
    by_cases k1 : kd K (pd P K k o / 20) = 1
    · rw [if_pos k1, b_or, Bool.or_eq_false_iff] at hb
      exact LF_closed hP hE (n := pd P K k o) (dvn_other hP hK h (bit hb.1) (fun _ => src hb.2) (fun z => by omega))
    · rw [if_neg k1, b_or, b_or, Bool.or_eq_false_iff, Bool.or_eq_false_iff] at hb
      have q5 := vsl_bt (by omega) (vset_lt hP (SS_ok hP hK _) q2).2.2.2.2.2 q2
      exact LF_closed hP hE (n := pd P K k o) (dvn_other hP hK h (bit hb.1.1) (fun _ => src hb.1.2) (fun _ => ih _ _ (early hP hK h q5).1 (early hP hK h q5).2 hb.2))
end WO
