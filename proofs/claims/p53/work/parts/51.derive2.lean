/-! The reference's derive, whole. -/
abbrev prO (P : PK) (o : Nat) : Nat := pr P o
section DF2
variable {p : Nat} {P : PK} {K : CK} {c m m0 m' : Wd} {B : Nat → Int32} {k o n i v fl a b d : Nat} {pr : Bool} {r x y z : Int32}
theorem DI.step2 (h : DI P K B k o m0 pr (20 * i + 2 * v + fl) m) (hi : i < nc K) (h30 : nc K ≤ 30) (hk2 : 2 ≤ kd K i) (hv : v < 10) (hf : fl < 2) {b2 : Bool} (hd : dvn P K B k o (20 * i + 2 * v + fl) = b2) (hz : z = nI (fsr P K i v fl)) : DI P K B k o m0 pr (20 * i + 2 * v + fl + 1) (if b2 = true then ntW m (nI i) (nI v) z else m) := by
  obtain ⟨e1, e2, e3⟩ := pos_d (i := i) hv hf
  refine h.step (by omega) hd (by rw [e1]) ?_ ?_
  · rw [e1, e2, if_neg (by omega)]
  · rw [e1, e2, e3, if_neg (by omega)]; exact hz
theorem d_kind2 (h0 : D0 P K B m0 pr r) (hi : i < nc K) (he : bt (en K) i = true) (hk : kd K i = 2) (hk56 : k < 56) (ho : o < 10) {s4 : Int32 × Wd} (hs : s4.1 = nI i) (h : DI P K B k o m0 pr (20 * i) m) :
    wp (lp (b_X10_derive_2 0 s4 (nI k) (nI o) r) NF ((0 : Int32), m)) (DI P K B k o m0 pr (20 * (i + 1))) := by
  have hP := h0.2.2.1
  have hK := h0.2.2.2.1
  have hno := hP.2.1
  have h30 := hK.1
  have g4 := (hK.2.2 i hi).2.2.2.2.1 hk
  have g1 := (hK.2.2 i hi).2.1
  have hnv := hP.1
  have hnf := hP.2.2.1
  refine lp_inv (fun v s => s.1 = nI v ∧ DI P K B k o m0 pr (20 * i + 2 * v) s.2) _ (no P) ?_ ?_ (by unfold NF; omega) ⟨rfl, h⟩
  · rintro v ⟨sv, w⟩ hv ⟨h1, hI⟩
    dsimp only at h1 hI
    subst h1
    obtain ⟨rP, rL, rB⟩ := h0.at hI
    have hd0 : dvn P K B k o (20 * i + 2 * v + 0) = (decide (ka K i = k) && (bt (B (kb K i)) v && bt (B (16 + 4 * v + kc K i)) o)) := by
      rw [dvn_flow (by omega) (by omega) hi he (by omega)]
      unfold fcn vset ftg fsr
      rw [hk]
      simp
      rw [Bool.and_left_comm, Bool.and_assoc]
    have hd1 : dvn P K B k o (20 * i + 2 * v + 0 + 1) = false := by
      rw [show 20 * i + 2 * v + 0 + 1 = 20 * i + 2 * v + 1 by omega, dvn_flow (by omega) (by omega) hi he (by omega)]
      unfold fcn
      rw [hk]
      simp
    unfold b_X10_derive_2
    dsimp only
    rw [m_objects rP, Option.bind_some, if_pos ((n_lt (by omega) (by omega)).mpr hv), hs, m_first rL h30 hi, Option.bind_some]
    by_cases e : ka K i = k
    · rw [if_pos (show nI (ka K i) = nI k by rw [e]), m_second rL h30 hi, Option.bind_some, m_third rL h30 hi, Option.bind_some, th_big (by omega), m_fieldIndex, note2 rB (by omega) ho (by omega) (by omega), Option.bind_some, Option.bind_some, wp_some]
      rw [decide_eq_true e, Bool.true_and] at hd0
      exact ⟨nI_1 v, (hI.step2 hi h30 (by omega) (by omega) (by omega) hd0 (by unfold fsr; rw [if_pos hk])).pass hd1⟩
    · rw [if_neg (fun q => e ((n_eq (by omega) (by omega)).mp q)), Option.bind_some, wp_some]
      rw [decide_eq_false e, Bool.false_and] at hd0
      exact ⟨nI_1 v, (hI.pass hd0).pass hd1⟩
  · rintro ⟨sv, w⟩ ⟨h1, hI⟩
    dsimp only at h1 hI
    subst h1
    unfold b_X10_derive_2
    dsimp only
    rw [m_objects (h0.at hI).1, Option.bind_some, if_neg (fun q => Nat.lt_irrefl _ ((n_lt (by omega) (by omega)).mp q)), wp_some]
    exact hI.vias hP hK h0.2.2.2.2.1 hi he (by omega)
theorem d_kind3 (h0 : D0 P K B m0 pr r) (hi : i < nc K) (he : bt (en K) i = true) (hk : kd K i = 3) (hk56 : k < 56) (ho : o < 10) {s4 : Int32 × Wd} (hs : s4.1 = nI i) (h : DI P K B k o m0 pr (20 * i) m) :
    wp (lp (b_X10_derive_3 0 s4 (nI k) (nI o) r) NF ((0 : Int32), m)) (DI P K B k o m0 pr (20 * (i + 1))) := by
  have hP := h0.2.2.1
  have hK := h0.2.2.2.1
  have hno := hP.2.1
  have h30 := hK.1
  have g4 := (hK.2.2 i hi).2.2.2.2.2.1 hk
  have g1 := (hK.2.2 i hi).2.1
  have hnv := hP.1
  have hnf := hP.2.2.1
  refine lp_inv (fun v s => s.1 = nI v ∧ DI P K B k o m0 pr (20 * i + 2 * v) s.2) _ (no P) ?_ ?_ (by unfold NF; omega) ⟨rfl, h⟩
  · rintro v ⟨sv, w⟩ hv ⟨h1, hI⟩
    dsimp only at h1 hI
    subst h1
    obtain ⟨rP, rL, rB⟩ := h0.at hI
    have hd0 : dvn P K B k o (20 * i + 2 * v + 0) = (decide (16 + 4 * v + kb K i = k) && (bt (B (ka K i)) v && bt (B (kc K i)) o)) := by
      rw [dvn_flow (by omega) (by omega) hi he (by omega)]
      unfold fcn vset ftg fsr
      rw [hk]
      simp
      rw [Bool.and_left_comm, Bool.and_assoc]
    have hd1 : dvn P K B k o (20 * i + 2 * v + 0 + 1) = false := by
      rw [show 20 * i + 2 * v + 0 + 1 = 20 * i + 2 * v + 1 by omega, dvn_flow (by omega) (by omega) hi he (by omega)]
      unfold fcn
      rw [hk]
      simp
    unfold b_X10_derive_3
    dsimp only
    rw [m_objects rP, Option.bind_some, if_pos ((n_lt (by omega) (by omega)).mpr hv), hs, m_second rL h30 hi, Option.bind_some, m_fieldIndex]
    by_cases e : 16 + 4 * v + kb K i = k
    · rw [if_pos (show nI (16 + 4 * v + kb K i) = nI k by rw [e]), m_first rL h30 hi, Option.bind_some, m_third rL h30 hi, Option.bind_some, th_big (by omega), note2 rB (by omega) ho (by omega) (by omega), Option.bind_some, Option.bind_some, wp_some]
      rw [decide_eq_true e, Bool.true_and] at hd0
      exact ⟨nI_1 v, (hI.step2 hi h30 (by omega) (by omega) (by omega) hd0 (by unfold fsr; rw [if_neg (by omega), if_pos hk])).pass hd1⟩
    · rw [if_neg (fun q => e ((n_eq (by omega) (by omega)).mp q)), Option.bind_some, wp_some]
      rw [decide_eq_false e, Bool.false_and] at hd0
      exact ⟨nI_1 v, (hI.pass hd0).pass hd1⟩
  · rintro ⟨sv, w⟩ ⟨h1, hI⟩
    dsimp only at h1 hI
    subst h1
    unfold b_X10_derive_3
    dsimp only
    rw [m_objects (h0.at hI).1, Option.bind_some, if_neg (fun q => Nat.lt_irrefl _ ((n_lt (by omega) (by omega)).mp q)), wp_some]
    exact hI.vias hP hK h0.2.2.2.2.1 hi he (by omega)
theorem d_call (h0 : D0 P K B m0 pr r) (hi : i < nc K) (he : bt (en K) i = true) (hk : kd K i = 4) (hk56 : k < 56) (ho : o < 10) (hv : v < no P) (h : DI P K B k o m0 pr (20 * i + 2 * v) m) :
    wp (f_X10_deriveCall m 0 (nI i) (nI v) (nI k) (nI o) r) (DI P K B k o m0 pr (20 * i + 2 * (v + 1))) := by
  have hP := h0.2.2.1
  have hK := h0.2.2.2.1
  have hno := hP.2.1
  have h30 := hK.1
  have g4 := (hK.2.2 i hi).2.2.2.2.2.2 hk
  have g1 := (hK.2.2 i hi).2.1
  have hnv := hP.1
  obtain ⟨rP, rL, rB⟩ := h0.at h
  have hd0 : dvn P K B k o (20 * i + 2 * v + 0) = (bt (fs P) v && (decide (prO P v = k) && (bt (B (kb K i)) v && bt (B (kc K i)) o))) := by
    rw [dvn_flow (by omega) (by omega) hi he (by omega)]
    unfold fcn vset ftg fsr prO
    rw [hk]
    simp [b_and]
    cases bt (B (kb K i)) v <;> cases bt (fs P) v <;> simp
  have hd1 : dvn P K B k o (20 * i + 2 * v + 1) = (bt (fs P) v && (decide (ka K i = k) && (bt (B (kb K i)) v && bt (B (rs P v)) o))) := by
    rw [dvn_flow (by omega) (by omega) hi he (by omega)]
    unfold fcn vset ftg fsr
    rw [hk]
    simp [b_and]
    cases bt (B (kb K i)) v <;> cases bt (fs P) v <;> simp
  unfold f_X10_deriveCall
  rw [m_isFunction rP hP hv, Option.bind_some]
  cases hf : bt (fs P) v with
  | false =>
    rw [hf, Bool.false_and] at hd0 hd1
    rw [if_pos (by decide), wp_some]
    exact (h.pass hd0).pass hd1
  | true =>
    rw [hf, Bool.true_and] at hd0 hd1
    obtain ⟨f1, f2, f3⟩ := hP.2.2.2 v hf
    have hpr := (rP.2.2.2 v hv).1 hf
    rw [if_neg (show ¬ ¬ (true = true) from fun q => q rfl)]
    show wp (Option.bind (Option.bind (rdI zM m 8 (nI v)) _) _) _
    rw [rdI_M (show v < 20 by omega), Option.bind_some, hpr.1]
    have second : ∀ w, DI P K B k o m0 pr (20 * i + 2 * v + 1) w → wp (Option.bind (Option.bind ((f_X10_first w 0 (nI i))) (fun x10 => if x10 = nI k then Option.bind ((f_X10_second w 0 (nI i))) (fun x12 => Option.bind (rdI zM w ((zrf zM 0 17)) (nI v)) (fun x13 => Option.bind ((f_X10_note w 0 (nI i) (nI v) (x12) (x13) (nI o) r)) (fun w14 => some w14))) else some w)) (fun s9 => some (s9))) (DI P K B k o m0 pr (20 * i + 2 * (v + 1))) := by
      intro w hw
      obtain ⟨qP, qL, qB⟩ := h0.at hw
      have hpr2 := (qP.2.2.2 v hv).1 hf
      rw [m_first qL h30 hi, Option.bind_some]
      by_cases e : ka K i = k
      · rw [if_pos (show nI (ka K i) = nI k by rw [e]), m_second qL h30 hi, Option.bind_some]
        show wp (Option.bind (Option.bind (rdI zM w 9 (nI v)) _) _) _
        rw [rdI_M (show v < 20 by omega), Option.bind_some, hpr2.2, note2 qB (by omega) ho (by omega) (by omega), Option.bind_some, Option.bind_some, wp_some]
        rw [decide_eq_true e, Bool.true_and] at hd1
        exact hw.step2 hi h30 (by omega) (by omega) (by omega) hd1 (by unfold fsr; rw [if_neg (by omega), if_neg (by omega), if_pos hk, if_neg (by omega)])
      · rw [if_neg (fun q => e ((n_eq (by omega) (by omega)).mp q)), Option.bind_some, wp_some]
        rw [decide_eq_false e, Bool.false_and] at hd1
        exact hw.pass hd1
    by_cases e : prO P v = k
    · rw [if_pos (show nI (prO P v) = nI k by rw [e]), m_second rL h30 hi, Option.bind_some, m_third rL h30 hi, Option.bind_some, th_big (by omega), note2 rB (by omega) ho (by omega) (by omega), Option.bind_some, Option.bind_some]
      rw [decide_eq_true e, Bool.true_and] at hd0
      exact second _ (h.step2 hi h30 (by omega) (by omega) (by omega) hd0 (by unfold fsr; rw [if_neg (by omega), if_neg (by omega), if_pos hk, if_pos rfl]))
    · rw [if_neg (fun q => e ((n_eq (a := prO P v) (Nat.lt_of_lt_of_le f2 (by omega)) (by omega)).mp q)), Option.bind_some]
      rw [decide_eq_false e, Bool.false_and] at hd0
      exact second _ (h.pass hd0)
end DF2
