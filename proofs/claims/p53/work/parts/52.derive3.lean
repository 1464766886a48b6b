/-! The reference's derive: all constraints; the count and the first derivation of a fact. -/
section DG
variable {p : Nat} {P : PK} {K : CK} {c m m0 m' : Wd} {B : Nat → Int32} {k o n i v fl a b d : Nat} {pr : Bool} {r x y z : Int32}
theorem d_loop (h0 : D0 P K B m0 pr r) (hk56 : k < 56) (ho : o < 10) (h : DI P K B k o m0 pr 0 m) : wp (lp (b_X10_derive_1 0 (nI k) (nI o) r) NF ((0 : Int32), m)) (DI P K B k o m0 pr 600) := by
  have hP := h0.2.2.1
  have hK := h0.2.2.2.1
  have hno := hP.2.1
  have h30 := hK.1
  have hnv := hP.1
  refine lp_inv (fun i s => s.1 = nI i ∧ DI P K B k o m0 pr (20 * i) s.2) _ (nc K) ?_ ?_ (by unfold NF; omega) ⟨rfl, h⟩
  · rintro i ⟨si, w⟩ hi ⟨h1, hI⟩
    dsimp only at h1 hI
    subst h1
    obtain ⟨rP, rL, rB⟩ := h0.at hI
    obtain ⟨g0, g1, g2, g3, g4, g5, g6⟩ := hK.2.2 i hi
    unfold b_X10_derive_1
    dsimp only
    rw [m_count rL, Option.bind_some, if_pos ((n_lt (by omega) (by omega)).mpr hi), m_isEnabled rL (by omega), Option.bind_some]
    cases he : bt (en K) i with
    | false =>
      rw [if_pos (by decide), wp_some]
      exact ⟨nI_1 i, hI.passTo (by omega) fun n h1 h2 => dvn_off h1 h2 he⟩
    | true =>
      rw [if_neg (show ¬ ¬ (true = true) from fun q => q rfl), m_kind rL h30 hi, Option.bind_some, wp_bind]
      refine wp_mono (Q := DI P K B k o m0 pr (20 * (i + 1))) ?_ (fun w2 q => by rw [wp_some]; exact ⟨nI_1 i, q⟩)
      rcases kd_cases (hK.2.2 i hi) with hk | hk | hk | hk | hk
      · have hb := g2 hk
        rw [hk, if_pos (by decide), m_first rL h30 hi, Option.bind_some]
        have hdv : dvn P K B k o (20 * i) = decide (ka K i = k ∧ kb K i = o) := dvn_new hi he hk
        have rest : ∀ w, DI P K B k o m0 pr (20 * i + 1) w → DI P K B k o m0 pr (20 * (i + 1)) w := fun w q => q.passTo (by omega) fun n h1 h2 => dvn_new0 (by omega) (by omega) hk
        have e20 : 20 * i / 20 = i := by omega
        have off : ¬ (ka K i = k ∧ kb K i = o) → wp (some w) (DI P K B k o m0 pr (20 * (i + 1))) := fun q => wp_some.mpr (rest _ (hI.pass (by rw [hdv, decide_eq_false q])))
        by_cases e : ka K i = k
        · rw [if_pos (show nI (ka K i) = nI k by rw [e]), m_second rL h30 hi, Option.bind_some]
          by_cases e2 : kb K i = o
          · rw [if_pos (show nI (kb K i) = nI o by rw [e2]), Option.bind_some, if_pos rfl, note0, Option.bind_some, Option.bind_some, wp_some]
            exact rest _ (hI.hit (by omega) (by rw [hdv, decide_eq_true ⟨e, e2⟩]) (by rw [e20]) (by rw [e20, hk]; rfl) (by rw [e20, hk]; rfl))
          · rw [if_neg (fun q => e2 ((n_eq (by omega) (by omega)).mp q)), Option.bind_some, if_neg (by decide), Option.bind_some]
            exact off (fun q => e2 q.2)
        · rw [if_neg (fun q => e ((n_eq (by omega) (by omega)).mp q)), Option.bind_some, if_neg (by decide), Option.bind_some]
          exact off (fun q => e q.1)
      · have hb := g3 hk
        rw [hk, if_neg (by decide), if_pos (by decide), m_first rL h30 hi, Option.bind_some]
        have hdv : dvn P K B k o (20 * i) = (decide (ka K i = k) && bt (B (kb K i)) o) := by
          rw [show 20 * i = 20 * i + 2 * 0 + 0 from rfl, dvn_flow (by omega) (by omega) hi he (by omega)]
          unfold fcn vset ftg fsr
          rw [hk]
          simp
          rw [show bt 1 0 = true by decide, Bool.true_and]
        have rest : ∀ w, DI P K B k o m0 pr (20 * i + 1) w → DI P K B k o m0 pr (20 * (i + 1)) w := fun w q => q.passTo (by omega) fun n h1 h2 => by
          have e : n = 20 * i + 2 * ((n - 20 * i) / 2) + (n - 20 * i) % 2 := by omega
          rw [e, dvn_flow (by omega) (by omega) hi he (by omega)]
          unfold fcn vset
          rw [hk]
          by_cases q : (n - 20 * i) % 2 = 1
          · rw [q]; simp
          · rw [if_pos rfl, (by decide +kernel : ∀ i, i < 32 → i ≠ 0 → bt 1 i = false) ((n - 20 * i) / 2) (by omega) (by omega)]; simp
        have e20 : 20 * i / 20 = i := by omega
        have e21 : 20 * i % 20 / 2 = 0 := by omega
        by_cases e : ka K i = k
        · rw [if_pos (show nI (ka K i) = nI k by rw [e]), m_second rL h30 hi, Option.bind_some, note1 rB (by omega) ho, Option.bind_some, Option.bind_some, wp_some]
          rw [decide_eq_true e, Bool.true_and] at hdv
          exact rest _ (hI.step (by omega) hdv (by rw [e20]) (by rw [e20, hk]; rfl) (by rw [e20, hk]; unfold fsr; rw [hk]; rfl))
        · rw [if_neg (fun q => e ((n_eq (by omega) (by omega)).mp q)), Option.bind_some, wp_some]
          rw [decide_eq_false e, Bool.false_and] at hdv
          exact rest _ (hI.pass hdv)
      · rw [hk, if_neg (by decide), if_neg (by decide), if_pos (by decide), wp_bind]
        exact wp_mono (d_kind2 h0 hi he hk hk56 ho rfl hI) fun w2 q => wp_some.mpr q
      · rw [hk, if_neg (by decide), if_neg (by decide), if_neg (by decide), if_pos (by decide), wp_bind]
        exact wp_mono (d_kind3 h0 hi he hk hk56 ho rfl hI) fun w2 q => wp_some.mpr q
      · rw [hk, if_neg (by decide), if_neg (by decide), if_neg (by decide), if_neg (by decide), wp_bind]
        refine wp_mono (lp_inv (fun v s => s.1 = nI v ∧ DI P K B k o m0 pr (20 * i + 2 * v) s.2) (DI P K B k o m0 pr (20 * (i + 1))) (no P) ?_ ?_ (by unfold NF; omega) ⟨rfl, hI⟩) fun w2 q => wp_some.mpr q
        · rintro v ⟨sv, w⟩ hv ⟨h1, hJ⟩
          dsimp only at h1 hJ
          subst h1
          unfold b_X10_derive_4
          dsimp only
          rw [m_objects (h0.at hJ).1, Option.bind_some, if_pos ((n_lt (by omega) (by omega)).mpr hv), wp_bind]
          exact wp_mono (d_call h0 hi he hk hk56 ho hv hJ) fun w2 q => wp_some.mpr ⟨nI_1 v, q⟩
        · rintro ⟨sv, w⟩ ⟨h1, hJ⟩
          dsimp only at h1 hJ
          subst h1
          unfold b_X10_derive_4
          dsimp only
          rw [m_objects (h0.at hJ).1, Option.bind_some, if_neg (fun q => Nat.lt_irrefl _ ((n_lt (by omega) (by omega)).mp q)), wp_some]
          exact hJ.vias hP hK h0.2.2.2.2.1 hi he (by omega)
  · rintro ⟨si, w⟩ ⟨h1, hI⟩
    dsimp only at h1 hI
    subst h1
    unfold b_X10_derive_1
    dsimp only
    rw [m_count (h0.at hI).2.1, Option.bind_some, if_neg (fun q => Nat.lt_irrefl _ ((n_lt (by omega) (by omega)).mp q)), wp_some]
    exact hI.passTo (by omega) fun n h1 h2 => dvn_far h1
/-- the reference keeps all but its words for a derivation -/
def MD (m m' : Wd) : Prop := (∀ q, q ≠ 0 → m'.1 q = m.1 q) ∧ (∀ j, ¬ (28 ≤ j ∧ j ≤ 32) → m'.1 0 j = m.1 0 j) ∧ m'.2 = m.2
theorem Base.md (h : Base p P K c m) (w : MD m m') : Base p P K c m' := by
  obtain ⟨h1, h2, h3, h4, h5, h6, h7, h8, h9, h10⟩ := h
  exact ⟨h1, h2, h3, h4, h5.keep fun q q1 q2 => w.1 q (by omega), h6.keep (w.1 10 (by omega)), h7, h8, h9, h10.keep (w.1 15 (by omega)) (w.1 17 (by omega)) (w.2.1 27 (by omega))⟩
/-- the sets that a derivation may use -/
noncomputable def dB (P : PK) (K : CK) (pr : Bool) (k o : Nat) : Nat → Int32 := if pr = true then SS P K (rd P K k o - 1) else LF P K
theorem m_derive (h : Base p P K c m) (hk56 : k < 56) (ho : o < 10) (hf : bt (LF P K k) o = true) : wp (f_X10_derive m 0 (nI k) (nI o) pr) (DI P K (dB P K pr k o) k o m pr 600) := by
  have hP := h.2.2.2.2.2.2.1
  have hK := h.2.2.2.2.2.2.2.1
  obtain ⟨r1, r2, r3, r4⟩ := rd_ok hP hK RR_lt (show bt (SS P K (RR P K) k) o = true from hf)
  have hRR := RR_lt (P := P) (K := K)
  unfold f_X10_derive
  rw [Option.bind_some, Option.bind_some]
  generalize hm2 : wsI (wsI m 0 32 (bI pr)) 0 31 0 = m2
  have f2 : DFr m m2 := ⟨fun q hq => by rw [← hm2, wsI_o _ _ _ hq, wsI_o _ _ _ hq], fun j hj => by rw [← hm2, wsI_s, upd_o (by omega), wsI_s, upd_o (by omega)], by rw [← hm2]; rfl⟩
  have s2 := (h.md f2).2.2.2.2.2.2.2.2.2
  show wp (Option.bind (rdI zM m2 17 (nI 10 * nI k + nI o)) _) _
  rw [pk_mul, nI_add, rdI_M (show 10 * k + o < 560 by omega), Option.bind_some, s2.2.1 k o hk56 ho hf, wp_bind]
  refine wp_mono (d_loop (B := dB P K pr k o) (m0 := m) ⟨h.2.2.2.2.1, h.2.2.2.2.2.1, hP, hK, ?_, fun w hw h32 => ?_⟩ hk56 ho ⟨f2, by rw [← hm2, wsI_s, upd_o (by omega), wsI_s, upd_s], by rw [← hm2, wsI_s, upd_s]; rfl, fun e => by cases e⟩) (fun w q => wp_some.mpr q)
  · unfold dB
    split
    · exact SS_ok hP hK _
    · exact LF_ok hP hK
  · intro k' o' hk' ho'
    have hbw := h.md hw
    have hsw := hbw.2.2.2.2.2.2.2.2.2
    unfold f_X10_holdsBefore
    rw [m_isFact hbw hk' (by omega), Option.bind_some, h32, rdB_t, Option.bind_some]
    unfold dB
    cases hb : bt (SS P K (RR P K) k') o' with
    | false =>
      rw [if_neg (by decide), Option.bind_some]
      cases pr with
      | true =>
        rw [if_pos rfl]
        cases hx : bt (SS P K (rd P K k o - 1) k') o' with
        | false => rfl
        | true => rw [SS_mono hP hK (show rd P K k o - 1 ≤ RR P K by omega) hx] at hb; cases hb
      | false => rw [if_neg (by decide)]; show some false = some (bt (SS P K (RR P K) k') o'); rw [hb]
    | true =>
      rw [if_pos rfl]
      cases pr with
      | false => rw [if_neg (by decide), if_neg (by decide)]; show some true = some (bt (SS P K (RR P K) k') o'); rw [hb]
      | true =>
        rw [if_pos rfl, if_pos rfl]
        show Option.bind (Option.bind (rdI zM w 17 (nI 10 * nI k' + nI o')) _) _ = _
        rw [pk_mul, nI_add, rdI_M (show 10 * k' + o' < 560 by omega), Option.bind_some, hsw.2.1 k' o' hk' ho' hb]
        obtain ⟨q1, q2, q3, q4⟩ := rd_ok hP hK RR_lt hb
        by_cases hlt : rd P K k' o' < rd P K k o
        · rw [if_pos ((n_lt (by omega) (by omega)).mpr hlt), SS_mono hP hK (show rd P K k' o' ≤ rd P K k o - 1 by omega) q3]; rfl
        · rw [if_neg (fun z => hlt ((n_lt (by omega) (by omega)).mp z))]
          cases hx : bt (SS P K (rd P K k o - 1) k') o' with
          | false => rfl
          | true => have := rd_lt hP hK (show rd P K k o - 1 < 600 by omega) hx; omega
/-- the first derivation, as the reference keeps it -/
theorem m_primary (h : Base p P K c m) (hk56 : k < 56) (ho : o < 10) (hf : bt (LF P K k) o = true) : wp (f_X10_derive m 0 (nI k) (nI o) true) (fun d => MD m d ∧ d.1 0 28 = nI (pd P K k o / 20) ∧ d.1 0 29 = (if kd K (pd P K k o / 20) ≤ 1 then -2 else nI (pd P K k o % 20 / 2)) ∧
    d.1 0 30 = (if kd K (pd P K k o / 20) = 0 then -1 else nI (fsr P K (pd P K k o / 20) (pd P K k o % 20 / 2) (pd P K k o % 2)))) := by
  have hP := h.2.2.2.2.2.2.1
  have hK := h.2.2.2.2.2.2.2.1
  obtain ⟨p1, p2, p3⟩ := pd_ok hP hK RR_lt (show bt (SS P K (RR P K) k) o = true from hf)
  have h30 := hK.1
  refine wp_mono (m_derive (pr := true) h hk56 ho hf) ?_
  rintro d ⟨d1, d2, d3, d4⟩
  have e : dB P K true k o = SS P K (rd P K k o - 1) := if_pos rfl
  have e2 : fstb (dvn P K (SS P K (rd P K k o - 1)) k o) 600 = pd P K k o := rfl
  have hx : exb (dvn P K (SS P K (rd P K k o - 1)) k o) 600 = true := exb_iff.mpr ⟨pd P K k o, by omega, p1⟩
  rw [e, e2] at d4
  exact ⟨d1, d4 hx⟩
end DG
