/-! The reference's edges. -/
/-- a piece of the edges is laid by the reference -/
def LaM (P : PK) (K : CK) (m0 : Wd) (n : Nat) (w : Wd) : Prop := w.1 = m0.1 ∧ (∀ q, q ≠ 20 → w.2.1 q = m0.2.1 q) ∧ w.2.2 = m0.2.2 ∧ ∀ s t, s < 56 → t < 64 → lb (w.2.1 20 s) t = exb (edn P K s t) n
section ME
variable {p : Nat} {P : PK} {K : CK} {c m m0 w : Wd} {i v o fl s t n b k f : Nat} {x : Int64}
theorem LaM.same (h : LaM P K m0 n w) (hn : n ≤ b) (q : ∀ s t j, n ≤ j → j < b → edn P K s t j = false) : LaM P K m0 b w := ⟨h.1, h.2.1, h.2.2.1, fun s t hs ht => by rw [h.2.2.2 s t hs ht, exb_same hn (fun j a b => q s t j a b)]⟩
theorem LaM.rp (h : LaM P K m n w) (hb : Base p P K c m) : RPm w P ∧ RLm w K := by
  have h1 := hb.2.2.2.2.1
  have h2 := hb.2.2.2.2.2.1
  unfold RPm RLm at *
  rw [h.1]
  exact ⟨h1, h2⟩
theorem LaM.set (h : LaM P K m n w) (hb : Base p P K c m) (hk : k < 56) : rdI zM w (zrf zM 0 24) (nI k) = some (LF P K k) := by
  show rdI zM w 15 (nI k) = _
  rw [rdI_M (show k < 56 from hk), h.1]
  exact congrArg some (hb.2.2.2.2.2.2.2.2.2.1 k hk)
theorem m_edge (hs : s < 56) (ht : t < 56) : f_X10_edge w 0 (nI s) (nI t) = some (if s = t then w else wsL w 20 s (w.2.1 20 s ||| jlshl 1 (nI t))) := by
  unfold f_X10_edge
  by_cases h : s = t
  · rw [if_neg (fun z => z (by rw [h])), if_pos h]; rfl
  · rw [if_pos (fun z => h ((n_eq (by omega) (by omega)).mp z)), if_neg h]
    show Option.bind (Option.bind (rdL zM w 20 (nI s)) fun x3 => Option.bind (wrL zM w 20 (nI s) (x3 ||| jlshl 1 (nI t))) _) _ = _
    rw [rdL_M (show s < 56 from hs), Option.bind_some, wrL_M (show s < 56 from hs)]; rfl
theorem LaM.edge (h : LaM P K m0 n w) (hs : f < 56) (ht : b < 56) (hd : ∀ s t, edn P K s t n = decide (f = s ∧ b = t ∧ s ≠ t)) : ∃ w', f_X10_edge w 0 (nI f) (nI b) = some w' ∧ LaM P K m0 (n + 1) w' := by
  rw [m_edge hs ht]
  refine ⟨_, rfl, ?_⟩
  obtain ⟨e1, e2, e3, e4⟩ := h
  by_cases q : f = b
  · rw [if_pos q]
    refine ⟨e1, e2, e3, fun s t hs ht => ?_⟩
    show _ = (exb (edn P K s t) n || edn P K s t n)
    rw [hd, decide_eq_false (fun z => z.2.2 (by omega)), Bool.or_false, e4 s t hs ht]
  · rw [if_neg q]
    refine ⟨e1, fun y hy => by rw [wsL_o _ _ _ hy]; exact e2 y hy, e3, fun s t hs ht => ?_⟩
    show _ = (exb (edn P K s t) n || edn P K s t n)
    rw [hd, wsL_s]
    by_cases e : s = f
    · subst e
      rw [updL_s, l_put (by omega) ht, e4 _ t hs ht]
      congr 1
      exact decide_eq_decide.mpr ⟨fun z => ⟨rfl, z.symm, fun y => q (by omega)⟩, fun z => z.2.1.symm⟩
    · rw [updL_o e, e4 s t hs ht, decide_eq_false (fun z => e z.1.symm), Bool.or_false]
theorem k_no {a b : Nat} (ha : a < 65536) (hb : b < 65536) (h : a ≠ b) : ¬ nI a = nI b := fun z => h ((n_eq ha hb).mp z)
/-- objects of a constraint that has no via objects of its own are passed over -/
theorem m_edgeNone (hb : Base p P K c m) (hi : i < nc K) (hk : kd K i = 0 ∨ kd K i = 1) (h : LaM P K m n w) {s5 : Int32 × Wd} (h5 : s5.1 = nI i) : wp (lp (b_X10_layEdges_3 0 s5) NF ((0 : Int32), w)) (fun r => r = w) := by
  obtain ⟨rP, rL⟩ := h.rp hb
  have hP := hb.2.2.2.2.2.2.1
  have hK := hb.2.2.2.2.2.2.2.1
  have hno := hP.2.1
  refine lp_inv (fun o r => r.1 = nI o ∧ r.2 = w) (fun r => r = w) (no P) ?_ ?_ (by unfold NF; omega) ⟨rfl, rfl⟩
  · rintro o ⟨a, r⟩ ho ⟨h1, h2⟩
    dsimp only at h1 h2
    subst h1; subst h2
    unfold b_X10_layEdges_3
    dsimp only
    rw [m_objects rP, Option.bind_some, if_pos ((n_lt (by omega) (by omega)).mpr ho), h5, m_kind rL hK.1 hi, Option.bind_some, if_neg (show ¬ nI (kd K i) = (2 : Int32) from k_no (b := 2) (by omega) (by omega) (by omega)), Option.bind_some, if_neg (by decide), Option.bind_some, m_kind rL hK.1 hi, Option.bind_some, if_neg (show ¬ nI (kd K i) = (3 : Int32) from k_no (b := 3) (by omega) (by omega) (by omega)), Option.bind_some, if_neg (by decide), Option.bind_some, m_kind rL hK.1 hi, Option.bind_some, if_neg (show ¬ nI (kd K i) = (4 : Int32) from k_no (b := 4) (by omega) (by omega) (by omega)), Option.bind_some, if_neg (by decide), Option.bind_some, wp_some]
    exact ⟨nI_1 o, rfl⟩
  · rintro ⟨a, r⟩ ⟨h1, h2⟩
    dsimp only at h1 h2
    subst h1; subst h2
    unfold b_X10_layEdges_3
    dsimp only
    rw [m_objects rP, Option.bind_some, if_neg (fun z => Nat.lt_irrefl _ ((n_lt (by omega) (by omega)).mp z)), wp_some]
    rfl
theorem m_edgeLoop (hb : Base p P K c m) (hi : i < nc K) (he : bt (en K) i = true) (hk : 2 ≤ kd K i) (h : LaM P K m (20 * i) w) {s5 : Int32 × Wd} (h5 : s5.1 = nI i) : wp (lp (b_X10_layEdges_3 0 s5) NF ((0 : Int32), w)) (LaM P K m (20 * (i + 1))) := by
  have hP := hb.2.2.2.2.2.2.1
  have hK := hb.2.2.2.2.2.2.2.1
  have h30 := hK.1
  have hno := hP.2.1
  have hnv := hP.1
  have hnf := hP.2.2.1
  obtain ⟨g0, g1, g2, g3, g4, g5, g6⟩ := hK.2.2 i hi
  have hk0 : kd K i ≠ 0 := by omega
  refine lp_inv (fun o r => r.1 = nI o ∧ LaM P K m (20 * i + 2 * o) r.2) (LaM P K m (20 * (i + 1))) (no P) ?_ ?_ (by unfold NF; omega) ⟨rfl, h⟩
  · rintro o ⟨a, r⟩ ho ⟨h1, h2⟩
    dsimp only at h1 h2
    subst h1
    obtain ⟨rP, rL⟩ := h2.rp hb
    have off : bt (vset P K (LF P K) i) o = false → LaM P K m (20 * i + 2 * (o + 1)) r := fun z => h2.same (by omega) fun s t j a b => by
      obtain ⟨fl, hfl, rfl⟩ : ∃ fl, fl < 2 ∧ j = 20 * i + 2 * o + fl := ⟨j - (20 * i + 2 * o), by omega, by omega⟩
      rw [edn_flow (by omega) hfl hi he hk0, z, Bool.and_false]
    have one : kd K i ≠ 4 → ∀ w', LaM P K m (20 * i + 2 * o + 1) w' → LaM P K m (20 * i + 2 * (o + 1)) w' := fun q w' z => z.same (by omega) fun s t j a b => by
      have : j = 20 * i + 2 * o + 1 := by omega
      subst this
      rw [edn_flow (fl := 1) (by omega) (by omega) hi he hk0, decide_eq_false (fun z => by
        have := z.1
        unfold fcn at this
        rw [if_neg q] at this
        omega)]; rfl
    unfold b_X10_layEdges_3
    dsimp only
    rw [m_objects rP, Option.bind_some, if_pos ((n_lt (by omega) (by omega)).mpr ho), h5, m_kind rL h30 hi, Option.bind_some]
    have hkk : kd K i = 2 ∨ kd K i = 3 ∨ kd K i = 4 := by omega
    rcases hkk with q | q | q
    · -- load
      have b1 := g4 q
      have hv : vset P K (LF P K) i = LF P K (kb K i) := by unfold vset; rw [if_neg (by omega), if_pos q]
      have two : ∀ w', LaM P K m (20 * i + 2 * (o + 1)) w' → wp (Option.bind (Option.bind (Option.bind (f_X10_kind w' 0 (nI i)) fun x34 => if x34 = (3 : Int32) then Option.bind (f_X10_first w' 0 (nI i)) fun x36 => Option.bind (rdI zM w' (zrf zM 0 24) x36) fun x37 => if f_X10_has x37 (nI o) = true then some true else some false else some false) fun b32 => if b32 = true then Option.bind (f_X10_third w' 0 (nI i)) fun x38 => Option.bind (f_X10_second w' 0 (nI i)) fun x39 => Option.bind (f_X10_edge w' 0 x38 (f_X10_fieldIndex (nI o) x39)) fun w40 => some w40 else some w') fun s31 => Option.bind (Option.bind (Option.bind (f_X10_kind s31 0 (nI i)) fun x44 => if x44 = (4 : Int32) then Option.bind (f_X10_second s31 0 (nI i)) fun x46 => Option.bind (rdI zM s31 (zrf zM 0 24) x46) fun x47 => if f_X10_has x47 (nI o) = true then Option.bind (f_X10_isFunction s31 0 (nI o)) fun x49 => if x49 = true then some true else some false else some false else some false) fun b42 => if b42 = true then Option.bind (f_X10_third s31 0 (nI i)) fun x50 => Option.bind (rdI zM s31 (zrf zM 0 16) (nI o)) fun x51 => Option.bind (f_X10_edge s31 0 x50 x51) fun w52 => Option.bind (rdI zM w52 (zrf zM 0 17) (nI o)) fun x53 => Option.bind (f_X10_first w52 0 (nI i)) fun x54 => Option.bind (f_X10_edge w52 0 x53 x54) fun w55 => some w55 else some s31) fun s41 => some (Sum.inl (nI o + 1, s41))) (lpS (fun r : Int32 × Wd => r.1 = nI (o + 1) ∧ LaM P K m (20 * i + 2 * (o + 1)) r.2) (LaM P K m (20 * (i + 1)))) := fun w' z => by
        have rL' := (z.rp hb).2
        rw [m_kind rL' h30 hi, Option.bind_some, if_neg (show ¬ nI (kd K i) = (3 : Int32) from k_no (b := 3) (by omega) (by omega) (by omega)), Option.bind_some, if_neg (by decide), Option.bind_some, m_kind rL' h30 hi, Option.bind_some, if_neg (show ¬ nI (kd K i) = (4 : Int32) from k_no (b := 4) (by omega) (by omega) (by omega)), Option.bind_some, if_neg (by decide), Option.bind_some, wp_some]
        exact ⟨nI_1 o, z⟩
      rw [if_pos (show nI (kd K i) = (2 : Int32) by rw [q]; rfl), m_second rL h30 hi, Option.bind_some, h2.set hb (by omega), Option.bind_some, has_bt (by omega)]
      cases e : bt (LF P K (kb K i)) o with
      | false =>
        rw [if_neg (by decide), Option.bind_some, if_neg (by decide), Option.bind_some]
        exact two r (off (by rw [hv]; exact e))
      | true =>
        rw [if_pos rfl, Option.bind_some, if_pos rfl, m_third rL h30 hi, Option.bind_some, m_first rL h30 hi, Option.bind_some, th_big (by omega), m_fieldIndex]
        obtain ⟨w', e1, e2⟩ := h2.edge (f := 16 + 4 * o + kc K i) (b := ka K i) (by omega) (by omega) (fun s t => by
          have := edn_flow (P := P) (K := K) (s := s) (t := t) (v := o) (fl := 0) (i := i) (by omega) (by omega) hi he hk0
          rw [Nat.add_zero] at this
          rw [this, hv, e, Bool.and_true]
          refine decide_eq_decide.mpr ⟨fun z => ?_, fun z => ?_⟩
          · have z1 := z.2.1
            have z2 := z.2.2.1
            unfold fsr at z1
            unfold ftg at z2
            rw [if_pos q] at z1
            rw [if_neg (by omega), if_neg (by omega)] at z2
            exact ⟨z1, z2, z.2.2.2⟩
          · unfold fcn fsr ftg
            rw [if_neg (by omega), if_pos q, if_neg (by omega), if_neg (by omega)]
            exact ⟨by omega, z⟩)
        rw [e1, Option.bind_some, Option.bind_some]
        exact two w' (one (by omega) w' e2)
    · -- store
      have b1 := g5 q
      have hv : vset P K (LF P K) i = LF P K (ka K i) := by unfold vset; rw [if_neg (by omega), if_neg (by omega), if_pos q]
      rw [if_neg (show ¬ nI (kd K i) = (2 : Int32) from k_no (b := 2) (by omega) (by omega) (by omega)), Option.bind_some, if_neg (by decide), Option.bind_some, m_kind rL h30 hi, Option.bind_some, if_pos (show nI (kd K i) = (3 : Int32) by rw [q]; rfl), m_first rL h30 hi, Option.bind_some, h2.set hb (by omega), Option.bind_some, has_bt (by omega)]
      have two : ∀ w', LaM P K m (20 * i + 2 * (o + 1)) w' → wp (Option.bind (Option.bind (Option.bind (f_X10_kind w' 0 (nI i)) fun x44 => if x44 = (4 : Int32) then Option.bind (f_X10_second w' 0 (nI i)) fun x46 => Option.bind (rdI zM w' (zrf zM 0 24) x46) fun x47 => if f_X10_has x47 (nI o) = true then Option.bind (f_X10_isFunction w' 0 (nI o)) fun x49 => if x49 = true then some true else some false else some false else some false) fun b42 => if b42 = true then Option.bind (f_X10_third w' 0 (nI i)) fun x50 => Option.bind (rdI zM w' (zrf zM 0 16) (nI o)) fun x51 => Option.bind (f_X10_edge w' 0 x50 x51) fun w52 => Option.bind (rdI zM w52 (zrf zM 0 17) (nI o)) fun x53 => Option.bind (f_X10_first w52 0 (nI i)) fun x54 => Option.bind (f_X10_edge w52 0 x53 x54) fun w55 => some w55 else some w') fun s41 => some (Sum.inl (nI o + 1, s41))) (lpS (fun r : Int32 × Wd => r.1 = nI (o + 1) ∧ LaM P K m (20 * i + 2 * (o + 1)) r.2) (LaM P K m (20 * (i + 1)))) := fun w' z => by
        have rL' := (z.rp hb).2
        rw [m_kind rL' h30 hi, Option.bind_some, if_neg (show ¬ nI (kd K i) = (4 : Int32) from k_no (b := 4) (by omega) (by omega) (by omega)), Option.bind_some, if_neg (by decide), Option.bind_some, wp_some]
        exact ⟨nI_1 o, z⟩
      cases e : bt (LF P K (ka K i)) o with
      | false =>
        rw [if_neg (by decide), Option.bind_some, if_neg (by decide), Option.bind_some]
        exact two r (off (by rw [hv]; exact e))
      | true =>
        rw [if_pos rfl, Option.bind_some, if_pos rfl, m_third rL h30 hi, Option.bind_some, m_second rL h30 hi, Option.bind_some, th_big (by omega), m_fieldIndex]
        obtain ⟨w', e1, e2⟩ := h2.edge (f := kc K i) (b := 16 + 4 * o + kb K i) (by omega) (by omega) (fun s t => by
          have := edn_flow (P := P) (K := K) (s := s) (t := t) (v := o) (fl := 0) (i := i) (by omega) (by omega) hi he hk0
          rw [Nat.add_zero] at this
          rw [this, hv, e, Bool.and_true]
          refine decide_eq_decide.mpr ⟨fun z => ?_, fun z => ?_⟩
          · have z1 := z.2.1
            have z2 := z.2.2.1
            unfold fsr at z1
            unfold ftg at z2
            rw [if_neg (by omega), if_pos q] at z1
            rw [if_pos q] at z2
            exact ⟨z1, z2, z.2.2.2⟩
          · unfold fcn fsr ftg
            rw [if_neg (by omega), if_neg (by omega), if_pos q, if_pos q]
            exact ⟨by omega, z⟩)
        rw [e1, Option.bind_some, Option.bind_some]
        exact two w' (one (by omega) w' e2)
    · -- call
      have b1 := g6 q
      have hv : vset P K (LF P K) i = LF P K (kb K i) &&& fs P := by unfold vset; rw [if_neg (by omega), if_neg (by omega), if_neg (by omega), if_pos q]
      rw [if_neg (show ¬ nI (kd K i) = (2 : Int32) from k_no (b := 2) (by omega) (by omega) (by omega)), Option.bind_some, if_neg (by decide), Option.bind_some, m_kind rL h30 hi, Option.bind_some, if_neg (show ¬ nI (kd K i) = (3 : Int32) from k_no (b := 3) (by omega) (by omega) (by omega)), Option.bind_some, if_neg (by decide), Option.bind_some, m_kind rL h30 hi, Option.bind_some, if_pos (show nI (kd K i) = (4 : Int32) by rw [q]; rfl), m_second rL h30 hi, Option.bind_some, h2.set hb (by omega), Option.bind_some, has_bt (by omega), m_isFunction rP hP ho]
      cases e : bt (LF P K (kb K i)) o with
      | false =>
        rw [if_neg (by decide), Option.bind_some, if_neg (by decide), Option.bind_some, wp_some]
        exact ⟨nI_1 o, off (by rw [hv, b_and, e]; rfl)⟩
      | true =>
        rw [if_pos rfl, Option.bind_some]
        cases ef : bt (fs P) o with
        | false =>
          rw [if_neg (by decide), Option.bind_some, if_neg (by decide), Option.bind_some, wp_some]
          exact ⟨nI_1 o, off (by rw [hv, b_and, ef, Bool.and_false])⟩
        | true =>
          have hf := hP.2.2.2 o ef
          rw [if_pos rfl, Option.bind_some, if_pos rfl, m_third rL h30 hi, Option.bind_some, th_big (by omega)]
          show wp (Option.bind (Option.bind (rdI zM r 8 (nI o)) _) _) _
          rw [rdI_M (show o < 20 by omega), Option.bind_some, ((rP.2.2.2 o ho).1 ef).1]
          obtain ⟨w', e1, e2⟩ := h2.edge (f := kc K i) (b := pr P o) (by omega) (by omega) (fun s t => by
            have := edn_flow (P := P) (K := K) (s := s) (t := t) (v := o) (fl := 0) (i := i) (by omega) (by omega) hi he hk0
            rw [Nat.add_zero] at this
            rw [this, hv, b_and, e, ef, Bool.and_true, Bool.and_true]
            refine decide_eq_decide.mpr ⟨fun z => ?_, fun z => ?_⟩
            · have z1 := z.2.1
              have z2 := z.2.2.1
              unfold fsr at z1
              unfold ftg at z2
              rw [if_neg (by omega), if_neg (by omega), if_pos q, if_pos rfl] at z1
              rw [if_neg (by omega), if_pos q, if_pos rfl] at z2
              exact ⟨z1, z2, z.2.2.2⟩
            · unfold fcn fsr ftg
              rw [if_pos q, if_neg (by omega), if_neg (by omega), if_pos q, if_pos rfl, if_neg (by omega), if_pos q, if_pos rfl]
              exact ⟨by omega, z⟩)
          rw [e1, Option.bind_some]
          obtain ⟨rP', rL'⟩ := e2.rp hb
          show wp (Option.bind (Option.bind (rdI zM w' 9 (nI o)) _) _) _
          rw [rdI_M (show o < 20 by omega), Option.bind_some, ((rP'.2.2.2 o ho).1 ef).2, m_first rL' h30 hi, Option.bind_some]
          obtain ⟨w2, e3, e4⟩ := e2.edge (f := rs P o) (b := ka K i) (by omega) (by omega) (fun s t => by
            have := edn_flow (P := P) (K := K) (s := s) (t := t) (v := o) (fl := 1) (i := i) (by omega) (by omega) hi he hk0
            rw [this, hv, b_and, e, ef, Bool.and_true, Bool.and_true]
            refine decide_eq_decide.mpr ⟨fun z => ?_, fun z => ?_⟩
            · have z1 := z.2.1
              have z2 := z.2.2.1
              unfold fsr at z1
              unfold ftg at z2
              rw [if_neg (by omega), if_neg (by omega), if_pos q, if_neg (by omega)] at z1
              rw [if_neg (by omega), if_pos q, if_neg (by omega)] at z2
              exact ⟨z1, z2, z.2.2.2⟩
            · unfold fcn fsr ftg
              rw [if_pos q, if_neg (by omega), if_neg (by omega), if_pos q, if_neg (by omega), if_neg (by omega), if_pos q, if_neg (by omega)]
              exact ⟨by omega, z⟩)
          rw [e3, Option.bind_some, Option.bind_some, wp_some]
          exact ⟨nI_1 o, e4⟩
  · rintro ⟨a, r⟩ ⟨h1, h2⟩
    dsimp only at h1 h2
    subst h1
    obtain ⟨rP, rL⟩ := h2.rp hb
    unfold b_X10_layEdges_3
    dsimp only
    rw [m_objects rP, Option.bind_some, if_neg (fun z => Nat.lt_irrefl _ ((n_lt (by omega) (by omega)).mp z)), wp_some]
    refine h2.same (by omega) fun s t j a b => ?_
    obtain ⟨v, fl, hv, hv2, hfl, rfl⟩ : ∃ v fl, no P ≤ v ∧ v < 10 ∧ fl < 2 ∧ j = 20 * i + 2 * v + fl := ⟨(j - 20 * i) / 2, (j - 20 * i) % 2, by omega, by omega, by omega, by omega⟩
    rw [edn_flow hv2 hfl hi he hk0]
    cases e : bt (vset P K (LF P K) i) v with
    | false => rw [Bool.and_false]
    | true =>
      have := (vset_lt hP (LF_ok hP hK) e).2.1 (by omega)
      omega
end ME
