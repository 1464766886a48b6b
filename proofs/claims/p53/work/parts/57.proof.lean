/-! Proofs: the reference's worklist comes to the class's sets. -/
def MP (m m' : Wd) : Prop := (∀ q, q ≠ 0 → q ≠ 18 → q ≠ 19 → m'.1 q = m.1 q) ∧ (∀ j, ¬ (28 ≤ j ∧ j ≤ 32) → j ≠ 35 → m'.1 0 j = m.1 0 j) ∧ m'.2 = m.2
/-- a fact of the proof of f0, in the class's words -/
def Good (P : PK) (K : CK) (c : Wd) (f0 f : Nat) : Prop := bt (LF P K (f / 10)) (f % 10) = true ∧ ∀ b, b < 32 → bt (c.1 53 f) b = true → bt (c.1 53 f0) b = true
def PQ (P : PK) (K : CK) (c m0 : Wd) (f0 : Nat) (M : Nat → Bool) (pe : Nat → Nat) (many : Nat) (w : Wd) : Prop := MP m0 w ∧ (∀ f, f < 560 → w.1 19 f = bI (M f)) ∧ w.1 0 35 = nI many ∧ many = cn M 560 ∧ (∀ j, j < many → w.1 18 j = nI (pe j) ∧ pe j < 560 ∧ M (pe j) = true) ∧
  ∀ f, f < 560 → M f = true → (∃ j, j < many ∧ pe j = f) ∧ Good P K c f0 f
section PR
variable {p : Nat} {P : PK} {K : CK} {c m m0 m' w : Wd} {k o n i j s f f0 many : Nat} {v u : Int32} {M : Nat → Bool} {pe : Nat → Nat}
theorem m_require (h : PQ P K c m0 f0 M pe many w) (hk : k < 56) (ho : o < 10) (hg : Good P K c f0 (10 * k + o)) : ∃ w' M' pe' many', f_X10_require w 0 (nI k) (nI o) = some w' ∧ PQ P K c m0 f0 M' pe' many' w' ∧ M' (10 * k + o) = true ∧ (∀ g, M g = true → M' g = true) ∧ many ≤ many' ∧ (∀ j, j < many → pe' j = pe j) ∧ ∀ j, j ≠ 35 → w'.1 0 j = w.1 0 j := by
  have h' := h
  obtain ⟨⟨a1, a2, a3⟩, h2, h3, h4, h5, h6⟩ := h
  have hf : 10 * k + o < 560 := by omega
  unfold f_X10_require
  have hr : rdZ zM w (zrf zM 0 34) ((10 : Int32) * nI k + nI o) = some (M (10 * k + o)) := by
    unfold rdZ
    show (if nI 10 * nI k + nI o < 0 ∨ zln zM 19 ≤ (nI 10 * nI k + nI o).toNatClampNeg then none else rdB (w.1 19 (nI 10 * nI k + nI o).toNatClampNeg)) = _
    rw [pk_mul, nI_add, if_neg (ix_ok (n := zln zM 19) (show 10 * k + o < 560 from hf) (zlnM_le 19)), n_cl (by omega), h2 _ hf, rdB_t]
  rw [hr, Option.bind_some]
  cases hM : M (10 * k + o) with
  | true => exact ⟨w, M, pe, many, rfl, h', hM, fun _ z => z, Nat.le_refl _, fun _ _ => rfl, fun _ _ => rfl⟩
  | false =>
    obtain ⟨M', hM'⟩ : ∃ M' : Nat → Bool, ∀ x, M' x = (M x || decide (x = 10 * k + o)) := ⟨_, fun _ => rfl⟩
    obtain ⟨pe', hp1, hp2⟩ : ∃ pe' : Nat → Nat, pe' many = 10 * k + o ∧ ∀ x, x ≠ many → pe' x = pe x := ⟨fun x => if x = many then 10 * k + o else pe x, if_pos rfl, fun x hx => if_neg hx⟩
    have hMf : M' (10 * k + o) = true := by rw [hM', decide_eq_true rfl, Bool.or_true]
    have hcn : cn M' 560 = cn M 560 + 1 := cn_add hf hM hMf (fun x hx hne => by rw [hM', decide_eq_false hne, Bool.or_false])
    have hle := cn_le M' 560
    have hm : many < 560 := by omega
    rw [if_neg (by decide)]
    show ∃ w' M' pe' many', Option.bind (wrI zM w 19 (nI 10 * nI k + nI o) (bI true)) (fun w3 => Option.bind (wrI zM w3 18 (w3.1 0 35) (nI 10 * nI k + nI o)) _) = _ ∧ _
    rw [pk_mul, nI_add, wrI_M (show 10 * k + o < 560 from hf), Option.bind_some, wsI_o _ _ _ (by omega), h3, wrI_M (show many < 560 from hm), Option.bind_some, Option.bind_some]
    generalize hw : wsI (wsI w 19 (10 * k + o) (bI true)) 18 many (nI (10 * k + o)) = w2
    have q0 : ∀ q, q ≠ 18 → q ≠ 19 → w2.1 q = w.1 q := fun q q1 q2 => by rw [← hw, wsI_o _ _ _ q1, wsI_o _ _ _ q2]
    have q18 : w2.1 18 = upd (w.1 18) many (nI (10 * k + o)) := by rw [← hw, wsI_s, wsI_o _ _ _ (by omega)]
    have q19 : w2.1 19 = upd (w.1 19) (10 * k + o) (bI true) := by rw [← hw, wsI_o _ _ _ (by omega), wsI_s]
    have q2 : w2.2 = w.2 := by rw [← hw]; rfl
    refine ⟨_, M', pe', many + 1, rfl, ⟨⟨fun q y0 y1 y2 => ?_, fun j y0 y1 => ?_, ?_⟩, fun x hx => ?_, ?_, ?_, fun x hx => ?_, fun x hx hMx => ?_⟩, ?_, fun g hgM => ?_, by omega, fun x hx => ?_, fun x hx => ?_⟩
    · rw [wsI_o _ _ _ y0, q0 q y1 y2]; exact a1 q y0 y1 y2
    · rw [wsI_s, upd_o y1, q0 0 (by omega) (by omega)]; exact a2 j y0 y1
    · show w2.2 = _
      rw [q2]; exact a3
    · rw [wsI_o _ _ _ (by omega), q19]
      by_cases e : x = 10 * k + o
      · subst e; rw [upd_s, hMf]
      · rw [upd_o e, h2 x hx, hM', decide_eq_false e, Bool.or_false]
    · rw [wsI_s, upd_s, q0 0 (by omega) (by omega), h3]; exact nI_1 many
    · rw [hcn, h4]
    · rw [wsI_o _ _ _ (by omega), q18]
      by_cases e : x = many
      · subst e
        rw [upd_s, hp1]
        exact ⟨rfl, hf, hMf⟩
      · rw [upd_o e, hp2 x e]
        obtain ⟨y1, y2, y3⟩ := h5 x (by omega)
        exact ⟨y1, y2, by rw [hM', y3]; rfl⟩
    · by_cases e : x = 10 * k + o
      · subst e
        exact ⟨⟨many, by omega, hp1⟩, hg⟩
      · rw [hM', decide_eq_false e, Bool.or_false] at hMx
        obtain ⟨⟨j, j1, j2⟩, y⟩ := h6 x hx hMx
        exact ⟨⟨j, by omega, by rw [hp2 j (by omega)]; exact j2⟩, y⟩
    · exact hMf
    · rw [hM', hgM]; rfl
    · exact hp2 x (by omega)
    · rw [wsI_s, upd_o hx, q0 0 (by omega) (by omega)]
theorem PQ.md {w' : Wd} (h : PQ P K c m0 f0 M pe many w) (d : MD w w') : PQ P K c m0 f0 M pe many w' := by
  obtain ⟨⟨a1, a2, a3⟩, h2, h3, h4, h5, h6⟩ := h
  obtain ⟨d1, d2, d3⟩ := d
  exact ⟨⟨fun q y0 y1 y2 => (d1 q y0).trans (a1 q y0 y1 y2), fun j y0 y1 => (d2 j y0).trans (a2 j y0 y1), d3.trans a3⟩, fun f hf => by rw [d1 19 (by omega)]; exact h2 f hf, by rw [d2 35 (by omega)]; exact h3, h4, fun j hj => by rw [d1 18 (by omega)]; exact h5 j hj, h6⟩
theorem Base.mp (h : Base p P K c m) (w' : MP m m') : Base p P K c m' := by
  obtain ⟨h1, h2, h3, h4, h5, h6, h7, h8, h9, h10⟩ := h
  exact ⟨h1, h2, h3, h4, h5.keep fun q q1 q2 => w'.1 q (by omega) (by omega) (by omega), h6.keep (w'.1 10 (by omega) (by omega) (by omega)), h7, h8, h9, h10.keep (w'.1 15 (by omega) (by omega) (by omega)) (w'.1 17 (by omega) (by omega) (by omega)) (w'.2.1 27 (by omega) (by omega))⟩
/-- what the worklist has done with fact f -/
def Done (P : PK) (K : CK) (acc : Int32) (M : Nat → Bool) (f : Nat) : Prop := bt acc (pd P K (f / 10) (f % 10) / 20) = true ∧ (kd K (pd P K (f / 10) (f % 10) / 20) ≠ 0 → M (10 * nxs P K (f % 10) (f / 10) + f % 10) = true) ∧
  (2 ≤ kd K (pd P K (f / 10) (f % 10) / 20) → M (10 * vsl K (pd P K (f / 10) (f % 10) / 20) + pd P K (f / 10) (f % 10) % 20 / 2) = true)
theorem n_div10 {a : Nat} (ha : a < 2 ^ 31) : jdiv (nI a) 10 = nI (a / 10) := pk_div (d := 10) ha (by omega) (by omega)
theorem n_rem10 {a : Nat} (ha : a < 2 ^ 31) : jrem (nI a) 10 = nI (a % 10) := pk_rem (d := 10) ha (by omega) (by omega)
/-- one entry of the worklist -/
theorem m_entry (h : Base p P K c m0) (hq : PQ P K c m0 f0 M pe many w) (hi : i < many) {acc : Int32} (hd : ∀ j, j < i → Done P K acc M (pe j)) (ha : ∀ b, b < 32 → bt acc b = true → bt (c.1 53 f0) b = true) :
    wp (b_X10_proof_2 0 (acc, nI i, w)) (lpS (fun t => t.2.1 = nI (i + 1) ∧ ∃ M' pe' many', PQ P K c m0 f0 M' pe' many' t.2.2 ∧ (∀ g, M g = true → M' g = true) ∧ many ≤ many' ∧ (∀ j, j < i + 1 → Done P K t.1 M' (pe' j)) ∧ ∀ b, b < 32 → bt t.1 b = true → bt (c.1 53 f0) b = true) (fun _ => False)) := by
  have hP := h.2.2.2.2.2.2.1
  have hK := h.2.2.2.2.2.2.2.1
  have hS := h.2.2.2.2.2.2.2.2.1
  have hn := hP.2.1
  have h30 := hK.1
  have hcn := cn_le M 560
  have hm4 := hq.2.2.2.1
  obtain ⟨e1, e2, e3⟩ := hq.2.2.2.2.1 i hi
  obtain ⟨-, g1, g2⟩ := hq.2.2.2.2.2 (pe i) e2 e3
  have hkk : pe i / 10 < 56 := by omega
  have hbw := h.mp hq.1
  unfold b_X10_proof_2
  dsimp only
  rw [hq.2.2.1, if_pos ((n_lt (by omega) (by omega)).mpr hi)]
  show wp (Option.bind (rdI zM w 18 (nI i)) fun x17 => Option.bind (rdI zM w 18 (nI i)) _) _
  rw [rdI_M (show i < 560 by omega), Option.bind_some, Option.bind_some, e1, n_div10 (by omega), n_rem10 (by omega), wp_bind]
  refine wp_mono (m_primW hbw g1) ?_
  rintro d ⟨d1, d2, d3, d4⟩
  generalize hk0 : pe i / 10 = k0 at *
  generalize ho0 : pe i % 10 = o0 at *
  have ok := LF_ok hP hK _ _ g1
  have st := (hS.2.1 k0 o0 ok.1 (by omega) g1).2.2.2.2.2
  have hfe : 10 * k0 + o0 = pe i := by omega
  rw [hfe] at st
  obtain ⟨p1, p2, p3, p4, p5⟩ := fact_pd hP hK g1
  have hqd := hq.md d1
  -- the first want: the source
  have one : ∃ w1 M1 pe1 many1, (if (0 : Int32) ≤ d.1 0 30 then Option.bind (f_X10_require d 0 (d.1 0 30) (nI o0)) (fun w22 => some w22) else some d) = some w1 ∧ PQ P K c m0 f0 M1 pe1 many1 w1 ∧ (∀ g, M g = true → M1 g = true) ∧ many ≤ many1 ∧ (∀ j, j < many → pe1 j = pe j) ∧ (∀ j, j ≠ 35 → w1.1 0 j = d.1 0 j) ∧ (kd K (pd P K k0 o0 / 20) ≠ 0 → M1 (10 * nxs P K o0 k0 + o0) = true) := by
    by_cases hk : kd K (pd P K k0 o0 / 20) = 0
    · rw [if_pos hk] at d4
      rw [d4, if_neg (by decide)]
      exact ⟨d, M, pe, many, rfl, hqd, fun _ z => z, Nat.le_refl _, fun _ _ => rfl, fun _ _ => rfl, fun z => absurd hk z⟩
    · rw [if_neg hk] at d4
      rcases p5 with ⟨q0, -⟩ | ⟨q0, q1, q2, q3, q4⟩
      · exact absurd q0 hk
      · have ee := early hP hK g1 q4
        have ok2 := LF_ok hP hK _ _ ee.1
        have hx : nxs P K o0 k0 < 56 := ok2.1
        have hgood : Good P K c f0 (10 * nxs P K o0 k0 + o0) := by
          refine ⟨?_, fun b hb hbt => g2 b hb ?_⟩
          · rw [show (10 * nxs P K o0 k0 + o0) / 10 = nxs P K o0 k0 by omega, show (10 * nxs P K o0 k0 + o0) % 10 = o0 by omega]; exact ee.1
          · rw [st, if_neg hk]
            by_cases k1 : kd K (pd P K k0 o0 / 20) = 1
            · rw [if_pos k1, b_or, show bt (c.1 53 (10 * fsr P K (pd P K k0 o0 / 20) (pd P K k0 o0 % 20 / 2) (pd P K k0 o0 % 2) + o0)) b = true from hbt, Bool.or_true]
            · rw [if_neg k1, b_or, b_or, show bt (c.1 53 (10 * fsr P K (pd P K k0 o0 / 20) (pd P K k0 o0 % 20 / 2) (pd P K k0 o0 % 2) + o0)) b = true from hbt, Bool.or_true]; rfl
        obtain ⟨w1, M1, pe1, many1, r1, r2, r3, r4, r5, r6, r7⟩ := m_require hqd hx (show o0 < 10 by omega) hgood
        rw [d4, if_pos (nI_pos' (by omega)), r1]
        exact ⟨w1, M1, pe1, many1, rfl, r2, r4, r5, r6, r7, fun _ => r3⟩
  obtain ⟨w1, M1, pe1, many1, r1, r2, r3, r4, r5, r6, r7⟩ := one
  rw [r1, Option.bind_some, r6 29 (by omega), r6 28 (by omega), d3, d2]
  have hb1 := h.mp r2.1
  -- the second want: the fact that supplies the via object
  have two : ∃ w2 M2 pe2 many2, (if (0 : Int32) ≤ (if kd K (pd P K k0 o0 / 20) ≤ 1 then -2 else nI (pd P K k0 o0 % 20 / 2)) then Option.bind (Option.bind ((f_X10_kind w1 0 (nI (pd P K k0 o0 / 20)))) (fun x27 => if x27 = (3 : Int32) then Option.bind ((f_X10_first w1 0 (nI (pd P K k0 o0 / 20)))) (fun x30 => some x30) else Option.bind ((f_X10_second w1 0 (nI (pd P K k0 o0 / 20)))) (fun x29 => some x29))) (fun x26 => Option.bind ((f_X10_require w1 0 (x26) (if kd K (pd P K k0 o0 / 20) ≤ 1 then -2 else nI (pd P K k0 o0 % 20 / 2)))) (fun w31 => some w31)) else some w1) = some w2 ∧ PQ P K c m0 f0 M2 pe2 many2 w2 ∧ (∀ g, M1 g = true → M2 g = true) ∧ many1 ≤ many2 ∧ (∀ j, j < many1 → pe2 j = pe1 j) ∧ (2 ≤ kd K (pd P K k0 o0 / 20) → M2 (10 * vsl K (pd P K k0 o0 / 20) + pd P K k0 o0 % 20 / 2) = true) := by
    by_cases hk : kd K (pd P K k0 o0 / 20) ≤ 1
    · rw [if_pos hk, if_neg (by decide)]
      exact ⟨w1, M1, pe1, many1, rfl, r2, fun _ z => z, Nat.le_refl _, fun _ _ => rfl, fun z => by omega⟩
    · rw [if_neg hk, if_pos (nI_pos' (by omega)), m_kind hb1.2.2.2.2.2.1 h30 p2, Option.bind_some, m_first hb1.2.2.2.2.2.1 h30 p2, m_second hb1.2.2.2.2.2.1 h30 p2]
      have k4 := (hK.2.2 _ p2).1
      have hv : (if nI (kd K (pd P K k0 o0 / 20)) = (3 : Int32) then Option.bind (some (nI (ka K (pd P K k0 o0 / 20)))) (fun x30 => some x30) else Option.bind (some (nI (kb K (pd P K k0 o0 / 20)))) (fun x29 => some x29)) = some (nI (vsl K (pd P K k0 o0 / 20))) := by
        unfold vsl
        by_cases h3 : kd K (pd P K k0 o0 / 20) = 3
        · rw [if_pos (show nI (kd K (pd P K k0 o0 / 20)) = (3 : Int32) by rw [h3]; rfl), if_pos h3]; rfl
        · rw [if_neg (show ¬ nI (kd K (pd P K k0 o0 / 20)) = (3 : Int32) from fun z => h3 ((n_eq (b := 3) (by omega) (by omega)).mp z)), if_neg h3]; rfl
      rw [hv, Option.bind_some]
      rcases p5 with ⟨q0, -⟩ | ⟨q0, q1, q2, q3, q4⟩
      · omega
      · have hvl := vset_lt hP (SS_ok hP hK _) q2
        have q5 := vsl_bt (by omega) hvl.2.2.2.2.2 q2
        have ee := early hP hK g1 q5
        have ok2 := LF_ok hP hK _ _ ee.1
        have v10 := hvl.1
        have hgood : Good P K c f0 (10 * vsl K (pd P K k0 o0 / 20) + pd P K k0 o0 % 20 / 2) := by
          refine ⟨?_, fun b hb hbt => g2 b hb ?_⟩
          · rw [show (10 * vsl K (pd P K k0 o0 / 20) + pd P K k0 o0 % 20 / 2) / 10 = vsl K (pd P K k0 o0 / 20) by omega, show (10 * vsl K (pd P K k0 o0 / 20) + pd P K k0 o0 % 20 / 2) % 10 = pd P K k0 o0 % 20 / 2 by omega]; exact ee.1
          · rw [st, if_neg (by omega), if_neg (by omega), b_or, hbt, Bool.or_true]
        obtain ⟨w2, M2, pe2, many2, t1, t2, t3, t4, t5, t6, -⟩ := m_require r2 ok2.1 v10 hgood
        rw [t1]
        exact ⟨w2, M2, pe2, many2, rfl, t2, t4, t5, t6, fun _ => t3⟩
  obtain ⟨w2, M2, pe2, many2, t1, t2, t3, t4, t5, t6⟩ := two
  rw [t1, Option.bind_some, wp_some]
  have acc_up : ∀ b, bt acc b = true → bt (acc ||| jshl 1 (nI (pd P K k0 o0 / 20))) b = true := fun b hb => by rw [b_or, hb]; rfl
  refine ⟨nI_1 i, M2, pe2, many2, t2, fun g hg => t3 g (r3 g hg), by omega, fun j hj => ?_, fun b hb hbt => ?_⟩
  · rw [t5 j (by omega), r5 j (by omega)]
    by_cases e : j = i
    · subst e
      unfold Done
      rw [hk0, ho0]
      exact ⟨by
        show bt (acc ||| jshl 1 (nI (pd P K k0 o0 / 20))) _ = true
        rw [b_or, bt_bit (by omega) (by omega), decide_eq_true rfl, Bool.or_true], fun z => t3 _ (r7 z), t6⟩
    · obtain ⟨y1, y2, y3⟩ := hd j (by omega)
      exact ⟨acc_up _ y1, fun z => t3 _ (r3 _ (y2 z)), fun z => t3 _ (r3 _ (y3 z))⟩
  · have hbt' : bt (acc ||| jshl 1 (nI (pd P K k0 o0 / 20))) b = true := hbt
    rw [b_or, Bool.or_eq_true] at hbt'
    rcases hbt' with z | z
    · exact ha b hb z
    · refine g2 b hb ?_
      rw [st]
      by_cases k0' : kd K (pd P K k0 o0 / 20) = 0
      · rw [if_pos k0']; exact z
      · rw [if_neg k0']
        by_cases k1 : kd K (pd P K k0 o0 / 20) = 1
        · rw [if_pos k1, b_or, z]; rfl
        · rw [if_neg k1, b_or, b_or, z]; rfl
end PR
