-- deps: b1
/-! The law's rounds are the solution's. -/
section RW2
variable {p : Nat} {P : PK} {K : CK} {c m : Wd} {s o r : Nat}
theorem exi_ok (hP : PWF P) (h : SlOK P s) : exi P s = true := by
  have h1 := hP.1
  have h2 := hP.2.1
  have h3 := hP.2.2.1
  unfold exi
  rcases h with h | ⟨o, f, ho, hf, rfl⟩
  · rw [decide_eq_true (show s < nv P ∧ s < 16 from ⟨h, by omega⟩)]; rfl
  · rw [decide_eq_true (show 16 ≤ 16 + 4 * o + f ∧ (16 + 4 * o + f - 16) / 4 < no P ∧ (16 + 4 * o + f - 16) % 4 < nf P from ⟨by omega, by omega, by omega⟩), Bool.or_true]
theorem slI_lcn (hP : PWF P) (hs : s < 56) (he : exi P s = true) : slI P (nI (lcn s)) = nI s := by
  have h1 := slI_loc (P := P) hP hs
  rw [if_pos he, loc_n hs] at h1
  unfold lcn
  by_cases h : s < 16
  · rw [if_pos h] at h1 ⊢; exact h1
  · rw [if_neg h] at h1 ⊢; exact h1
theorem c_find (h : Base p P K c m) (hs : s < 56) (he : exi P s = true) (ho : o < no P) : f_X9_findFact c 0 (nI (lcn s)) (nI o) = some (if bt (SS P K (RR P K) s) o = true then nI (10 * s + o) else -2) := by
  have hP := h.2.2.2.2.2.2.1
  have hn := hP.2.1
  unfold f_X9_findFact
  rw [h.rp, Option.bind_some, c_slot h, slI_lcn hP hs he, if_neg (n_m1 (by omega)), c_isObject h, inR_n (by omega) (by omega), decide_eq_true ho]
  show Option.bind (rdI zC c (zrf zC (zrf zC 0 6) 0) (nI s)) _ = _
  rw [c_set h hs, Option.bind_some, cont_bt (by omega), factOf_n]
theorem c_rnd (h : Base p P K c m) (hs : s < 56) (he : exi P s = true) (ho : o < no P) : f_X9_roundOf c 0 (nI (lcn s)) (nI o) = some (if bt (SS P K (RR P K) s) o = true then nI (rd P K s o) else -2) := by
  have hP := h.2.2.2.2.2.2.1
  have hn := hP.2.1
  unfold f_X9_roundOf
  rw [c_find h hs he ho, Option.bind_some]
  cases hb : bt (SS P K (RR P K) s) o with
  | false =>
    show Option.bind (if (-2 : Int32) < (0 : Int32) then some (-2 : Int32) else _) _ = some (-2 : Int32)
    rw [if_pos (by decide)]; rfl
  | true =>
    show Option.bind (if nI (10 * s + o) < (0 : Int32) then some (nI (10 * s + o)) else Option.bind (rdI zC c 48 (nI (10 * s + o))) (fun x5 => some x5)) (fun x3 => some x3) = some (nI (rd P K s o))
    rw [if_neg (n_neg (by omega)), rdI_C (show 10 * s + o < 560 by omega), (h.2.2.2.2.2.2.2.2.1.2.1 s o (by omega) (by omega) hb).1]; rfl
theorem c_pts (h : Base p P K c m) (hs : s < 56) (he : exi P s = true) : f_X9_pointsTo c 0 (nI (lcn s)) = some (SS P K (RR P K) s) := by
  have hP := h.2.2.2.2.2.2.1
  unfold f_X9_pointsTo
  rw [h.rp, Option.bind_some, c_slot h, slI_lcn hP hs he, if_neg (n_m1 (by omega)), c_set h hs]; rfl
theorem SS_RR (hP : PWF P) (hK : CWF P K) {k : Nat} (h : bt (SS P K r k) o = true) : bt (SS P K (RR P K) k) o = true := by
  by_cases hr : r ≤ RR P K
  · exact SS_mono hP hK hr h
  · rw [SS_stay hP hK (show RR P K ≤ r by omega)] at h; exact h
theorem cn_diff {a b : Nat → Bool} {n : Nat} (h : ∀ i, i < n → a i = true → b i = true) : cn b n = cn a n + cn (fun i => b i && !a i) n := by
  induction n with
  | zero => rfl
  | succ n ih =>
    have h1 := ih (fun i hi => h i (by omega))
    have h2 := h n (by omega)
    simp only [cn]
    by_cases ha : a n = true
    · rw [if_pos (h2 ha), if_pos ha, if_neg (show ¬ (b n && !a n) = true by rw [ha, Bool.not_true, Bool.and_false]; decide)]
      omega
    · have ha' : a n = false := by cases e : a n; rfl; exact absurd e ha
      by_cases hb : b n = true
      · rw [if_pos hb, if_neg ha, if_pos (show (b n && !a n) = true by rw [ha', hb]; rfl)]
        omega
      · have hb' : b n = false := by cases e : b n; rfl; exact absurd e hb
        rw [if_neg hb, if_neg ha, if_neg (show ¬ (b n && !a n) = true by rw [hb', Bool.false_and]; decide)]
        omega
/-- the facts that round r + 1 adds -/
def nw (P : PK) (K : CK) (r i : Nat) : Bool := fct (SS P K (r + 1)) i && !fct (SS P K r) i
def gI (n : Nat) : Int32 := if n = 0 then 0 else 1
def sp (l : Nat) : Nat := if l < 16 then l else if l < 100 then 16 else l - 84
theorem nw_at {t : Nat} (ht : t < 10) : nw P K r (10 * s + t) = (bt (SS P K (r + 1) s) t && !bt (SS P K r s) t) := by
  unfold nw fct
  rw [show (10 * s + t) / 10 = s by omega, show (10 * s + t) % 10 = t by omega]
theorem row_in (h : Base p P K c m) {f g : Nat → Int32} (hf : LT (SS P K r) f) (hg : LT (SS P K (r + 1)) g) (hr : r + 1 < 600) (hs : s < 56) {a x : Nat} {y z y2 z2 : Int32} :
    lp (b_L_lawB_122 c g (y, z, nI (lcn s)) (x, nI r, y2, z2, f)) NF (nI (a + cn (nw P K r) (10 * s)), gI (cn (nw P K r) (10 * s)), (0 : Int32)) = some (nI (a + cn (nw P K r) (10 * (s + 1))), gI (cn (nw P K r) (10 * (s + 1)))) := by
  have hP := h.2.2.2.2.2.2.1
  have hK := h.2.2.2.2.2.2.2.1
  have hn := hP.2.1
  have hl := (lcn_lt hs).1
  refine wp_is (lp_inv (fun o st => st.1 = nI (a + cn (nw P K r) (10 * s + o)) ∧ st.2.1 = gI (cn (nw P K r) (10 * s + o)) ∧ st.2.2 = nI o) _ (no P) ?_ ?_ (by have : NF = 65536 := rfl; omega) ⟨rfl, rfl, rfl⟩)
  · rintro o ⟨s1, s2, s3⟩ ho ⟨h1, h2, h3⟩
    dsimp only at h1 h2 h3
    subst h1 h2 h3
    unfold b_L_lawB_122
    rw [c_no h, Option.bind_some]
    dsimp only
    rw [if_neg (fun z => by have := (n_le (by omega) (by omega)).mp z; omega), rd140 hl, Option.bind_some, hg.1 s hs]
    have hcn : cn (nw P K r) (10 * s + o + 1) = cn (nw P K r) (10 * s + o) + (if nw P K r (10 * s + o) = true then 1 else 0) := rfl
    have hna := nw_at (P := P) (K := K) (r := r) (s := s) (t := o) (by omega)
    have same : nw P K r (10 * s + o) = false → wp (k_L_lawB_182 (nI (a + cn (nw P K r) (10 * s + o)), gI (cn (nw P K r) (10 * s + o)), nI o) (nI (a + cn (nw P K r) (10 * s + o))) (gI (cn (nw P K r) (10 * s + o)))) (lpS (fun st => st.1 = nI (a + cn (nw P K r) (10 * s + (o + 1))) ∧ st.2.1 = gI (cn (nw P K r) (10 * s + (o + 1))) ∧ st.2.2 = nI (o + 1)) fun x => x = (nI (a + cn (nw P K r) (10 * (s + 1))), gI (cn (nw P K r) (10 * (s + 1))))) := fun hz => by
      have e : cn (nw P K r) (10 * s + (o + 1)) = cn (nw P K r) (10 * s + o) := by
        rw [show 10 * s + (o + 1) = 10 * s + o + 1 from rfl, hcn, hz]; rfl
      unfold k_L_lawB_182
      rw [wp_some]
      exact ⟨by rw [e], by rw [e], nI_1 o⟩
    cases hz : bt (SS P K (r + 1) s) o with
    | false =>
      rw [if_pos ((hasL (by omega)).mpr hz)]
      exact same (by rw [hna, hz]; rfl)
    | true =>
      rw [if_neg (fun z => by rw [(hasL (by omega)).mp z] at hz; cases hz), rd140 hl, Option.bind_some, hf.1 s hs]
      cases hy : bt (SS P K r s) o with
      | true =>
        rw [if_neg (fun z => by rw [(hasL (by omega)).mp z] at hy; cases hy)]
        exact same (by rw [hna, hz, hy]; rfl)
      | false =>
        rw [if_pos ((hasL (by omega)).mpr hy), c_rnd h hs (exi_ok hP (SS_slot hP hK hz)) ho, Option.bind_some, if_pos (SS_RR hP hK hz), rd_new hP hK hr hz hy, if_pos (show nI (r + 1) = nI r + (1 : Int32) from (nI_1 r).symm)]
        have e : cn (nw P K r) (10 * s + (o + 1)) = cn (nw P K r) (10 * s + o) + 1 := by
          rw [show 10 * s + (o + 1) = 10 * s + o + 1 from rfl, hcn, hna, hz, hy]; rfl
        unfold k_L_lawB_182
        rw [wp_some]
        exact ⟨by rw [e]; exact nI_1 _, by rw [e]; exact (if_neg (by omega)).symm, nI_1 o⟩
  · rintro ⟨s1, s2, s3⟩ ⟨h1, h2, h3⟩
    dsimp only at h1 h2 h3
    subst h1 h2 h3
    unfold b_L_lawB_122
    rw [c_no h, Option.bind_some]
    dsimp only
    rw [if_pos ((n_le (by omega) (by omega)).mpr (Nat.le_refl _)), wp_some]
    have e : cn (nw P K r) (10 * (s + 1)) = cn (nw P K r) (10 * s + no P) := cn_stop (by omega) fun j h1 h2 => by
      have hj := nw_at (P := P) (K := K) (r := r) (s := s) (t := j - 10 * s) (by omega)
      rw [show 10 * s + (j - 10 * s) = j by omega] at hj
      rw [hj]
      cases hz : bt (SS P K (r + 1) s) (j - 10 * s) with
      | false => rfl
      | true => have := (SS_ok hP hK (r + 1) s _ hz).2; omega
    show _ = _
    rw [e]
theorem row_out (h : Base p P K c m) {f g : Nat → Int32} (hg : LT (SS P K (r + 1)) g) {l x : Nat} (h1 : 16 ≤ l) (h2 : l < 100) {y z y2 z2 a b rr : Int32} :
    lp (b_L_lawB_122 c g (y, z, nI l) (x, rr, y2, z2, f)) NF (a, b, (0 : Int32)) = some (a, b) := by
  have hn := h.2.2.2.2.2.2.1.2.1
  refine wp_is (lp_inv (fun o st => st.1 = a ∧ st.2.1 = b ∧ st.2.2 = nI o) _ (no P) ?_ ?_ (by have : NF = 65536 := rfl; omega) ⟨rfl, rfl, rfl⟩)
  · rintro o ⟨s1, s2, s3⟩ ho ⟨q1, q2, q3⟩
    dsimp only at q1 q2 q3
    subst q1 q2 q3
    unfold b_L_lawB_122
    rw [c_no h, Option.bind_some]
    dsimp only
    rw [if_neg (fun z => by have := (n_le (by omega) (by omega)).mp z; omega), rd140 (by omega), Option.bind_some, hg.2 l h1 h2, if_pos ((hasL (by omega)).mpr (b_0 o))]
    unfold k_L_lawB_182
    rw [wp_some]
    exact ⟨rfl, rfl, nI_1 o⟩
  · rintro ⟨s1, s2, s3⟩ ⟨q1, q2, q3⟩
    dsimp only at q1 q2 q3
    subst q1 q2 q3
    unfold b_L_lawB_122
    rw [c_no h, Option.bind_some]
    dsimp only
    rw [if_pos ((n_le (by omega) (by omega)).mpr (Nat.le_refl _)), wp_some]
    exact (rfl : (s1, s2) = (s1, s2))
theorem rows_ok (h : Base p P K c m) {f g : Nat → Int32} (hf : LT (SS P K r) f) (hg : LT (SS P K (r + 1)) g) (hr : r + 1 < 600) {a x : Nat} {y2 z2 : Int32} :
    lp (b_L_lawB_111 c g (x, nI r, y2, z2, f)) NF (nI a, (0 : Int32), (0 : Int32)) = some (nI (a + cn (nw P K r) 560), gI (cn (nw P K r) 560)) := by
  refine wp_is (lp_inv (fun l st => st.1 = nI (a + cn (nw P K r) (10 * sp l)) ∧ st.2.1 = gI (cn (nw P K r) (10 * sp l)) ∧ st.2.2 = nI l) _ 140 ?_ ?_ (by have : NF = 65536 := rfl; omega) ⟨rfl, rfl, rfl⟩)
  · rintro l ⟨s1, s2, s3⟩ hl ⟨h1, h2, h3⟩
    dsimp only at h1 h2 h3
    subst h1 h2 h3
    unfold b_L_lawB_111
    dsimp only
    rw [if_neg (fun z => by have := (n_le (a := 140) (by omega) (by omega)).mp z; omega)]
    by_cases hv : 16 ≤ l ∧ l < 100
    · rw [row_out h hg hv.1 hv.2, Option.bind_some, wp_some]
      have e : sp (l + 1) = sp l := by unfold sp; split <;> split <;> (try split) <;> (try split) <;> omega
      exact ⟨by rw [e], by rw [e], nI_1 l⟩
    · have e1 : l = lcn (sp l) := by unfold lcn sp; (repeat' split) <;> omega
      have e2 : sp (l + 1) = sp l + 1 := by unfold sp; split <;> split <;> (try split) <;> (try split) <;> omega
      have e3 : sp l < 56 := by unfold sp; split <;> (try split) <;> omega
      have := row_in h hf hg hr e3 (a := a) (x := x) (y := nI (a + cn (nw P K r) (10 * sp l))) (z := gI (cn (nw P K r) (10 * sp l))) (y2 := y2) (z2 := z2)
      rw [← e1] at this
      rw [this, Option.bind_some, wp_some]
      exact ⟨by rw [e2], by rw [e2], nI_1 l⟩
  · rintro ⟨s1, s2, s3⟩ ⟨h1, h2, h3⟩
    dsimp only at h1 h2 h3
    subst h1 h2 h3
    unfold b_L_lawB_111
    dsimp only
    rw [if_pos (show (140 : Int32) ≤ nI 140 from (n_le (a := 140) (by omega) (by omega)).mpr (Nat.le_refl _)), wp_some]
    exact (rfl : (nI (a + cn (nw P K r) (10 * sp 140)), gI (cn (nw P K r) (10 * sp 140))) = _)
theorem LT_cg {B B' f : Nat → Int32} (h : LT B f) (e : B = B') : LT B' f := by rw [← e]; exact h
set_option maxRecDepth 8000 in
theorem rounds_fwd (h : Base p P K c m) (hen : ∀ i, bt (en K) i = decide (i < nc K)) : ∃ f, lp (b_L_lawB_93 c) NF (0, (0 : Int32), (0 : Int32), (1 : Int32), (fun _ => 0)) = some (nI (RR P K), nI (cntT (SS P K (RR P K))), f) ∧ LT (SS P K (RR P K)) f := by
  have hP := h.2.2.2.2.2.2.1
  have hK := h.2.2.2.2.2.2.2.1
  obtain ⟨R1, R2, R3⟩ := RR_ok (P := P) (K := K)
  have c0 : cntT (SS P K 0) = 0 := by
    unfold cntT
    have : ∀ n, cn (fct (SS P K 0)) n = 0 := fun n => by
      induction n with
      | zero => rfl
      | succ n ih => rw [cn, ih]; unfold fct; rw [show SS P K 0 (n / 10) = 0 from rfl, b_0]; rfl
    exact this 560
  have key : wp (lp (b_L_lawB_93 c) NF (0, (0 : Int32), (0 : Int32), (1 : Int32), (fun _ => 0))) (fun q => q.1 = nI (RR P K) ∧ q.2.1 = nI (cntT (SS P K (RR P K))) ∧ LT (SS P K (RR P K)) q.2.2) := by
    refine lp_inv (fun k st => st.1 = k ∧ (if k ≤ RR P K then st.2.1 = nI k ∧ st.2.2.1 = nI (cntT (SS P K k)) ∧ st.2.2.2.1 = 1 ∧ LT (SS P K k) st.2.2.2.2 else st.2.1 = nI (RR P K) ∧ st.2.2.1 = nI (cntT (SS P K (RR P K))) ∧ st.2.2.2.1 = 0 ∧ LT (SS P K (RR P K)) st.2.2.2.2)) _ (RR P K + 1) ?_ ?_ (by have : NF = 65536 := rfl; omega) ⟨rfl, ?_⟩
    · rintro k ⟨s1, s2, s3, s4, s5⟩ hk ⟨h1, h2⟩
      dsimp only at h1 h2
      rw [if_pos (show k ≤ RR P K by omega)] at h2
      obtain ⟨h2, h3, h4, h5⟩ := h2
      subst h1 h2 h3 h4
      unfold b_L_lawB_93
      dsimp only
      rw [if_pos (show s1 < 600 by omega), if_neg (show ¬ (1 : Int32) = 0 by decide)]
      obtain ⟨f', e1, e2⟩ := round_ok h hen h5
      rw [e1, Option.bind_some, rows_ok h h5 e2 (by omega), Option.bind_some]
      have hc : cntT (SS P K (s1 + 1)) = cntT (SS P K s1) + cn (nw P K s1) 560 := cn_diff (SS_fct hP hK s1)
      dsimp only
      by_cases hg : cn (nw P K s1) 560 = 0
      · have hng : ¬ Gr P K s1 := by unfold Gr; omega
        have hsr : s1 = RR P K := by
          rcases Nat.lt_or_ge s1 (RR P K) with z | z
          · exact absurd (R3 s1 z) hng
          · omega
        rw [hg, show gI 0 = 0 from rfl, if_pos rfl, wp_some]
        refine ⟨rfl, ?_⟩
        rw [if_neg (by omega)]
        refine ⟨?_, ?_, rfl, LT_cg e2 ?_⟩
        · dsimp only
          rw [hsr]; exact Int32.add_zero _
        · dsimp only
          rw [hsr, Nat.add_zero]
        · rw [SS_eq_of hP hK hng, hsr]
      · have hgr : Gr P K s1 := by unfold Gr; omega
        have hsr : s1 < RR P K := by
          rcases Nat.lt_or_ge s1 (RR P K) with z | z
          · exact z
          · have : s1 = RR P K := by omega
            rw [this] at hgr
            exact absurd hgr R2
        rw [show gI (cn (nw P K s1) 560) = 1 from if_neg hg, if_neg (show ¬ (1 : Int32) = 0 by decide), wp_some]
        refine ⟨rfl, ?_⟩
        rw [if_pos (by omega)]
        exact ⟨nI_1 s1, by dsimp only; rw [hc], rfl, e2⟩
    · rintro ⟨s1, s2, s3, s4, s5⟩ ⟨h1, h2⟩
      dsimp only at h1 h2
      rw [if_neg (by omega)] at h2
      obtain ⟨h2, h3, h4, h5⟩ := h2
      subst h1 h2 h3 h4
      unfold b_L_lawB_93
      dsimp only
      rw [if_pos (show RR P K + 1 < 600 by omega), if_pos rfl, wp_some]
      exact ⟨rfl, rfl, h5⟩
    · rw [if_pos (Nat.zero_le _)]
      exact ⟨rfl, by rw [c0]; rfl, rfl, fun s _ => rfl, fun l _ _ => rfl⟩
  obtain ⟨⟨q1, q2, q3⟩, e1, e2, e3, e4⟩ := key
  dsimp only at e2 e3 e4
  subst e2 e3
  exact ⟨q3, e1, e4⟩
end RW2
