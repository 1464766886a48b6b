/-! The class's Trial: apply and solve. -/
/-- what a trial stands on -/
def T0 (P : PK) (K : CK) (e : Int32) (p : Nat) (w : Wd) : Prop := PC p ∧ RPc w p P ∧ RLc w (p + 9) K ∧ PWF P ∧ CWF P K ∧ CWF P (setE K e)
theorem T0.keep {P : PK} {K : CK} {e : Int32} {p : Nat} {w w' : Wd} (h : T0 P K e p w) (k : (∀ q, q ≠ 61 → w'.1 q = w.1 q) ∧ w'.2 = w.2) : T0 P K e p w' := by
  have kp : keepP w' w := ⟨fun q hq => k.1 q (by omega), k.2⟩
  exact ⟨h.1, h.2.1.keep h.1 kp, h.2.2.1.keep h.1.LC kp, h.2.2.2⟩
section TRJ
variable {P : PK} {K : CK} {w0 w w' : Wd} {a b d i v fl k o n p t : Nat} {g g' : Bool} {e x : Int32}
theorem bool_pair {α : Type} (g g2 : Bool) (w2 : α) : (if g2 = true then some (true, w2) else some (g, w2)) = some ((g2 || g), w2) := by cases g2 <;> rfl
theorem t_flow (h0 : T0 P K e p w0) (hi : i < nc K) (he : bt e i = true) (hk : kd K i ≠ 0) (hv : bt (vset P (setE K e) (w0.1 61) i) v = true) (hS : SubL P (setE K e) (w0.1 61)) (hf : fl < fcn K i) (h : TR P (setE K e) w0 (20 * i) (20 * i + 2 * v + fl) g w) {s4 : Bool × Int32 × Wd} (h4 : s4.2.1 = nI v) :
    wp (b_X8_apply_2 p (nI i) s4 60 (g, nI fl, w)) (lpS (fun s => s.2.1 = nI (fl + 1) ∧ TR P (setE K e) w0 (20 * i) (20 * i + 2 * v + (fl + 1)) s.1 s.2.2) (fun _ => False)) := by
  obtain ⟨hp, hP, hL, hPw, hKw, hKe⟩ := h0.keep h.1
  have hvL := vset_mono hPw hKe (i := i) hi hS hv
  obtain ⟨v10, vno, v1, vf, -, k4⟩ := vset_lt hPw (LF_ok hPw hKe) hvL
  have hfl2 : fl < 2 := by unfold fcn at hf; split at hf <;> omega
  have hsl := fsr_lt (fl := fl) hPw hKw hi v10 hk vf
  have htl := ftg_lt (fl := fl) hPw hKw hi v10 vf
  have hd : ∀ T k o, dvn P (setE K e) T k o (20 * i + 2 * v + fl) = (decide (fl < fcn K i) && bt (vset P (setE K e) T i) v && decide (ftg P K i v fl = k) && bt (T (fsr P K i v fl)) o) := fun T k o => dvn_flow (K := setE K e) v10 hfl2 hi he hk
  unfold b_X8_apply_2
  dsimp only
  rw [s_flowCount hp hL hKw hi, Option.bind_some, if_pos ((n_lt (by omega) (by unfold fcn; split <;> omega)).mpr hf), h4, s_flowSource hp hP hL hKw hi v10 (fun a _ => vf a) hfl2, Option.bind_some, s_flowTarget hp hP hL hKw hi v10 (fun a _ => vf a) hfl2, Option.bind_some]
  show wp (Option.bind (Option.bind (rdI zC w 61 (nI (fsr P K i v fl))) _) _) _
  rw [rdI_C (show fsr P K i v fl < zln zC 61 from hsl), Option.bind_some]
  obtain ⟨g2, w2, e1, e2⟩ := h.widen hPw hKe htl (x := w.1 61 (fsr P K i v fl)) (fun o ho hx => by
    refine LF_closed hPw hKe (n := 20 * i + 2 * v + fl) ?_
    rw [hd, decide_eq_true hf, hvL, decide_eq_true rfl, h.2.1 _ o hsl ho hx]; rfl) (fun hg k o hdn => by
    rw [hd, Bool.and_eq_true, Bool.and_eq_true, decide_eq_true_eq] at hdn
    obtain ⟨⟨-, h1⟩, h2⟩ := hdn
    rw [(h.2.2.2.2 hg).1]
    exact ⟨h1.symm, h2⟩)
  rw [e1, Option.bind_some]
  dsimp only
  rw [bool_pair, Option.bind_some, wp_some]
  exact ⟨nI_1 fl, e2⟩
theorem t_off (h0 : T0 P K e p w0) (hi : i < nc K) (hv : v < 10) (hk : kd K i ≠ 0) (hf : bt (vset P (setE K e) (w0.1 61) i) v = false ∨ fcn K i ≤ fl) (hfl : fl < 2) {k o : Nat} : dvn P (setE K e) (w0.1 61) k o (20 * i + 2 * v + fl) = false := by
  obtain ⟨a1, a2, a3⟩ := pos_d (i := i) hv hfl
  unfold dvn
  rw [a1, a2, a3, if_neg (show ¬ kd (setE K e) i = 0 from hk)]
  rcases hf with q | q
  · rw [q]; simp
  · rw [decide_eq_false (show ¬ fl < fcn (setE K e) i from fun z => absurd q (Nat.not_le.mpr z))]; simp
theorem t_apply (h0 : T0 P K e p w0) (hi : i < nc K) (he : bt e i = true) (hS : SubL P (setE K e) (w0.1 61)) : wp (f_X8_apply w0 60 p (nI i)) (fun s => TR P (setE K e) w0 (20 * i) (20 * (i + 1)) s.1 s.2) := by
  obtain ⟨hp, hP, hL, hPw, hKw, hKe⟩ := id h0
  have hn := hKw.1
  obtain ⟨g0, g1, g2, g3, g4, g5, g6⟩ := hKw.2.2 i hi
  have hnv := hPw.1
  unfold f_X8_apply
  rw [zp6 hp, zl0 hp.LC, zl1 hp.LC, zl2 hp.LC, r_k1 hp.LC hL hn hi, Option.bind_some]
  by_cases hk : kd K i = 0
  · rw [hk, if_pos (show nI 0 = (0 : Int32) from rfl), r_k3 hp.LC hL hn hi, Option.bind_some, r_k2 hp.LC hL hn hi, Option.bind_some]
    have hno := g2 hk
    have hno2 := hPw.2.1
    have hdv : ∀ T k o, dvn P (setE K e) T k o (20 * i) = decide (ka K i = k ∧ kb K i = o) := fun T k o => dvn_new (K := setE K e) hi he hk
    obtain ⟨g2, w2, e1, e2⟩ := (TR.nil (P := P) (K := setE K e) (a := 20 * i) hS).widen hPw hKe (show ka K i < 56 by omega) (x := jshl 1 (nI (kb K i))) (fun o ho hx => by
      rw [bt_bit (by omega) ho, decide_eq_true_eq] at hx
      refine LF_closed hPw hKe (n := 20 * i) ?_
      rw [hdv, decide_eq_true ⟨rfl, hx.symm⟩]) (fun _ k o hdn => by
      rw [hdv, decide_eq_true_eq] at hdn
      exact ⟨hdn.1.symm, by rw [bt_bit (by omega) (by omega), decide_eq_true hdn.2.symm]⟩)
    rw [e1, Option.bind_some, wp_some]
    rw [Bool.or_false] at e2
    exact e2.ext fun n k o h1 h2 h3 => by
      rw [dvn_new0 (K := setE K e) (i := i) (by omega) h2 hk] at h3
      cases h3
  · rw [if_neg (show ¬ nI (kd K i) = (0 : Int32) from fun z => hk ((n_eq (b := 0) (by omega) (by omega)).mp z))]
    show wp (Option.bind (f_X6_viasIn w0 p 61 (nI i)) _) _
    rw [s_viasIn hp hP hL hPw hKw hi rfl, Option.bind_some, wp_bind]
    have hvs : vset P K (w0.1 61) i = vset P (setE K e) (w0.1 61) i := rfl
    rw [hvs]
    refine wp_mono (lp_inv (fun v s => s.2.1 = nI v ∧ TR P (setE K e) w0 (20 * i) (20 * i + 2 * v) s.1 s.2.2) (fun s => TR P (setE K e) w0 (20 * i) (20 * (i + 1)) s.1 s.2) 10 ?_ ?_ (by decide) ⟨rfl, TR.nil hS⟩) (fun s q => wp_some.mpr q)
    · rintro v ⟨g, sv, w⟩ hv ⟨h1, hI⟩
      dsimp only at h1 hI
      subst h1
      unfold b_X8_apply_1
      dsimp only
      rw [if_pos (show nI v < (10 : Int32) from (n_lt (b := 10) (by omega) (by omega)).mpr hv), cont_bt (by omega)]
      cases hb : bt (vset P (setE K e) (w0.1 61) i) v with
      | false =>
        rw [if_neg (by decide), Option.bind_some, wp_some]
        refine ⟨nI_1 v, hI.ext fun n k o n1 n2 n3 => ?_⟩
        rw [show n = 20 * i + 2 * v + (n - (20 * i + 2 * v)) by omega, t_off h0 hi hv hk (Or.inl hb) (by omega)] at n3
        cases n3
      | true =>
        rw [if_pos rfl, wp_bind, wp_bind]
        have hfc : fcn K i ≤ 2 := by unfold fcn; split <;> omega
        refine wp_mono (lp_inv (fun fl s => s.2.1 = nI fl ∧ TR P (setE K e) w0 (20 * i) (20 * i + 2 * v + fl) s.1 s.2.2) (fun s => TR P (setE K e) w0 (20 * i) (20 * i + 2 * (v + 1)) s.1 s.2) (fcn K i) ?_ ?_ (by unfold NF; omega) ⟨rfl, hI⟩) (fun s q => by rw [wp_some, wp_some]; exact ⟨nI_1 v, q⟩)
        · rintro fl ⟨g, sf, w⟩ hf ⟨h1, hJ⟩
          dsimp only at h1 hJ
          subst h1
          refine wp_mono (t_flow h0 hi he hk hb hS hf hJ rfl) fun s q => ?_
          cases s with
          | inl s => exact q
          | inr s => exact q.elim
        · rintro ⟨g, sf, w⟩ ⟨h1, hJ⟩
          dsimp only at h1 hJ
          subst h1
          obtain ⟨hp', hP', hL', -⟩ := h0.keep hJ.1
          unfold b_X8_apply_2
          dsimp only
          rw [s_flowCount hp' hL' hKw hi, Option.bind_some, if_neg (fun z => Nat.lt_irrefl _ ((n_lt (by omega) (by omega)).mp z)), wp_some]
          refine hJ.ext fun n k o n1 n2 n3 => ?_
          rw [show n = 20 * i + 2 * v + (n - (20 * i + 2 * v)) by omega, t_off h0 hi hv hk (Or.inr (by omega)) (by omega)] at n3
          cases n3
    · rintro ⟨g, sv, w⟩ ⟨h1, hI⟩
      dsimp only at h1 hI
      subst h1
      unfold b_X8_apply_1
      dsimp only
      rw [if_neg (show ¬ nI 10 < (10 : Int32) by decide), wp_some]
      have : 20 * i + 2 * 10 = 20 * (i + 1) := by omega
      rw [← this]
      exact hI
theorem t_round (h0 : T0 P K e p w0) (hS : SubL P (setE K e) (w0.1 61)) : wp (lp (b_X8_solve_2 p e 60) NF (false, (0 : Int32), w0)) (fun s => TR P (setE K e) w0 0 600 s.1 s.2) := by
  have hn := h0.2.2.2.2.1.1
  refine lp_inv (fun i s => s.2.1 = nI i ∧ TR P (setE K e) w0 0 (20 * i) s.1 s.2.2) _ (nc K) ?_ ?_ (by unfold NF; omega) ⟨rfl, TR.nil hS⟩
  · rintro i ⟨g, si, w⟩ hi ⟨h1, hI⟩
    dsimp only at h1 hI
    subst h1
    have h0' := h0.keep hI.1
    obtain ⟨hp, hP, hL, hPw, hKw, hKe⟩ := id h0'
    unfold b_X8_solve_2
    dsimp only
    rw [zp6 hp, hL.1, if_pos ((n_lt (by omega) (by omega)).mpr hi), cont_bt (by omega)]
    cases he : bt e i with
    | false =>
      rw [if_neg (by decide), Option.bind_some]
      dsimp only
      rw [if_neg (by decide), Option.bind_some, wp_some]
      exact ⟨nI_1 i, hI.ext fun n k o n1 n2 n3 => by
        rw [dvn_off (K := setE K e) n1 n2 he] at n3
        cases n3⟩
    | true =>
      rw [if_pos rfl, wp_bind, wp_bind, wp_bind]
      refine wp_mono (t_apply h0' hi he hI.2.1) ?_
      rintro ⟨g2, w2⟩ hq
      dsimp only at hq ⊢
      rw [bool_pair, wp_some]
      dsimp only
      rw [Bool.or_false, bool_pair, wp_some, wp_some]
      have := hI.comp hq
      rw [Bool.or_comm] at this
      exact ⟨nI_1 i, this⟩
  · rintro ⟨g, si, w⟩ ⟨h1, hI⟩
    dsimp only at h1 hI
    subst h1
    obtain ⟨hp, hP, hL, hPw, hKw, hKe⟩ := h0.keep hI.1
    unfold b_X8_solve_2
    dsimp only
    rw [zp6 hp, hL.1, if_neg (fun z => Nat.lt_irrefl _ ((n_lt (by omega) (by omega)).mp z)), wp_some]
    exact hI.ext fun n k o n1 n2 n3 => by
      rw [dvn_far (K := setE K e) n1] at n3
      cases n3
/-- the trial's answer: the sets of the solution with the constraints e enabled -/
theorem t_solve (h0 : T0 P K e p w0) : wp (f_X8_solve w0 60 p e) (fun d => (∀ k, k < 56 → d.1 61 k = LF P (setE K e) k) ∧ (∀ q, q ≠ 61 → d.1 q = w0.1 q) ∧ d.2 = w0.2) := by
  obtain ⟨hp, hP, hL, hPw, hKw, hKe⟩ := id h0
  unfold f_X8_solve
  rw [wp_bind]
  refine wp_mono s_fill ?_
  rintro d0 ⟨f1, f2, f3⟩
  have f1' : ∀ k, k < 56 → d0.1 61 k = 0 := f1
  have f2' : ∀ q, q ≠ 61 → d0.1 q = w0.1 q := f2
  have hS0 : SubL P (setE K e) (d0.1 61) := fun k o hk _ hb => by
    rw [f1' k hk, b_0] at hb
    cases hb
  rw [wp_bind]
  refine wp_mono (lp_inv (fun i s => ((∀ q, q ≠ 61 → s.2.2.1 q = w0.1 q) ∧ s.2.2.2 = w0.2) ∧ SubL P (setE K e) (s.2.2.1 61) ∧ ((s.1 = true ∧ s.2.1 = nI i ∧ i ≤ cntT (s.2.2.1 61)) ∨ (s.1 = false ∧ ∀ n k o, n < 600 → dvn P (setE K e) (s.2.2.1 61) k o n = true → bt (s.2.2.1 61 k) o = true)))
    (fun s => ((∀ q, q ≠ 61 → s.2.1 q = w0.1 q) ∧ s.2.2 = w0.2) ∧ SubL P (setE K e) (s.2.1 61) ∧ ∀ n k o, n < 600 → dvn P (setE K e) (s.2.1 61) k o n = true → bt (s.2.1 61 k) o = true) 561 ?_ ?_ (by decide) ⟨⟨f2', f3⟩, hS0, Or.inl ⟨rfl, rfl, Nat.zero_le _⟩⟩) ?_
  · rintro i ⟨g, si, w⟩ hi ⟨hk, hS, hc⟩
    dsimp only at hk hS hc
    unfold b_X8_solve_1
    dsimp only
    rcases hc with ⟨rfl, rfl, hc⟩ | ⟨rfl, hc⟩
    · rw [if_pos (show (true = true) ∧ nI i ≤ (560 : Int32) from ⟨rfl, (n_le (b := 560) (by omega) (by omega)).mpr (by omega)⟩), wp_bind]
      refine wp_mono (t_round (h0.keep hk) hS) ?_
      rintro ⟨g, x⟩ ⟨x1, x2, x3, x4, x5⟩
      dsimp only at x1 x2 x3 x4 x5
      rw [wp_some]
      refine ⟨⟨fun q hq => (x1.1 q hq).trans (hk.1 q hq), x1.2.trans hk.2⟩, x2, ?_⟩
      cases g with
      | true =>
        obtain ⟨k, o, k1, o1, b1, b2⟩ := x4 rfl
        refine Or.inl ⟨rfl, nI_1 i, ?_⟩
        have := cn_lt (p := fct (w.1 61)) (q := fct (x.1 61)) (n := 560) (f := 10 * k + o) (fun f hf hb => x3 _ _ (by omega) hb) (by omega) (by rw [fct_at o1]; exact b1) (by rw [fct_at o1]; exact b2)
        unfold cntT at hc ⊢
        show i + 1 ≤ cn (fct (x.1 61)) 560
        omega
      | false =>
        obtain ⟨e1, c1⟩ := x5 rfl
        subst e1
        exact Or.inr ⟨rfl, fun n k o hn hd => c1 n k o (Nat.zero_le _) hn hd⟩
    · rw [if_neg (fun z => Bool.false_ne_true z.1), wp_some]
      exact ⟨hk, hS, hc⟩
  · rintro ⟨g, si, w⟩ ⟨hk, hS, hc⟩
    dsimp only at hk hS hc
    unfold b_X8_solve_1
    dsimp only
    rcases hc with ⟨rfl, rfl, hc⟩ | ⟨rfl, hc⟩
    · have := cn_le (fct (w.1 61)) 560
      unfold cntT at hc
      omega
    · rw [if_neg (fun z => Bool.false_ne_true z.1), wp_some]
      exact ⟨hk, hS, hc⟩
  · rintro ⟨g, w⟩ ⟨hk, hS, hc⟩
    dsimp only at hk hS hc
    rw [wp_some]
    refine ⟨fun k hk2 => b_ext fun o ho => ?_, hk.1, hk.2⟩
    cases hb : bt (LF P (setE K e) k) o with
    | true => exact LF_least hPw hKe hc hb
    | false =>
      cases h2 : bt (w.1 61 k) o with
      | false => rfl
      | true => rw [hS k o hk2 ho h2] at hb; cases hb
end TRJ
