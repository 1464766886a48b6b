/-! The loops of a round. -/
theorem vsl_bt {P : PK} {K : CK} {B : Nat → Int32} {i v : Nat} (hk : 2 ≤ kd K i) (h4 : kd K i ≤ 4) (h : bt (vset P K B i) v = true) : bt (B (vsl K i)) v = true := by
  unfold vset at h
  unfold vsl
  rcases (show kd K i = 2 ∨ kd K i = 3 ∨ kd K i = 4 by omega) with e | e | e
  · rw [if_neg (by omega), if_pos e] at h
    rw [if_neg (by omega)]; exact h
  · rw [if_neg (by omega), if_neg (by omega), if_pos e] at h
    rw [if_pos e]; exact h
  · rw [if_neg (by omega), if_neg (by omega), if_neg (by omega), if_pos e, b_and, Bool.and_eq_true] at h
    rw [if_neg (by omega)]; exact h.1
theorem fst6_new {P : PK} {K : CK} {B : Nat → Int32} {n k o : Nat} (hn : n < 600) (h : dvn P K B k o n = true) (he : exn P K B n k o = false) : fst6 P K B k o = n := by
  refine fstb_uniq hn h fun j hj => ?_
  cases e : dvn P K B k o j with
  | false => rfl
  | true => exact absurd (exb_iff.mpr ⟨j, hj, e⟩) (by rw [show exb (dvn P K B k o) n = false from he]; decide)
theorem exn_succ (P : PK) (K : CK) (B : Nat → Int32) (n k o : Nat) : exn P K B (n + 1) k o = (exn P K B n k o || dvn P K B k o n) := rfl
theorem exn_lt {P : PK} {K : CK} {B : Nat → Int32} (hP : PWF P) (hK : CWF P K) (hB : TOK P B) {n k o : Nat} (h : exn P K B n k o = true) : o < 10 := by
  obtain ⟨m, _, h2⟩ := exb_iff.mp h
  have := (dvn_ok hP hK hB h2).2.1
  have := hP.2.1
  omega
section CR
variable {P : PK} {K : CK} {c0 c : Wd} {B : Nat → Int32} {r p i v fl : Nat}
/-- what a round stands on -/
def RS0 (P : PK) (K : CK) (c0 : Wd) (B : Nat → Int32) (r p : Nat) : Prop := PC p ∧ RPc c0 p P ∧ RLc c0 (p + 9) K ∧ PWF P ∧ CWF P K ∧ TOK P B ∧ (∀ k, k < 56 → c0.1 47 k = B k) ∧ r < 65536
theorem s_applyFlow (h0 : RS0 P K c0 B r p) (hi : i < nc K) (he : bt (en K) i = true) (hk : kd K i ≠ 0) (hv : bt (vset P K B i) v = true) (hf : fl < fcn K i) (h : SI P K c0 B r (exn P K B (20 * i + 2 * v + fl)) c) :
    wp (f_X7_applyFlow c 45 p (nI i) (nI v) (nI fl) (nI r)) (SI P K c0 B r (exn P K B (20 * i + 2 * v + fl + 1))) := by
  obtain ⟨hp, hP, hL, hPw, hKw, hB, hB47, hr⟩ := h0
  have hn30 := hKw.1
  obtain ⟨v10, vno, v1, vf, -, k4⟩ := vset_lt hPw hB hv
  have hfl2 : fl < 2 := by unfold fcn at hf; split at hf <;> omega
  have hsl := fsr_lt (fl := fl) hPw hKw hi v10 hk vf
  have htl := ftg_lt (fl := fl) hPw hKw hi v10 vf
  have hP1 := hP.keep hp h.kp
  have hL1 := hL.keep hp.LC h.kp
  have hN6 : 20 * i + 2 * v + fl < 600 := by omega
  have hd : ∀ k o, dvn P K B k o (20 * i + 2 * v + fl) = (decide (ftg P K i v fl = k) && bt (B (fsr P K i v fl)) o) := fun k o => by
    rw [dvn_flow v10 hfl2 hi he hk, decide_eq_true hf, hv]; rfl
  obtain ⟨nd, ne_, nf_⟩ := pos_d (i := i) v10 hfl2
  generalize hs : fsr P K i v fl = sl at *
  generalize ht : ftg P K i v fl = tl at *
  generalize hN : 20 * i + 2 * v + fl = N at *
  have h47 : c.1 47 sl = B sl := by rw [h.1.1 47 (by omega) (by omega) (by omega)]; exact hB47 sl hsl
  unfold f_X7_applyFlow
  rw [s_flowSource hp hP1 hL1 hKw hi v10 (fun a _ => vf a) hfl2, hs, Option.bind_some, s_flowTarget hp hP1 hL1 hKw hi v10 (fun a _ => vf a) hfl2, ht, Option.bind_some]
  show wp (Option.bind (rdI zC c 47 (nI sl)) fun x3 => Option.bind (rdI zC c 46 (nI tl)) fun x4 => _) _
  rw [rdI_C (show sl < zln zC 47 from hsl), Option.bind_some, rdI_C (show tl < zln zC 46 from htl), Option.bind_some, h47, wp_ite]
  have hset : ∀ o, o < 32 → bt (c.1 46 tl) o = (bt (B tl) o || exn P K B N tl o) := fun o ho => h.2.1 tl o htl ho
  refine ⟨fun hz => ?_, fun hz => ?_⟩
  · rw [wp_some]
    refine h.cong (fun k o hk2 ho hb => ?_) (fun k o q => exn_lt hPw hKw hB q)
    rw [exn_succ]
    cases e : dvn P K B k o N with
    | false => rw [Bool.or_false]
    | true =>
      rw [hd, Bool.and_eq_true, decide_eq_true_eq] at e
      obtain ⟨rfl, e2⟩ := e
      have := (bt_diff.mp hz) o ho e2
      rw [hset o ho, hb, Bool.false_or] at this
      rw [this]; rfl
  · rw [s_viaSlot hp hL1 hKw hi, Option.bind_some]
    have hgd : ∀ o, o < 32 → bt (B sl &&& (c.1 46 tl ^^^ (-1 : Int32))) o = (bt (B sl) o && !(bt (B tl) o || exn P K B N tl o)) := fun o ho => by
      rw [b_and, bt_not ho, hset o ho]
    rw [wp_bind]
    refine wp_mono (lp_inv (fun o s => s.1 = nI o ∧ SI P K c0 B r (fun a b => exn P K B N a b || (dvn P K B a b N && decide (b < o))) s.2) (SI P K c0 B r (exn P K B (N + 1))) 10 ?_ ?_ (by decide) ⟨rfl, h.cong (fun k o _ _ _ => by simp) (fun k o q => by simp at q; exact exn_lt hPw hKw hB q)⟩) (fun w q => by rw [wp_some]; exact q)
    · rintro o ⟨so, cw⟩ ho ⟨rfl, hI⟩
      dsimp only at hI
      unfold b_X7_applyFlow_1
      dsimp only
      rw [if_pos (show nI o < (10 : Int32) from (n_lt (b := 10) (by omega) (by omega)).mpr ho), cont_bt (by omega), wp_bind, wp_ite]
      have mono : ∀ (cw2 : Wd), SI P K c0 B r (fun a b => exn P K B N a b || (dvn P K B a b N && decide (b < o + 1))) cw2 → wp (some (Sum.inl (nI o + 1, cw2)) : Option ((Int32 × Wd) ⊕ Wd)) (lpS (fun s => s.1 = nI (o + 1) ∧ SI P K c0 B r (fun a b => exn P K B N a b || (dvn P K B a b N && decide (b < o + 1))) s.2) (SI P K c0 B r (exn P K B (N + 1)))) := fun cw2 q => wp_some.mpr ⟨nI_1 o, q⟩
      refine ⟨fun hc => ?_, fun hc => ?_⟩
      · rw [hgd o (by omega), Bool.and_eq_true] at hc
        obtain ⟨hbs, hnt⟩ := hc
        have hbt : bt (B tl) o = false ∧ exn P K B N tl o = false := by
          cases h1 : bt (B tl) o <;> cases h2 : exn P K B N tl o <;> rw [h1, h2] at hnt <;> first | exact ⟨rfl, rfl⟩ | cases hnt
        have hdv : dvn P K B tl o N = true := by rw [hd, decide_eq_true rfl, hbs]; rfl
        have hn6 := fst6_new hN6 hdv hbt.2
        have hne : 10 * sl + o ≠ 10 * tl + o := fun q => by
          have : sl = tl := by omega
          rw [this, hbt.1] at hbs; cases hbs
        have hEf : (exn P K B N tl o || (dvn P K B tl o N && decide (o < o))) = false := by rw [hbt.2]; simp
        have hc52 : cw.1 52 (10 * sl + o) = c0.1 52 (10 * sl + o) := hI.2.2.1 sl o hsl ho hbs 52 (by omega) (by omega)
        have hc53 : cw.1 53 (10 * sl + o) = c0.1 53 (10 * sl + o) := hI.2.2.1 sl o hsl ho hbs 53 (by omega) (by omega)
        have fin : ∀ cw2 : Wd, SI P K c0 B r (fun a b => (exn P K B N a b || (dvn P K B a b N && decide (b < o))) || decide (a = tl ∧ b = o)) cw2 → SI P K c0 B r (fun a b => exn P K B N a b || (dvn P K B a b N && decide (b < o + 1))) cw2 := fun cw2 q => by
          refine q.cong (fun a b ha hb hab => ?_) (fun a b q => ?_)
          · by_cases e1 : b = o
            · subst e1
              by_cases e2 : a = tl
              · subst e2; rw [hdv]; simp
              · have : dvn P K B a b N = false := by rw [hd, decide_eq_false (fun z => e2 z.symm)]; rfl
                rw [this]; simp [e2]
            · rw [show decide (a = tl ∧ b = o) = false from decide_eq_false (fun z => e1 z.2), Bool.or_false, show decide (b < o + 1) = decide (b < o) from decide_eq_decide.mpr (by omega)]
          · rw [Bool.or_eq_true, Bool.and_eq_true, decide_eq_true_eq] at q
            rcases q with q | ⟨q, -⟩
            · exact exn_lt hPw hKw hB q
            · have := (dvn_ok hPw hKw hB q).2.1; have := hPw.2.1; omega
        rw [s_addFact htl ho, Option.bind_some, factOf_n, factOf_n, s_derive (by omega) (by omega), Option.bind_some]
        by_cases k1 : kd K i = 1
        · have hvs : vslI K i = -1 := by unfold vslI; rw [if_neg (by omega), if_neg (by omega)]
          rw [hvs, if_neg (by simp), Option.bind_some, wp_some]
          refine mono _ (fin _ ?_)
          refine hI.add htl ho (by omega) hbt.1 hEf (step_copy hne) hn6 nd ?_ ?_ ?_ ?_
          · rw [if_neg (by omega), ne_, nf_, hs]
          · rw [if_pos (by omega)]
          · rw [if_neg (by omega), ne_, nf_, hs, hc52]
          · rw [if_neg (by omega), if_pos k1, ne_, nf_, hs, hc53]
        · have hvs : vslI K i = nI (vsl K i) := by
            unfold vslI vsl
            rcases (show kd K i = 2 ∨ kd K i = 3 ∨ kd K i = 4 by omega) with e | e | e
            · rw [if_pos (Or.inl e), if_neg (by omega)]
            · rw [if_neg (by omega), if_pos e, if_pos e]
            · rw [if_pos (Or.inr e), if_neg (by omega)]
          have hbv := vsl_bt (by omega) k4 hv
          have hvl : vsl K i < 56 := (hB _ _ hbv).1
          have hne2 : 10 * vsl K i + v ≠ 10 * tl + o := fun q => by
            have e1 : vsl K i = tl := by omega
            have e2 : v = o := by omega
            rw [e1, e2, hbt.1] at hbv; cases hbv
          have hc53v : cw.1 53 (10 * vsl K i + v) = c0.1 53 (10 * vsl K i + v) := hI.2.2.1 _ v hvl v10 hbv 53 (by omega) (by omega)
          rw [hvs, if_pos (n_m1 (by omega)), factOf_n, s_supply (by omega) (by omega), Option.bind_some, Option.bind_some, wp_some]
          refine mono _ (fin _ ?_)
          refine hI.add htl ho (by omega) hbt.1 hEf (step_via hne hne2) hn6 nd ?_ ?_ ?_ ?_
          · rw [if_neg (by omega), ne_, nf_, hs]
          · rw [if_neg (by omega), ne_]
          · rw [if_neg (by omega), ne_, nf_, hs, hc52]
          · rw [if_neg (by omega), if_neg k1, ne_, nf_, hs, hc53, hc53v]
      · rw [wp_some]
        refine mono _ (hI.cong (fun a b ha hb hab => ?_) (fun a b q => ?_))
        · by_cases e1 : b = o
          · subst e1
            by_cases e2 : a = tl
            · subst e2
              rw [hgd b (by omega), hab, Bool.false_or] at hc
              cases e3 : exn P K B N a b with
              | true => rfl
              | false =>
                rw [e3] at hc
                have : bt (B sl) b = false := by cases q : bt (B sl) b with
                  | false => rfl
                  | true => rw [q] at hc; exact absurd rfl hc
                rw [hd, this]; simp
            · have : dvn P K B a b N = false := by rw [hd, decide_eq_false (fun z => e2 z.symm)]; rfl
              rw [this]; simp
          · rw [show decide (b < o + 1) = decide (b < o) from decide_eq_decide.mpr (by omega)]
        · rw [Bool.or_eq_true, Bool.and_eq_true, decide_eq_true_eq] at q
          rcases q with q | ⟨q, -⟩
          · exact exn_lt hPw hKw hB q
          · have := (dvn_ok hPw hKw hB q).2.1; have := hPw.2.1; omega
    · rintro ⟨so, cw⟩ ⟨rfl, hI⟩
      dsimp only at hI
      unfold b_X7_applyFlow_1
      dsimp only
      rw [if_neg (show ¬ nI 10 < (10 : Int32) by decide), wp_some]
      show SI _ _ _ _ _ _ _
      refine hI.cong (fun a b ha hb hab => ?_) (fun a b q => exn_lt hPw hKw hB q)
      rw [exn_succ]
      cases e : dvn P K B a b N with
      | false => simp
      | true =>
        have := (dvn_ok hPw hKw hB e).2.1; have := hPw.2.1
        rw [decide_eq_true (show b < 10 by omega)]; rfl
theorem exn_step {N M : Nat} (h : N ≤ M) {k o : Nat} (q : ∀ n, N ≤ n → n < M → dvn P K B k o n = false) : exn P K B M k o = exn P K B N k o := exb_same h q
theorem SI.skip {N M : Nat} (h0 : RS0 P K c0 B r p) (hI : SI P K c0 B r (exn P K B N) c) (h : N ≤ M) (q : ∀ k o n, N ≤ n → n < M → dvn P K B k o n = false) : SI P K c0 B r (exn P K B M) c :=
  hI.cong (fun k o _ _ _ => exn_step h (q k o)) (fun k o z => exn_lt h0.2.2.2.1 h0.2.2.2.2.1 h0.2.2.2.2.2.1 z)
/-- a constraint in a round -/
theorem s_apply (h0 : RS0 P K c0 B r p) (hi : i < nc K) (he : bt (en K) i = true) (h : SI P K c0 B r (exn P K B (20 * i)) c) : wp (f_X7_apply c 45 p (nI i) (nI r)) (SI P K c0 B r (exn P K B (20 * (i + 1)))) := by
  obtain ⟨hp, hP, hL, hPw, hKw, hB, hB47, hr⟩ := id h0
  have hn30 := hKw.1
  have hP1 := hP.keep hp h.kp
  have hL1 := hL.keep hp.LC h.kp
  have hrow := hKw.2.2 i hi
  unfold f_X7_apply
  rw [zp6 hp, zl0 hp.LC, r_k1 hp.LC hL1 hKw.1 hi, Option.bind_some]
  by_cases hk : kd K i = 0
  · rw [hk, if_pos (show nI 0 = (0 : Int32) from rfl)]
    unfold f_X7_applyNew
    have hb := hrow.2.2.1 hk
    have hnv := hPw.1
    have hno := hPw.2.1
    have ha := hrow.2.1
    rw [zl1 hp.LC, zl2 hp.LC, r_k2 hp.LC hL1 hKw.1 hi, Option.bind_some, r_k3 hp.LC hL1 hKw.1 hi, Option.bind_some]
    show wp (Option.bind (Option.bind (Option.bind (rdI zC c 46 (nI (ka K i))) _) _) _) _
    rw [rdI_C (show ka K i < zln zC 46 from (by show ka K i < 56; omega)), Option.bind_some, cont_bt (by omega), h.2.1 _ _ (by omega) (by omega)]
    have hdv : dvn P K B (ka K i) (kb K i) (20 * i) = true := by rw [dvn_new hi he hk]; simp
    have ex1 : ∀ k o, exn P K B (20 * (i + 1)) k o = (exn P K B (20 * i) k o || decide (k = ka K i ∧ o = kb K i)) := fun k o => by
      rw [show 20 * (i + 1) = (20 * i + 1) + 19 by omega, exn_step (N := 20 * i + 1) (by omega) (fun n h1 h2 => dvn_new0 (i := i) (by omega) (by omega) hk), exn_succ, dvn_new hi he hk]
      congr 1
      exact decide_eq_decide.mpr ⟨fun z => ⟨z.1.symm, z.2.symm⟩, fun z => ⟨z.1.symm, z.2.symm⟩⟩
    rw [wp_bind, wp_bind, wp_ite]
    refine ⟨fun hc => ?_, fun hc => ?_⟩
    · have hbt : bt (B (ka K i)) (kb K i) = false ∧ exn P K B (20 * i) (ka K i) (kb K i) = false := by
        cases h1 : bt (B (ka K i)) (kb K i) <;> cases h2 : exn P K B (20 * i) (ka K i) (kb K i) <;> rw [h1, h2] at hc <;> first | exact ⟨rfl, rfl⟩ | exact absurd rfl hc
      rw [s_addFact (by omega) (by omega), Option.bind_some, wp_some, wp_some, wp_some]
      refine (h.add (n := 20 * i) (by omega) (by omega) (by omega) hbt.1 hbt.2 step_new (fst6_new (by omega) hdv hbt.2) (by omega) ?_ ?_ ?_ ?_).cong (fun k o _ _ _ => ex1 k o) (fun k o z => exn_lt hPw hKw hB z)
      · rw [if_pos hk]
      · rw [if_pos (by omega)]
      · rw [if_pos hk]
      · rw [if_pos hk]
    · rw [wp_some, wp_some, wp_some]
      refine h.cong (fun k o _ _ hb2 => ?_) (fun k o z => exn_lt hPw hKw hB z)
      rw [ex1]
      by_cases e : k = ka K i ∧ o = kb K i
      · obtain ⟨rfl, rfl⟩ := e
        cases e2 : exn P K B (20 * i) (ka K i) (kb K i) with
        | true => rfl
        | false => rw [hb2, e2] at hc; exact absurd (by decide) hc
      · rw [decide_eq_false e, Bool.or_false]
  · have hk' : ¬ nI (kd K i) = (0 : Int32) := fun z => hk ((n_eq (b := 0) (by have := hrow.1; omega) (by omega)).mp z)
    rw [if_neg hk']
    have hvs : vset P K (c.1 47) i = vset P K B i := by
      have e47 : ∀ k, k < 56 → c.1 47 k = B k := fun k hk2 => by rw [h.1.1 47 (by omega) (by omega) (by omega)]; exact hB47 k hk2
      have hnv := hPw.1
      unfold vset
      rcases kd_cases hrow with e | e | e | e | e
      · exact absurd e hk
      · rw [if_pos e, if_pos e]
      · have h1 : ¬ kd K i = 1 := by omega
        rw [if_neg h1, if_pos e, if_neg h1, if_pos e, e47 _ (by have := (hrow.2.2.2.2.1 e).1; omega)]
      · have h1 : ¬ kd K i = 1 := by omega
        have h2 : ¬ kd K i = 2 := by omega
        rw [if_neg h1, if_neg h2, if_pos e, if_neg h1, if_neg h2, if_pos e, e47 _ (by have := hrow.2.1; omega)]
      · have h1 : ¬ kd K i = 1 := by omega
        have h2 : ¬ kd K i = 2 := by omega
        have h3 : ¬ kd K i = 3 := by omega
        rw [if_neg h1, if_neg h2, if_neg h3, if_pos e, if_neg h1, if_neg h2, if_neg h3, if_pos e, e47 _ (by have := (hrow.2.2.2.2.2.2 e).1; omega)]
    show wp (Option.bind (f_X6_viasIn c p 47 (nI i)) _) _
    rw [s_viasIn hp hP1 hL1 hPw hKw hi rfl, Option.bind_some, hvs, wp_bind]
    refine wp_mono (lp_inv (fun v s => s.1 = nI v ∧ SI P K c0 B r (exn P K B (20 * i + 2 * v)) s.2) (SI P K c0 B r (exn P K B (20 * (i + 1)))) 10 ?_ ?_ (by decide) ⟨rfl, h⟩) (fun w q => wp_some.mpr q)
    · rintro v ⟨sv, cw⟩ hv ⟨rfl, hI⟩
      dsimp only at hI
      unfold b_X7_apply_1
      dsimp only
      rw [if_pos (show nI v < (10 : Int32) from (n_lt (b := 10) (by omega) (by omega)).mpr hv), cont_bt (by omega), wp_bind, wp_ite]
      refine ⟨fun hc => ?_, fun hc => ?_⟩
      · rw [wp_bind]
        refine wp_mono (lp_inv (fun fl s => s.1 = nI fl ∧ SI P K c0 B r (exn P K B (20 * i + 2 * v + fl)) s.2) (SI P K c0 B r (exn P K B (20 * i + 2 * (v + 1)))) (fcn K i) ?_ ?_ (by unfold fcn NF; split <;> omega) ⟨rfl, hI⟩) (fun w q => ?_)
        · rintro fl ⟨sf, cx⟩ hfl ⟨rfl, hJ⟩
          dsimp only at hJ
          unfold b_X7_apply_2
          dsimp only
          have hf2 : fl < 2 := by unfold fcn at hfl; split at hfl <;> omega
          have hc2 : fcn K i < 65536 := by unfold fcn; split <;> omega
          rw [s_flowCount hp (hL.keep hp.LC hJ.kp) hKw hi, Option.bind_some, if_pos ((n_lt (by omega) hc2).mpr hfl), wp_bind]
          exact wp_mono (s_applyFlow h0 hi he hk hc hfl hJ) (fun w q => wp_some.mpr ⟨nI_1 fl, q⟩)
        · rintro ⟨sf, cx⟩ ⟨rfl, hJ⟩
          dsimp only at hJ
          unfold b_X7_apply_2
          dsimp only
          have hc2 : fcn K i < 65536 := by unfold fcn; split <;> omega
          rw [s_flowCount hp (hL.keep hp.LC hJ.kp) hKw hi, Option.bind_some, if_neg (fun z => Nat.lt_irrefl _ ((n_lt hc2 hc2).mp z)), wp_some]
          show SI _ _ _ _ _ _ _
          refine hJ.skip h0 (by unfold fcn; split <;> omega) (fun k o n h1 h2 => ?_)
          have e1 : n = 20 * i + 2 * v + 1 := by unfold fcn at h1; split at h1 <;> omega
          subst e1
          rw [dvn_flow (fl := 1) (by omega) (by omega) hi he hk]
          have : ¬ 1 < fcn K i := by omega
          rw [decide_eq_false this]; rfl
        · rw [wp_some, wp_some]
          exact ⟨nI_1 v, q⟩
      · rw [wp_some, wp_some]
        refine ⟨nI_1 v, hI.skip h0 (by omega) (fun k o n h1 h2 => ?_)⟩
        obtain ⟨fl, hfl, rfl⟩ : ∃ fl, fl < 2 ∧ n = 20 * i + 2 * v + fl := ⟨n - (20 * i + 2 * v), by omega, by omega⟩
        rw [dvn_flow (by omega) hfl hi he hk]
        have : bt (vset P K B i) v = false := by cases q : bt (vset P K B i) v with
          | false => rfl
          | true => exact absurd q hc
        rw [this, Bool.and_false]; rfl
    · rintro ⟨sv, cw⟩ ⟨rfl, hI⟩
      dsimp only at hI
      unfold b_X7_apply_1
      dsimp only
      rw [if_neg (show ¬ nI 10 < (10 : Int32) by decide), wp_some]
      exact hI
/-- a whole round -/
theorem s_round (h0 : RS0 P K c0 B r p) (h : SI P K c0 B r (exn P K B 0) c) {g : Bool} {x : Wd} : wp (lp (b_X7_solve_2 p 45 (g, nI r, x)) NF ((0 : Int32), c)) (SI P K c0 B r (exn P K B 600)) := by
  obtain ⟨hp, hP, hL, hPw, hKw, hB, hB47, hr⟩ := id h0
  have hn30 := hKw.1
  refine lp_inv (fun i s => s.1 = nI i ∧ SI P K c0 B r (exn P K B (20 * i)) s.2) _ (nc K) ?_ ?_ (by unfold NF; omega) ⟨rfl, h⟩
  · rintro i ⟨si, cw⟩ hi ⟨rfl, hI⟩
    dsimp only at hI
    have hL1 := hL.keep hp.LC hI.kp
    unfold b_X7_solve_2
    dsimp only
    rw [zp6 hp, hL1.1, if_pos ((n_lt (by omega) (by omega)).mpr hi), wp_bind, wp_ite]
    unfold f_X0_isEnabled
    rw [hL1.2.1, cont_bt (by omega)]
    refine ⟨fun hc => ?_, fun hc => ?_⟩
    · rw [wp_bind]
      refine wp_mono (s_apply h0 hi hc hI) (fun w q => ?_)
      rw [wp_some, wp_some]
      exact ⟨nI_1 i, q⟩
    · rw [wp_some, wp_some]
      refine ⟨nI_1 i, hI.skip h0 (by omega) (fun k o n h1 h2 => dvn_off h1 h2 ?_)⟩
      cases q : bt (en K) i with
      | false => rfl
      | true => exact absurd q hc
  · rintro ⟨si, cw⟩ ⟨rfl, hI⟩
    dsimp only at hI
    have hL1 := hL.keep hp.LC hI.kp
    unfold b_X7_solve_2
    dsimp only
    rw [zp6 hp, hL1.1, if_neg (fun z => Nat.lt_irrefl _ ((n_lt (by omega) (by omega)).mp z)), wp_some]
    exact hI.skip h0 (by omega) (fun k o n h1 h2 => dvn_far h1)
end CR
