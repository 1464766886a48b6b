-- deps: a6
/-! The law's round is a round of the solution. -/
def lcn (s : Nat) : Nat := if s < 16 then s else s + 84
theorem lcn_v {s : Nat} (h : s < 16) : lcn s = s := if_pos h
theorem lcn_f {s : Nat} (h : 16 ≤ s) : lcn s = s + 84 := if_neg (by omega)
theorem lcn_lt {s : Nat} (h : s < 56) : lcn s < 140 ∧ ¬ (16 ≤ lcn s ∧ lcn s < 100) := by unfold lcn; split <;> omega
theorem lcn_inj {s t : Nat} (h : lcn s = lcn t) : s = t := by unfold lcn at h; split at h <;> split at h <;> omega
/-- the array g holds the sets B and what the positions before n add -/
def RG (P : PK) (K : CK) (B g : Nat → Int32) (n : Nat) : Prop := (∀ s, s < 56 → ∀ o, bt (g (lcn s)) o = (bt (B s) o || exb (dvn P K B s o) n)) ∧ ∀ l, 16 ≤ l → l < 100 → g l = 0
section RN
variable {p : Nat} {P : PK} {K : CK} {c m : Wd} {B f g : Nat → Int32} {i v n n' t : Nat}
theorem RG.skip (h : RG P K B g n) (hn : n ≤ n') (hd : ∀ s o j, n ≤ j → j < n' → dvn P K B s o j = false) : RG P K B g n' :=
  ⟨fun s hs o => by rw [h.1 s hs o, exb_same hn (fun j h1 h2 => hd s o j h1 h2)], h.2⟩
theorem RG.add (h : RG P K B g n) (ht : t < 56) {X : Int32} (hd : ∀ s, s < 56 → ∀ o, dvn P K B s o n = (decide (t = s) && bt X o)) : RG P K B (upd g (lcn t) (g (lcn t) ||| X)) (n + 1) := by
  refine ⟨fun s hs o => ?_, fun l h1 h2 => ?_⟩
  · show _ = (bt (B s) o || (exb (dvn P K B s o) n || dvn P K B s o n))
    rw [hd s hs o]
    by_cases e : t = s
    · subst e
      rw [upd_s, b_or, h.1 t hs o, decide_eq_true rfl, Bool.true_and, Bool.or_assoc]
    · rw [upd_o (fun z => e (lcn_inj z).symm), h.1 s hs o, decide_eq_false e, Bool.false_and, Bool.or_false]
  · have := lcn_lt ht
    rw [upd_o (by omega)]; exact h.2 l h1 h2
theorem hasL {x : Int32} (hv : v < 32) : f_L_has x (nI v) = 0 ↔ bt x v = false := by
  have h := has_bt (x := x) hv
  unfold f_X10_has at h
  unfold f_L_has
  cases hb : bt x v with
  | true =>
    rw [hb] at h
    rw [if_neg (fun z => z (of_decide_eq_true h))]
    exact ⟨fun z => absurd z (by decide), fun z => absurd z (by decide)⟩
  | false =>
    rw [hb] at h
    rw [if_pos (of_decide_eq_false h)]
    exact ⟨fun _ => rfl, fun _ => rfl⟩
theorem c_nc (h : Base p P K c m) : f_X9_constraintCount c 0 = some (nI (nc K)) := by
  unfold f_X9_constraintCount
  rw [h.rp, Option.bind_some, zp6 h.1, h.2.2.2.1.1]
theorem c_enb (h : Base p P K c m) : f_X9_enabledConstraints c 0 = some (en K) := by
  unfold f_X9_enabledConstraints
  rw [h.rp, Option.bind_some, zp6 h.1, h.2.2.2.1.2.1]
theorem c_no (h : Base p P K c m) : f_X9_objectCount c 0 = some (nI (no P)) := by
  unfold f_X9_objectCount
  rw [h.rp, Option.bind_some, zp1 h.1, h.2.2.1.2.1]
theorem c_kd (h : Base p P K c m) (hi : i < nc K) : f_L_kindOf c 0 (nI i) = some (nI (kd K i)) := by
  have := h.2.2.2.2.2.2.2.1.1
  unfold f_L_kindOf
  rw [c_isConstraint h, Option.bind_some, inR_n (by omega) (by omega), if_pos (decide_eq_true hi), h.rp, Option.bind_some]
  exact c_kind h hi
theorem c_opd (h : Base p P K c m) (hi : i < nc K) : f_L_operand c 0 (nI i) (0 : Int32) = some (nI (ka K i)) ∧ f_L_operand c 0 (nI i) (1 : Int32) = some (nI (kb K i)) ∧ f_L_operand c 0 (nI i) (2 : Int32) = some (thI (kd K i) (kc K i)) := by
  have hK := h.2.2.2.2.2.2.2.1
  have := hK.1
  have hc : f_X9_isConstraint c 0 (nI i) = some true := by rw [c_isConstraint h, inR_n (by omega) (by omega), decide_eq_true hi]
  unfold f_L_operand f_X0_operandAt
  rw [hc, h.rp]
  show Option.bind (rdI zC c (zrf zC (zrf zC p 6) 1) (nI i)) (fun x2 => some x2) = _ ∧ Option.bind (rdI zC c (zrf zC (zrf zC p 6) 2) (nI i)) (fun x2 => some x2) = _ ∧ Option.bind (rdI zC c (zrf zC (zrf zC p 6) 3) (nI i)) (fun x2 => some x2) = _
  rw [zp6 h.1, zl1 h.1.LC, zl2 h.1.LC, zl3 h.1.LC, r_k2 h.1.LC h.2.2.2.1 hK.1 hi, r_k3 h.1.LC h.2.2.2.1 hK.1 hi, r_k4 h.1.LC h.2.2.2.1 hK.1 hi]
  exact ⟨rfl, rfl, rfl⟩
theorem c_par (h : Base p P K c m) (hv : v < no P) : f_X9_parameterOf c 0 (nI v) = some (if bt (fs P) v = true then nI (pr P v) else -2) ∧ f_X9_resultOf c 0 (nI v) = some (if bt (fs P) v = true then nI (rs P v) else -2) := by
  have hn := h.2.2.2.2.2.2.1.2.1
  have ho : f_X9_isObject c 0 (nI v) = some true := by rw [c_isObject h, inR_n (by omega) (by omega), decide_eq_true hv]
  have hF : f_X6_isFunction c p (nI v) = bt (fs P) v := by
    unfold f_X6_isFunction
    rw [cont_bt (by omega), h.2.2.1.2.2.2.1]
  constructor
  · unfold f_X9_parameterOf
    rw [ho, Option.bind_some, if_neg (show ¬ ¬ (true = true) from fun z => z rfl), h.rp, Option.bind_some, hF]
    cases e2 : bt (fs P) v with
    | false => rfl
    | true => rw [if_pos rfl, if_pos rfl, Option.bind_some, zp3 h.1, rdI_C (by rw [zn7 h.1]; omega), (h.2.2.1.2.2.2.2 v e2).1]; rfl
  · unfold f_X9_resultOf
    rw [ho, Option.bind_some, if_neg (show ¬ ¬ (true = true) from fun z => z rfl), h.rp, Option.bind_some, hF]
    cases e2 : bt (fs P) v with
    | false => rfl
    | true => rw [if_pos rfl, if_pos rfl, Option.bind_some, zp4 h.1, rdI_C (by rw [zn8 h.1]; omega), (h.2.2.1.2.2.2.2 v e2).2]; rfl
theorem fld_ix (v z : Nat) : (((100 : Int32) + ((4 : Int32) * nI v)) + nI z) = nI (100 + 4 * v + z) := by
  show nI 100 + nI 4 * nI v + nI z = _
  rw [pk_mul, nI_add, nI_add]
theorem wr140 {l : Nat} {x : Int32} (h : l < 140) : wrA g 140 (nI l) x = some (upd g l x) := wrA_at h (by decide)
theorem rd140 {l : Nat} (h : l < 140) : rdS g 140 (nI l) = some (g l) := rdS_at h (by decide)
/-- what stands at the positions of a constraint that is no 'new' -/
theorem dv_at (hen : ∀ i, bt (en K) i = decide (i < nc K)) (hi : i < nc K) (hk : kd K i ≠ 0) {s o j : Nat} (h1 : 20 * i ≤ j) (h2 : j < 20 * (i + 1)) : dvn P K B s o j = (decide ((j - 20 * i) % 2 < fcn K i) && bt (vset P K B i) ((j - 20 * i) / 2) && decide (ftg P K i ((j - 20 * i) / 2) ((j - 20 * i) % 2) = s) && bt (B (fsr P K i ((j - 20 * i) / 2) ((j - 20 * i) % 2))) o) := by
  have := dvn_flow (P := P) (K := K) (B := B) (k := s) (o := o) (i := i) (v := (j - 20 * i) / 2) (fl := (j - 20 * i) % 2) (by omega) (by omega) hi (by rw [hen]; exact decide_eq_true hi) hk
  rw [show 20 * i + 2 * ((j - 20 * i) / 2) + (j - 20 * i) % 2 = j by omega] at this
  exact this
/-- the inner loop of a constraint that reads no objects -/
theorem inner01 (h : Base p P K c m) {x y z : Int32} (hk : kd K i ≤ 1) : lp (b_L_round_93 c (nI (kd K i)) f y z x) NF ((0 : Int32), g) = some g := by
  have hn := h.2.2.2.2.2.2.1.2.1
  refine wp_is (lp_inv (fun v s => s.1 = nI v ∧ s.2 = g) _ (no P) ?_ ?_ (by have : NF = 65536 := rfl; omega) ⟨rfl, rfl⟩)
  · rintro v ⟨s, g'⟩ hv ⟨h1, h2⟩
    dsimp only at h1 h2
    subst h1 h2
    unfold b_L_round_93
    rw [c_no h, Option.bind_some]
    dsimp only
    rw [if_neg (fun z => by have := (n_le (by omega) (by omega)).mp z; omega), if_pos (show ¬ nI (kd K i) = (2 : Int32) from k_no (b := 2) (by omega) (by omega) (by omega))]
    unfold k_L_round_139
    rw [if_pos (show ¬ nI (kd K i) = (3 : Int32) from k_no (b := 3) (by omega) (by omega) (by omega))]
    unfold k_L_round_176
    rw [if_pos (show ¬ nI (kd K i) = (4 : Int32) from k_no (b := 4) (by omega) (by omega) (by omega))]
    unfold k_L_round_236
    rw [wp_some]
    exact ⟨nI_1 v, rfl⟩
  · rintro ⟨s, g'⟩ ⟨h1, h2⟩
    dsimp only at h1 h2
    subst h1 h2
    unfold b_L_round_93
    rw [c_no h, Option.bind_some]
    dsimp only
    rw [if_pos ((n_le (by omega) (by omega)).mpr (Nat.le_refl _)), wp_some]
    exact (rfl : g' = g')
theorem inner_step (h : Base p P K c m) (hen : ∀ i, bt (en K) i = decide (i < nc K)) (hB : TOK P B) (hf : ∀ s, s < 56 → f (lcn s) = B s) (hi : i < nc K) (h2 : 2 ≤ kd K i) (hv : v < no P) (hg : RG P K B g (20 * i + 2 * v)) :
    wp (b_L_round_93 c (nI (kd K i)) f (nI (kb K i)) (thI (kd K i) (kc K i)) (nI (ka K i)) (nI v, g)) (lpS (fun s => s.1 = nI (v + 1) ∧ RG P K B s.2 (20 * i + 2 * (v + 1))) (fun _ => False)) := by
  have hP := h.2.2.2.2.2.2.1
  have hK := h.2.2.2.2.2.2.2.1
  have hn := hP.2.1
  have hnv := hP.1
  have hnf := hP.2.2.1
  have hr := hK.2.2 i hi
  have ha := hr.2.1
  have hd := fun s o j (h1 : 20 * i ≤ j) (h2 : j < 20 * (i + 1)) => dv_at (P := P) (B := B) (s := s) (o := o) hen hi (by omega) h1 h2
  have d0 : ∀ s o, dvn P K B s o (20 * i + 2 * v) = (bt (vset P K B i) v && decide (ftg P K i v 0 = s) && bt (B (fsr P K i v 0)) o) := fun s o => by
    rw [hd s o _ (by omega) (by omega), show (20 * i + 2 * v - 20 * i) % 2 = 0 by omega, show (20 * i + 2 * v - 20 * i) / 2 = v by omega, decide_eq_true (show 0 < fcn K i by unfold fcn; split <;> omega), Bool.true_and]
  have d1 : ∀ s o, dvn P K B s o (20 * i + 2 * v + 1) = (decide (1 < fcn K i) && bt (vset P K B i) v && decide (ftg P K i v 1 = s) && bt (B (fsr P K i v 1)) o) := fun s o => by
    rw [hd s o _ (by omega) (by omega), show (20 * i + 2 * v + 1 - 20 * i) % 2 = 1 by omega, show (20 * i + 2 * v + 1 - 20 * i) / 2 = v by omega]
  have skip2 : bt (vset P K B i) v = false → RG P K B g (20 * i + 2 * (v + 1)) := fun hz => hg.skip (by omega) fun s o j h1 h2 => by
    have hj : j = 20 * i + 2 * v ∨ j = 20 * i + 2 * v + 1 := by omega
    rcases hj with rfl | rfl
    · rw [d0, hz]; rfl
    · rw [d1, hz, Bool.and_false]; rfl
  have one : kd K i ≠ 4 → ∀ g', RG P K B g' (20 * i + 2 * v + 1) → RG P K B g' (20 * i + 2 * (v + 1)) := fun h4 g' hg' => hg'.skip (by omega) fun s o j h1 h2 => by
    have hj : j = 20 * i + 2 * v + 1 := by omega
    rw [hj, d1, show fcn K i = 1 from if_neg h4]; rfl
  rw [th_big h2]
  unfold b_L_round_93
  rw [c_no h, Option.bind_some]
  dsimp only
  rw [if_neg (fun z => by have := (n_le (by omega) (by omega)).mp z; omega)]
  have hh : kd K i = 2 ∨ kd K i = 3 ∨ kd K i = 4 := by have := hr.1; omega
  rcases hh with e | e | e
  · have hbc := hr.2.2.2.2.1 e
    have hvs : vset P K B i = B (kb K i) := by unfold vset; rw [e]; rfl
    have hfb : f (kb K i) = B (kb K i) := by rw [← hf _ (by omega), lcn_v (by omega)]
    have tail : ∀ g' : Nat → Int32, k_L_round_139 (nI (kd K i)) (nI v, g) f (nI (kb K i)) c (nI (kc K i)) (nI (ka K i)) g' = some (.inl (nI (v + 1), g')) := fun g' => by
      unfold k_L_round_139
      rw [e, if_pos (by decide)]
      unfold k_L_round_176
      rw [if_pos (by decide)]
      unfold k_L_round_236
      rw [nI_1]
    rw [if_neg (fun z => z (by rw [e]; rfl)), rd140 (by omega), Option.bind_some, hfb]
    cases hz : bt (B (kb K i)) v with
    | false =>
      rw [if_pos ((hasL (by omega)).mpr hz), tail, wp_some]
      exact ⟨rfl, skip2 (by rw [hvs]; exact hz)⟩
    | true =>
      rw [if_neg (fun z => by rw [(hasL (by omega)).mp z] at hz; cases hz), rd140 (by omega), Option.bind_some, fld_ix, rd140 (by omega), Option.bind_some, wr140 (by omega), Option.bind_some, tail, wp_some]
      refine ⟨rfl, one (by omega) _ ?_⟩
      have hs : f (100 + 4 * v + kc K i) = B (16 + 4 * v + kc K i) := by rw [← hf _ (by omega), lcn_f (by omega)]; congr 1; omega
      have := hg.add (t := ka K i) (X := B (16 + 4 * v + kc K i)) (by omega) (fun s hs o => by
        rw [d0, hvs, hz, Bool.true_and, show ftg P K i v 0 = ka K i by unfold ftg; rw [e]; rfl, show fsr P K i v 0 = 16 + 4 * v + kc K i by unfold fsr; rw [e]; rfl])
      rw [lcn_v (by omega)] at this
      rw [hs]; exact this
  · have hbc := hr.2.2.2.2.2.1 e
    have hvs : vset P K B i = B (ka K i) := by unfold vset; rw [e]; rfl
    have hfb : f (ka K i) = B (ka K i) := by rw [← hf _ (by omega), lcn_v (by omega)]
    have tail : ∀ g' : Nat → Int32, k_L_round_176 (nI (kd K i)) (nI v, g) f (nI (kb K i)) c (nI (kc K i)) (nI (ka K i)) g' = some (.inl (nI (v + 1), g')) := fun g' => by
      unfold k_L_round_176
      rw [e, if_pos (by decide)]
      unfold k_L_round_236
      rw [nI_1]
    rw [if_pos (show ¬ nI (kd K i) = (2 : Int32) by rw [e]; decide)]
    unfold k_L_round_139
    rw [if_neg (fun z => z (by rw [e]; rfl)), rd140 (by omega), Option.bind_some, hfb]
    dsimp only
    cases hz : bt (B (ka K i)) v with
    | false =>
      rw [if_pos ((hasL (by omega)).mpr hz), tail, wp_some]
      exact ⟨rfl, skip2 (by rw [hvs]; exact hz)⟩
    | true =>
      rw [if_neg (fun z => by rw [(hasL (by omega)).mp z] at hz; cases hz), fld_ix, rd140 (by omega), Option.bind_some, rd140 (by omega), Option.bind_some, wr140 (by omega), Option.bind_some, tail, wp_some]
      refine ⟨rfl, one (by omega) _ ?_⟩
      have hs : f (kc K i) = B (kc K i) := by rw [← hf _ (by omega), lcn_v (by omega)]
      have := hg.add (t := 16 + 4 * v + kb K i) (X := B (kc K i)) (by omega) (fun s hs o => by
        rw [d0, hvs, hz, Bool.true_and, show ftg P K i v 0 = 16 + 4 * v + kb K i by unfold ftg; rw [e]; rfl, show fsr P K i v 0 = kc K i by unfold fsr; rw [e]; rfl])
      rw [lcn_f (by omega), show 16 + 4 * v + kb K i + 84 = 100 + 4 * v + kb K i by omega] at this
      rw [hs]; exact this
  · have hbc := hr.2.2.2.2.2.2 e
    have hvs : vset P K B i = B (kb K i) &&& fs P := by unfold vset; rw [e]; rfl
    have hfb : f (kb K i) = B (kb K i) := by rw [← hf _ (by omega), lcn_v (by omega)]
    have tail : ∀ g' : Nat → Int32, k_L_round_236 (nI v, g) g' = some (.inl (nI (v + 1), g')) := fun g' => by
      unfold k_L_round_236
      rw [nI_1]
    rw [if_pos (show ¬ nI (kd K i) = (2 : Int32) by rw [e]; decide)]
    unfold k_L_round_139
    rw [if_pos (show ¬ nI (kd K i) = (3 : Int32) by rw [e]; decide)]
    unfold k_L_round_176
    rw [if_neg (fun z => z (by rw [e]; rfl)), rd140 (by omega), Option.bind_some, hfb]
    dsimp only
    obtain ⟨cp1, cp2⟩ := c_par h hv
    cases hz : bt (B (kb K i)) v with
    | false =>
      rw [if_pos ((hasL (by omega)).mpr hz), tail, wp_some]
      exact ⟨rfl, skip2 (by rw [hvs, b_and, hz]; rfl)⟩
    | true =>
      rw [if_neg (fun z => by rw [(hasL (by omega)).mp z] at hz; cases hz), cp1, cp2, Option.bind_some]
      cases hfn : bt (fs P) v with
      | false =>
        rw [if_neg (show ¬ ((0 : Int32) ≤ if false = true then nI (pr P v) else -2) by rw [if_neg (by decide)]; decide), tail, wp_some]
        exact ⟨rfl, skip2 (by rw [hvs, b_and, hfn, Bool.and_false])⟩
      | true =>
        have hfP := hP.2.2.2 v hfn
        have vt : bt (vset P K B i) v = true := by rw [hvs, b_and, hz, hfn]; rfl
        rw [if_pos (show (true : Bool) = true from rfl), if_pos (show (true : Bool) = true from rfl), if_pos (nI_pos' (by omega)), Option.bind_some, rd140 (by omega), Option.bind_some, rd140 (by omega), Option.bind_some, wr140 (by omega), Option.bind_some, rd140 (by omega), Option.bind_some, Option.bind_some, rd140 (by omega), Option.bind_some, wr140 (by omega), Option.bind_some, tail, wp_some]
        refine ⟨rfl, ?_⟩
        have hs0 : f (kc K i) = B (kc K i) := by rw [← hf _ (by omega), lcn_v (by omega)]
        have hs1 : f (rs P v) = B (rs P v) := by rw [← hf _ (by omega), lcn_v (by omega)]
        have g1 := hg.add (t := pr P v) (X := B (kc K i)) (by omega) (fun s hs o => by
          rw [d0, vt, Bool.true_and, show ftg P K i v 0 = pr P v by unfold ftg; rw [e]; rfl, show fsr P K i v 0 = kc K i by unfold fsr; rw [e]; rfl])
        have g2 := g1.add (t := ka K i) (X := B (rs P v)) (by omega) (fun s hs o => by
          rw [d1, vt, show fcn K i = 2 by unfold fcn; rw [e]; rfl, show ftg P K i v 1 = ka K i by unfold ftg; rw [e]; rfl, show fsr P K i v 1 = rs P v by unfold fsr; rw [e]; rfl]
          rfl)
        rw [lcn_v (s := pr P v) (by omega), lcn_v (s := ka K i) (by omega)] at g2
        rw [hs0, hs1]; exact g2
theorem inner (h : Base p P K c m) (hen : ∀ i, bt (en K) i = decide (i < nc K)) (hB : TOK P B) (hf : ∀ s, s < 56 → f (lcn s) = B s) (hi : i < nc K) (h2 : 2 ≤ kd K i) (hg : RG P K B g (20 * i)) :
    wp (lp (b_L_round_93 c (nI (kd K i)) f (nI (kb K i)) (thI (kd K i) (kc K i)) (nI (ka K i))) NF ((0 : Int32), g)) (fun g' => RG P K B g' (20 * (i + 1))) := by
  have hP := h.2.2.2.2.2.2.1
  have hn := hP.2.1
  refine lp_inv (fun v s => s.1 = nI v ∧ RG P K B s.2 (20 * i + 2 * v)) _ (no P) ?_ ?_ (by have : NF = 65536 := rfl; omega) ⟨rfl, hg⟩
  · rintro v ⟨s, g'⟩ hv ⟨h1, h3⟩
    dsimp only at h1 h3
    subst h1
    obtain ⟨b, e1, e2⟩ := inner_step h hen hB hf hi h2 hv h3
    refine ⟨b, e1, ?_⟩
    cases b with
    | inl s' => exact e2
    | inr r => exact e2.elim
  · rintro ⟨s, g'⟩ ⟨h1, h3⟩
    dsimp only at h1 h3
    subst h1
    unfold b_L_round_93
    rw [c_no h, Option.bind_some]
    dsimp only
    rw [if_pos ((n_le (by omega) (by omega)).mpr (Nat.le_refl _)), wp_some]
    refine h3.skip (by omega) fun s o j h4 h5 => ?_
    rw [dv_at hen hi (by omega) (by omega) h5]
    cases hz : bt (vset P K B i) ((j - 20 * i) / 2) with
    | false => rw [Bool.and_false]; rfl
    | true =>
      have := vset_lt hP hB hz
      have := this.2.1 (by omega)
      omega
theorem round_step (h : Base p P K c m) (hen : ∀ i, bt (en K) i = decide (i < nc K)) (hB : TOK P B) (hf : ∀ s, s < 56 → f (lcn s) = B s) (hi : i < nc K) (hg : RG P K B g (20 * i)) :
    wp (b_L_round_18 c f (nI i, g)) (lpS (fun s => s.1 = nI (i + 1) ∧ RG P K B s.2 (20 * (i + 1))) (fun _ => False)) := by
  have hP := h.2.2.2.2.2.2.1
  have hK := h.2.2.2.2.2.2.2.1
  have h30 := hK.1
  have hn := hP.2.1
  have hnv := hP.1
  have hr := hK.2.2 i hi
  have ha := hr.2.1
  have hr1 := hr.1
  obtain ⟨o1, o2, o3⟩ := c_opd h hi
  unfold b_L_round_18
  rw [c_nc h, Option.bind_some]
  dsimp only
  rw [if_neg (fun z => by have := (n_le (by omega) (by omega)).mp z; omega), o1, Option.bind_some, o2, Option.bind_some, o3, Option.bind_some, c_kd h hi, Option.bind_some]
  have hh : kd K i = 0 ∨ kd K i = 1 ∨ 2 ≤ kd K i := by omega
  rcases hh with e | e | e
  · have hb := hr.2.2.1 e
    rw [if_neg (fun z => z (by rw [e]; rfl)), rd140 (by omega), Option.bind_some, wr140 (by omega), Option.bind_some]
    unfold k_L_round_73
    rw [if_pos (show ¬ nI (kd K i) = (1 : Int32) by rw [e]; decide)]
    unfold k_L_round_90
    rw [inner01 h (by omega), Option.bind_some, wp_some]
    refine ⟨nI_1 i, ?_⟩
    have g1 := hg.add (t := ka K i) (X := jshl 1 (nI (kb K i))) (by omega) (fun s hs o => by
      rw [dvn_new hi (by rw [hen]; exact decide_eq_true hi) e]
      by_cases ho : o < 32
      · rw [bt_bit (by omega) ho, Bool.decide_and]
        congr 1
        exact decide_eq_decide.mpr ⟨fun z => z.symm, fun z => z.symm⟩
      · rw [b_big (by omega), Bool.and_false]
        exact decide_eq_false (fun z => by omega))
    rw [lcn_v (by omega)] at g1
    exact g1.skip (by omega) fun s o j h1 h2 => dvn_new0 (by omega) h2 e
  · have hb := hr.2.2.2.1 e
    have hfb : f (kb K i) = B (kb K i) := by rw [← hf _ (by omega), lcn_v (by omega)]
    rw [if_pos (show ¬ nI (kd K i) = (0 : Int32) by rw [e]; decide)]
    unfold k_L_round_73
    rw [if_neg (fun z => z (by rw [e]; rfl)), rd140 (by omega), Option.bind_some, rd140 (by omega), Option.bind_some, wr140 (by omega), Option.bind_some]
    unfold k_L_round_90
    rw [inner01 h (by omega), Option.bind_some, wp_some]
    refine ⟨nI_1 i, ?_⟩
    have hd := fun s o j (h1 : 20 * i ≤ j) (h2 : j < 20 * (i + 1)) => dv_at (P := P) (B := B) (s := s) (o := o) hen hi (by omega) h1 h2
    have hvs : vset P K B i = 1 := by unfold vset; rw [e]; rfl
    have b1 : ∀ v, v < 32 → bt (1 : Int32) v = decide (v = 0) := by decide +kernel
    have g1 := hg.add (t := ka K i) (X := B (kb K i)) (by omega) (fun s hs o => by
      rw [hd s o _ (by omega) (by omega), show (20 * i - 20 * i) % 2 = 0 by omega, show (20 * i - 20 * i) / 2 = 0 by omega, hvs, show fcn K i = 1 by unfold fcn; rw [e]; rfl, show ftg P K i 0 0 = ka K i by unfold ftg; rw [e]; rfl, show fsr P K i 0 0 = kb K i by unfold fsr; rw [e]; rfl, b1 0 (by decide)]
      rfl)
    rw [lcn_v (by omega)] at g1
    rw [hfb]
    refine g1.skip (by omega) fun s o j h1 h2 => ?_
    rw [hd s o j (by omega) h2, hvs, show fcn K i = 1 by unfold fcn; rw [e]; rfl, b1 _ (by omega)]
    by_cases hz : (j - 20 * i) % 2 < 1
    · rw [decide_eq_false (show ¬ (j - 20 * i) / 2 = 0 by omega), Bool.and_false]; rfl
    · rw [decide_eq_false hz]; rfl
  · rw [if_pos (show ¬ nI (kd K i) = (0 : Int32) from k_no (b := 0) (by omega) (by omega) (by omega))]
    unfold k_L_round_73
    rw [if_pos (show ¬ nI (kd K i) = (1 : Int32) from k_no (b := 1) (by omega) (by omega) (by omega))]
    unfold k_L_round_90
    obtain ⟨g', e1, e2⟩ := inner h hen hB hf hi e hg
    rw [e1, Option.bind_some, wp_some]
    exact ⟨nI_1 i, e2⟩
/-- the sets by the law's numbers -/
def LT (B : Nat → Int32) (f : Nat → Int32) : Prop := (∀ s, s < 56 → f (lcn s) = B s) ∧ ∀ l, 16 ≤ l → l < 100 → f l = 0
theorem round_ok (h : Base p P K c m) (hen : ∀ i, bt (en K) i = decide (i < nc K)) {r : Nat} (hf : LT (SS P K r) f) : ∃ f', f_L_round c f = some f' ∧ LT (SS P K (r + 1)) f' := by
  have hP := h.2.2.2.2.2.2.1
  have hK := h.2.2.2.2.2.2.2.1
  have h30 := hK.1
  have hB := SS_ok hP hK r
  have hcp : ∀ l, l < 140 → va_cpy f (fun _ => 0) 0 0 140 l = f l := fun l hl => by
    unfold va_cpy
    simp [hl]
  have g0 : RG P K (SS P K r) (va_cpy f (fun _ => 0) 0 0 140) (20 * 0) := by
    refine ⟨fun s hs o => ?_, fun l h1 h2 => ?_⟩
    · rw [hcp _ (lcn_lt hs).1, hf.1 s hs]
      show _ = (_ || false)
      rw [Bool.or_false]
    · rw [hcp l (by omega)]; exact hf.2 l h1 h2
  have key : wp (lp (b_L_round_18 c f) NF ((0 : Int32), va_cpy f (fun _ => 0) 0 0 140)) (fun g => RG P K (SS P K r) g (20 * nc K)) := by
    refine lp_inv (fun i s => s.1 = nI i ∧ RG P K (SS P K r) s.2 (20 * i)) _ (nc K) ?_ ?_ (by have : NF = 65536 := rfl; omega) ⟨rfl, g0⟩
    · rintro i ⟨s, g'⟩ hi ⟨h1, h3⟩
      dsimp only at h1 h3
      subst h1
      obtain ⟨b, e1, e2⟩ := round_step h hen hB hf.1 hi h3
      refine ⟨b, e1, ?_⟩
      cases b with
      | inl s' => exact e2
      | inr r => exact e2.elim
    · rintro ⟨s, g'⟩ ⟨h1, h3⟩
      dsimp only at h1 h3
      subst h1
      unfold b_L_round_18
      rw [c_nc h, Option.bind_some]
      dsimp only
      rw [if_pos ((n_le (by omega) (by omega)).mpr (Nat.le_refl _)), wp_some]
      exact h3
  obtain ⟨g, e1, e2⟩ := key
  refine ⟨g, ?_, fun s hs => b_ext fun o _ => ?_, e2.2⟩
  · unfold f_L_round
    rw [e1, Option.bind_some]
  · rw [e2.1 s hs o, SS_bt hP hK]
    unfold exn
    rw [exb_same (p := dvn P K (SS P K r) s o) (show 20 * nc K ≤ 600 by omega) (fun j h1 _ => dvn_far h1)]
end RN
