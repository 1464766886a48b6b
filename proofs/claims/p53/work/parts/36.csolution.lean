/-! The class's whole solve. -/
theorem s_fill {c : Wd} {a : Nat} {v : Int32} : wp (f_J7_fill c a v) (fun d => (∀ j, j < zln zC a → d.1 a j = v) ∧ (∀ q, q ≠ a → d.1 q = c.1 q) ∧ d.2 = c.2) := by
  have hl := zlnC_le a
  unfold f_J7_fill
  rw [wp_bind]
  refine wp_mono (lp_inv (fun i s => s.1 = nI i ∧ (∀ j, j < i → s.2.1 a j = v) ∧ (∀ q, q ≠ a → s.2.1 q = c.1 q) ∧ s.2.2 = c.2) (fun d => (∀ j, j < zln zC a → d.1 a j = v) ∧ (∀ q, q ≠ a → d.1 q = c.1 q) ∧ d.2 = c.2) (zln zC a) ?_ ?_ (by unfold NF; omega) ⟨rfl, fun j h => by omega, fun q _ => rfl, rfl⟩) (fun w q => wp_some.mpr q)
  · rintro i ⟨si, w⟩ hi ⟨rfl, h1, h2, h3⟩
    dsimp only at h1 h2 h3
    unfold b_J7_fill_1
    dsimp only
    rw [if_pos ((n_lt (by omega) (by omega)).mpr hi), wrI_C hi, Option.bind_some, wp_some]
    refine ⟨nI_1 i, fun j hj => ?_, fun q hq => ?_, h3⟩
    · dsimp only
      rw [wsI_s]
      by_cases e : j = i
      · subst e; rw [upd_s]
      · rw [upd_o e]; exact h1 j (by omega)
    · dsimp only
      rw [wsI_o _ _ _ hq]; exact h2 q hq
  · rintro ⟨si, w⟩ ⟨rfl, h1, h2, h3⟩
    dsimp only at h1 h2 h3
    unfold b_J7_fill_1
    dsimp only
    rw [if_neg (fun z => Nat.lt_irrefl _ ((n_lt (by omega) (by omega)).mp z)), wp_some]
    exact ⟨h1, h2, h3⟩
theorem s_copyB {c : Wd} : cpI zC c 46 47 (56 : Int32) = some (wcI c 46 47 56) := by
  unfold cpI
  rw [if_neg (by decide)]
  rfl
/-- rounds: when a fact comes, and out of which position -/
def rd (P : PK) (K : CK) (k o : Nat) : Nat := fstb (fun r => bt (SS P K r k) o) 600
def pd (P : PK) (K : CK) (k o : Nat) : Nat := fst6 P K (SS P K (rd P K k o - 1)) k o
def Gr (P : PK) (K : CK) (r : Nat) : Prop := cntT (SS P K r) < cntT (SS P K (r + 1))
noncomputable def grb (P : PK) (K : CK) (r : Nat) : Bool := @decide (¬ Gr P K r) (Classical.propDecidable _)
noncomputable def RR (P : PK) (K : CK) : Nat := fstb (grb P K) 561
section RRS
variable {P : PK} {K : CK}
theorem grb_iff {r : Nat} : grb P K r = true ↔ ¬ Gr P K r := by unfold grb; simp
theorem cnt_up {r : Nat} (h : ∀ j, j < r → Gr P K j) : r ≤ cntT (SS P K r) := by
  induction r with
  | zero => exact Nat.zero_le _
  | succ r ih =>
    have h1 := ih (fun j hj => h j (by omega))
    have h2 := h r (by omega)
    unfold Gr at h2
    omega
theorem RR_ok : RR P K < 561 ∧ ¬ Gr P K (RR P K) ∧ ∀ j, j < RR P K → Gr P K j := by
  have hex : exb (grb P K) 561 = true := by
    cases e : exb (grb P K) 561 with
    | true => rfl
    | false =>
      have : ∀ j, j < 561 → Gr P K j := fun j hj => Classical.byContradiction fun q => by
        have := exb_iff.mpr ⟨j, hj, grb_iff.mpr q⟩
        rw [e] at this; cases this
      have h1 := cnt_up this
      have h2 := cn_le (fct (SS P K 561)) 560
      unfold cntT at h1
      omega
  obtain ⟨a, b, c⟩ := fstb_ok hex
  exact ⟨a, grb_iff.mp b, fun j hj => Classical.byContradiction fun q => by
    have := c j hj
    rw [grb_iff.mpr q] at this; cases this⟩
theorem SS_fct (hP : PWF P) (hK : CWF P K) (r : Nat) : ∀ i, i < 560 → fct (SS P K r) i = true → fct (SS P K (r + 1)) i = true := fun i _ h => SS_mono hP hK (Nat.le_succ r) h
theorem SS_eq_of {r : Nat} (hP : PWF P) (hK : CWF P K) (h : ¬ Gr P K r) : SS P K (r + 1) = SS P K r := by
  have h1 := cn_sub (SS_fct hP hK r)
  unfold Gr cntT at h
  have h2 := cn_eq (SS_fct hP hK r) (by omega)
  funext k
  refine b_ext fun o ho => ?_
  by_cases hk : k < 56 ∧ o < 10
  · have := h2 (10 * k + o) (by omega)
    rw [fct_at hk.2, fct_at hk.2] at this
    exact this.symm
  · have ex : ∀ q, bt (SS P K q k) o = false := fun q => by
      cases e : bt (SS P K q k) o with
      | false => rfl
      | true => have := SS_ok hP hK q k o e; have := hP.2.1; omega
    rw [ex, ex]
theorem SS_stay {r : Nat} (hP : PWF P) (hK : CWF P K) (h : RR P K ≤ r) : SS P K r = SS P K (RR P K) := by
  induction r with
  | zero => have : RR P K = 0 := by omega
            rw [this]
  | succ r ih =>
    by_cases e : RR P K = r + 1
    · rw [e]
    · have h1 := ih (by omega)
      have h2 := SS_eq_of hP hK (RR_ok (P := P) (K := K)).2.1
      show nextT P K (SS P K r) = _
      rw [h1]
      exact h2
theorem rd_ok (hP : PWF P) (hK : CWF P K) {r k o : Nat} (hr : r < 600) (h : bt (SS P K r k) o = true) : 1 ≤ rd P K k o ∧ rd P K k o ≤ r ∧ bt (SS P K (rd P K k o) k) o = true ∧ bt (SS P K (rd P K k o - 1) k) o = false := by
  have hex : exb (fun r => bt (SS P K r k) o) 600 = true := exb_iff.mpr ⟨r, hr, h⟩
  obtain ⟨a, b, c⟩ := fstb_ok hex
  have h0 : rd P K k o ≠ 0 := fun z => by
    have b' : bt (SS P K (rd P K k o) k) o = true := b
    rw [z, show SS P K 0 k = 0 from rfl, b_0] at b'
    cases b'
  refine ⟨by omega, ?_, b, c _ (by show rd P K k o - 1 < rd P K k o; omega)⟩
  rcases Nat.lt_or_ge r (rd P K k o) with q | q
  · have := c r q; rw [h] at this; cases this
  · exact q
theorem rd_new (hP : PWF P) (hK : CWF P K) {r k o : Nat} (hr : r + 1 < 600) (h : bt (SS P K (r + 1) k) o = true) (h' : bt (SS P K r k) o = false) : rd P K k o = r + 1 := by
  obtain ⟨a, b, c, d⟩ := rd_ok hP hK hr h
  rcases Nat.lt_or_ge (rd P K k o) (r + 1) with q | q
  · rw [SS_mono hP hK (show rd P K k o ≤ r by omega) c] at h'; cases h'
  · omega
/-- the first derivation of a fact holds in the sets before its round -/
theorem pd_ok (hP : PWF P) (hK : CWF P K) {r k o : Nat} (hr : r < 600) (h : bt (SS P K r k) o = true) : dvn P K (SS P K (rd P K k o - 1)) k o (pd P K k o) = true ∧ pd P K k o < 20 * nc K ∧ ∀ j, j < pd P K k o → dvn P K (SS P K (rd P K k o - 1)) k o j = false := by
  obtain ⟨a, b, c, d⟩ := rd_ok hP hK hr h
  have e : rd P K k o = (rd P K k o - 1) + 1 := by omega
  rw [e, SS_bt hP hK, d, Bool.false_or] at c
  obtain ⟨x, y, z⟩ := fstb_ok (show exb (dvn P K (SS P K (rd P K k o - 1)) k o) 600 = true from c)
  exact ⟨y, (dvn_ok hP hK (SS_ok hP hK _) y).2.2, z⟩
end RRS
/-- a fact's stamps, told by the other facts' stamps -/
def StampR (P : PK) (K : CK) (k o : Nat) (c : Wd) : Prop := Stamp P K c (rd P K k o) (pd P K k o) k o c
def JJ (P : PK) (K : CK) (cI : Wd) (r : Nat) (c : Wd) : Prop :=
  (∀ q, q ≠ 45 → q ≠ 46 → q ≠ 47 → ¬ (48 ≤ q ∧ q ≤ 53) → c.1 q = cI.1 q) ∧ c.2 = cI.2 ∧ (∀ k, k < 56 → c.1 46 k = SS P K r k) ∧ (∀ k o, k < 56 → o < 10 → bt (SS P K r k) o = true → StampR P K k o c) ∧
  c.1 45 2 = nI (cntT (SS P K r)) ∧ (∀ j, j < 32 → (bt (c.1 45 4) j = true ↔ ∃ k o, k < 56 ∧ o < 10 ∧ bt (SS P K r k) o = true ∧ pd P K k o / 20 = j))
theorem cntT_cong {T U : Nat → Int32} (h : ∀ k, k < 56 → T k = U k) : cntT T = cntT U := cn_cong fun i hi => by unfold fct; rw [h (i / 10) (by omega)]
section CS
variable {P : PK} {K : CK} {cI c : Wd} {p r : Nat}
/-- the world after 'before' has been copied -/
theorem copy_at {c : Wd} {k : Nat} (hk : k < 56) : (wcI c 46 47 56).1 47 k = c.1 46 k := by
  show (if 47 = 47 then va_cpy (c.1 46) (c.1 47) 0 0 56 else c.1 47) k = _
  rw [if_pos rfl, pk_cpy_in (by omega) (by omega), Nat.sub_zero, Nat.zero_add]
theorem copy_o {c : Wd} {q : Nat} (hq : q ≠ 47) : (wcI c 46 47 56).1 q = c.1 q := if_neg hq
theorem JJ_round (hp : PC p) (hP : RPc cI p P) (hL : RLc cI (p + 9) K) (hPw : PWF P) (hKw : CWF P K) (hr : r ≤ 561) (h : JJ P K cI r c) :
    RS0 P K (wcI c 46 47 56) (SS P K r) (r + 1) p ∧ SI P K (wcI c 46 47 56) (SS P K r) (r + 1) (exn P K (SS P K r) 0) (wcI c 46 47 56) := by
  obtain ⟨h1, h2, h3, h4, h5, h6⟩ := h
  have kp : keepP (wcI c 46 47 56) cI := ⟨fun q hq => by rw [copy_o (by omega)]; exact h1 q (by omega) (by omega) (by omega) (by omega), h2⟩
  refine ⟨⟨hp, hP.keep hp kp, hL.keep hp.LC kp, hPw, hKw, SS_ok hPw hKw r, fun k hk => by rw [copy_at hk]; exact h3 k hk, by omega⟩, ⟨fun _ _ _ _ => rfl, rfl, fun _ _ _ => rfl⟩, fun k o hk ho => ?_, fun _ _ _ _ _ _ _ _ => rfl, fun k o _ _ _ q => (by cases q), ?_, fun j hj => ?_, fun k o q => (by cases q)⟩
  · rw [copy_o (by omega), h3 k hk]
    show _ = (_ || false)
    rw [Bool.or_false]
  · rw [copy_o (by omega), copy_o (by omega), h5, cntT_cong h3]
  · constructor
    · exact Or.inl
    · rintro (q | ⟨k, o, _, _, _, q, _⟩)
      · exact q
      · cases q
theorem JJ_next (hPw : PWF P) (hKw : CWF P K) (hr : r ≤ 561) (h : JJ P K cI r c) {d : Wd} (hd : SI P K (wcI c 46 47 56) (SS P K r) (r + 1) (exn P K (SS P K r) 600) d) : JJ P K cI (r + 1) d ∧ d.1 45 3 = c.1 45 3 := by
  obtain ⟨h1, h2, h3, h4, h5, h6⟩ := h
  obtain ⟨⟨a1, a2, a3⟩, b, e, f, t, u, -⟩ := hd
  have hset : ∀ k, k < 56 → d.1 46 k = SS P K (r + 1) k := fun k hk => b_ext fun o ho => by rw [b k o hk ho, SS_bt hPw hKw]
  refine ⟨⟨fun q q1 q2 q3 q4 => by rw [a1 q q1 q2 q4, copy_o q3]; exact h1 q q1 q2 q3 q4, a2.trans h2, hset, fun k o hk ho hs => ?_, by rw [t, cntT_cong hset], fun j hj => ?_⟩, a3 3 (by omega) (by omega)⟩
  · cases hb : bt (SS P K r k) o with
    | true =>
      have hst := h4 k o hk ho hb
      obtain ⟨p1, p2, p3⟩ := pd_ok hPw hKw (by omega) hb
      obtain ⟨r1, r2, r3, r4⟩ := rd_ok hPw hKw (show r < 600 by omega) hb
      -- the facts that the stamps speak of were there before
      have old : ∀ k2 o2, bt (SS P K r k2) o2 = true → ∀ q, 48 ≤ q → q ≤ 53 → d.1 q (10 * k2 + o2) = c.1 q (10 * k2 + o2) := fun k2 o2 hx q q1 q2 => by
        have ok := SS_ok hPw hKw r k2 o2 hx
        have := hPw.2.1
        rw [e k2 o2 ok.1 (by omega) hx q q1 q2, copy_o (by omega)]
      obtain ⟨g1, g2, g3, g4, g5, g6⟩ := hst
      unfold dvn at p1
      simp only [Bool.and_eq_true, decide_eq_true_eq] at p1
      obtain ⟨⟨hi, he⟩, p1⟩ := p1
      refine ⟨?_, ?_, ?_, ?_, ?_, ?_⟩
      · rw [old k o hb 48 (by omega) (by omega)]; exact g1
      · rw [old k o hb 49 (by omega) (by omega)]; exact g2
      · rw [old k o hb 50 (by omega) (by omega)]; exact g3
      · rw [old k o hb 51 (by omega) (by omega)]; exact g4
      · rw [old k o hb 52 (by omega) (by omega), g5]
        by_cases hk0 : kd K (pd P K k o / 20) = 0
        · rw [if_pos hk0, if_pos hk0]
        · rw [if_neg hk0] at p1 ⊢
          rw [if_neg hk0]
          simp only [Bool.and_eq_true, decide_eq_true_eq] at p1
          rw [old _ o (SS_mono hPw hKw (by omega) p1.2) 52 (by omega) (by omega)]
      · rw [old k o hb 53 (by omega) (by omega), g6]
        by_cases hk0 : kd K (pd P K k o / 20) = 0
        · rw [if_pos hk0, if_pos hk0]
        · rw [if_neg hk0] at p1
          rw [if_neg hk0, if_neg hk0]
          simp only [Bool.and_eq_true, decide_eq_true_eq] at p1
          rw [old _ o (SS_mono hPw hKw (by omega) p1.2) 53 (by omega) (by omega)]
          by_cases hk1 : kd K (pd P K k o / 20) = 1
          · rw [if_pos hk1, if_pos hk1]
          · have hv := vset_lt hPw (SS_ok hPw hKw _) p1.1.1.2
            rw [if_neg hk1, if_neg hk1, old _ _ (SS_mono hPw hKw (show rd P K k o - 1 ≤ r by omega) (vsl_bt (by omega) hv.2.2.2.2.2 p1.1.1.2)) 53 (by omega) (by omega)]
    | false =>
      have hE : exn P K (SS P K r) 600 k o = true := by rw [SS_bt hPw hKw, hb, Bool.false_or] at hs; exact hs
      have hrd := rd_new hPw hKw (by omega) hs hb
      have hpd : pd P K k o = fst6 P K (SS P K r) k o := by unfold pd; rw [hrd]; rfl
      obtain ⟨g1, g2, g3, g4, g5, g6⟩ := f k o hk ho hb hE
      rw [← hpd] at g2 g3 g4 g5 g6
      obtain ⟨p1, p2, p3⟩ := pd_ok hPw hKw (show r + 1 < 600 by omega) hs
      rw [hrd] at p1
      unfold dvn at p1
      simp only [Bool.and_eq_true, decide_eq_true_eq] at p1
      obtain ⟨⟨hi, he⟩, p1⟩ := p1
      have old : ∀ k2 o2, bt (SS P K r k2) o2 = true → ∀ q, 48 ≤ q → q ≤ 53 → d.1 q (10 * k2 + o2) = (wcI c 46 47 56).1 q (10 * k2 + o2) := fun k2 o2 hx q q1 q2 => by
        have ok := SS_ok hPw hKw r k2 o2 hx
        have := hPw.2.1
        exact e k2 o2 ok.1 (by omega) hx q q1 q2
      refine ⟨?_, g2, g3, g4, ?_, ?_⟩
      · rw [hrd]; exact g1
      · rw [g5]
        by_cases hk0 : kd K (pd P K k o / 20) = 0
        · rw [if_pos hk0, if_pos hk0]
        · rw [if_neg hk0] at p1
          rw [if_neg hk0, if_neg hk0]
          simp only [Bool.and_eq_true, decide_eq_true_eq] at p1
          rw [old _ o p1.2 52 (by omega) (by omega)]
      · rw [g6]
        by_cases hk0 : kd K (pd P K k o / 20) = 0
        · rw [if_pos hk0, if_pos hk0]
        · rw [if_neg hk0] at p1
          rw [if_neg hk0, if_neg hk0]
          simp only [Bool.and_eq_true, decide_eq_true_eq] at p1
          rw [old _ o p1.2 53 (by omega) (by omega)]
          by_cases hk1 : kd K (pd P K k o / 20) = 1
          · rw [if_pos hk1, if_pos hk1]
          · have hv := vset_lt hPw (SS_ok hPw hKw _) p1.1.1.2
            rw [if_neg hk1, if_neg hk1, old _ _ (vsl_bt (by omega) hv.2.2.2.2.2 p1.1.1.2) 53 (by omega) (by omega)]
  · rw [u j hj, copy_o (by omega), h6 j hj]
    constructor
    · rintro (⟨k, o, q1, q2, q3, q4⟩ | ⟨k, o, q1, q2, q3, q4, q5⟩)
      · exact ⟨k, o, q1, q2, SS_mono hPw hKw (Nat.le_succ r) q3, q4⟩
      · have hs : bt (SS P K (r + 1) k) o = true := by rw [SS_bt hPw hKw, q4, Bool.or_true]
        refine ⟨k, o, q1, q2, hs, ?_⟩
        have hrd := rd_new hPw hKw (by omega) hs q3
        unfold pd; rw [hrd]; exact q5
    · rintro ⟨k, o, q1, q2, q3, q4⟩
      cases hb : bt (SS P K r k) o with
      | true => exact Or.inl ⟨k, o, q1, q2, hb, q4⟩
      | false =>
        have hE : exn P K (SS P K r) 600 k o = true := by rw [SS_bt hPw hKw, hb, Bool.false_or] at q3; exact q3
        have hrd := rd_new hPw hKw (by omega) q3 hb
        refine Or.inr ⟨k, o, q1, q2, hb, hE, ?_⟩
        rw [← q4]; unfold pd; rw [hrd]; rfl
/-- what the class holds of a solution -/
def SolC (P : PK) (K : CK) (c : Wd) : Prop := (∀ k, k < 56 → c.1 46 k = SS P K (RR P K) k) ∧ (∀ k o, k < 56 → o < 10 → bt (SS P K (RR P K) k) o = true → StampR P K k o c) ∧ c.1 45 2 = nI (cntT (SS P K (RR P K))) ∧ c.1 45 3 = nI (RR P K) ∧
  (∀ j, j < 32 → (bt (c.1 45 4) j = true ↔ ∃ k o, k < 56 ∧ o < 10 ∧ bt (SS P K (RR P K) k) o = true ∧ pd P K k o / 20 = j))
theorem s_solve (hp : PC p) (hP : RPc c p P) (hL : RLc c (p + 9) K) (hPw : PWF P) (hKw : CWF P K) : wp (f_X7_solve c 45 p) (fun d => SolC P K d ∧ (∀ q, ¬ (45 ≤ q ∧ q ≤ 53) → d.1 q = c.1 q) ∧ d.2 = c.2) := by
  obtain ⟨R1, R2, R3⟩ := RR_ok (P := P) (K := K)
  unfold f_X7_solve
  rw [wp_bind]
  refine wp_mono s_fill ?_
  rintro d0 ⟨f1, f2, f3⟩
  rw [Option.bind_some, Option.bind_some, Option.bind_some]
  generalize hd1 : wsI (wsI (wsI d0 45 2 0) 45 3 0) 45 4 0 = d1
  have o1 : ∀ q, q ≠ 45 → d1.1 q = d0.1 q := fun q hq => by rw [← hd1, wsI_o _ _ _ hq, wsI_o _ _ _ hq, wsI_o _ _ _ hq]
  have kp : keepP d1 c := ⟨fun q hq => by rw [o1 q (by omega), f2 q (by show q ≠ 46; omega)], by rw [← hd1]; exact f3⟩
  have hP1 := hP.keep hp kp
  have hL1 := hL.keep hp.LC kp
  have hz : cntT (SS P K 0) = 0 := by
    have : ∀ n, cn (fct (SS P K 0)) n = 0 := fun n => by
      induction n with
      | zero => rfl
      | succ n ih => rw [cn, ih]; unfold fct; rw [show SS P K 0 (n / 10) = 0 from rfl, b_0]; rfl
    exact this 560
  have z0 : ∀ k o, ¬ bt (SS P K 0 k) o = true := fun k o q => by
    rw [show SS P K 0 k = 0 from rfl, b_0] at q
    cases q
  have J0 : JJ P K d1 0 d1 := by
    refine ⟨fun _ _ _ _ _ => rfl, rfl, fun k hk => ?_, fun k o _ _ q => absurd q (z0 k o), ?_, fun j hj => ?_⟩
    · rw [o1 46 (by omega)]; exact f1 k hk
    · rw [hz, ← hd1]; rfl
    · rw [show d1.1 45 4 = 0 by rw [← hd1]; rfl, b_0]
      constructor
      · intro q; cases q
      · rintro ⟨k, o, _, _, q, _⟩; exact absurd q (z0 k o)
  rw [wp_bind]
  refine wp_mono (lp_inv (fun i s => (i ≤ RR P K ∧ s.1 = true ∧ s.2.1 = nI (i + 1) ∧ JJ P K d1 i s.2.2 ∧ s.2.2.1 45 3 = nI i) ∨ (i = RR P K + 1 ∧ s.1 = false ∧ JJ P K d1 (RR P K) s.2.2 ∧ s.2.2.1 45 3 = nI (RR P K)))
    (fun s => JJ P K d1 (RR P K) s.2 ∧ s.2.1 45 3 = nI (RR P K)) (RR P K + 1) ?_ ?_ (by unfold NF; omega) (Or.inl ⟨Nat.zero_le _, rfl, rfl, J0, by rw [← hd1]; rfl⟩)) ?_
  · rintro i ⟨g, rr, w⟩ hi h
    rcases h with ⟨hi2, h1, h2, hJ, h3⟩ | ⟨h0, -⟩
    · dsimp only at h1 h2 hJ h3
      subst h1; subst h2
      obtain ⟨a, b⟩ := JJ_round hp hP1 hL1 hPw hKw (by omega) hJ
      unfold b_X7_solve_1
      dsimp only
      rw [if_pos (show (true = true) ∧ nI (i + 1) ≤ (561 : Int32) from ⟨rfl, (n_le (b := 561) (by omega) (by omega)).mpr (by omega)⟩)]
      show wp (Option.bind (cpI zC w 46 47 (56 : Int32)) _) _
      rw [s_copyB, Option.bind_some, wp_bind]
      refine wp_mono (s_round a b) ?_
      intro d hd
      obtain ⟨c1, c2⟩ := JJ_next hPw hKw (by omega) hJ hd
      rw [Option.bind_some, wp_some]
      have hb1 : cntT (SS P K i) ≤ 560 := cn_le _ _
      have hb2 : cntT (SS P K (i + 1)) ≤ 560 := cn_le _ _
      have hdec : decide (w.1 45 2 < d.1 45 2) = decide (cntT (SS P K i) < cntT (SS P K (i + 1))) := by
        rw [hJ.2.2.2.2.1, c1.2.2.2.2.1]
        exact decide_eq_decide.mpr (n_lt (by omega) (by omega))
      show lpS _ _ (Sum.inl (decide (w.1 45 2 < d.1 45 2), nI (i + 1) + 1, wsI d 45 3 (if decide (w.1 45 2 < d.1 45 2) = true then nI (i + 1) else d.1 45 3)))
      rw [hdec]
      have keepJ : ∀ x, JJ P K d1 (i + 1) d → JJ P K d1 (i + 1) (wsI d 45 3 x) := fun x q => by
        obtain ⟨q1, q2, q3, q4, q5, q6⟩ := q
        refine ⟨fun z z1 z2 z3 z4 => by rw [wsI_o _ _ _ z1]; exact q1 z z1 z2 z3 z4, q2, fun k hk => by rw [wsI_o _ _ _ (by omega)]; exact q3 k hk, fun k o hk ho hs => ?_, ?_, fun j hj => ?_⟩
        · have := q4 k o hk ho hs
          unfold StampR Stamp at this ⊢
          rw [wsI_o _ _ _ (show 48 ≠ 45 by omega), wsI_o _ _ _ (show 49 ≠ 45 by omega), wsI_o _ _ _ (show 50 ≠ 45 by omega), wsI_o _ _ _ (show 51 ≠ 45 by omega), wsI_o _ _ _ (show 52 ≠ 45 by omega), wsI_o _ _ _ (show 53 ≠ 45 by omega)]
          exact this
        · rw [wsI_s, upd_o (by omega)]; exact q5
        · rw [wsI_s, upd_o (by omega)]; exact q6 j hj
      by_cases hi3 : i = RR P K
      · have hng : ¬ cntT (SS P K i) < cntT (SS P K (i + 1)) := by rw [hi3]; exact R2
        rw [decide_eq_false hng]
        refine Or.inr ⟨by omega, rfl, ?_, ?_⟩
        · have := keepJ (d.1 45 3) c1
          have e1 := SS_eq_of hPw hKw (show ¬ Gr P K (RR P K) from R2)
          rw [hi3] at this
          unfold JJ at this ⊢
          rw [e1] at this
          exact this
        · show (wsI d 45 3 (d.1 45 3)).1 45 3 = _
          rw [wsI_s, upd_s, c2, h3, hi3]
      · have hg := R3 i (by omega)
        rw [decide_eq_true (show cntT (SS P K i) < cntT (SS P K (i + 1)) from hg)]
        refine Or.inl ⟨by omega, rfl, nI_1 _, keepJ _ c1, ?_⟩
        show (wsI d 45 3 (nI (i + 1))).1 45 3 = _
        rw [wsI_s, upd_s]
    · omega
  · rintro ⟨g, rr, w⟩ h
    rcases h with ⟨h0, -⟩ | ⟨-, h1, hJ, h3⟩
    · omega
    · dsimp only at h1 hJ h3
      subst h1
      unfold b_X7_solve_1
      dsimp only
      rw [if_neg (fun z => Bool.false_ne_true z.1), wp_some]
      exact ⟨hJ, h3⟩
  · rintro ⟨g, w⟩ ⟨hJ, h3⟩
    dsimp only at hJ h3
    rw [wp_some]
    obtain ⟨q1, q2, q3, q4, q5, q6⟩ := hJ
    refine ⟨⟨q3, q4, q5, h3, q6⟩, fun q hq => ?_, ?_⟩
    · show w.1 q = _
      rw [q1 q (by omega) (by omega) (by omega) (by omega), o1 q (by omega), f2 q (by show q ≠ 46; omega)]
    · exact q2.trans kp.2
end CS
