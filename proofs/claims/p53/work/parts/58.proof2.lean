/-! The call 'proof'. -/
section PS
variable {p : Nat} {P : PK} {K : CK} {c m m0 m' w : Wd} {k o n i j s f f0 many : Nat} {v u : Int32} {M : Nat → Bool} {pe : Nat → Nat}
theorem m_clearLoop : wp (lp (b_X10_proof_1 0) NF ((0 : Int32), m)) (fun d => (∀ q, q ≠ 19 → d.1 q = m.1 q) ∧ d.2 = m.2 ∧ ∀ f, f < 560 → d.1 19 f = bI false) := by
  refine lp_inv (fun i s => s.1 = nI i ∧ (∀ q, q ≠ 19 → s.2.1 q = m.1 q) ∧ s.2.2 = m.2 ∧ ∀ k, k < i → s.2.1 19 k = bI false) _ 560 ?_ ?_ (by decide) ⟨rfl, fun _ _ => rfl, rfl, fun k h => by omega⟩
  · rintro i ⟨si, w⟩ hi ⟨rfl, a, b, c⟩
    dsimp only at a b c
    unfold b_X10_proof_1
    dsimp only
    rw [if_pos (show nI i < (560 : Int32) from (n_lt (b := 560) (by omega) (by omega)).mpr hi)]
    show wp (Option.bind (wrI zM w 19 (nI i) (bI false)) _) _
    rw [wrI_M (show i < 560 from hi), Option.bind_some, wp_some]
    refine ⟨nI_1 i, fun q hq => ?_, b, fun k hk => ?_⟩
    · dsimp only
      rw [wsI_o _ _ _ hq]; exact a q hq
    · dsimp only
      rw [wsI_s]
      by_cases e : k = i
      · subst e; rw [upd_s]
      · rw [upd_o e]; exact c k (by omega)
  · rintro ⟨si, w⟩ ⟨rfl, a, b, c⟩
    dsimp only at a b c
    unfold b_X10_proof_1
    dsimp only
    rw [if_neg (show ¬ nI 560 < (560 : Int32) by decide), wp_some]
    exact ⟨a, b, c⟩
/-- the worklist is done: what it has gathered is the class's word -/
theorem m_finish (h : Base p P K c m0) (hq : PQ P K c m0 f0 M pe many w) (hf0 : f0 < 560) (hM : M f0 = true) (hi : many ≤ i) (hi2 : i ≤ 560) {acc : Int32} (hd : ∀ j, j < i → Done P K acc M (pe j)) (ha : ∀ b, b < 32 → bt acc b = true → bt (c.1 53 f0) b = true) :
    b_X10_proof_2 0 (acc, nI i, w) = some (.inr (c.1 53 f0, w)) := by
  have hP := h.2.2.2.2.2.2.1
  have hK := h.2.2.2.2.2.2.2.1
  have hS := h.2.2.2.2.2.2.2.2.1
  have hn := hP.2.1
  have h30 := hK.1
  have key : ∀ k o, bt (LF P K k) o = true → M (10 * k + o) = true → ∀ b, b < 32 → bt (c.1 53 (10 * k + o)) b = true → bt acc b = true := by
    refine fact_ind hP hK fun k o hf ih hMf b hb hbt => ?_
    have ok := LF_ok hP hK _ _ hf
    have st := (hS.2.1 k o ok.1 (by omega) hf).2.2.2.2.2
    obtain ⟨⟨j, j1, j2⟩, -⟩ := hq.2.2.2.2.2 (10 * k + o) (by omega) hMf
    have hD := hd j (by omega)
    rw [j2] at hD
    unfold Done at hD
    rw [show (10 * k + o) / 10 = k by omega, show (10 * k + o) % 10 = o by omega] at hD
    obtain ⟨y1, y2, y3⟩ := hD
    obtain ⟨p1, p2, p3, p4, p5⟩ := fact_pd hP hK hf
    have bit : bt (jshl 1 (nI (pd P K k o / 20))) b = true → bt acc b = true := fun z => by
      rw [bt_bit (by omega) hb, decide_eq_true_eq] at z
      rw [z]; exact y1
    rw [st] at hbt
    rcases p5 with ⟨q0, -⟩ | ⟨q0, q1, q2, q3, q4⟩
    · rw [if_pos q0] at hbt; exact bit hbt
    · rw [if_neg q0] at hbt
      have ee := early hP hK hf q4
      have src : bt (c.1 53 (10 * fsr P K (pd P K k o / 20) (pd P K k o % 20 / 2) (pd P K k o % 2) + o)) b = true → bt acc b = true := ih _ _ ee.1 ee.2 (y2 q0) b hb
      by_cases k1 : kd K (pd P K k o / 20) = 1
      · rw [if_pos k1, b_or, Bool.or_eq_true] at hbt
        exact hbt.elim bit src
      · rw [if_neg k1, b_or, b_or, Bool.or_eq_true, Bool.or_eq_true] at hbt
        have q5 := vsl_bt (by omega) (vset_lt hP (SS_ok hP hK _) q2).2.2.2.2.2 q2
        have e5 := early hP hK hf q5
        exact hbt.elim (fun z => z.elim bit src) (ih _ _ e5.1 e5.2 (y3 (by omega)) b hb)
  have hcn := cn_le M 560
  have hm4 := hq.2.2.2.1
  obtain ⟨-, g1, -⟩ := hq.2.2.2.2.2 f0 hf0 hM
  have e : acc = c.1 53 f0 := b_ext fun b hb => by
    cases h1 : bt acc b with
    | true => exact (ha b hb h1).symm
    | false =>
      cases h2 : bt (c.1 53 f0) b with
      | false => rfl
      | true =>
        have := key (f0 / 10) (f0 % 10) g1 (by rw [show 10 * (f0 / 10) + f0 % 10 = f0 by omega]; exact hM) b hb (by rw [show 10 * (f0 / 10) + f0 % 10 = f0 by omega]; exact h2)
        rw [h1] at this; cases this
  unfold b_X10_proof_2
  dsimp only
  rw [hq.2.2.1, if_neg (fun z => by have := (n_lt (by omega) (by omega)).mp z; omega), e]
def QP (m : Wd) (f : Option Int32) (g : Option (Int32 × Wd)) : Prop := ∃ r m', f = some r ∧ g = some (r, m') ∧ MP (wsI m 0 0 0) m'
theorem MP.refl (m : Wd) : MP m m := ⟨fun _ _ _ _ => rfl, fun _ _ _ => rfl, rfl⟩
theorem q_proof (h : Base p P K c m) : QP m (f_X9_proof c 0 v u) (f_X10_proof m 0 v u) := by
  have hP := h.2.2.2.2.2.2.1
  have hK := h.2.2.2.2.2.2.2.1
  have hS := h.2.2.2.2.2.2.2.2.1
  have hn := hP.2.1
  have h30 := hK.1
  unfold QP f_X9_proof f_X10_proof
  rw [Option.bind_some, m_index h.m0]
  rcases find_cases (v := v) (u := u) h.m0 with ⟨h1, h2⟩ | ⟨s, o, hs, ho, hv, rfl, h2, h1⟩
  · rw [h1, h2]; exact ⟨-1, _, rfl, rfl, MP.refl _⟩
  · have hs56 := hs.lt hP
    rw [h1, h2, hv, Option.bind_some, Option.bind_some, Option.bind_some, m_isFact h.m0 (by omega) (by omega), Option.bind_some, if_neg (show ¬ ¬ (true = true) from fun z => z rfl)]
    cases hb : bt (SS P K (RR P K) s) o with
    | false => exact ⟨0, _, by rw [if_neg (show ¬ (false = true) by decide)]; rfl, rfl, MP.refl _⟩
    | true =>
      have hf : bt (LF P K s) o = true := hb
      rw [if_pos rfl, if_neg (n_neg (by omega)), if_neg (show ¬ ¬ (true = true) from fun z => z rfl)]
      have hm : wp (Option.bind (lp (b_X10_proof_1 0) NF ((0 : Int32), wsI m 0 0 0)) (fun r8 => Option.bind (some (wsI r8 (0) 35 ((0 : Int32)))) (fun w11 => Option.bind ((f_X10_indexOf w11 (0) (v))) (fun x12 => Option.bind ((f_X10_require w11 (0) (x12) (nI o))) (fun w13 => Option.bind (lp (b_X10_proof_2 0) NF ((0 : Int32), (0 : Int32), w13)) (fun r15 => some ((r15.1, r15.2)))))))) (fun r => r.1 = c.1 53 (10 * s + o) ∧ MP (wsI m 0 0 0) r.2) := by
        rw [wp_bind]
        refine wp_mono m_clearLoop ?_
        rintro d ⟨d1, d2, d3⟩
        rw [Option.bind_some]
        have q0 : PQ P K c (wsI m 0 0 0) (10 * s + o) (fun _ => false) (fun _ => 0) 0 (wsI d 0 35 0) := by
          refine ⟨⟨fun q y0 y1 y2 => by rw [wsI_o _ _ _ y0]; exact d1 q y2, fun j y0 y1 => by rw [wsI_s, upd_o y1, d1 0 (by omega)], d2⟩, fun f hf => by rw [wsI_o _ _ _ (by omega)]; exact d3 f hf, by rw [wsI_s, upd_s]; rfl, ?_, fun j hj => by omega, fun f _ z => by cases z⟩
          have : cn (fun _ => false) 560 = cn (fun _ => false) 0 := cn_tail (by omega) fun _ _ _ => rfl
          rw [this]; rfl
        have hb0 := h.m0.mp q0.1
        obtain ⟨w1, M1, pe1, many1, r1, r2, r3, r4, r5, r6, r7⟩ := m_require q0 hs56 (show o < 10 by omega) ⟨by rw [show (10 * s + o) / 10 = s by omega, show (10 * s + o) % 10 = o by omega]; exact hf, fun _ _ z => z⟩
        rw [m_index hb0, hv, Option.bind_some, r1, Option.bind_some, wp_bind]
        refine wp_mono (lp_inv (fun (i : Nat) (t : Int32 × Int32 × Wd) => t.2.1 = nI i ∧ ∃ M pe many, PQ P K c (wsI m 0 0 0) (10 * s + o) M pe many t.2.2 ∧ M (10 * s + o) = true ∧ i ≤ many ∧ (∀ j, j < i → Done P K t.1 M (pe j)) ∧ ∀ b, b < 32 → bt t.1 b = true → bt (c.1 53 (10 * s + o)) b = true)
          (fun t => t.1 = c.1 53 (10 * s + o) ∧ MP (wsI m 0 0 0) t.2) 560 ?_ ?_ (by decide) ⟨rfl, M1, pe1, many1, r2, r3, Nat.zero_le _, fun j hj => by omega, fun b _ z => by
            have z' : bt (0 : Int32) b = true := z
            rw [b_0] at z'; cases z'⟩) ?_
        · rintro i ⟨acc, si, w⟩ hi ⟨g1, M, pe, many, g2, g3, g3b, g4, g5⟩
          dsimp only at g1 g2 g4 g5
          subst g1
          by_cases him : i < many
          · refine wp_mono (m_entry h.m0 g2 him g4 g5) ?_
            rintro (t | t) ht
            · obtain ⟨t1, M', pe', many', t2, t3, t4, t5, t6⟩ := ht
              exact ⟨t1, M', pe', many', t2, t3 _ g3, by omega, t5, t6⟩
            · exact ht.elim
          · rw [m_finish h.m0 g2 (by omega) g3 (by omega) (by omega) g4 g5, wp_some]
            exact ⟨rfl, g2.1⟩
        · rintro ⟨acc, si, w⟩ ⟨g1, M, pe, many, g2, g3, g3b, g4, g5⟩
          dsimp only at g1 g2 g4 g5
          subst g1
          have hcn := cn_le M 560
          have hm4 := g2.2.2.2.1
          rw [m_finish h.m0 g2 (by omega) g3 (by omega) (Nat.le_refl 560) g4 g5, wp_some]
          exact ⟨rfl, g2.1⟩
        · rintro ⟨a, w⟩ ⟨y1, y2⟩
          rw [wp_some]
          exact ⟨y1, y2⟩
      obtain ⟨⟨a, m'⟩, e1, e2, e3⟩ := hm
      dsimp only at e2 e3
      subst e2
      refine ⟨c.1 53 (10 * s + o), m', ?_, ?_, e3⟩
      · show Option.bind (rdI zC c 53 (nI (10 * s + o))) _ = _
        rw [rdI_C (show 10 * s + o < 560 by omega)]; rfl
      · exact e1
end PS
