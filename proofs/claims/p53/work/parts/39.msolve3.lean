/-! The reference's whole solve, put together. -/
section MT
variable {P : PK} {K : CK} {m0 m : Wd} {r : Nat}
theorem gr_iff (hP : PWF P) (hK : CWF P K) : Gr P K r ↔ ∃ k, k < 56 ∧ SS P K (r + 1) k &&& (SS P K r k ^^^ (-1 : Int32)) ≠ 0 := by
  constructor
  · intro h
    refine Classical.byContradiction fun q => ?_
    have e : ∀ k, k < 56 → SS P K (r + 1) k = SS P K r k := fun k hk => b_ext fun o ho => by
      have hz : SS P K (r + 1) k &&& (SS P K r k ^^^ (-1 : Int32)) = 0 := Classical.byContradiction fun z => q ⟨k, hk, z⟩
      cases h1 : bt (SS P K r k) o with
      | true => exact SS_mono hP hK (Nat.le_succ r) h1
      | false =>
        cases h2 : bt (SS P K (r + 1) k) o with
        | false => rfl
        | true => rw [bt_diff.mp hz o ho h2] at h1; cases h1
    unfold Gr at h
    rw [cntT_cong e] at h
    omega
  · rintro ⟨k, hk, hz⟩
    refine Classical.byContradiction fun q => hz ?_
    rw [SS_eq_of hP hK q]
    exact bt_diff.mpr fun _ _ z => z
/-- what the reference holds of a solution -/
def SolM (P : PK) (K : CK) (m : Wd) : Prop := (∀ k, k < 56 → m.1 15 k = SS P K (RR P K) k) ∧ (∀ k o, k < 56 → o < 10 → bt (SS P K (RR P K) k) o = true → m.1 17 (10 * k + o) = nI (rd P K k o)) ∧ m.1 0 27 = nI (RR P K)
def MJ (P : PK) (K : CK) (m0 : Wd) (r : Nat) (m : Wd) : Prop := (∀ q, q ≠ 0 → q ≠ 15 → q ≠ 16 → q ≠ 17 → m.1 q = m0.1 q) ∧ (∀ j, j ≠ 27 → m.1 0 j = m0.1 0 j) ∧ m.2 = m0.2 ∧ (∀ k, k < 56 → m.1 15 k = SS P K r k) ∧ (∀ k o, k < 56 → o < 10 → bt (SS P K r k) o = true → m.1 17 (10 * k + o) = nI (rd P K k o))
theorem m_solve (hP : RPm m P) (hL : RLm m K) (hPw : PWF P) (hKw : CWF P K) : wp (f_X10_solve m 0) (fun d => SolM P K d ∧ (∀ q, q ≠ 0 → q ≠ 15 → q ≠ 16 → q ≠ 17 → d.1 q = m.1 q) ∧ (∀ j, j ≠ 27 → d.1 0 j = m.1 0 j) ∧ d.2 = m.2) := by
  obtain ⟨R1, R2, R3⟩ := RR_ok (P := P) (K := K)
  unfold f_X10_solve
  rw [wp_bind]
  refine wp_mono m_zeroLoop ?_
  rintro d0 ⟨f1, f2, f3⟩
  rw [Option.bind_some, wp_bind]
  generalize hd1 : wsI d0 0 27 0 = d1
  have o1 : ∀ q, q ≠ 0 → d1.1 q = d0.1 q := fun q hq => by rw [← hd1, wsI_o _ _ _ hq]
  have z0 : ∀ k o, ¬ bt (SS P K 0 k) o = true := fun k o q => by
    rw [show SS P K 0 k = 0 from rfl, b_0] at q
    cases q
  have J0 : MJ P K m 0 d1 := by
    refine ⟨fun q q1 q2 _ _ => by rw [o1 q q1, f1 q q2], fun j hj => ?_, by rw [← hd1]; exact f2, fun k hk => ?_, fun k o _ _ q => absurd q (z0 k o)⟩
    · rw [← hd1, wsI_s, upd_o hj, f1 0 (by omega)]
    · rw [o1 15 (by omega)]; exact f3 k hk
  have hr0 : d1.1 0 27 = nI 0 := by rw [← hd1, wsI_s, upd_s]; rfl
  refine wp_mono (lp_inv (fun i s => (i ≤ RR P K ∧ s.1 = true ∧ MJ P K m i s.2 ∧ s.2.1 0 27 = nI i) ∨ (i = RR P K + 1 ∧ s.1 = false ∧ MJ P K m (RR P K) s.2 ∧ s.2.1 0 27 = nI (RR P K)))
    (fun s => MJ P K m (RR P K) s.2 ∧ s.2.1 0 27 = nI (RR P K)) (RR P K + 1) ?_ ?_ (by unfold NF; omega) (Or.inl ⟨Nat.zero_le _, rfl, J0, hr0⟩)) ?_
  · rintro i ⟨g, w⟩ hi h
    rcases h with ⟨hi2, h1, hJ, h3⟩ | ⟨h0, -⟩
    · dsimp only at h1 hJ h3
      subst h1
      unfold b_X10_solve_2
      dsimp only
      rw [if_pos rfl, wp_bind]
      refine wp_mono m_copyLoop ?_
      rintro u ⟨u1, u2, u3⟩
      obtain ⟨j1, j2, j3, j4, j5⟩ := hJ
      have hB : ∀ k, k < 56 → u.1 16 k = SS P K i k := fun k hk => by rw [u3 k hk]; exact j4 k hk
      have S0 : MS0 P K u (SS P K i) := ⟨hP.keep fun q h0 hq => (by rw [u1 q (by omega), j1 q (by omega) (by omega) (by omega) (by omega)]), hL.keep (by rw [u1 10 (by omega), j1 10 (by omega) (by omega) (by omega) (by omega)]), hPw, hKw, SS_ok hPw hKw i, hB⟩
      have I0 : MI u (SS P K i) (exn P K (SS P K i) 0) u := ⟨fun _ _ => rfl, rfl, fun k o hk ho => by
        rw [u1 15 (by omega), j4 k hk]
        show _ = (_ || false)
        rw [Bool.or_false]⟩
      rw [wp_bind]
      refine wp_mono (m_roundLoop S0 I0) ?_
      rintro t ⟨t1, t2, t3⟩
      have hT : ∀ k, k < 56 → t.1 15 k = SS P K (i + 1) k := fun k hk => b_ext fun o ho => by rw [t3 k o hk ho, SS_bt hPw hKw]
      have hTB : ∀ k, k < 56 → t.1 16 k = SS P K i k := fun k hk => by rw [t1 16 (by omega)]; exact hB k hk
      have hfr : ∀ k, k < 56 → fre t k = SS P K (i + 1) k &&& (SS P K i k ^^^ (-1 : Int32)) := fun k hk => by unfold fre; rw [hT k hk, hTB k hk]
      rw [wp_bind]
      refine wp_mono m_freshLoop ?_
      rintro ⟨g, x⟩ ⟨hg, x1, x2, x3⟩
      dsimp only at hg x1 x2 x3
      have hgr : g = true ↔ Gr P K i := by
        rw [hg, gr_iff hPw hKw]
        exact ⟨fun ⟨k, hk, q⟩ => ⟨k, hk, by rw [← hfr k hk]; exact q⟩, fun ⟨k, hk, q⟩ => ⟨k, hk, by rw [hfr k hk]; exact q⟩⟩
      have ht27 : t.1 0 27 = nI i := by rw [t1 0 (by omega), u1 0 (by omega)]; exact h3
      have hx27 : x.1 0 27 = nI i := by rw [x1 0 (by omega)]; exact ht27
      have hJ1 : ∀ y, MJ P K m (i + 1) (wsI x 0 27 y) := fun y => by
        refine ⟨fun q q1 q2 q3 q4 => by rw [wsI_o _ _ _ q1, x1 q q4, t1 q q2, u1 q q3]; exact j1 q q1 q2 q3 q4, fun j hj => ?_, by show x.2 = _; rw [x2, t2, u2, j3], fun k hk => ?_, fun k o hk ho hs => ?_⟩
        · rw [wsI_s, upd_o hj, x1 0 (by omega), t1 0 (by omega), u1 0 (by omega)]; exact j2 j hj
        · rw [wsI_o _ _ _ (by omega), x1 15 (by omega)]; exact hT k hk
        · rw [wsI_o _ _ _ (by omega), x3 k o hk ho, hfr k hk]
          have hbt : bt (SS P K (i + 1) k &&& (SS P K i k ^^^ (-1 : Int32))) o = !bt (SS P K i k) o := by rw [b_and, bt_not (by omega), hs, Bool.true_and]
          cases hb : bt (SS P K i k) o with
          | true =>
            rw [if_neg (fun z => by have := z.2; rw [hbt, hb] at this; cases this), t1 17 (by omega), u1 17 (by omega)]
            exact j5 k o hk ho hb
          | false =>
            rw [if_pos ⟨Or.inl hk, by rw [hbt, hb]; rfl⟩, ht27, rd_new hPw hKw (by omega) hs hb]
            exact nI_1 i
      rw [Option.bind_some, wp_some]
      dsimp only
      by_cases hi3 : i = RR P K
      · have hng : g = false := by
          cases e : g with
          | false => rfl
          | true => exact absurd (hgr.mp e) (by rw [hi3]; exact R2)
        subst hng
        refine Or.inr ⟨by omega, rfl, ?_, ?_⟩
        · have := hJ1 (x.1 0 27 + 0)
          have e1 := SS_eq_of hPw hKw (show ¬ Gr P K (RR P K) from R2)
          rw [hi3] at this
          unfold MJ at this ⊢
          rw [e1] at this
          exact this
        · show (wsI x 0 27 (x.1 0 27 + 0)).1 0 27 = _
          rw [wsI_s, upd_s, hx27, ← hi3]
          exact nI_add i 0
      · have hgt : g = true := hgr.mpr (R3 i (by omega))
        subst hgt
        refine Or.inl ⟨by omega, rfl, hJ1 _, ?_⟩
        show (wsI x 0 27 (x.1 0 27 + 1)).1 0 27 = _
        rw [wsI_s, upd_s, hx27]
        exact nI_1 i
    · omega
  · rintro ⟨g, w⟩ h
    rcases h with ⟨h0, -⟩ | ⟨-, h1, hJ, h3⟩
    · omega
    · dsimp only at h1 hJ h3
      subst h1
      unfold b_X10_solve_2
      dsimp only
      rw [if_neg (fun z => Bool.false_ne_true z), wp_some]
      exact ⟨hJ, h3⟩
  · rintro ⟨g, w⟩ ⟨hJ, h3⟩
    dsimp only at hJ h3
    rw [wp_some]
    exact ⟨⟨hJ.2.2.2.1, hJ.2.2.2.2, h3⟩, hJ.1, hJ.2.1, hJ.2.2.1⟩
end MT
