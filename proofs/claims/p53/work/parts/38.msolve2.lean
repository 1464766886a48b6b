/-! The reference's whole solve. -/
section MS
variable {P : PK} {K : CK} {B : Nat → Int32} {m0 m : Wd}
theorem m_roundLoop (h0 : MS0 P K m0 B) (h : MI m0 B (exn P K B 0) m) : wp (lp (b_X10_solve_4 0) NF ((0 : Int32), m)) (MI m0 B (exn P K B 600)) := by
  have h0' := h0
  obtain ⟨hP, hL, hPw, hKw, hB, h16⟩ := h0
  have hn := hKw.1
  have rl : ∀ {E : Nat → Nat → Bool} {w : Wd}, MI m0 B E w → RLm w K := fun x => hL.keep (x.1 10 (by omega))
  refine lp_inv (fun i s => s.1 = nI i ∧ MI m0 B (exn P K B (20 * i)) s.2) (MI m0 B (exn P K B 600)) (nc K) ?_ ?_ (by unfold NF; omega) ⟨rfl, h⟩
  · rintro i ⟨si, w⟩ hi ⟨rfl, hI⟩
    dsimp only at hI
    unfold b_X10_solve_4
    dsimp only
    rw [m_count (rl hI), Option.bind_some, if_pos ((n_lt (by omega) (by omega)).mpr hi), m_isEnabled (rl hI) (by omega), Option.bind_some]
    cases he : bt (en K) i with
    | false =>
      rw [if_neg (by decide), Option.bind_some, wp_some]
      exact ⟨nI_1 i, hI.cong fun a b _ _ => exb_same (by omega) fun n h1 h2 => dvn_off h1 h2 he⟩
    | true =>
      rw [if_pos rfl, wp_bind, wp_bind]
      exact wp_mono (m_apply h0' hi he hI) (fun d hd => wp_some.mpr (wp_some.mpr ⟨nI_1 i, hd⟩))
  · rintro ⟨si, w⟩ ⟨rfl, hI⟩
    dsimp only at hI
    unfold b_X10_solve_4
    dsimp only
    rw [m_count (rl hI), Option.bind_some, if_neg (fun z => Nat.lt_irrefl _ ((n_lt (by omega) (by omega)).mp z)), wp_some]
    exact hI.cong fun a b _ _ => exb_same (by omega) fun n h1 h2 => dvn_far h1
theorem m_copyLoop : wp (lp (b_X10_solve_3 0) NF ((0 : Int32), m)) (fun d => (∀ q, q ≠ 16 → d.1 q = m.1 q) ∧ d.2 = m.2 ∧ ∀ k, k < 56 → d.1 16 k = m.1 15 k) := by
  refine lp_inv (fun i s => s.1 = nI i ∧ (∀ q, q ≠ 16 → s.2.1 q = m.1 q) ∧ s.2.2 = m.2 ∧ ∀ k, k < i → s.2.1 16 k = m.1 15 k) _ 56 ?_ ?_ (by decide) ⟨rfl, fun _ _ => rfl, rfl, fun k h => by omega⟩
  · rintro i ⟨si, w⟩ hi ⟨rfl, a, b, c⟩
    dsimp only at a b c
    unfold b_X10_solve_3
    dsimp only
    rw [if_pos (show nI i < (56 : Int32) from (n_lt (b := 56) (by omega) (by omega)).mpr hi)]
    show wp (Option.bind (rdI zM w 15 (nI i)) fun x => Option.bind (wrI zM w 16 (nI i) x) _) _
    rw [rdI_M (show i < 56 from hi), Option.bind_some, wrI_M (show i < 56 from hi), Option.bind_some, wp_some]
    refine ⟨nI_1 i, fun q hq => ?_, b, fun k hk => ?_⟩
    · dsimp only
      rw [wsI_o _ _ _ hq]; exact a q hq
    · dsimp only
      rw [wsI_s]
      by_cases e : k = i
      · subst e; rw [upd_s, a 15 (by omega)]
      · rw [upd_o e]; exact c k (by omega)
  · rintro ⟨si, w⟩ ⟨rfl, a, b, c⟩
    dsimp only at a b c
    unfold b_X10_solve_3
    dsimp only
    rw [if_neg (show ¬ nI 56 < (56 : Int32) by decide), wp_some]
    exact ⟨a, b, c⟩
theorem m_zeroLoop : wp (lp (b_X10_solve_1 0) NF ((0 : Int32), m)) (fun d => (∀ q, q ≠ 15 → d.1 q = m.1 q) ∧ d.2 = m.2 ∧ ∀ k, k < 56 → d.1 15 k = 0) := by
  refine lp_inv (fun i s => s.1 = nI i ∧ (∀ q, q ≠ 15 → s.2.1 q = m.1 q) ∧ s.2.2 = m.2 ∧ ∀ k, k < i → s.2.1 15 k = 0) _ 56 ?_ ?_ (by decide) ⟨rfl, fun _ _ => rfl, rfl, fun k h => by omega⟩
  · rintro i ⟨si, w⟩ hi ⟨rfl, a, b, c⟩
    dsimp only at a b c
    unfold b_X10_solve_1
    dsimp only
    rw [if_pos (show nI i < (56 : Int32) from (n_lt (b := 56) (by omega) (by omega)).mpr hi)]
    show wp (Option.bind (wrI zM w 15 (nI i) 0) _) _
    rw [wrI_M (show i < 56 from hi), Option.bind_some, wp_some]
    refine ⟨nI_1 i, fun q hq => ?_, b, fun k hk => ?_⟩
    · dsimp only
      rw [wsI_o _ _ _ hq]; exact a q hq
    · dsimp only
      rw [wsI_s]
      by_cases e : k = i
      · subst e; rw [upd_s]
      · rw [upd_o e]; exact c k (by omega)
  · rintro ⟨si, w⟩ ⟨rfl, a, b, c⟩
    dsimp only at a b c
    unfold b_X10_solve_1
    dsimp only
    rw [if_neg (show ¬ nI 56 < (56 : Int32) by decide), wp_some]
    exact ⟨a, b, c⟩
/-- what is new at a slot -/
def fre (m : Wd) (k : Nat) : Int32 := m.1 15 k &&& (m.1 16 k ^^^ (-1 : Int32))
def FI (m0 : Wd) (i j : Nat) (m : Wd) : Prop := (∀ q, q ≠ 17 → m.1 q = m0.1 q) ∧ m.2 = m0.2 ∧ ∀ k o, k < 56 → o < 10 → m.1 17 (10 * k + o) = if (k < i ∨ (k = i ∧ o < j)) ∧ bt (fre m0 k) o = true then m0.1 0 27 + 1 else m0.1 17 (10 * k + o)
theorem m_freshLoop : wp (lp (b_X10_solve_5 0) NF (false, (0 : Int32), m)) (fun d => (d.1 = true ↔ ∃ k, k < 56 ∧ fre m k ≠ 0) ∧ FI m 56 0 d.2) := by
  refine lp_inv (fun i s => s.2.1 = nI i ∧ (s.1 = true ↔ ∃ k, k < i ∧ fre m k ≠ 0) ∧ FI m i 0 s.2.2) _ 56 ?_ ?_ (by decide) ⟨rfl, ⟨fun z => (by cases z), fun ⟨k, h, _⟩ => (by omega)⟩, ⟨fun _ _ => rfl, rfl, fun k o _ _ => (by rw [if_neg (by omega)])⟩⟩
  · rintro i ⟨g, si, w⟩ hi ⟨h1, hg, hI⟩
    dsimp only at h1 hg hI
    subst h1
    unfold b_X10_solve_5
    dsimp only
    rw [if_pos (show nI i < (56 : Int32) from (n_lt (b := 56) (by omega) (by omega)).mpr hi)]
    show wp (Option.bind (rdI zM w 15 (nI i)) fun x => Option.bind (rdI zM w 16 (nI i)) _) _
    rw [rdI_M (show i < 56 from hi), Option.bind_some, rdI_M (show i < 56 from hi), Option.bind_some, hI.1 15 (by omega), hI.1 16 (by omega), wp_ite]
    refine ⟨fun hz => ?_, fun hz => ?_⟩
    · rw [wp_some]
      refine ⟨nI_1 i, ?_, hI.1, hI.2.1, fun k o hk ho => ?_⟩
      · dsimp only
        rw [hg]
        constructor
        · rintro ⟨k, h, q⟩; exact ⟨k, by omega, q⟩
        · rintro ⟨k, h, q⟩
          by_cases e : k = i
          · subst e; exact absurd hz q
          · exact ⟨k, by omega, q⟩
      · dsimp only
        rw [hI.2.2 k o hk ho]
        by_cases e : k = i
        · subst e
          have : bt (fre m k) o = false := by rw [show fre m k = 0 from hz, b_0]
          rw [this, if_neg (fun z => by cases z.2), if_neg (fun z => by cases z.2)]
        · by_cases e2 : k < i
          · by_cases e3 : bt (fre m k) o = true
            · rw [if_pos ⟨Or.inl e2, e3⟩, if_pos ⟨Or.inl (by omega), e3⟩]
            · rw [if_neg (fun z => e3 z.2), if_neg (fun z => e3 z.2)]
          · rw [if_neg (by omega), if_neg (by omega)]
    · rw [wp_bind]
      refine wp_mono (lp_inv (fun j s => s.1 = nI j ∧ FI m i j s.2) (FI m i 10) 10 ?_ ?_ (by decide) ⟨rfl, hI⟩) ?_
      · rintro j ⟨sj, u⟩ hj ⟨rfl, hJ⟩
        dsimp only at hJ
        unfold b_X10_solve_6
        dsimp only
        rw [if_pos (show nI j < (10 : Int32) from (n_lt (b := 10) (by omega) (by omega)).mpr hj), has_bt (by omega)]
        cases hb : bt (m.1 15 i &&& (m.1 16 i ^^^ (-1 : Int32))) j with
        | false =>
          rw [if_neg (by decide), Option.bind_some, wp_some]
          refine ⟨nI_1 j, hJ.1, hJ.2.1, fun k o hk ho => ?_⟩
          dsimp only
          rw [hJ.2.2 k o hk ho]
          by_cases e3 : bt (fre m k) o = true
          · by_cases e : k < i ∨ (k = i ∧ o < j)
            · rw [if_pos ⟨e, e3⟩, if_pos ⟨by omega, e3⟩]
            · rw [if_neg (fun z => e z.1), if_neg]
              rintro ⟨z, -⟩
              have : k = i ∧ o = j := by omega
              obtain ⟨rfl, rfl⟩ := this
              have : bt (fre m k) o = false := hb
              rw [this] at e3; cases e3
          · rw [if_neg (fun z => e3 z.2), if_neg (fun z => e3 z.2)]
        | true =>
          rw [if_pos rfl]
          show wp (Option.bind (Option.bind (wrI zM u 17 (nI 10 * nI i + nI j) _) _) _) _
          rw [pk_mul, nI_add, wrI_M (show 10 * i + j < 560 by omega), Option.bind_some, Option.bind_some, wp_some]
          refine ⟨nI_1 j, fun q hq => ?_, hJ.2.1, fun k o hk ho => ?_⟩
          · dsimp only
            rw [wsI_o _ _ _ hq]; exact hJ.1 q hq
          · dsimp only
            rw [wsI_s]
            by_cases e : k = i ∧ o = j
            · obtain ⟨rfl, rfl⟩ := e
              rw [upd_s, if_pos ⟨Or.inr ⟨rfl, by omega⟩, hb⟩, hJ.1 0 (by omega)]
            · rw [upd_o (by omega), hJ.2.2 k o hk ho]
              by_cases e3 : bt (fre m k) o = true
              · by_cases e : k < i ∨ (k = i ∧ o < j)
                · rw [if_pos ⟨e, e3⟩, if_pos ⟨by omega, e3⟩]
                · rw [if_neg (fun z => e z.1), if_neg (fun z => by have := z.1; omega)]
              · rw [if_neg (fun z => e3 z.2), if_neg (fun z => e3 z.2)]
      · rintro ⟨sj, u⟩ ⟨rfl, hJ⟩
        dsimp only at hJ
        unfold b_X10_solve_6
        dsimp only
        rw [if_neg (show ¬ nI 10 < (10 : Int32) by decide), wp_some]
        exact hJ
      · intro u hJ
        rw [wp_some]
        refine ⟨nI_1 i, ?_, hJ.1, hJ.2.1, fun k o hk ho => ?_⟩
        · dsimp only
          exact ⟨fun _ => ⟨i, by omega, hz⟩, fun _ => rfl⟩
        · dsimp only
          rw [hJ.2.2 k o hk ho]
          by_cases e3 : bt (fre m k) o = true
          · by_cases e : k < i + 1
            · rw [if_pos ⟨by omega, e3⟩, if_pos ⟨Or.inl e, e3⟩]
            · rw [if_neg (by omega), if_neg (by omega)]
          · rw [if_neg (fun z => e3 z.2), if_neg (fun z => e3 z.2)]
  · rintro ⟨g, si, w⟩ ⟨h1, hg, hI⟩
    dsimp only at h1 hg hI
    subst h1
    unfold b_X10_solve_5
    dsimp only
    rw [if_neg (show ¬ nI 56 < (56 : Int32) by decide), wp_some]
    exact ⟨hg, hI⟩
end MS
