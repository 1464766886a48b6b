-- deps: 9b 18
/-! The worlds of a fresh solver and a fresh model stand in the whole relation. -/
def P0 : PK := (0, 0, 0, 0, fun _ => 0, fun _ => 0)
def K0 : CK := (0, 0, fun _ => 0, fun _ => 0, fun _ => 0, fun _ => 0)
theorem mkI_0 {p : Nat → Bool} (h : ∀ i, p i = false) : ∀ n, mkI p n = 0
  | 0 => rfl
  | n + 1 => by
    rw [mkI, mkI_0 h n, if_neg (by rw [h n]; decide)]
    rfl
theorem cn_z {p : Nat → Bool} (h : ∀ i, p i = false) : ∀ n, cn p n = 0
  | 0 => rfl
  | n + 1 => by rw [cn, cn_z h n, if_neg (by rw [h n]; decide)]
theorem SS_0 : ∀ r, SS P0 K0 r = fun _ => 0
  | 0 => rfl
  | r + 1 => by
    funext k
    show mkI (fun o => bt (SS P0 K0 r k) o || exn P0 K0 (SS P0 K0 r) 600 k o) 10 = 0
    refine mkI_0 (fun o => ?_) 10
    rw [SS_0 r, b_0, Bool.false_or]
    cases h : exn P0 K0 (fun _ => 0) 600 k o with
    | false => rfl
    | true =>
      obtain ⟨i, -, h2⟩ := exb_iff.mp h
      unfold dvn at h2
      rw [decide_eq_false (show ¬ i / 20 < nc K0 from Nat.not_lt_zero _), Bool.false_and, Bool.false_and] at h2
      cases h2
theorem cntT_0 : cntT (fun _ => 0) = 0 := cn_z (fun i => b_0 _) 560
theorem RR_0 : RR P0 K0 = 0 := by
  have h0 : grb P0 K0 0 = true := by
    rw [grb_iff]
    unfold Gr
    rw [SS_0, SS_0]
    exact Nat.lt_irrefl _
  obtain ⟨h1, h2, h3⟩ := fstb_ok (p := grb P0 K0) (n := 561) (exb_iff.mpr ⟨0, by omega, h0⟩)
  unfold RR
  rcases Nat.eq_zero_or_pos (fstb (grb P0 K0) 561) with h | h
  · exact h
  · rw [h3 0 h] at h0; cases h0
theorem start_w : ∃ w1, f_X10_solve wM0 0 = some w1 ∧ RW wC0 w1 := by
  have hPw : PWF P0 := ⟨by decide, by decide, by decide, fun o h => (by rw [show fs P0 = 0 from rfl, b_0] at h; cases h)⟩
  have hKw : CWF P0 K0 := ⟨by decide, fun i h => (by rw [show en K0 = 0 from rfl, b_0] at h; cases h), fun i h => absurd h (Nat.not_lt_zero _)⟩
  have hP : RPm wM0 P0 := ⟨rfl, rfl, rfl, fun o h => absurd h (Nat.not_lt_zero _)⟩
  have hL : RLm wM0 K0 := ⟨rfl, rfl, fun i h => absurd h (Nat.not_lt_zero _)⟩
  obtain ⟨w1, e1, hS, f1, f2, f3⟩ := m_solve hP hL hPw hKw
  refine ⟨w1, e1, 4, P0, K0, fun _ => default, fun _ => default, ?_⟩
  have g : ∀ q, q ≠ 0 → q ≠ 15 → q ≠ 16 → q ≠ 17 → w1.1 q = fun _ => 0 := fun q a b c d => f1 q a b c d
  have g0 : ∀ j, j ≠ 27 → w1.1 0 j = 0 := fun j h => f2 j h
  have hP1 : RPm w1 P0 := ⟨by rw [g 2 (by decide) (by decide) (by decide) (by decide)]; rfl, by rw [g 3 (by decide) (by decide) (by decide) (by decide)]; rfl, by rw [g 4 (by decide) (by decide) (by decide) (by decide)]; rfl, fun o h => absurd h (Nat.not_lt_zero _)⟩
  have hL1 : RLm w1 K0 := ⟨by rw [g 10 (by decide) (by decide) (by decide) (by decide)]; rfl, by rw [g 10 (by decide) (by decide) (by decide) (by decide)]; rfl, fun i h => absurd h (Nat.not_lt_zero _)⟩
  have hb : ∀ k o, bt (SS P0 K0 (RR P0 K0) k) o = true → False := fun k o h => by
    rw [SS_0] at h
    have h' : bt 0 o = true := h
    rw [b_0] at h'; cases h'
  have hz : ∀ k, k < 56 → wC0.1 46 k = SS P0 K0 (RR P0 K0) k := fun k _ => by rw [SS_0]; rfl
  have hf : ∀ j, bt (wC0.1 45 4) j = true → False := fun j h => by
    have h' : bt 0 j = true := h
    rw [b_0] at h'
    cases h'
  have hSC : SolC P0 K0 wC0 := ⟨hz, fun k o _ _ h => (hb k o h).elim, by rw [SS_0, cntT_0]; rfl, by rw [RR_0]; rfl, fun j _ => ⟨fun h => (hf j h).elim, fun ⟨k, o, _, _, h, _⟩ => (hb k o h).elim⟩⟩
  refine ⟨⟨⟨Or.inl rfl, rfl, ⟨rfl, rfl, rfl, rfl, fun o h => ?_⟩, ⟨rfl, rfl, fun i h => absurd h (Nat.not_lt_zero _)⟩, hP1, hL1, hPw, hKw, hSC, hS⟩, HistR.clear rfl rfl (g0 21 (by decide))⟩, fun s hs => Or.inr ⟨?_, ?_⟩, ⟨0, by omega, rfl, g0 2 (by decide), fun j h => absurd h (Nat.not_lt_zero _)⟩, ⟨fun v h => absurd h (Nat.not_lt_zero _), fun v h => absurd h (Nat.not_lt_zero _)⟩, ⟨fun v h => absurd h (Nat.not_lt_zero _), fun v h => absurd h (Nat.not_lt_zero _)⟩, Or.inl rfl, Or.inl rfl, ⟨rfl, rfl, rfl⟩, ⟨rfl, rfl, rfl⟩, rfl⟩
  · rw [show fs P0 = 0 from rfl, b_0] at h; cases h
  · exact b_0 s
  · rw [g 14 (by decide) (by decide) (by decide) (by decide)]; rfl
