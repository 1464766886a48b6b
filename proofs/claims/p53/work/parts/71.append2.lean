/-! A word appended to the buffer, by class and reference. -/
def bW (v : Int32) (i : Nat) : Int32 := jbyte (jbyte (jushr v (nI (24 - 8 * i))))
theorem bW_m {v : Int32} {i : Nat} : jbyte (jbyte (jshr v (nI (24 - 8 * i)))) = bW v i := by
  unfold bW
  rw [byte_shift (show 24 - 8 * i ≤ 24 by omega)]
def sW (i : Nat) : Int32 := if i < 4 then nI (24 - 8 * i) else -8
theorem sW_ok : ∀ i, i < 4 → (0 : Int32) ≤ sW i ∧ sW i + (-8 : Int32) = sW (i + 1) ∧ sW i = nI (24 - 8 * i) := by decide
def App (f g : Nat → Int32) (v : Int32) (L n : Nat) : Prop := ∀ j, g j = if L ≤ j ∧ j < L + n then bW v (j - L) else f j
theorem App.step {f g : Nat → Int32} {v : Int32} {L n : Nat} (h : App f g v L n) : App f (upd g (L + n) (bW v n)) v L (n + 1) := fun j => by
  by_cases e : j = L + n
  · subst e
    rw [upd_s, if_pos ⟨by omega, by omega⟩, Nat.add_sub_cancel_left]
  · rw [upd_o e, h j]
    by_cases q : L ≤ j ∧ j < L + n
    · rw [if_pos q, if_pos ⟨q.1, by omega⟩]
    · rw [if_neg q, if_neg (fun z => q ⟨z.1, by omega⟩)]
section AW
variable {c m : Wd} {v : Int32} {L : Nat}
theorem c_word (hL : c.1 1 1 = nI L) (hn : L + 4 ≤ 600) : wp (f_X5_appendWord c 1 v) (fun d => d.1 1 1 = nI (L + 4) ∧ App (c.1 2) (d.1 2) v L 4 ∧ (∀ q, q ≠ 1 → q ≠ 2 → d.1 q = c.1 q) ∧ (∀ j, j ≠ 1 → d.1 1 j = c.1 1 j) ∧ d.2 = c.2) := by
  unfold f_X5_appendWord
  rw [wp_bind]
  refine wp_mono (lp_inv (fun i s => s.1 = sW i ∧ s.2.1 1 1 = nI (L + i) ∧ App (c.1 2) (s.2.1 2) v L i ∧ (∀ q, q ≠ 1 → q ≠ 2 → s.2.1 q = c.1 q) ∧ (∀ j, j ≠ 1 → s.2.1 1 j = c.1 1 j) ∧ s.2.2 = c.2) (fun d => d.1 1 1 = nI (L + 4) ∧ App (c.1 2) (d.1 2) v L 4 ∧ (∀ q, q ≠ 1 → q ≠ 2 → d.1 q = c.1 q) ∧ (∀ j, j ≠ 1 → d.1 1 j = c.1 1 j) ∧ d.2 = c.2) 4 ?_ ?_ (by decide) ⟨rfl, hL, fun j => (if_neg (by omega)).symm, fun _ _ _ => rfl, fun _ _ => rfl, rfl⟩) (fun d q => wp_some.mpr q)
  · rintro i ⟨s, w⟩ hi ⟨h1, h2, h3, h4, h5, h6⟩
    dsimp only at h1 h2 h3 h4 h5 h6
    obtain ⟨a1, a2, a3⟩ := sW_ok i hi
    subst h1
    unfold b_X5_appendWord_1
    dsimp only
    rw [if_pos a1, h2, if_pos (show nI (L + i) < (600 : Int32) from (n_lt (b := 600) (by omega) (by omega)).mpr (by omega))]
    show wp (Option.bind (Option.bind (wrI zC w 2 (nI (L + i)) _) _) _) _
    rw [wrI_C (show L + i < 600 by omega), Option.bind_some, Option.bind_some, Option.bind_some, wp_some]
    refine ⟨a2, ?_, ?_, fun q q1 q2 => ?_, fun j hj => ?_, h6⟩
    · dsimp only
      rw [wsI_s, upd_s, wsI_o _ _ _ (by omega), h2]; exact nI_1 _
    · dsimp only
      rw [wsI_o _ _ _ (by omega), wsI_s, a3]
      exact h3.step
    · dsimp only
      rw [wsI_o _ _ _ q1, wsI_o _ _ _ q2]; exact h4 q q1 q2
    · dsimp only
      rw [wsI_s, upd_o hj, wsI_o _ _ _ (by omega)]; exact h5 j hj
  · rintro ⟨s, w⟩ ⟨h1, h2⟩
    dsimp only at h1 h2
    subst h1
    unfold b_X5_appendWord_1
    dsimp only
    rw [if_neg (show ¬ (0 : Int32) ≤ sW 4 by decide), wp_some]
    exact h2
theorem m_word (hL : m.1 0 2 = nI L) (hn : L + 4 ≤ 600) : wp (f_X10_appendInt m 0 v) (fun d => d.1 0 2 = nI (L + 4) ∧ App (m.1 1) (d.1 1) v L 4 ∧ (∀ q, q ≠ 0 → q ≠ 1 → d.1 q = m.1 q) ∧ (∀ j, j ≠ 2 → d.1 0 j = m.1 0 j) ∧ d.2 = m.2) := by
  unfold f_X10_appendInt
  rw [wp_bind]
  refine wp_mono (lp_inv (fun i s => s.1 = sW i ∧ s.2.1 0 2 = nI (L + i) ∧ App (m.1 1) (s.2.1 1) v L i ∧ (∀ q, q ≠ 0 → q ≠ 1 → s.2.1 q = m.1 q) ∧ (∀ j, j ≠ 2 → s.2.1 0 j = m.1 0 j) ∧ s.2.2 = m.2) (fun d => d.1 0 2 = nI (L + 4) ∧ App (m.1 1) (d.1 1) v L 4 ∧ (∀ q, q ≠ 0 → q ≠ 1 → d.1 q = m.1 q) ∧ (∀ j, j ≠ 2 → d.1 0 j = m.1 0 j) ∧ d.2 = m.2) 4 ?_ ?_ (by decide) ⟨rfl, hL, fun j => (if_neg (by omega)).symm, fun _ _ _ => rfl, fun _ _ => rfl, rfl⟩) (fun d q => wp_some.mpr q)
  · rintro i ⟨s, w⟩ hi ⟨h1, h2, h3, h4, h5, h6⟩
    dsimp only at h1 h2 h3 h4 h5 h6
    obtain ⟨a1, a2, a3⟩ := sW_ok i hi
    subst h1
    unfold b_X10_appendInt_1
    dsimp only
    rw [if_pos a1, h2]
    show wp (Option.bind (wrI zM w 1 (nI (L + i)) _) _) _
    rw [wrI_M (show L + i < 600 by omega), Option.bind_some, Option.bind_some, wp_some]
    refine ⟨a2, ?_, ?_, fun q q1 q2 => ?_, fun j hj => ?_, h6⟩
    · dsimp only
      rw [wsI_s, upd_s, wsI_o _ _ _ (by omega), h2]; exact nI_1 _
    · dsimp only
      rw [wsI_o _ _ _ (by omega), wsI_s, a3, bW_m]
      exact h3.step
    · dsimp only
      rw [wsI_o _ _ _ q1, wsI_o _ _ _ q2]; exact h4 q q1 q2
    · dsimp only
      rw [wsI_s, upd_o hj, wsI_o _ _ _ (by omega)]; exact h5 j hj
  · rintro ⟨s, w⟩ ⟨h1, h2⟩
    dsimp only at h1 h2
    subst h1
    unfold b_X10_appendInt_1
    dsimp only
    rw [if_neg (show ¬ (0 : Int32) ≤ sW 4 by decide), wp_some]
    exact h2
end AW
