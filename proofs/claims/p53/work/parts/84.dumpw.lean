/-! Writing a name: class and reference. -/
theorem jbyte_s : ∀ b, b < 128 → jbyte (jbyte (nI b)) = nI b := by decide +kernel
theorem bt_nI {n j : Nat} (hj : j < 32) : bt (nI n) j = n.testBit j := by
  show (BitVec.ofNat 32 n).getLsbD j = _
  rw [BitVec.getLsbD_ofNat, decide_eq_true hj, Bool.true_and]
theorem lb_lN {n j : Nat} (hj : j < 64) : lb (lN n) j = n.testBit j := by
  show (BitVec.ofNat 64 n).getLsbD j = _
  rw [BitVec.getLsbD_ofNat, decide_eq_true hj, Bool.true_and]
theorem and_255 (n : Nat) : nI n &&& (255 : Int32) = nI (n % 256) := by
  refine b_ext fun j hj => ?_
  rw [b_and, bt_nI hj, bt_nI hj, b_255, show (256 : Nat) = 2 ^ 8 from rfl, Nat.testBit_mod_two_pow, Bool.and_comm]
theorem shr_lN {n k : Nat} (hn : n < 2 ^ 62) (hk : k < 63) : jlshr (lN n) (nI k) = lN (n / 2 ^ k) := by
  refine l_ext fun i hi => ?_
  rw [l_sshr (by omega) _ hi, lb_lN hi, ← Nat.testBit_add]
  by_cases q : k + i < 64
  · rw [if_pos q, lb_lN q, Nat.add_comm]
  · rw [if_neg q, lb_lN (by omega), Nat.testBit_lt_two_pow (show n < 2 ^ 63 by omega), Nat.testBit_lt_two_pow (Nat.lt_of_lt_of_le hn (Nat.pow_le_pow_right (by decide) (show 62 ≤ i + k by omega)))]
/-- the dump's text so far, in the class -/
def TC (l : List Nat) (c w : Wd) : Prop := (∀ q, q ≠ 58 → q ≠ 59 → w.1 q = c.1 q) ∧ (∀ j, j ≠ 1 → w.1 58 j = c.1 58 j) ∧ w.2 = c.2 ∧ w.1 58 1 = nI l.length ∧ TXt (w.1 59) l
def TM (l : List Nat) (m w : Wd) : Prop := (∀ q, q ≠ 0 → q ≠ 23 → w.1 q = m.1 q) ∧ (∀ j, j ≠ 41 → w.1 0 j = m.1 0 j) ∧ w.2 = m.2 ∧ w.1 0 41 = nI l.length ∧ TXt (w.1 23) l
section DW
variable {c m w : Wd} {l : List Nat} {b n k : Nat} {nm : Wrd}
theorem TC.put (h : TC l c w) (hl : l.length < 1232) (hb : b < 128) : ∃ w', f_X2_writeByte w 58 (nI b) = some w' ∧ TC (l ++ [b]) c w' := by
  obtain ⟨h1, h2, h3, h4, h5⟩ := h
  unfold f_X2_writeByte
  rw [h4, if_pos (show nI l.length < (1232 : Int32) from (n_lt (b := 1232) (by omega) (by omega)).mpr hl)]
  show ∃ w', Option.bind (Option.bind (wrI zC w 59 (nI l.length) (jbyte (jbyte (nI b)))) _) _ = _ ∧ _
  rw [wrI_C (show l.length < 1232 from hl), jbyte_s b hb, Option.bind_some, Option.bind_some, Option.bind_some]
  refine ⟨_, rfl, fun q q1 q2 => by rw [wsI_o _ _ _ q1, wsI_o _ _ _ q2]; exact h1 q q1 q2, fun j hj => by rw [wsI_s, upd_o hj, wsI_o _ _ _ (by omega)]; exact h2 j hj, h3, ?_, ?_⟩
  · rw [wsI_s, upd_s, wsI_o _ _ _ (by omega), h4, List.length_append]
    exact nI_1 l.length
  · rw [wsI_o _ _ _ (by omega), wsI_s]
    exact h5.push b
theorem TM.put (h : TM l m w) (hl : l.length < 1300) : ∃ w', f_X10_write w 0 (nI b) = some w' ∧ TM (l ++ [b]) m w' := by
  obtain ⟨h1, h2, h3, h4, h5⟩ := h
  unfold f_X10_write
  rw [h4]
  show ∃ w', Option.bind (wrI zM w 23 (nI l.length) (nI b)) _ = _ ∧ _
  rw [wrI_M (show l.length < 1300 from hl), Option.bind_some, Option.bind_some]
  refine ⟨_, rfl, fun q q1 q2 => by rw [wsI_o _ _ _ q1, wsI_o _ _ _ q2]; exact h1 q q1 q2, fun j hj => by rw [wsI_s, upd_o hj, wsI_o _ _ _ (by omega)]; exact h2 j hj, h3, ?_, ?_⟩
  · rw [wsI_s, upd_s, wsI_o _ _ _ (by omega), h4, List.length_append]
    exact nI_1 l.length
  · rw [wsI_o _ _ _ (by omega), wsI_s]
    exact h5.push b
/-- the first k letters of a name -/
def nmP (nm : Wrd) (k : Nat) : List Nat := (List.range k).map nm.2
theorem nmP_len : (nmP nm k).length = k := by unfold nmP; simp
theorem nmP_s : nmP nm (k + 1) = nmP nm k ++ [nm.2 k] := by unfold nmP; rw [List.range_succ, List.map_append]; rfl
theorem c_writeName (h : TC l c w) (hn : WOK nm) (hl : l.length + 6 ≤ 1232) : ∃ w', f_X2_writeName w 58 (cN nm) = some w' ∧ TC (l ++ nmL nm) c w' := by
  suffices q : wp (f_X2_writeName w 58 (cN nm)) (TC (l ++ nmL nm) c) from q
  have h6 := hn.1
  have hc := hn.c
  unfold f_X2_writeName
  rw [wp_bind]
  refine wp_mono (lp_inv (fun i s => (i < 6 → s.1 = nI (5 - i)) ∧ (i = 6 → s.1 = -1) ∧ TC (l ++ nmP nm (i + nm.1 - 6)) c s.2) (TC (l ++ nmL nm) c) 6 ?_ ?_ (by decide) ⟨fun _ => rfl, fun z => by omega, by
    dsimp only
    rw [show 0 + nm.1 - 6 = 0 by omega, show nmP nm 0 = [] from rfl, List.append_nil]; exact h⟩) (fun r q => wp_some.mpr q)
  · rintro i ⟨a, r⟩ hi ⟨h1, h2, h3⟩
    dsimp only at h1 h2 h3
    have h1 := h1 hi
    subst h1
    unfold b_X2_writeName_1
    dsimp only
    have dig : (jlushr (cN nm) (nI (5 - i) * (8 : Int32))).toInt32 &&& (255 : Int32) = nI (if 5 - i < nm.1 then nm.2 (nm.1 - 1 - (5 - i)) else 0) := by
      show (jlushr (cN nm) (nI (5 - i) * nI 8)).toInt32 &&& (255 : Int32) = _
      rw [pk_mul, show cN nm = lN (cwd nm.2 nm.1) from rfl]
      unfold jlushr
      rw [wb_shr (by omega) (by omega), lN_i, and_255, Nat.mul_comm, Nat.pow_mul, show (2 : Nat) ^ 8 = 256 from rfl, cwd_dig hn.2]
    have next : (∀ j, i + 1 < 6 → nI (5 - i) + (-1 : Int32) = nI (5 - (i + 1)) ∨ j) ∧ True := ⟨fun j hj => Or.inl (by
      rw [show 5 - i = (5 - (i + 1)) + 1 by omega]
      have : nI (5 - (i + 1) + 1) = nI (5 - (i + 1)) + 1 := (nI_1 _).symm
      rw [this, Int32.add_assoc]
      exact Int32.add_zero _), trivial⟩
    have n1 : i + 1 < 6 → nI (5 - i) + (-1 : Int32) = nI (5 - (i + 1)) := fun z => (next.1 False z).elim id False.elim
    have n2 : i + 1 = 6 → nI (5 - i) + (-1 : Int32) = -1 := fun z => by
      have : i = 5 := by omega
      subst this; decide
    rw [if_pos (nI_pos' (by omega)), dig]
    by_cases q : 5 - i < nm.1
    · have hlt := hn.2 (nm.1 - 1 - (5 - i)) (by omega)
      rw [if_pos q, if_pos (fun z => by have := (n_eq (b := 0) (by omega) (by omega)).mp z; omega)]
      obtain ⟨w', e1, e2⟩ := h3.put (b := nm.2 (nm.1 - 1 - (5 - i))) (by rw [List.length_append, nmP_len]; omega) (by omega)
      rw [e1, Option.bind_some, Option.bind_some, wp_some]
      refine ⟨n1, n2, ?_⟩
      dsimp only
      rw [List.append_assoc, show nm.1 - 1 - (5 - i) = i + nm.1 - 6 by omega, ← nmP_s] at e2
      rw [show i + 1 + nm.1 - 6 = i + nm.1 - 6 + 1 by omega]
      exact e2
    · rw [if_neg q, if_neg (fun z => z rfl), Option.bind_some, wp_some]
      refine ⟨n1, n2, ?_⟩
      dsimp only
      rw [show i + 1 + nm.1 - 6 = i + nm.1 - 6 by omega]
      exact h3
  · rintro ⟨a, r⟩ ⟨h1, h2, h3⟩
    dsimp only at h1 h2 h3
    have h2 := h2 rfl
    subst h2
    unfold b_X2_writeName_1
    dsimp only
    rw [if_neg (by decide), wp_some]
    rw [show 6 + nm.1 - 6 = nm.1 by omega] at h3
    exact h3
theorem pos64 {d : Nat} (hd : d < 32) : (0 : Int64) < lN d ↔ 0 < d := by
  have h : ∀ d, d < 32 → ((0 : Int64) < lN d ↔ 0 < d) := by decide +kernel
  exact h d hd
theorem m_writeName (h : TM l m w) (hn : WOK nm) (hl : l.length + 6 ≤ 1300) : ∃ w', f_X10_writeName w 0 (mN nm) = some w' ∧ TM (l ++ nmL nm) m w' := by
  suffices q : wp (f_X10_writeName w 0 (mN nm)) (TM (l ++ nmL nm) m) from q
  have h6 := hn.1
  have hc := hn.m
  unfold f_X10_writeName
  rw [wp_bind]
  refine wp_mono (lp_inv (fun i s => (i < 6 → s.1 = nI (5 * (5 - i))) ∧ (i = 6 → s.1 = -5) ∧ TM (l ++ nmP nm (i + nm.1 - 6)) m s.2) (TM (l ++ nmL nm) m) 6 ?_ ?_ (by decide) ⟨fun _ => rfl, fun z => by omega, by
    dsimp only
    rw [show 0 + nm.1 - 6 = 0 by omega, show nmP nm 0 = [] from rfl, List.append_nil]; exact h⟩) (fun r q => wp_some.mpr q)
  · rintro i ⟨a, r⟩ hi ⟨h1, h2, h3⟩
    dsimp only at h1 h2 h3
    have h1 := h1 hi
    subst h1
    unfold b_X10_writeName_1
    dsimp only
    have dig : jlshr (mN nm) (nI (5 * (5 - i))) &&& (31 : Int64) = lN (if 5 - i < nm.1 then nm.2 (nm.1 - 1 - (5 - i)) - 96 else 0) := by
      rw [show mN nm = lN (mwd nm.2 nm.1) from rfl, shr_lN (by omega) (by omega), show (31 : Int64) = lN (2 ^ 5 - 1) from rfl, wb_mask (by have := Nat.div_le_self (mwd nm.2 nm.1) (2 ^ (5 * (5 - i))); omega) (by omega), Nat.pow_mul, show (2 : Nat) ^ 5 = 32 from rfl, mwd_dig hn.2]
    have n1 : i + 1 < 6 → nI (5 * (5 - i)) + (-5 : Int32) = nI (5 * (5 - (i + 1))) := fun z => by
      rw [show 5 * (5 - i) = 5 * (5 - (i + 1)) + 5 by omega]
      have : nI (5 * (5 - (i + 1)) + 5) = nI (5 * (5 - (i + 1))) + nI 5 := (nI_add _ _).symm
      rw [this, Int32.add_assoc]
      exact Int32.add_zero _
    have n2 : i + 1 = 6 → nI (5 * (5 - i)) + (-5 : Int32) = -5 := fun z => by
      have : i = 5 := by omega
      subst this; decide
    rw [if_pos (nI_pos' (by omega)), dig]
    by_cases q : 5 - i < nm.1
    · have hlt := hn.2 (nm.1 - 1 - (5 - i)) (by omega)
      rw [if_pos q, if_pos ((pos64 (by omega)).mpr (by omega)), lN_i]
      obtain ⟨w', e1, e2⟩ := h3.put (b := nm.2 (nm.1 - 1 - (5 - i))) (by rw [List.length_append, nmP_len]; omega)
      rw [show (96 : Int32) + nI (nm.2 (nm.1 - 1 - (5 - i)) - 96) = nI (nm.2 (nm.1 - 1 - (5 - i))) from (nI_add 96 _).trans (congrArg nI (by omega)), e1, Option.bind_some, Option.bind_some, wp_some]
      refine ⟨n1, n2, ?_⟩
      dsimp only
      rw [List.append_assoc, show nm.1 - 1 - (5 - i) = i + nm.1 - 6 by omega, ← nmP_s] at e2
      rw [show i + 1 + nm.1 - 6 = i + nm.1 - 6 + 1 by omega]
      exact e2
    · rw [if_neg q, if_neg (fun z => by have := (pos64 (by omega)).mp z; omega), Option.bind_some, wp_some]
      refine ⟨n1, n2, ?_⟩
      dsimp only
      rw [show i + 1 + nm.1 - 6 = i + nm.1 - 6 by omega]
      exact h3
  · rintro ⟨a, r⟩ ⟨h1, h2, h3⟩
    dsimp only at h1 h2 h3
    have h2 := h2 rfl
    subst h2
    unfold b_X10_writeName_1
    dsimp only
    rw [if_neg (by decide), wp_some]
    rw [show 6 + nm.1 - 6 = nm.1 by omega] at h3
    exact h3
end DW
