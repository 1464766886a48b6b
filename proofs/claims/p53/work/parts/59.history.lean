/-! The history: the class keeps changes in a ring, the reference whole states. -/
def RLb (f : Nat → Int32) (off : Nat) (K : CK) : Prop := f off = nI (nc K) ∧ f (off + 1) = en K ∧ ∀ i, i < nc K → f (off + (2 + 4 * i)) = nI (kd K i) ∧ f (off + (3 + 4 * i)) = nI (ka K i) ∧ f (off + (4 + 4 * i)) = nI (kb K i) ∧ f (off + (5 + 4 * i)) = thI (kd K i) (kc K i)
theorem RLb.copy {f g : Nat → Int32} {a b : Nat} {K : CK} (h : RLb f a K) (hn : nc K ≤ 30) (e : ∀ x, x < 122 → g (b + x) = f (a + x)) : RLb g b K := by
  obtain ⟨h1, h2, h3⟩ := h
  refine ⟨(e 0 (by omega)).trans h1, (e 1 (by omega)).trans h2, fun i hi => ?_⟩
  rw [e _ (by omega), e _ (by omega), e _ (by omega), e _ (by omega)]
  exact h3 i hi
theorem RLm_b {m : Wd} {K : CK} : RLm m K ↔ RLb (m.1 10) 0 K := by
  unfold RLm RLb
  simp only [Nat.zero_add]
def Rows (K K' : CK) (n : Nat) : Prop := ∀ i, i < n → kd K' i = kd K i ∧ ka K' i = ka K i ∧ kb K' i = kb K i ∧ kc K' i = kc K i
/-- a change of the list: -1 an addition, i the toggling of constraint i -/
def ChangeTo (K : CK) (ch : Int32) (K' : CK) : Prop := (ch = -1 ∧ nc K' = nc K + 1 ∧ en K' = en K ||| jshl 1 (nI (nc K)) ∧ Rows K K' (nc K)) ∨ (∃ i, i < nc K ∧ ch = nI i ∧ nc K' = nc K ∧ en K' = en K ^^^ jshl 1 (nI i) ∧ Rows K K' (nc K))
/-- d states hs 0 .. hs (d - 1) behind the one that holds, hs d -/
def HR (P : PK) (K : CK) (f32 f33 m12 : Nat → Int32) (m21 : Int32) (d nx : Nat) (hs : Nat → CK) (ch : Nat → Int32) : Prop := d ≤ 12 ∧ nx < 12 ∧ f32 1 = nI nx ∧ f32 2 = nI d ∧ m21 = nI d ∧ hs d = K ∧
  ∀ j, j < d → CWF P (hs j) ∧ RLb m12 (122 * j) (hs j) ∧ ChangeTo (hs j) (ch j) (hs (j + 1)) ∧ f33 ((nx + 12 - (d - j)) % 12) = ch j
def HistR (P : PK) (K : CK) (f32 f33 m12 : Nat → Int32) (m21 : Int32) : Prop := ∃ d nx hs ch, HR P K f32 f33 m12 m21 d nx hs ch
section HI
variable {P : PK} {K K' : CK} {c m w : Wd} {d nx j x i : Nat} {hs : Nat → CK} {ch : Nat → Int32} {v y : Int32}
theorem n_rem12 {a : Nat} (ha : a < 2 ^ 31) : jrem (nI a) 12 = nI (a % 12) := pk_rem (d := 12) ha (by omega) (by omega)
theorem c_push (h1 : c.1 32 1 = nI nx) (h2 : c.1 32 2 = nI d) (hn : nx < 12) (hd : d ≤ 12) : ∃ c', f_X3_push c 32 y = some c' ∧ (∀ q, q ≠ 32 → q ≠ 33 → c'.1 q = c.1 q) ∧ c'.2 = c.2 ∧ c'.1 33 = upd (c.1 33) nx y ∧ c'.1 32 1 = nI ((nx + 1) % 12) ∧ c'.1 32 2 = nI (if d = 12 then 12 else d + 1) := by
  unfold f_X3_push
  show ∃ c', Option.bind (wrI zC c 33 (c.1 32 1) y) _ = _ ∧ _
  rw [h1, wrI_C (show nx < 12 from hn), Option.bind_some, wsI_o _ _ _ (by omega), h1, Option.bind_some, Option.bind_some]
  refine ⟨_, rfl, fun q q1 q2 => by rw [wsI_o _ _ _ q1, wsI_o _ _ _ q1, wsI_o _ _ _ q2], rfl, by rw [wsI_o _ _ _ (by omega), wsI_o _ _ _ (by omega), wsI_s], ?_, ?_⟩
  · rw [wsI_s, upd_o (by omega), wsI_s, upd_s, nI_1, n_rem12 (by omega)]
  · rw [wsI_s, upd_s, wsI_s, upd_o (by omega), wsI_o _ _ _ (by omega), h2, nI_1]
    by_cases e : d = 12
    · rw [e, if_pos (show (12 : Int32) < nI (12 + 1) by decide), if_pos rfl]; rfl
    · rw [if_neg (show ¬ (12 : Int32) < nI (d + 1) from fun z => by have := (n_lt (a := 12) (by omega) (by omega)).mp z; omega), if_neg e]
theorem c_pop (h1 : c.1 32 1 = nI nx) (h2 : c.1 32 2 = nI d) (hn : nx < 12) (hd : 0 < d) (hd2 : d ≤ 12) : ∃ c', f_X3_pop c 32 = some (c.1 33 ((nx + 11) % 12), c') ∧ (∀ q, q ≠ 32 → c'.1 q = c.1 q) ∧ c'.2 = c.2 ∧ c'.1 32 1 = nI ((nx + 11) % 12) ∧ c'.1 32 2 = nI (d - 1) := by
  have e1 : jrem ((nI nx + (12 : Int32)) - 1) 12 = nI ((nx + 11) % 12) := by
    show jrem ((nI nx + nI 12) - nI 1) 12 = _
    rw [nI_add, pk_sub (by omega), n_rem12 (by omega)]; rfl
  unfold f_X3_pop
  rw [h1, e1, Option.bind_some, Option.bind_some]
  show ∃ c', Option.bind (rdI zC _ 33 _) _ = _ ∧ _
  generalize hw : wsI (wsI c 32 1 (nI ((nx + 11) % 12))) 32 2 ((wsI c 32 1 (nI ((nx + 11) % 12))).1 32 2 - 1) = w2
  have k1 : ∀ q, q ≠ 32 → w2.1 q = c.1 q := fun q hq => by rw [← hw, wsI_o _ _ _ hq, wsI_o _ _ _ hq]
  have k2 : w2.1 32 1 = nI ((nx + 11) % 12) := by rw [← hw, wsI_s, upd_o (by omega), wsI_s, upd_s]
  have k3 : w2.1 32 2 = nI (d - 1) := by
    rw [← hw, wsI_s, upd_s, wsI_s, upd_o (by omega), h2]
    exact pk_sub (b := 1) (by omega)
  rw [k2, rdI_C (show (nx + 11) % 12 < 12 by omega), Option.bind_some, k1 33 (by omega)]
  exact ⟨w2, rfl, k1, by rw [← hw]; rfl, k2, k3⟩
theorem m_shift : wp (lp (b_X10_keepState_1 0) NF ((0 : Int32), m)) (fun d => (∀ q, q ≠ 12 → d.1 q = m.1 q) ∧ d.2 = m.2 ∧ (∀ x, x < 1342 → d.1 12 x = m.1 12 (x + 122))) := by
  refine lp_inv (fun i s => s.1 = nI i ∧ (∀ q, q ≠ 12 → s.2.1 q = m.1 q) ∧ s.2.2 = m.2 ∧ (∀ x, x < i → s.2.1 12 x = m.1 12 (x + 122)) ∧ ∀ x, i ≤ x → s.2.1 12 x = m.1 12 x) _ 1342 ?_ ?_ (by decide) ⟨rfl, fun _ _ => rfl, rfl, fun x h => by omega, fun _ _ => rfl⟩
  · rintro i ⟨si, w⟩ hi ⟨rfl, a, b, c, e⟩
    dsimp only at a b c e
    unfold b_X10_keepState_1
    dsimp only
    rw [if_pos (show nI i < (1342 : Int32) from (n_lt (b := 1342) (by omega) (by omega)).mpr hi)]
    show wp (Option.bind (rdI zM w 12 (nI i + nI 122)) fun x6 => Option.bind (wrI zM w 12 (nI i) x6) _) _
    rw [nI_add, rdI_M (show i + 122 < 1464 by omega), Option.bind_some, wrI_M (show i < 1464 by omega), Option.bind_some, wp_some]
    refine ⟨nI_1 i, fun q hq => ?_, b, fun x hx => ?_, fun x hx => ?_⟩
    · dsimp only
      rw [wsI_o _ _ _ hq]; exact a q hq
    · dsimp only
      rw [wsI_s]
      by_cases q : x = i
      · subst q; rw [upd_s]; exact e _ (by omega)
      · rw [upd_o q]; exact c x (by omega)
    · dsimp only
      rw [wsI_s, upd_o (by omega)]; exact e x (by omega)
  · rintro ⟨si, w⟩ ⟨rfl, a, b, c, e⟩
    dsimp only at a b c e
    unfold b_X10_keepState_1
    dsimp only
    rw [if_neg (show ¬ nI 1342 < (1342 : Int32) by decide), wp_some]
    exact ⟨a, b, c⟩
theorem m_keepBlock (h : m.1 0 21 = nI d) (hd : d < 12) : wp (lp (b_X10_keepState_2 0) NF ((0 : Int32), m)) (fun r => (∀ q, q ≠ 12 → r.1 q = m.1 q) ∧ r.2 = m.2 ∧ (∀ x, x < 122 → r.1 12 (122 * d + x) = m.1 10 x) ∧ ∀ x, x < 122 * d → r.1 12 x = m.1 12 x) := by
  refine lp_inv (fun i s => s.1 = nI i ∧ (∀ q, q ≠ 12 → s.2.1 q = m.1 q) ∧ s.2.2 = m.2 ∧ (∀ x, x < i → s.2.1 12 (122 * d + x) = m.1 10 x) ∧ ∀ x, x < 122 * d → s.2.1 12 x = m.1 12 x) _ 122 ?_ ?_ (by decide) ⟨rfl, fun _ _ => rfl, rfl, fun x h => by omega, fun _ _ => rfl⟩
  · rintro i ⟨si, w⟩ hi ⟨rfl, a, b, c, e⟩
    dsimp only at a b c e
    unfold b_X10_keepState_2
    dsimp only
    rw [if_pos (show nI i < (122 : Int32) from (n_lt (b := 122) (by omega) (by omega)).mpr hi)]
    show wp (Option.bind (rdI zM w 10 (nI i)) fun x12 => Option.bind (wrI zM w 12 (nI 122 * w.1 0 21 + nI i) x12) _) _
    rw [a 0 (by omega), h, pk_mul, nI_add, rdI_M (show i < 122 from hi), Option.bind_some, wrI_M (show 122 * d + i < 1464 by omega), Option.bind_some, wp_some]
    refine ⟨nI_1 i, fun q hq => ?_, b, fun x hx => ?_, fun x hx => ?_⟩
    · dsimp only
      rw [wsI_o _ _ _ hq]; exact a q hq
    · dsimp only
      rw [wsI_s]
      by_cases q : x = i
      · subst q; rw [upd_s, a 10 (by omega)]
      · rw [upd_o (by omega)]; exact c x (by omega)
    · dsimp only
      rw [wsI_s, upd_o (by omega)]; exact e x hx
  · rintro ⟨si, w⟩ ⟨rfl, a, b, c, e⟩
    dsimp only at a b c e
    unfold b_X10_keepState_2
    dsimp only
    rw [if_neg (show ¬ nI 122 < (122 : Int32) by decide), wp_some]
    exact ⟨a, b, c, e⟩
end HI
