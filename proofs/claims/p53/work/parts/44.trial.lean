/-! The class's Trial: the least closed sets with other constraints enabled. -/
def setE (K : CK) (e : Int32) : CK := (K.1, e, K.2.2)
noncomputable def LF (P : PK) (K : CK) : Nat → Int32 := SS P K (RR P K)
section TRI
variable {P : PK} {K : CK} {T U : Nat → Int32} {w0 w w' : Wd} {a b d i v fl k o n p t : Nat} {g g' : Bool} {e x : Int32}
theorem vset_mono (hP : PWF P) (hK : CWF P K) (hi : i < nc K) (h : ∀ k o, k < 56 → o < 32 → bt (T k) o = true → bt (U k) o = true) (hv : bt (vset P K T i) v = true) : bt (vset P K U i) v = true := by
  have v32 : v < 32 := by
    rcases Nat.lt_or_ge v 32 with q | q
    · exact q
    · rw [b_big q] at hv; cases hv
  obtain ⟨g0, g1, g2, g3, g4, g5, g6⟩ := hK.2.2 i hi
  have := hP.1
  unfold vset at hv ⊢
  by_cases h1 : kd K i = 1
  · rw [if_pos h1] at hv ⊢; exact hv
  · rw [if_neg h1] at hv ⊢
    by_cases h2 : kd K i = 2
    · rw [if_pos h2] at hv ⊢; exact h _ _ (by have := g4 h2; omega) v32 hv
    · rw [if_neg h2] at hv ⊢
      by_cases h3 : kd K i = 3
      · rw [if_pos h3] at hv ⊢; exact h _ _ (by omega) v32 hv
      · rw [if_neg h3] at hv ⊢
        by_cases h4 : kd K i = 4
        · rw [if_pos h4, b_and, Bool.and_eq_true] at hv ⊢
          exact ⟨h _ _ (by have := g6 h4; omega) v32 hv.1, hv.2⟩
        · rw [if_neg h4] at hv; rw [b_0] at hv; cases hv
theorem dvn_mono (hP : PWF P) (hK : CWF P K) (hT : TOK P T) (h : ∀ k o, k < 56 → o < 32 → bt (T k) o = true → bt (U k) o = true) (hd : dvn P K T k o n = true) : dvn P K U k o n = true := by
  unfold dvn at hd ⊢
  simp only [Bool.and_eq_true, decide_eq_true_eq] at hd ⊢
  obtain ⟨⟨hi, he⟩, hd⟩ := hd
  refine ⟨⟨hi, he⟩, ?_⟩
  by_cases hk : kd K (n / 20) = 0
  · rw [if_pos hk] at hd ⊢; exact hd
  · rw [if_neg hk] at hd ⊢
    simp only [Bool.and_eq_true, decide_eq_true_eq] at hd ⊢
    obtain ⟨⟨⟨h1, h2⟩, h3⟩, h4⟩ := hd
    have hv := vset_lt hP hT h2
    exact ⟨⟨⟨h1, vset_mono hP hK hi h h2⟩, h3⟩, h _ _ (fsr_lt hP hK hi hv.1 hk hv.2.2.2.1) (by have := (hT _ _ h4).2; have := hP.2.1; omega) h4⟩
theorem LF_ok (hP : PWF P) (hK : CWF P K) : TOK P (LF P K) := SS_ok hP hK _
theorem LF_closed (hP : PWF P) (hK : CWF P K) (h : dvn P K (LF P K) k o n = true) : bt (LF P K k) o = true := by
  have hn := (dvn_ok hP hK (LF_ok hP hK) h).2.2
  have := hK.1
  have e := SS_eq_of hP hK (RR_ok (P := P) (K := K)).2.1
  have e2 := SS_bt hP hK (RR P K) k o
  rw [e] at e2
  show bt (SS P K (RR P K) k) o = true
  rw [e2, Bool.or_eq_true]
  exact Or.inr (exb_iff.mpr ⟨n, by omega, h⟩)
/-- sets that are closed hold the solution -/
theorem LF_least (hP : PWF P) (hK : CWF P K) (h : ∀ n k o, n < 600 → dvn P K T k o n = true → bt (T k) o = true) {r : Nat} (hb : bt (SS P K r k) o = true) : bt (T k) o = true := by
  induction r generalizing k o with
  | zero => rw [show SS P K 0 k = 0 from rfl, b_0] at hb; cases hb
  | succ r ih =>
    rw [SS_bt hP hK, Bool.or_eq_true] at hb
    rcases hb with q | q
    · exact ih q
    · obtain ⟨n, hn, h2⟩ := exb_iff.mp q
      exact h n k o hn (dvn_mono hP hK (SS_ok hP hK r) (fun a b _ _ z => ih z) h2)
def SubL (P : PK) (K : CK) (T : Nat → Int32) : Prop := ∀ k o, k < 56 → o < 32 → bt (T k) o = true → bt (LF P K k) o = true
/-- a piece of a trial's round, from w0 to w over the positions a..b; g: has it added anything -/
def TR (P : PK) (K : CK) (w0 : Wd) (a b : Nat) (g : Bool) (w : Wd) : Prop := ((∀ q, q ≠ 61 → w.1 q = w0.1 q) ∧ w.2 = w0.2) ∧ SubL P K (w.1 61) ∧ (∀ k o, k < 56 → bt (w0.1 61 k) o = true → bt (w.1 61 k) o = true) ∧
  (g = true → ∃ k o, k < 56 ∧ o < 10 ∧ bt (w0.1 61 k) o = false ∧ bt (w.1 61 k) o = true) ∧ (g = false → w = w0 ∧ ∀ n k o, a ≤ n → n < b → dvn P K (w0.1 61) k o n = true → bt (w0.1 61 k) o = true)
theorem TR.nil (h : SubL P K (w.1 61)) : TR P K w a a false w := ⟨⟨fun _ _ => rfl, rfl⟩, h, fun _ _ _ z => z, fun z => (by cases z), fun _ => ⟨rfl, fun n k o h1 h2 => (by omega)⟩⟩
theorem TR.comp (h : TR P K w0 a b g w) (h' : TR P K w b d g' w') : TR P K w0 a d (g || g') w' := by
  obtain ⟨⟨a1, a2⟩, a3, a4, a5, a6⟩ := h
  obtain ⟨⟨b1, b2⟩, b3, b4, b5, b6⟩ := h'
  refine ⟨⟨fun q hq => (b1 q hq).trans (a1 q hq), b2.trans a2⟩, b3, fun k o hk z => b4 k o hk (a4 k o hk z), fun z => ?_, fun z => ?_⟩
  · cases hg : g with
    | true =>
      obtain ⟨k, o, h1, h2, h3, h4⟩ := a5 hg
      exact ⟨k, o, h1, h2, h3, b4 k o h1 h4⟩
    | false =>
      rw [hg, Bool.false_or] at z
      obtain ⟨k, o, h1, h2, h3, h4⟩ := b5 z
      refine ⟨k, o, h1, h2, ?_, h4⟩
      cases hb : bt (w0.1 61 k) o with
      | false => rfl
      | true => rw [a4 k o h1 hb] at h3; cases h3
  · rw [Bool.or_eq_false_iff] at z
    obtain ⟨e1, c1⟩ := a6 z.1
    obtain ⟨e2, c2⟩ := b6 z.2
    subst e1
    refine ⟨e2, fun n k o h1 h2 h3 => ?_⟩
    rcases Nat.lt_or_ge n b with q | q
    · exact c1 n k o h1 q h3
    · exact c2 n k o q h2 h3
/-- positions that derive nothing are passed over -/
theorem TR.ext (h : TR P K w0 a b g w) (hb : ∀ n k o, b ≤ n → n < d → dvn P K (w0.1 61) k o n = true → bt (w0.1 61 k) o = true) : TR P K w0 a d g w := by
  obtain ⟨a1, a3, a4, a5, a6⟩ := h
  refine ⟨a1, a3, a4, a5, fun z => ⟨(a6 z).1, fun n k o h1 h2 h3 => ?_⟩⟩
  rcases Nat.lt_or_ge n b with q | q
  · exact (a6 z).2 n k o h1 q h3
  · exact hb n k o q h2 h3
theorem t_widen (ht : t < 56) : f_X8_widen w 60 (nI t) x = some (if x &&& (w.1 61 t ^^^ (-1 : Int32)) = 0 then (false, w) else (true, wsI w 61 t (w.1 61 t ||| x))) := by
  unfold f_X8_widen
  show Option.bind (rdI zC w 61 (nI t)) (fun x1 => if x &&& (x1 ^^^ (-1 : Int32)) = 0 then some (false, w) else Option.bind (rdI zC w 61 (nI t)) (fun x3 => Option.bind (wrI zC w 61 (nI t) (x3 ||| x)) _)) = _
  rw [rdI_C (show t < 56 from ht), Option.bind_some, Option.bind_some, wrI_C (show t < 56 from ht), Option.bind_some]
  split <;> rfl
theorem not_bt_diff {x y : Int32} (h : ¬ x &&& (y ^^^ (-1 : Int32)) = 0) : ∃ j, j < 32 ∧ bt x j = true ∧ bt y j = false := by
  refine Classical.byContradiction fun q => h (bt_diff.mpr fun j hj hx => ?_)
  cases hy : bt y j with
  | true => rfl
  | false => exact absurd ⟨j, hj, hx, hy⟩ q
/-- one widening: all that x adds is in the solution, and what position n derives is in x or there -/
theorem TR.widen (hP : PWF P) (hK : CWF P K) (h : TR P K w0 a n g w) (ht : t < 56) (hx : ∀ o, o < 32 → bt x o = true → bt (LF P K t) o = true) (hd : g = false → ∀ k o, dvn P K (w0.1 61) k o n = true → k = t ∧ bt x o = true) :
    ∃ g2 w2, f_X8_widen w 60 (nI t) x = some (g2, w2) ∧ TR P K w0 a (n + 1) (g2 || g) w2 := by
  rw [t_widen ht]
  obtain ⟨⟨a1, a2⟩, a3, a4, a5, a6⟩ := h
  by_cases hz : x &&& (w.1 61 t ^^^ (-1 : Int32)) = 0
  · rw [if_pos hz]
    refine ⟨false, w, rfl, ⟨a1, a2⟩, a3, a4, a5, fun z => ?_⟩
    rw [Bool.false_or] at z
    obtain ⟨e1, c1⟩ := a6 z
    refine ⟨e1, fun m k o h1 h2 h3 => ?_⟩
    by_cases e : m = n
    · subst e
      obtain ⟨rfl, hxo⟩ := hd z k o h3
      rw [← e1]
      exact bt_diff.mp hz o (by
        rcases Nat.lt_or_ge o 32 with q | q
        · exact q
        · rw [b_big q] at hxo; cases hxo) hxo
    · exact c1 m k o h1 (by omega) h3
  · rw [if_neg hz]
    obtain ⟨j, hj, h1, h2⟩ := not_bt_diff hz
    refine ⟨true, _, rfl, ⟨fun q hq => by rw [wsI_o _ _ _ hq]; exact a1 q hq, a2⟩, fun k o hk ho hb => ?_, fun k o hk hb => ?_, fun _ => ⟨t, j, ht, ?_, ?_, ?_⟩, fun z => by cases z⟩
    · rw [wsI_s] at hb
      by_cases e : k = t
      · subst e
        rw [upd_s, b_or, Bool.or_eq_true] at hb
        exact hb.elim (a3 k o hk ho) (hx o ho)
      · rw [upd_o e] at hb; exact a3 k o hk ho hb
    · rw [wsI_s]
      by_cases e : k = t
      · subst e
        rw [upd_s, b_or, a4 k o hk hb]; rfl
      · rw [upd_o e]; exact a4 k o hk hb
    · have := (LF_ok hP hK t j (hx j hj h1)).2
      have := hP.2.1
      omega
    · cases hb : bt (w0.1 61 t) j with
      | false => rfl
      | true => rw [a4 t j ht hb] at h2; cases h2
    · rw [wsI_s, upd_s, b_or, h1, Bool.or_true]
end TRI
