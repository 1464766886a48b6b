/-! Explanations: the chain of first derivations of a fact. -/
noncomputable def nxs (P : PK) (K : CK) (o k : Nat) : Nat := fsr P K (pd P K k o / 20) (pd P K k o % 20 / 2) (pd P K k o % 2)
noncomputable def cs (P : PK) (K : CK) (o : Nat) : Nat → Nat → Nat
  | 0, k => k
  | n + 1, k => cs P K o n (nxs P K o k)
noncomputable def kdp (P : PK) (K : CK) (o k : Nat) : Nat := kd K (pd P K k o / 20)
/-- a chain of L steps -/
def Chain (P : PK) (K : CK) (o k L : Nat) : Prop := 1 ≤ L ∧ (∀ n, n < L → bt (LF P K (cs P K o n k)) o = true) ∧ (∀ n, n + 1 < L → kdp P K o (cs P K o n k) ≠ 0) ∧ kdp P K o (cs P K o (L - 1) k) = 0
section EX
variable {p : Nat} {P : PK} {K : CK} {c m m0 m' : Wd} {k o n i j L : Nat} {v u t : Int32}
theorem cs_succ (n k : Nat) : cs P K o (n + 1) k = nxs P K o (cs P K o n k) := by
  induction n generalizing k with
  | zero => rfl
  | succ n ih => exact ih (nxs P K o k)
theorem chain_ex (hP : PWF P) (hK : CWF P K) (hs : SolC P K c) : ∀ k o, bt (LF P K k) o = true → ∃ L, L ≤ rd P K k o ∧ Chain P K o k L ∧ c.1 52 (10 * k + o) = nI L := by
  refine fact_ind hP hK fun k o h ih => ?_
  have ok := LF_ok hP hK k o h
  have := hP.2.1
  have st := (hs.2.1 k o ok.1 (by omega) h).2.2.2.2.1
  obtain ⟨r1, r2, r3, r4⟩ := rd_ok hP hK RR_lt (show bt (SS P K (RR P K) k) o = true from h)
  obtain ⟨p1, p2, p3, p4, p5⟩ := fact_pd hP hK h
  rw [st]
  rcases p5 with ⟨q0, -⟩ | ⟨q0, q1, q2, q3, q4⟩
  · rw [if_pos q0]
    refine ⟨1, r1, ⟨Nat.le_refl _, fun n hn => ?_, fun n hn => by omega, q0⟩, rfl⟩
    have : n = 0 := by omega
    subst this; exact h
  · rw [if_neg q0]
    obtain ⟨e1, e2⟩ := early hP hK h q4
    obtain ⟨L, l1, ⟨l2, l3, l4, l5⟩, l6⟩ := ih _ _ e1 e2
    rw [l6]
    refine ⟨L + 1, by omega, ⟨by omega, fun n hn => ?_, fun n hn => ?_, ?_⟩, ?_⟩
    · cases n with
      | zero => exact h
      | succ n => exact l3 n (by omega)
    · cases n with
      | zero => exact q0
      | succ n => exact l4 n (by omega)
    · obtain ⟨L', rfl⟩ : ∃ L', L = L' + 1 := ⟨L - 1, by omega⟩
      exact l5
    · show nI 1 + nI L = _
      rw [nI_add]; congr 1; omega
theorem MD.refl (m : Wd) : MD m m := ⟨fun _ _ => rfl, fun _ _ => rfl, rfl⟩
theorem MD.trans {a b d : Wd} (h : MD a b) (h' : MD b d) : MD a d := ⟨fun q q1 => (h'.1 q q1).trans (h.1 q q1), fun j j0 => (h'.2.1 j j0).trans (h.2.1 j j0), h'.2.2.trans h.2.2⟩
/-- what the reference's words say after a first derivation of fact k, o -/
def PrimW (P : PK) (K : CK) (k o : Nat) (d : Wd) : Prop := d.1 0 28 = nI (pd P K k o / 20) ∧ d.1 0 29 = (if kd K (pd P K k o / 20) ≤ 1 then -2 else nI (pd P K k o % 20 / 2)) ∧ d.1 0 30 = (if kd K (pd P K k o / 20) = 0 then -1 else nI (nxs P K o k))
theorem m_primW (h : Base p P K c m) (hf : bt (LF P K k) o = true) : wp (f_X10_derive m 0 (nI k) (nI o) true) (fun d => MD m d ∧ PrimW P K k o d) := by
  have hP := h.2.2.2.2.2.2.1
  have hK := h.2.2.2.2.2.2.2.1
  have ok := LF_ok hP hK k o hf
  have := hP.2.1
  exact m_primary h ok.1 (by omega) hf
theorem m_walk (h : Base p P K c m) (hc : Chain P K o k L) (hL : L < 600) {N : Nat} (hN : N ≤ L) (ht : ∀ n, n < N → ¬ nI n = t) (hv : f_X10_indexOf m 0 v = some (nI k)) (hE : (N = L ∨ (N < L ∧ t = nI N))) :
    wp (f_X10_explain m 0 v (nI o) t) (fun s => s.1 = nI N ∧ MD m s.2 ∧ (N < L → PrimW P K (cs P K o N k) o s.2)) := by
  obtain ⟨c1, c2, c3, c4⟩ := hc
  have hP := h.2.2.2.2.2.2.1
  have hK := h.2.2.2.2.2.2.2.1
  unfold f_X10_explain
  rw [hv, Option.bind_some, wp_bind]
  refine wp_mono (lp_inv (fun i s => s.1 = (if i < L then nI (cs P K o i k) else -1) ∧ s.2.1 = nI i ∧ MD m s.2.2) (fun s => match s with | .inl q => N = L ∧ q.2.1 = nI N ∧ MD m q.2.2 | .inr q => N < L ∧ q.1 = nI N ∧ MD m q.2 ∧ PrimW P K (cs P K o N k) o q.2) N ?_ ?_ (by unfold NF; omega) ⟨by rw [if_pos (by omega)]; rfl, rfl, MD.refl m⟩) ?_
  · rintro i ⟨a, b, w⟩ hi ⟨h1, h2, h3⟩
    dsimp only at h1 h2 h3
    subst h2
    rw [if_pos (by omega)] at h1
    subst h1
    have hf := c2 i (by omega)
    have ok := LF_ok hP hK _ _ hf
    have hn10 := hP.2.1
    unfold b_X10_explain_1
    dsimp only
    rw [if_pos (nI_pos' (by omega)), wp_bind]
    refine wp_mono (m_primW (h.md h3) hf) ?_
    rintro d ⟨d1, d2, d3, d4⟩
    rw [if_neg (ht i hi), wp_some]
    refine ⟨?_, nI_1 i, h3.trans d1⟩
    dsimp only
    rw [d4]
    by_cases hl : i + 1 < L
    · rw [if_pos hl, if_neg (show ¬ kd K (pd P K (cs P K o i k) o / 20) = 0 from c3 i hl), cs_succ]
    · have e : i = L - 1 := by omega
      rw [if_neg hl, if_pos (show kd K (pd P K (cs P K o i k) o / 20) = 0 by rw [e]; exact c4)]
  · rintro ⟨a, b, w⟩ ⟨h1, h2, h3⟩
    dsimp only at h1 h2 h3
    subst h2
    unfold b_X10_explain_1
    dsimp only
    rcases hE with e | ⟨e1, e2⟩
    · rw [if_neg (by omega)] at h1
      subst h1
      rw [if_neg (by decide), wp_some]
      exact ⟨e, rfl, h3⟩
    · rw [if_pos e1] at h1
      subst h1
      have hf := c2 N e1
      have ok := LF_ok hP hK _ _ hf
      rw [if_pos (nI_pos' (by omega)), wp_bind]
      refine wp_mono (m_primW (h.md h3) hf) ?_
      rintro d ⟨d1, d2⟩
      rw [if_pos e2.symm, wp_some]
      exact ⟨e1, rfl, h3.trans d1, d2⟩
  · rintro (⟨a, b, w⟩ | ⟨b, w⟩) q
    · obtain ⟨q1, q2, q3⟩ := q
      show wp (some (b, w)) _
      rw [wp_some]
      exact ⟨q2, q3, fun z => by omega⟩
    · obtain ⟨q1, q2, q3, q4⟩ := q
      show wp (some (b, w)) _
      rw [wp_some]
      exact ⟨q2, q3, fun _ => q4⟩
/-- class and reference answer the same; the reference changes its words for derivations -/
def QD (m : Wd) (f : Option Int32) (g : Option (Int32 × Wd)) : Prop := ∃ r m', f = some r ∧ g = some (r, m') ∧ MD (wsI m 0 0 0) m'
theorem q_explanationLength (h : Base p P K c m) : QD m (f_X9_explanationLength c 0 v u) (f_X10_explanationLength m 0 v u) := by
  have hP := h.2.2.2.2.2.2.1
  have hK := h.2.2.2.2.2.2.2.1
  have hn := hP.2.1
  unfold QD f_X9_explanationLength f_X10_explanationLength
  rw [Option.bind_some, m_index h.m0]
  rcases find_cases (v := v) (u := u) h.m0 with ⟨h1, h2⟩ | ⟨s, o, hs, ho, hv, rfl, h2, h1⟩
  · rw [h1, h2]; exact ⟨-1, _, rfl, rfl, MD.refl _⟩
  · have hs56 := hs.lt hP
    rw [h1, h2, hv, Option.bind_some, Option.bind_some, Option.bind_some, m_isFact h.m0 (by omega) (by omega), Option.bind_some, if_neg (show ¬ ¬ (true = true) from fun z => z rfl)]
    cases hb : bt (SS P K (RR P K) s) o with
    | false => exact ⟨-2, _, by rw [if_neg (show ¬ (false = true) by decide)]; rfl, rfl, MD.refl _⟩
    | true =>
      obtain ⟨L, l1, l2, l3⟩ := chain_ex hP hK h.2.2.2.2.2.2.2.2.1 s o hb
      have hr := (rd_ok hP hK RR_lt hb).2.1
      have := RR_lt (P := P) (K := K)
      obtain ⟨⟨a, m'⟩, e1, e2, e3, -⟩ := m_walk (t := -2) (v := v) h.m0 l2 (by omega) (Nat.le_refl L) (fun n hn => n_m2 (by omega)) (by rw [m_index h.m0, hv]) (Or.inl rfl)
      dsimp only at e2 e3
      refine ⟨nI L, m', ?_, ?_, e3⟩
      · rw [if_pos rfl, if_neg (n_neg (by omega))]
        show Option.bind (Option.bind (rdI zC c 52 (nI (10 * s + o))) _) _ = _
        rw [rdI_C (show 10 * s + o < 560 by omega), l3]; rfl
      · rw [if_pos rfl, e1, e2]; rfl
end EX
