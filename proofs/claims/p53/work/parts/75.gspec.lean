/-! The copy edges, what reaches what, components: what is meant; and the class's CopyGraph. -/
noncomputable def edn (P : PK) (K : CK) (s t n : Nat) : Bool := decide (n / 20 < nc K ∧ kd K (n / 20) ≠ 0 ∧ n % 2 < fcn K (n / 20) ∧ fsr P K (n / 20) (n % 20 / 2) (n % 2) = s ∧ ftg P K (n / 20) (n % 20 / 2) (n % 2) = t ∧ s ≠ t) && bt (en K) (n / 20) && bt (vset P K (LF P K) (n / 20)) (n % 20 / 2)
noncomputable def ED (P : PK) (K : CK) (s t : Nat) : Bool := exb (edn P K s t) 600
noncomputable def rch (P : PK) (K : CK) : Nat → Nat → Nat → Bool
  | 0 => fun s t => ED P K s t || decide (s = t)
  | b + 1 => fun s t => rch P K b s t || (rch P K b s b && rch P K b b t)
noncomputable def tg (P : PK) (K : CK) (s t : Nat) : Bool := rch P K 56 s t && rch P K 56 t s
/-- a slot that a location names, as a test -/
def exi (P : PK) (s : Nat) : Bool := decide (s < nv P ∧ s < 16) || (decide (16 ≤ s ∧ (s - 16) / 4 < no P ∧ (s - 16) % 4 < nf P))
/-- the graph's cells are right -/
def GG (P : PK) (K : CK) (c : Wd) : Prop := (∀ s t, s < 56 → t < 64 → lb (c.2.1 55 s) t = ED P K s t) ∧ (∀ s t, s < 56 → t < 64 → lb (c.2.1 57 s) t = (decide (t < 56) && tg P K s t)) ∧ ∀ s, s < 64 → lb (c.2.1 54 3) s = (decide (s < 56) && exi P s)
section GS
variable {p : Nat} {P : PK} {K : CK} {c c0 m w : Wd} {i v fl s t n b k : Nat} {x : Int64}
theorem edn_flow (hv : v < 10) (hf : fl < 2) (hi : i < nc K) (he : bt (en K) i = true) (hk : kd K i ≠ 0) : edn P K s t (20 * i + 2 * v + fl) = (decide (fl < fcn K i ∧ fsr P K i v fl = s ∧ ftg P K i v fl = t ∧ s ≠ t) && bt (vset P K (LF P K) i) v) := by
  obtain ⟨a, b, c⟩ := pos_d (i := i) hv hf
  unfold edn
  rw [a, b, c, he, Bool.and_true]
  congr 1
  exact decide_eq_decide.mpr ⟨fun z => z.2.2, fun z => ⟨hi, hk, z⟩⟩
theorem edn_off (h1 : 20 * i ≤ n) (h2 : n < 20 * (i + 1)) (he : bt (en K) i = false ∨ kd K i = 0) : edn P K s t n = false := by
  have a : n / 20 = i := by omega
  unfold edn
  rw [a]
  rcases he with q | q
  · rw [q, Bool.and_false, Bool.false_and]
  · rw [decide_eq_false (fun z => z.2.1 q)]; rfl
theorem edn_far (h : 20 * nc K ≤ n) : edn P K s t n = false := by
  unfold edn
  rw [decide_eq_false (fun z => by have := z.1; omega)]; rfl
theorem ED_lt (hP : PWF P) (hK : CWF P K) (h : ED P K s t = true) : s < 56 ∧ t < 56 ∧ s ≠ t := by
  obtain ⟨n, hn, h2⟩ := exb_iff.mp h
  unfold edn at h2
  rw [Bool.and_eq_true, Bool.and_eq_true, decide_eq_true_eq] at h2
  obtain ⟨⟨⟨h1, hk, h3, h4, h5, h6⟩, h7⟩, h8⟩ := h2
  have hv := vset_lt hP (LF_ok hP hK) h8
  have := fsr_lt (fl := n % 2) hP hK h1 hv.1 hk hv.2.2.2.1
  have := ftg_lt (fl := n % 2) hP hK h1 hv.1 hv.2.2.2.1
  exact ⟨by omega, by omega, h6⟩
/-- a word with one bit more -/
theorem l_put {y : Int64} {a : Nat} (ha : a < 64) (ht : t < 64) : lb (y ||| jlshl 1 (nI a)) t = (lb y t || decide (t = a)) := by rw [l_or, l_bit ha ht]
/-- a piece of the edges is laid -/
def Lay (P : PK) (K : CK) (c0 : Wd) (n : Nat) (w : Wd) : Prop := w.1 = c0.1 ∧ (∀ q, q ≠ 55 → w.2.1 q = c0.2.1 q) ∧ w.2.2 = c0.2.2 ∧ ∀ s t, s < 56 → t < 64 → lb (w.2.1 55 s) t = exb (edn P K s t) n
theorem Lay.same (h : Lay P K c0 n w) (hn : n ≤ b) (q : ∀ s t j, n ≤ j → j < b → edn P K s t j = false) : Lay P K c0 b w := ⟨h.1, h.2.1, h.2.2.1, fun s t hs ht => by rw [h.2.2.2 s t hs ht, exb_same hn (fun j a b => q s t j a b)]⟩
theorem Lay.base (h : Lay P K c n w) (hb : RPc c p P ∧ RLc c (p + 9) K) : RPc w p P ∧ RLc w (p + 9) K := by
  unfold RPc RLc at *
  rw [h.1]
  exact hb
theorem c_addFlow (hp : PC p) (hb : RPc c p P ∧ RLc c (p + 9) K) (hPw : PWF P) (hKw : CWF P K) (hi : i < nc K) (he : bt (en K) i = true) (hk : kd K i ≠ 0) (hv : bt (vset P K (LF P K) i) v = true) (hf : fl < fcn K i) (h : Lay P K c (20 * i + 2 * v + fl) w) {s1 : Int32 × Wd} (h1 : s1.1 = nI v) :
    wp (b_X1_addEdges_2 p (nI i) s1 54 (nI fl, w)) (lpS (fun r => r.1 = nI (fl + 1) ∧ Lay P K c (20 * i + 2 * v + (fl + 1)) r.2) (fun _ => False)) := by
  obtain ⟨hP, hL⟩ := h.base hb
  obtain ⟨v10, vno, v1, vf, -, k4⟩ := vset_lt hPw (LF_ok hPw hKw) hv
  have hfl2 : fl < 2 := by unfold fcn at hf; split at hf <;> omega
  have hsl := fsr_lt (fl := fl) hPw hKw hi v10 hk vf
  have htl := ftg_lt (fl := fl) hPw hKw hi v10 vf
  have hd : ∀ s t, edn P K s t (20 * i + 2 * v + fl) = decide (fsr P K i v fl = s ∧ ftg P K i v fl = t ∧ s ≠ t) := fun s t => by
    rw [edn_flow v10 hfl2 hi he hk, hv, Bool.and_true]
    exact decide_eq_decide.mpr ⟨fun z => z.2, fun z => ⟨hf, z⟩⟩
  unfold b_X1_addEdges_2
  dsimp only
  rw [s_flowCount hp hL hKw hi, Option.bind_some, if_pos ((n_lt (by omega) (by unfold fcn; split <;> omega)).mpr hf), h1, s_flowSource hp hP hL hKw hi v10 (fun a _ => vf a) hfl2, Option.bind_some, s_flowTarget hp hP hL hKw hi v10 (fun a _ => vf a) hfl2, Option.bind_some]
  obtain ⟨e1, e2, e3, e4⟩ := h
  by_cases hne : fsr P K i v fl = ftg P K i v fl
  · rw [if_neg (fun z => z (by rw [hne])), Option.bind_some, wp_some]
    refine ⟨nI_1 fl, e1, e2, e3, fun s t hs ht => ?_⟩
    show lb (w.2.1 55 s) t = (exb (edn P K s t) (20 * i + 2 * v + fl) || edn P K s t (20 * i + 2 * v + fl))
    rw [hd, decide_eq_false (fun z => z.2.2 (by omega)), Bool.or_false, e4 s t hs ht]
  · rw [if_pos (fun z => hne ((n_eq (by omega) (by omega)).mp z))]
    show wp (Option.bind (Option.bind (rdL zC w 55 (nI (fsr P K i v fl))) fun x14 => Option.bind (wrL zC w 55 (nI (fsr P K i v fl)) (x14 ||| jlshl 1 (nI (ftg P K i v fl)))) _) _) _
    rw [rdL_C (show _ < 56 from hsl), Option.bind_some, wrL_C (show _ < 56 from hsl), Option.bind_some, Option.bind_some, wp_some]
    refine ⟨nI_1 fl, e1, fun q hq => by rw [wsL_o _ _ _ hq]; exact e2 q hq, e3, fun s t hs ht => ?_⟩
    show _ = (exb (edn P K s t) (20 * i + 2 * v + fl) || edn P K s t (20 * i + 2 * v + fl))
    dsimp only
    rw [hd, wsL_s]
    by_cases e : s = fsr P K i v fl
    · subst e
      rw [updL_s, l_put (by omega) ht, e4 _ t hs ht]
      congr 1
      exact decide_eq_decide.mpr ⟨fun z => ⟨rfl, z.symm, fun y => hne (by omega)⟩, fun z => z.2.1.symm⟩
    · rw [updL_o e, e4 s t hs ht, decide_eq_false (fun z => e z.1.symm), Bool.or_false]
theorem c_addEdges (hp : PC p) (hb : RPc c p P ∧ RLc c (p + 9) K) (hPw : PWF P) (hKw : CWF P K) (hi : i < nc K) (he : bt (en K) i = true) (h : Lay P K c (20 * i) w) : wp (f_X1_addEdges w 54 p (nI i) (vset P K (LF P K) i)) (Lay P K c (20 * (i + 1))) := by
  have hn := hKw.1
  unfold f_X1_addEdges
  rw [wp_bind]
  by_cases hk : kd K i = 0
  · have hz : vset P K (LF P K) i = 0 := by
      unfold vset
      rw [hk]; rfl
    rw [hz]
    refine wp_mono (lp_inv (fun v r => r.1 = nI v ∧ r.2 = w) (fun r => r = w) 10 ?_ ?_ (by decide) ⟨rfl, rfl⟩) (fun r q => wp_some.mpr (by
      rw [q]
      exact h.same (by omega) fun s t j a b => edn_off a b (Or.inr hk)))
    · rintro v ⟨a, r⟩ hv ⟨h1, h2⟩
      dsimp only at h1 h2
      subst h1; subst h2
      unfold b_X1_addEdges_1
      dsimp only
      rw [if_pos (show nI v < (10 : Int32) from (n_lt (b := 10) (by omega) (by omega)).mpr hv), cont_bt (by omega), b_0, if_neg (by decide), Option.bind_some, wp_some]
      exact ⟨nI_1 v, rfl⟩
    · rintro ⟨a, r⟩ ⟨h1, h2⟩
      dsimp only at h1 h2
      subst h1; subst h2
      unfold b_X1_addEdges_1
      dsimp only
      rw [if_neg (show ¬ nI 10 < (10 : Int32) by decide), wp_some]
      rfl
  · refine wp_mono (lp_inv (fun v r => r.1 = nI v ∧ Lay P K c (20 * i + 2 * v) r.2) (Lay P K c (20 * (i + 1))) 10 ?_ ?_ (by decide) ⟨rfl, h⟩) (fun r q => wp_some.mpr q)
    · rintro v ⟨a, r⟩ hv ⟨h1, h2⟩
      dsimp only at h1 h2
      subst h1
      unfold b_X1_addEdges_1
      dsimp only
      rw [if_pos (show nI v < (10 : Int32) from (n_lt (b := 10) (by omega) (by omega)).mpr hv), cont_bt (by omega)]
      cases e : bt (vset P K (LF P K) i) v with
      | false =>
        rw [if_neg (by decide), Option.bind_some, wp_some]
        refine ⟨nI_1 v, h2.same (by omega) fun s t j a b => ?_⟩
        obtain ⟨fl, hfl, rfl⟩ : ∃ fl, fl < 2 ∧ j = 20 * i + 2 * v + fl := ⟨j - (20 * i + 2 * v), by omega, by omega⟩
        rw [edn_flow hv hfl hi he hk, e, Bool.and_false]
      | true =>
        rw [if_pos rfl, wp_bind, wp_bind]
        have hfc : fcn K i ≤ 2 := by unfold fcn; split <;> omega
        refine wp_mono (lp_inv (fun fl r => r.1 = nI fl ∧ Lay P K c (20 * i + 2 * v + fl) r.2) (Lay P K c (20 * i + 2 * (v + 1))) (fcn K i) ?_ ?_ (by unfold NF; omega) ⟨rfl, h2⟩) (fun r q => ?_)
        · rintro fl ⟨a, r⟩ hf ⟨h3, h4⟩
          dsimp only at h3 h4
          subst h3
          refine wp_mono (c_addFlow hp hb hPw hKw hi he hk e hf h4 rfl) fun r q => ?_
          cases r with
          | inl r => exact q
          | inr r => exact q.elim
        · rintro ⟨a, r⟩ ⟨h3, h4⟩
          dsimp only at h3 h4
          subst h3
          unfold b_X1_addEdges_2
          dsimp only
          rw [s_flowCount hp (h4.base hb).2 hKw hi, Option.bind_some, if_neg (fun z => Nat.lt_irrefl _ ((n_lt (by omega) (by omega)).mp z)), wp_some]
          refine h4.same (by omega) fun s t j a b => ?_
          obtain ⟨fl, hfl, rfl⟩ : ∃ fl, fl < 2 ∧ j = 20 * i + 2 * v + fl := ⟨j - (20 * i + 2 * v), by omega, by omega⟩
          rw [edn_flow hv hfl hi he hk, decide_eq_false (fun z => by have := z.1; omega)]; rfl
        · rw [wp_some, wp_some]
          exact ⟨nI_1 v, q⟩
    · rintro ⟨a, r⟩ ⟨h1, h2⟩
      dsimp only at h1 h2
      subst h1
      unfold b_X1_addEdges_1
      dsimp only
      rw [if_neg (show ¬ nI 10 < (10 : Int32) by decide), wp_some]
      exact h2
end GS
