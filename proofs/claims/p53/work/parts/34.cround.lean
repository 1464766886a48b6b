/-! One round of the class's Solution: the invariant, and the loops. -/
def vsl (K : CK) (i : Nat) : Nat := if kd K i = 3 then ka K i else kb K i
def Stamp (P : PK) (K : CK) (c0 : Wd) (r n k o : Nat) (c : Wd) : Prop :=
  c.1 48 (10 * k + o) = nI r ∧ c.1 49 (10 * k + o) = nI (n / 20) ∧ c.1 50 (10 * k + o) = (if kd K (n / 20) = 0 then -1 else nI (fsr P K (n / 20) (n % 20 / 2) (n % 2))) ∧ c.1 51 (10 * k + o) = (if kd K (n / 20) ≤ 1 then -1 else nI (n % 20 / 2)) ∧
  c.1 52 (10 * k + o) = (if kd K (n / 20) = 0 then 1 else 1 + c0.1 52 (10 * fsr P K (n / 20) (n % 20 / 2) (n % 2) + o)) ∧
  c.1 53 (10 * k + o) = (if kd K (n / 20) = 0 then jshl 1 (nI (n / 20)) else if kd K (n / 20) = 1 then jshl 1 (nI (n / 20)) ||| c0.1 53 (10 * fsr P K (n / 20) (n % 20 / 2) (n % 2) + o) else (jshl 1 (nI (n / 20)) ||| c0.1 53 (10 * fsr P K (n / 20) (n % 20 / 2) (n % 2) + o)) ||| c0.1 53 (10 * vsl K (n / 20) + n % 20 / 2))
def fst6 (P : PK) (K : CK) (B : Nat → Int32) (k o : Nat) : Nat := fstb (dvn P K B k o) 600
/-- the invariant of a round: E is what it has added so far -/
def SI (P : PK) (K : CK) (c0 : Wd) (B : Nat → Int32) (r : Nat) (E : Nat → Nat → Bool) (c : Wd) : Prop :=
  ((∀ q, q ≠ 45 → q ≠ 46 → ¬ (48 ≤ q ∧ q ≤ 53) → c.1 q = c0.1 q) ∧ c.2 = c0.2 ∧ (∀ j, j ≠ 2 → j ≠ 4 → c.1 45 j = c0.1 45 j)) ∧
  (∀ k o, k < 56 → o < 32 → bt (c.1 46 k) o = (bt (B k) o || E k o)) ∧
  (∀ k o, k < 56 → o < 10 → bt (B k) o = true → ∀ q, 48 ≤ q → q ≤ 53 → c.1 q (10 * k + o) = c0.1 q (10 * k + o)) ∧
  (∀ k o, k < 56 → o < 10 → bt (B k) o = false → E k o = true → Stamp P K c0 r (fst6 P K B k o) k o c) ∧
  c.1 45 2 = nI (cntT (c.1 46)) ∧
  (∀ j, j < 32 → (bt (c.1 45 4) j = true ↔ bt (c0.1 45 4) j = true ∨ ∃ k o, k < 56 ∧ o < 10 ∧ bt (B k) o = false ∧ E k o = true ∧ fst6 P K B k o / 20 = j)) ∧
  (∀ k o, E k o = true → o < 10)
theorem SI.cong {P : PK} {K : CK} {c0 c : Wd} {B : Nat → Int32} {r : Nat} {E E2 : Nat → Nat → Bool} (h : SI P K c0 B r E c) (e : ∀ k o, k < 56 → o < 32 → bt (B k) o = false → E2 k o = E k o) (h10 : ∀ k o, E2 k o = true → o < 10) : SI P K c0 B r E2 c := by
  obtain ⟨h1, h2, h3, h4, h5, h6, h7⟩ := h
  refine ⟨h1, fun k o hk ho => ?_, h3, fun k o hk ho hb he => h4 k o hk ho hb ((e k o hk (by omega) hb).symm.trans he), h5, fun j hj => ?_, h10⟩
  · rw [h2 k o hk ho]
    cases hb : bt (B k) o with
    | true => rfl
    | false => rw [e k o hk ho hb]
  · rw [h6 j hj]
    constructor
    · rintro (q | ⟨k, o, a1, a2, a3, a4, a5⟩)
      · exact Or.inl q
      · exact Or.inr ⟨k, o, a1, a2, a3, by rw [e k o a1 (by omega) a3]; exact a4, a5⟩
    · rintro (q | ⟨k, o, a1, a2, a3, a4, a5⟩)
      · exact Or.inl q
      · exact Or.inr ⟨k, o, a1, a2, a3, by rw [← e k o a1 (by omega) a3]; exact a4, a5⟩
theorem fct_at {T : Nat → Int32} {k o : Nat} (ho : o < 10) : fct T (10 * k + o) = bt (T k) o := by
  unfold fct
  rw [show (10 * k + o) / 10 = k by omega, show (10 * k + o) % 10 = o by omega]
theorem SI.add {P : PK} {K : CK} {c0 c c2 : Wd} {B : Nat → Int32} {r k o i n : Nat} {S V N F : Int32} {E : Nat → Nat → Bool} (h : SI P K c0 B r E c) (hk : k < 56) (ho : o < 10) (hi : i < 32) (hb : bt (B k) o = false) (he : E k o = false) (st : StepTo c c2 k o i r S V N F)
    (hn : fst6 P K B k o = n) (ei : n / 20 = i) (eS : S = if kd K i = 0 then -1 else nI (fsr P K i (n % 20 / 2) (n % 2))) (eV : V = if kd K i ≤ 1 then -1 else nI (n % 20 / 2)) (eN : N = if kd K i = 0 then 1 else 1 + c0.1 52 (10 * fsr P K i (n % 20 / 2) (n % 2) + o))
    (eF : F = if kd K i = 0 then jshl 1 (nI i) else if kd K i = 1 then jshl 1 (nI i) ||| c0.1 53 (10 * fsr P K i (n % 20 / 2) (n % 2) + o) else (jshl 1 (nI i) ||| c0.1 53 (10 * fsr P K i (n % 20 / 2) (n % 2) + o)) ||| c0.1 53 (10 * vsl K i + n % 20 / 2)) :
    SI P K c0 B r (fun a b => E a b || decide (a = k ∧ b = o)) c2 := by
  obtain ⟨⟨h1, h1b, h1c⟩, h2, h3, h4, h5, h6, h7⟩ := h
  obtain ⟨s1, s2, s3, s4, s5, s6, s7, s8, s9, s10⟩ := st
  have idx : ∀ a b, b < 10 → ¬ (a = k ∧ b = o) → 10 * a + b ≠ 10 * k + o := fun a b hb2 hne he2 => hne ⟨by omega, by omega⟩
  have keep : ∀ q a b, 48 ≤ q → q ≤ 53 → b < 10 → ¬ (a = k ∧ b = o) → c2.1 q (10 * a + b) = c.1 q (10 * a + b) := by
    intro q a b q1 q2 hb2 hne
    have hx := idx a b hb2 hne
    rcases (show q = 48 ∨ q = 49 ∨ q = 50 ∨ q = 51 ∨ q = 52 ∨ q = 53 by omega) with rfl | rfl | rfl | rfl | rfl | rfl
    · rw [s3, upd_o hx]
    · rw [s4, upd_o hx]
    · rw [s5, upd_o hx]
    · rw [s6, upd_o hx]
    · rw [s7, upd_o hx]
    · rw [s8, upd_o hx]
  have sets : ∀ a b, a < 56 → b < 32 → bt (c2.1 46 a) b = (bt (c.1 46 a) b || decide (a = k ∧ b = o)) := by
    intro a b ha hb2
    rw [s1]
    by_cases e : a = k
    · subst e
      rw [upd_s, b_or, bt_bit (by omega) hb2]
      simp
    · rw [upd_o e, decide_eq_false (fun z => e z.1), Bool.or_false]
  refine ⟨⟨fun q q1 q2 q3 => (s9 q q1 q2 q3).trans (h1 q q1 q2 q3), s10.trans h1b, fun j j1 j2 => ?_⟩, fun a b ha hb2 => ?_, fun a b ha hb2 hab q q1 q2 => ?_, fun a b ha hb2 hab hE => ?_, ?_, fun j hj => ?_, fun a b hE => ?_⟩
  · rw [s2, upd_o j2, upd_o j1]; exact h1c j j1 j2
  · rw [sets a b ha hb2, h2 a b ha hb2, Bool.or_assoc]
  · rw [keep q a b q1 q2 hb2 (fun z => by rw [z.1, z.2, hb] at hab; cases hab)]
    exact h3 a b ha hb2 hab q q1 q2
  · by_cases e : a = k ∧ b = o
    · obtain ⟨rfl, rfl⟩ := e
      rw [hn]
      unfold Stamp
      rw [ei, s3, s4, s5, s6, s7, s8, upd_s, upd_s, upd_s, upd_s, upd_s, upd_s]
      exact ⟨rfl, rfl, eS, eV, eN, eF⟩
    · have hE2 : E a b = true := by
        rw [Bool.or_eq_true, decide_eq_true_eq] at hE
        exact hE.resolve_right e
      obtain ⟨g1, g2, g3, g4, g5, g6⟩ := h4 a b ha hb2 hab hE2
      unfold Stamp
      rw [keep 48 a b (by omega) (by omega) hb2 e, keep 49 a b (by omega) (by omega) hb2 e, keep 50 a b (by omega) (by omega) hb2 e, keep 51 a b (by omega) (by omega) hb2 e, keep 52 a b (by omega) (by omega) hb2 e, keep 53 a b (by omega) (by omega) hb2 e]
      exact ⟨g1, g2, g3, g4, g5, g6⟩
  · rw [s2, upd_o (by omega), upd_s, h5]
    have hc : cntT (c2.1 46) = cntT (c.1 46) + 1 := by
      unfold cntT
      refine cn_add (f := 10 * k + o) (by omega) ?_ ?_ (fun f hf hne => ?_)
      · rw [fct_at ho, h2 k o hk (by omega), hb, he]; rfl
      · rw [fct_at ho, sets k o hk (by omega), decide_eq_true ⟨rfl, rfl⟩, Bool.or_true]
      · unfold fct
        rw [sets _ _ (by omega) (by omega), decide_eq_false (fun z => hne (by omega)), Bool.or_false]
    rw [hc]
    exact nI_1 _
  · rw [s2, upd_s, b_or, bt_bit hi hj, Bool.or_eq_true, decide_eq_true_eq, h6 j hj]
    constructor
    · rintro ((q | ⟨a, b, a1, a2, a3, a4, a5⟩) | q)
      · exact Or.inl q
      · exact Or.inr ⟨a, b, a1, a2, a3, by show (E a b || _) = true; rw [a4]; rfl, a5⟩
      · exact Or.inr ⟨k, o, hk, ho, hb, by show (E k o || decide (k = k ∧ o = o)) = true; simp, by rw [hn, ei, q]⟩
    · rintro (q | ⟨a, b, a1, a2, a3, a4, a5⟩)
      · exact Or.inl (Or.inl q)
      · rw [Bool.or_eq_true, decide_eq_true_eq] at a4
        rcases a4 with a4 | ⟨rfl, rfl⟩
        · exact Or.inl (Or.inr ⟨a, b, a1, a2, a3, a4, a5⟩)
        · exact Or.inr (by rw [← a5, hn, ei])
  · rw [Bool.or_eq_true, decide_eq_true_eq] at hE
    rcases hE with hE | ⟨-, rfl⟩
    · exact h7 a b hE
    · exact ho
/-- what the Program says stays, as long as its cells do -/
def keepP (c c0 : Wd) : Prop := (∀ q, q < 45 → c.1 q = c0.1 q) ∧ c.2 = c0.2
theorem RPc.keep {c c0 : Wd} {p : Nat} {P : PK} (hp : PC p) (h : RPc c0 p P) (k : keepP c c0) : RPc c p P := by
  have hp2 : p < 20 := by rcases hp with rfl | rfl <;> omega
  unfold RPc at h ⊢
  rw [k.1 (p + 1) (by omega), k.1 (p + 3) (by omega), k.1 (p + 5) (by omega), k.1 p (by omega), k.1 (p + 7) (by omega), k.1 (p + 8) (by omega)]
  exact h
theorem RLc.keep {c c0 : Wd} {L : Nat} {K : CK} (hp : LC L) (h : RLc c0 L K) (k : keepP c c0) : RLc c L K := by
  have hp2 : L < 41 := by rcases hp with rfl | rfl | rfl | rfl <;> omega
  unfold RLc at h ⊢
  rw [k.1 (L + 1) (by omega), k.1 (L + 2) (by omega), k.1 (L + 3) (by omega), k.1 (L + 4) (by omega), k.1 L (by omega)]
  exact h
theorem SI.kp {P : PK} {K : CK} {c0 c : Wd} {B : Nat → Int32} {r : Nat} {E : Nat → Nat → Bool} (h : SI P K c0 B r E c) : keepP c c0 := ⟨fun q hq => h.1.1 q (by omega) (by omega) (by omega), h.1.2.1⟩
