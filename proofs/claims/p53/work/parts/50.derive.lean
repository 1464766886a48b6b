/-! The reference's derivations of a fact: how many, and the first. -/
theorem cn_exb {q : Nat → Bool} {n : Nat} : cn q n = 0 ↔ exb q n = false := by
  induction n with
  | zero => exact ⟨fun _ => rfl, fun _ => rfl⟩
  | succ n ih =>
    rw [cn, exb]
    cases h : q n with
    | true => simp
    | false => rw [if_neg (by decide), Bool.or_false, Nat.add_zero]; exact ih
def DFr (m0 m : Wd) : Prop := (∀ q, q ≠ 0 → m.1 q = m0.1 q) ∧ (∀ j, ¬ (28 ≤ j ∧ j ≤ 32) → m.1 0 j = m0.1 0 j) ∧ m.2 = m0.2
def DI (P : PK) (K : CK) (B : Nat → Int32) (k o : Nat) (m0 : Wd) (pr : Bool) (n : Nat) (m : Wd) : Prop := DFr m0 m ∧ m.1 0 32 = bI pr ∧ m.1 0 31 = nI (cn (dvn P K B k o) n) ∧
  (exb (dvn P K B k o) n = true → m.1 0 28 = nI (fstb (dvn P K B k o) n / 20) ∧ m.1 0 29 = (if kd K (fstb (dvn P K B k o) n / 20) ≤ 1 then -2 else nI (fstb (dvn P K B k o) n % 20 / 2)) ∧
    m.1 0 30 = (if kd K (fstb (dvn P K B k o) n / 20) = 0 then -1 else nI (fsr P K (fstb (dvn P K B k o) n / 20) (fstb (dvn P K B k o) n % 20 / 2) (fstb (dvn P K B k o) n % 2))))
/-- the world after a derivation has been noted -/
def ntW (m : Wd) (c via src : Int32) : Wd := wsI (if m.1 0 31 = 0 then wsI (wsI (wsI m 0 28 c) 0 29 via) 0 30 src else m) 0 31 (m.1 0 31 + 1)
/-- what 'holds before' says: the sets B -/
def HB (m : Wd) (B : Nat → Int32) (r : Int32) : Prop := ∀ k o, k < 56 → o < 10 → f_X10_holdsBefore m 0 (nI k) (nI o) r = some (bt (B k) o)
section DE
variable {p : Nat} {P : PK} {K : CK} {c m m0 m' : Wd} {B : Nat → Int32} {k o n i v fl a b d : Nat} {pr : Bool} {r x y z : Int32}
theorem DI.pass (h : DI P K B k o m0 pr n m) (hd : dvn P K B k o n = false) : DI P K B k o m0 pr (n + 1) m := by
  unfold DI at h ⊢
  rw [cn, hd, if_neg (by decide), Nat.add_zero, exb, hd, Bool.or_false]
  refine ⟨h.1, h.2.1, h.2.2.1, fun e => ?_⟩
  rw [fstb, if_pos e]
  exact h.2.2.2 e
theorem DI.passTo (h : DI P K B k o m0 pr a m) (hab : a ≤ b) (hd : ∀ n, a ≤ n → n < b → dvn P K B k o n = false) : DI P K B k o m0 pr b m := by
  induction b with
  | zero => have : a = 0 := by omega
            subst this; exact h
  | succ b ih =>
    by_cases e : a = b + 1
    · subst e; exact h
    · exact (ih (by omega) fun n h1 h2 => hd n h1 (by omega)).pass (hd b (by omega) (by omega))
theorem DI.hit (h : DI P K B k o m0 pr n m) (hn : n < 600) (hd : dvn P K B k o n = true) (hx : x = nI (n / 20)) (hy : y = if kd K (n / 20) ≤ 1 then -2 else nI (n % 20 / 2)) (hz : z = if kd K (n / 20) = 0 then -1 else nI (fsr P K (n / 20) (n % 20 / 2) (n % 2))) : DI P K B k o m0 pr (n + 1) (ntW m x y z) := by
  obtain ⟨⟨h1, h2, h3⟩, h4, h5, h6⟩ := h
  have hle := cn_le (dvn P K B k o) n
  unfold ntW
  cases e : exb (dvn P K B k o) n with
  | true =>
    have hne : ¬ m.1 0 31 = 0 := by
      rw [h5]
      intro q
      have := (n_eq (b := 0) (by omega) (by omega)).mp q
      rw [cn_exb.mp this] at e; cases e
    rw [if_neg hne]
    refine ⟨⟨fun q hq => by rw [wsI_o _ _ _ hq]; exact h1 q hq, fun j hj => by rw [wsI_s, upd_o (by omega)]; exact h2 j hj, h3⟩, by rw [wsI_s, upd_o (by omega)]; exact h4, by rw [wsI_s, upd_s, h5, cn, if_pos hd]; exact nI_1 _, fun _ => ?_⟩
    rw [fstb, if_pos e, wsI_s, upd_o (by omega), upd_o (by omega), upd_o (by omega)]
    exact h6 e
  | false =>
    have he : m.1 0 31 = 0 := by rw [h5, cn_exb.mpr e]; rfl
    rw [if_pos he]
    refine ⟨⟨fun q hq => by rw [wsI_o _ _ _ hq, wsI_o _ _ _ hq, wsI_o _ _ _ hq, wsI_o _ _ _ hq]; exact h1 q hq, fun j hj => ?_, h3⟩, ?_, by rw [wsI_s, upd_s, h5, cn, if_pos hd]; exact nI_1 _, fun _ => ?_⟩
    · rw [wsI_s, upd_o (by omega), wsI_s, upd_o (by omega), wsI_s, upd_o (by omega), wsI_s, upd_o (by omega)]; exact h2 j hj
    · rw [wsI_s, upd_o (by omega), wsI_s, upd_o (by omega), wsI_s, upd_o (by omega), wsI_s, upd_o (by omega)]; exact h4
    · rw [fstb, if_neg (by rw [e]; decide), wsI_s, upd_o (by omega), upd_o (by omega), upd_o (by omega), wsI_s, upd_s, upd_o (by omega), upd_o (by omega), wsI_s, upd_s, upd_o (by omega), wsI_s, upd_s]
      exact ⟨hx, hy, hz⟩
theorem note_raw : (Option.bind (if m.1 0 31 = (0 : Int32) then Option.bind (some (wsI m 0 28 x)) (fun w13 => Option.bind (some (wsI w13 0 29 y)) (fun w14 => Option.bind (some (wsI w14 0 30 z)) (fun w15 => some w15))) else some m) (fun s11 => Option.bind (some (wsI s11 0 31 (((s11.1 0 31) + (1 : Int32))))) (fun w16 => some (w16)))) = some (ntW m x y z) := by
  unfold ntW
  by_cases h : m.1 0 31 = 0
  · rw [if_pos h, if_pos h]; rfl
  · rw [if_neg h, if_neg h]; rfl
theorem note0 : f_X10_note m 0 x y (-1) (-1) (nI o) r = some (ntW m x y (-1)) := by
  unfold f_X10_note
  rw [if_neg (show ¬ (0 : Int32) ≤ -1 by decide), if_neg (show ¬ (0 : Int32) ≤ -1 by decide), Option.bind_some, if_neg (by decide)]
  exact note_raw
theorem note1 (hB : HB m B r) (ha : a < 56) (ho : o < 10) : f_X10_note m 0 x y (-1) (nI a) (nI o) r = some (if bt (B a) o = true then ntW m x y (nI a) else m) := by
  unfold f_X10_note
  rw [if_neg (show ¬ (0 : Int32) ≤ -1 by decide), if_pos (nI_pos' (by omega)), hB a o ha ho, Option.bind_some]
  cases bt (B a) o with
  | true => rw [if_pos rfl, Option.bind_some, if_neg (by decide), if_pos rfl]; exact note_raw
  | false => rfl
theorem note2 (hB : HB m B r) (ha : a < 56) (ho : o < 10) (hb : b < 56) (hv : v < 10) : f_X10_note m 0 x (nI v) (nI b) (nI a) (nI o) r = some (if (bt (B b) v && bt (B a) o) = true then ntW m x (nI v) (nI a) else m) := by
  unfold f_X10_note
  rw [if_pos (nI_pos' (by omega)), hB b v hb hv, Option.bind_some]
  cases bt (B b) v with
  | false => rfl
  | true =>
    rw [if_pos rfl, if_pos (nI_pos' (by omega)), hB a o ha ho, Option.bind_some]
    cases bt (B a) o with
    | true => rw [if_pos rfl, Option.bind_some, if_neg (by decide), Bool.true_and, if_pos rfl]; exact note_raw
    | false => rfl
/-- what a derivation's loop stands on -/
def D0 (P : PK) (K : CK) (B : Nat → Int32) (m0 : Wd) (pr : Bool) (r : Int32) : Prop := RPm m0 P ∧ RLm m0 K ∧ PWF P ∧ CWF P K ∧ TOK P B ∧ ∀ m, DFr m0 m → m.1 0 32 = bI pr → HB m B r
theorem D0.at (h : D0 P K B m0 pr r) (hd : DI P K B k o m0 pr n m) : RPm m P ∧ RLm m K ∧ HB m B r := ⟨h.1.keep fun q q1 _ => hd.1.1 q (by omega), h.2.1.keep (hd.1.1 10 (by omega)), h.2.2.2.2.2 m hd.1 hd.2.1⟩
/-- one position: noted or not -/
theorem DI.step (h : DI P K B k o m0 pr n m) (hn : n < 600) {b2 : Bool} (hd : dvn P K B k o n = b2) (hx : x = nI (n / 20)) (hy : y = if kd K (n / 20) ≤ 1 then -2 else nI (n % 20 / 2)) (hz : z = if kd K (n / 20) = 0 then -1 else nI (fsr P K (n / 20) (n % 20 / 2) (n % 2))) : DI P K B k o m0 pr (n + 1) (if b2 = true then ntW m x y z else m) := by
  cases b2 with
  | true => exact h.hit hn hd hx hy hz
  | false => exact h.pass hd
/-- the via objects of kinds 2, 3, 4 all passed -/
theorem DI.vias (hP : PWF P) (hK : CWF P K) (hB : TOK P B) (hi : i < nc K) (he : bt (en K) i = true) (hk : 2 ≤ kd K i) (h : DI P K B k o m0 pr (20 * i + 2 * no P) m) : DI P K B k o m0 pr (20 * (i + 1)) m := by
  have hno := hP.2.1
  refine h.passTo (by omega) fun n h1 h2 => ?_
  have e : n = 20 * i + 2 * ((n - 20 * i) / 2) + (n - 20 * i) % 2 := by omega
  rw [e, dvn_flow (by omega) (by omega) hi he (by omega)]
  cases hv : bt (vset P K B i) ((n - 20 * i) / 2) with
  | false => simp
  | true => have := (vset_lt hP hB hv).2.1 (by omega); omega
end DE
