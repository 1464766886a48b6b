/-! A program and a list of constraints as numbers; what the class's Program says of flows. -/
/-- variables, objects, fields, the functions as a bit set, their parameters, their results -/
abbrev PK : Type := Nat × Nat × Nat × Int32 × (Nat → Nat) × (Nat → Nat)
/-- how many, the enabled ones as a bit set, kinds, first, second, third operands -/
abbrev CK : Type := Nat × Int32 × (Nat → Nat) × (Nat → Nat) × (Nat → Nat) × (Nat → Nat)
def nv (P : PK) : Nat := P.1
def no (P : PK) : Nat := P.2.1
def nf (P : PK) : Nat := P.2.2.1
def fs (P : PK) : Int32 := P.2.2.2.1
def pr (P : PK) (o : Nat) : Nat := P.2.2.2.2.1 o
def rs (P : PK) (o : Nat) : Nat := P.2.2.2.2.2 o
def nc (K : CK) : Nat := K.1
def en (K : CK) : Int32 := K.2.1
def kd (K : CK) (i : Nat) : Nat := K.2.2.1 i
def ka (K : CK) (i : Nat) : Nat := K.2.2.2.1 i
def kb (K : CK) (i : Nat) : Nat := K.2.2.2.2.1 i
def kc (K : CK) (i : Nat) : Nat := K.2.2.2.2.2 i
def PWF (P : PK) : Prop := nv P ≤ 16 ∧ no P ≤ 10 ∧ nf P ≤ 4 ∧ ∀ o, bt (fs P) o = true → o < no P ∧ pr P o < nv P ∧ rs P o < nv P
def RowOK (P : PK) (k a b c : Nat) : Prop := k ≤ 4 ∧ a < nv P ∧ (k = 0 → b < no P) ∧ (k = 1 → b < nv P) ∧ (k = 2 → b < nv P ∧ c < nf P) ∧ (k = 3 → b < nf P ∧ c < nv P) ∧ (k = 4 → b < nv P ∧ c < nv P)
def CWF (P : PK) (K : CK) : Prop := nc K ≤ 30 ∧ (∀ i, bt (en K) i = true → i < nc K) ∧ ∀ i, i < nc K → RowOK P (kd K i) (ka K i) (kb K i) (kc K i)
def PC (p : Nat) : Prop := p = 4 ∨ p = 18
def LC (L : Nat) : Prop := L = 13 ∨ L = 27 ∨ L = 35 ∨ L = 40
def RPc (c : Wd) (p : Nat) (P : PK) : Prop := c.1 (p + 1) 2 = nI (nv P) ∧ c.1 (p + 3) 2 = nI (no P) ∧ c.1 (p + 5) 2 = nI (nf P) ∧ c.1 p 5 = fs P ∧ ∀ o, bt (fs P) o = true → c.1 (p + 7) o = nI (pr P o) ∧ c.1 (p + 8) o = nI (rs P o)
def thI (k c : Nat) : Int32 := if k ≤ 1 then -2 else nI c
def RLc (c : Wd) (L : Nat) (K : CK) : Prop := c.1 L 4 = nI (nc K) ∧ c.1 L 5 = en K ∧ ∀ i, i < nc K → c.1 (L + 1) i = nI (kd K i) ∧ c.1 (L + 2) i = nI (ka K i) ∧ c.1 (L + 3) i = nI (kb K i) ∧ c.1 (L + 4) i = thI (kd K i) (kc K i)
theorem PC.LC {p : Nat} (h : PC p) : LC (p + 9) := by rcases h with rfl | rfl; exact Or.inl rfl; exact Or.inr (Or.inl rfl)
theorem zp0 {p : Nat} (h : PC p) : zrf zC p 0 = p + 1 := by rcases h with rfl | rfl <;> rfl
theorem zp1 {p : Nat} (h : PC p) : zrf zC p 1 = p + 3 := by rcases h with rfl | rfl <;> rfl
theorem zp2 {p : Nat} (h : PC p) : zrf zC p 2 = p + 5 := by rcases h with rfl | rfl <;> rfl
theorem zp3 {p : Nat} (h : PC p) : zrf zC p 3 = p + 7 := by rcases h with rfl | rfl <;> rfl
theorem zp4 {p : Nat} (h : PC p) : zrf zC p 4 = p + 8 := by rcases h with rfl | rfl <;> rfl
theorem zp6 {p : Nat} (h : PC p) : zrf zC p 6 = p + 9 := by rcases h with rfl | rfl <;> rfl
theorem zl0 {L : Nat} (h : LC L) : zrf zC L 0 = L + 1 := by rcases h with rfl | rfl | rfl | rfl <;> rfl
theorem zl1 {L : Nat} (h : LC L) : zrf zC L 1 = L + 2 := by rcases h with rfl | rfl | rfl | rfl <;> rfl
theorem zl2 {L : Nat} (h : LC L) : zrf zC L 2 = L + 3 := by rcases h with rfl | rfl | rfl | rfl <;> rfl
theorem zl3 {L : Nat} (h : LC L) : zrf zC L 3 = L + 4 := by rcases h with rfl | rfl | rfl | rfl <;> rfl
theorem zn7 {p : Nat} (h : PC p) : zln zC (p + 7) = 10 := by rcases h with rfl | rfl <;> rfl
theorem zn8 {p : Nat} (h : PC p) : zln zC (p + 8) = 10 := by rcases h with rfl | rfl <;> rfl
theorem zm1 {L : Nat} (h : LC L) : zln zC (L + 1) = 30 := by rcases h with rfl | rfl | rfl | rfl <;> rfl
theorem zm2 {L : Nat} (h : LC L) : zln zC (L + 2) = 30 := by rcases h with rfl | rfl | rfl | rfl <;> rfl
theorem zm3 {L : Nat} (h : LC L) : zln zC (L + 3) = 30 := by rcases h with rfl | rfl | rfl | rfl <;> rfl
theorem zm4 {L : Nat} (h : LC L) : zln zC (L + 4) = 30 := by rcases h with rfl | rfl | rfl | rfl <;> rfl
/-- the via objects of a constraint in the sets T; its flows -/
def vset (P : PK) (K : CK) (T : Nat → Int32) (i : Nat) : Int32 := if kd K i = 1 then 1 else if kd K i = 2 then T (kb K i) else if kd K i = 3 then T (ka K i) else if kd K i = 4 then T (kb K i) &&& fs P else 0
def fcn (K : CK) (i : Nat) : Nat := if kd K i = 4 then 2 else 1
def fsr (P : PK) (K : CK) (i v fl : Nat) : Nat := if kd K i = 2 then 16 + 4 * v + kc K i else if kd K i = 3 then kc K i else if kd K i = 4 then (if fl = 0 then kc K i else rs P v) else kb K i
def ftg (P : PK) (K : CK) (i v fl : Nat) : Nat := if kd K i = 3 then 16 + 4 * v + kb K i else if kd K i = 4 then (if fl = 0 then pr P v else ka K i) else ka K i
theorem kd_cases {P : PK} {k a b c : Nat} (h : RowOK P k a b c) : k = 0 ∨ k = 1 ∨ k = 2 ∨ k = 3 ∨ k = 4 := by have := h.1; omega
theorem th_big {k c : Nat} (h : 2 ≤ k) : thI k c = nI c := if_neg (by omega)
theorem fslot (v f : Nat) : f_X9_fieldSlot (nI v) (nI f) = nI (16 + 4 * v + f) := by
  unfold f_X9_fieldSlot
  show (nI 16 + nI v * nI 4) + nI f = _
  rw [pk_mul, nI_add, nI_add]
  congr 1
  omega
theorem r_k1 {c : Wd} {L : Nat} {K : CK} {i : Nat} (hq : LC L) (hL : RLc c L K) (hn : nc K ≤ 30) (hi : i < nc K) : rdI zC c (L + 1) (nI i) = some (nI (kd K i)) := by
  rw [rdI_C (by rw [zm1 hq]; omega), (hL.2.2 i hi).1]
theorem r_k2 {c : Wd} {L : Nat} {K : CK} {i : Nat} (hq : LC L) (hL : RLc c L K) (hn : nc K ≤ 30) (hi : i < nc K) : rdI zC c (L + 2) (nI i) = some (nI (ka K i)) := by
  rw [rdI_C (by rw [zm2 hq]; omega), (hL.2.2 i hi).2.1]
theorem r_k3 {c : Wd} {L : Nat} {K : CK} {i : Nat} (hq : LC L) (hL : RLc c L K) (hn : nc K ≤ 30) (hi : i < nc K) : rdI zC c (L + 3) (nI i) = some (nI (kb K i)) := by
  rw [rdI_C (by rw [zm3 hq]; omega), (hL.2.2 i hi).2.2.1]
theorem r_k4 {c : Wd} {L : Nat} {K : CK} {i : Nat} (hq : LC L) (hL : RLc c L K) (hn : nc K ≤ 30) (hi : i < nc K) : rdI zC c (L + 4) (nI i) = some (thI (kd K i) (kc K i)) := by
  rw [rdI_C (by rw [zm4 hq]; omega), (hL.2.2 i hi).2.2.2]
section FL
variable {c : Wd} {p : Nat} {P : PK} {K : CK} {i v fl : Nat}
theorem s_flowCount (hp : PC p) (hL : RLc c (p + 9) K) (hw : CWF P K) (hi : i < nc K) : f_X6_flowCount c p (nI i) = some (nI (fcn K i)) := by
  unfold f_X6_flowCount
  rw [zp6 hp, zl0 hp.LC, r_k1 hp.LC hL hw.1 hi]
  unfold fcn
  rcases kd_cases (hw.2.2 i hi) with h | h | h | h | h <;> rw [h] <;> rfl
theorem s_flowSource (hp : PC p) (hP : RPc c p P) (hL : RLc c (p + 9) K) (hw : CWF P K) (hi : i < nc K) (hv : v < 10) (hf : kd K i = 4 → ¬ fl = 0 → bt (fs P) v = true) (hfl : fl < 2) : f_X6_flowSource c p (nI i) (nI v) (nI fl) = some (nI (fsr P K i v fl)) := by
  unfold f_X6_flowSource
  rw [zp6 hp, zl0 hp.LC, zl2 hp.LC, zl3 hp.LC, zp4 hp, r_k1 hp.LC hL hw.1 hi, r_k3 hp.LC hL hw.1 hi, r_k4 hp.LC hL hw.1 hi, rdI_C (k := p + 8) (by rw [zn8 hp]; omega)]
  unfold fsr
  rcases kd_cases (hw.2.2 i hi) with h | h | h | h | h
  · rw [h]; rfl
  · rw [h]; rfl
  · rw [h, th_big (by omega)]
    show some (f_X9_fieldSlot (nI v) (nI (kc K i))) = _
    rw [fslot]; rfl
  · rw [h, th_big (by omega)]; rfl
  · rw [h, th_big (by omega)]
    by_cases h0 : fl = 0
    · subst h0; rfl
    · have e1 : fl = 1 := by omega
      subst e1
      rw [(hP.2.2.2.2 v (hf h h0)).2]; rfl
theorem s_flowTarget (hp : PC p) (hP : RPc c p P) (hL : RLc c (p + 9) K) (hw : CWF P K) (hi : i < nc K) (hv : v < 10) (hf : kd K i = 4 → fl = 0 → bt (fs P) v = true) (hfl : fl < 2) : f_X6_flowTarget c p (nI i) (nI v) (nI fl) = some (nI (ftg P K i v fl)) := by
  unfold f_X6_flowTarget
  rw [zp6 hp, zl0 hp.LC, zl1 hp.LC, zl2 hp.LC, zp3 hp, r_k1 hp.LC hL hw.1 hi, r_k3 hp.LC hL hw.1 hi, r_k2 hp.LC hL hw.1 hi, rdI_C (k := p + 7) (by rw [zn7 hp]; omega)]
  unfold ftg
  rcases kd_cases (hw.2.2 i hi) with h | h | h | h | h
  · rw [h]; rfl
  · rw [h]; rfl
  · rw [h]; rfl
  · rw [h]
    show some (f_X9_fieldSlot (nI v) (nI (kb K i))) = _
    rw [fslot]; rfl
  · rw [h]
    by_cases h0 : fl = 0
    · subst h0
      rw [(hP.2.2.2.2 v (hf h rfl)).1]; rfl
    · have e1 : fl = 1 := by omega
      subst e1; rfl
/-- the slot that supplies the via objects, -1 for none -/
def vslI (K : CK) (i : Nat) : Int32 := if kd K i = 2 ∨ kd K i = 4 then nI (kb K i) else if kd K i = 3 then nI (ka K i) else -1
theorem s_viaSlot (hp : PC p) (hL : RLc c (p + 9) K) (hw : CWF P K) (hi : i < nc K) : f_X6_viaSlot c p (nI i) = some (vslI K i) := by
  unfold f_X6_viaSlot
  rw [zp6 hp, zl0 hp.LC, zl1 hp.LC, zl2 hp.LC, r_k1 hp.LC hL hw.1 hi, r_k3 hp.LC hL hw.1 hi, r_k2 hp.LC hL hw.1 hi]
  unfold vslI
  rcases kd_cases (hw.2.2 i hi) with h | h | h | h | h <;> rw [h] <;> rfl
theorem s_viasIn (hp : PC p) (hP : RPc c p P) (hL : RLc c (p + 9) K) (hPw : PWF P) (hw : CWF P K) (hi : i < nc K) {q : Nat} (hq : zln zC q = 56) : f_X6_viasIn c p q (nI i) = some (vset P K (c.1 q) i) := by
  have hr := hw.2.2 i hi
  have hnv := hPw.1
  unfold f_X6_viasIn
  rw [zp6 hp, zl0 hp.LC, r_k1 hp.LC hL hw.1 hi, s_viaSlot hp hL hw hi, Option.bind_some, Option.bind_some]
  unfold vset vslI
  rcases kd_cases hr with h | h | h | h | h
  · rw [h]; rfl
  · rw [h]; rfl
  · have hb := hr.2.2.2.2.1 h
    rw [h, if_pos (Or.inl rfl), if_neg (n_m1 (by omega)), rdI_C (by rw [hq]; omega)]
    rfl
  · have hb := hr.2.1
    rw [h, if_neg (show ¬ ((3 : Nat) = 2 ∨ (3 : Nat) = 4) by decide), if_pos (show (3 : Nat) = 3 from rfl), if_neg (n_m1 (by omega)), rdI_C (by rw [hq]; omega)]
    rfl
  · have hb := hr.2.2.2.2.2.2 h
    rw [h, if_pos (Or.inr rfl), if_neg (n_m1 (by omega)), rdI_C (by rw [hq]; omega), hP.2.2.2.1]
    rfl
end FL
/-- flows stay among the slots -/
theorem fsr_lt {P : PK} {K : CK} {i v fl : Nat} (hP : PWF P) (hw : CWF P K) (hi : i < nc K) (hv : v < 10) (hk : kd K i ≠ 0) (hf : kd K i = 4 → bt (fs P) v = true) : fsr P K i v fl < 56 := by
  obtain ⟨g0, g1, g2, g3, g4, g5, g6⟩ := hw.2.2 i hi
  obtain ⟨q1, q2, q3, q4⟩ := hP
  unfold fsr
  by_cases h2 : kd K i = 2
  · rw [if_pos h2]; have := g4 h2; omega
  · rw [if_neg h2]
    by_cases h3 : kd K i = 3
    · rw [if_pos h3]; have := g5 h3; omega
    · rw [if_neg h3]
      by_cases h4 : kd K i = 4
      · rw [if_pos h4]
        have h5 := q4 v (hf h4)
        have h6 := g6 h4
        by_cases h0 : fl = 0
        · rw [if_pos h0]; omega
        · rw [if_neg h0]; omega
      · rw [if_neg h4]; have := g3 (by omega); omega
theorem ftg_lt {P : PK} {K : CK} {i v fl : Nat} (hP : PWF P) (hw : CWF P K) (hi : i < nc K) (hv : v < 10) (hf : kd K i = 4 → bt (fs P) v = true) : ftg P K i v fl < 56 := by
  obtain ⟨g0, g1, g2, g3, g4, g5, g6⟩ := hw.2.2 i hi
  obtain ⟨q1, q2, q3, q4⟩ := hP
  unfold ftg
  by_cases h3 : kd K i = 3
  · rw [if_pos h3]; have := g5 h3; omega
  · rw [if_neg h3]
    by_cases h4 : kd K i = 4
    · rw [if_pos h4]
      have h5 := q4 v (hf h4)
      by_cases h0 : fl = 0
      · rw [if_pos h0]; omega
      · rw [if_neg h0]; omega
    · rw [if_neg h4]; omega
