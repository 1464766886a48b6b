-- deps: b2
/-! All locations of the program, in the law's order. -/
def nL (P : PK) : Nat := nv P + no P * nf P
def sI (P : PK) (i : Nat) : Nat := if i < nv P then i else 16 + 4 * ((i - nv P) / nf P) + (i - nv P) % nf P
section LO
variable {p : Nat} {P : PK} {K : CK} {c m : Wd} {i j s o r : Nat}
theorem nL_le (hP : PWF P) : nL P ≤ 56 := by
  have h1 := hP.1
  have h3 := Nat.mul_le_mul hP.2.1 hP.2.2.1
  unfold nL
  omega
theorem sI_fld (hf : j < nf P) : sI P (nv P + o * nf P + j) = 16 + 4 * o + j := by
  unfold sI
  rw [if_neg (by omega), show nv P + o * nf P + j - nv P = o * nf P + j by omega, Nat.mul_comm o, Nat.mul_add_div (by omega), Nat.mul_add_mod, Nat.div_eq_of_lt hf, Nat.mod_eq_of_lt hf, Nat.add_zero]
/-- an index is a variable's or a field's -/
theorem sI_cases (hi : i < nL P) : (i < nv P ∧ sI P i = i) ∨ ∃ o f, o < no P ∧ f < nf P ∧ i = nv P + o * nf P + f ∧ sI P i = 16 + 4 * o + f := by
  by_cases h : i < nv P
  · exact Or.inl ⟨h, if_pos h⟩
  · refine Or.inr ?_
    unfold nL at hi
    have hf : 0 < nf P := by
      rcases Nat.eq_zero_or_pos (nf P) with z | z
      · rw [z, Nat.mul_zero] at hi; omega
      · exact z
    have hd := Nat.div_add_mod (i - nv P) (nf P)
    have hm := Nat.mod_lt (i - nv P) hf
    have e : i = nv P + (i - nv P) / nf P * nf P + (i - nv P) % nf P := by rw [Nat.mul_comm]; omega
    have ho : (i - nv P) / nf P < no P := by
      refine Nat.div_lt_of_lt_mul ?_
      rw [Nat.mul_comm]; omega
    refine ⟨(i - nv P) / nf P, (i - nv P) % nf P, ho, hm, e, ?_⟩
    exact if_neg h
theorem sI_slok (hi : i < nL P) : SlOK P (sI P i) := by
  rcases sI_cases hi with ⟨h, e⟩ | ⟨o, f, ho, hf, -, e⟩
  · rw [e]; exact Or.inl h
  · rw [e]; exact Or.inr ⟨o, f, ho, hf, rfl⟩
theorem sI_exi (hP : PWF P) (hi : i < nL P) : exi P (sI P i) = true := exi_ok hP (sI_slok hi)
theorem sI_lt (hP : PWF P) (hi : i < nL P) : sI P i < 56 := (sI_slok hi).lt hP
theorem sI_mono (hP : PWF P) (hij : i < j) (hj : j < nL P) : sI P i < sI P j := by
  have h1 := hP.1
  have h3 := hP.2.2.1
  rcases sI_cases (P := P) (i := i) (by omega) with ⟨a, e⟩ | ⟨o, f, ho, hf, a, e⟩ <;> rcases sI_cases hj with ⟨b, e'⟩ | ⟨o', f', ho', hf', b, e'⟩
  · omega
  · omega
  · omega
  · rw [e, e']
    have hoo : o ≤ o' := by
      rcases Nat.lt_or_ge o' o with z | z
      · have := Nat.mul_le_mul_right (nf P) (show o' + 1 ≤ o from z)
        rw [Nat.add_mul] at this
        omega
      · exact z
    rcases Nat.lt_or_ge o o' with z | z
    · omega
    · have : o = o' := by omega
      subst this
      omega
theorem sI_surj (hP : PWF P) (h : exi P s = true) : ∃ i, i < nL P ∧ sI P i = s := by
  unfold exi at h
  rw [Bool.or_eq_true] at h
  rcases h with h | h
  · have h := of_decide_eq_true h
    exact ⟨s, by unfold nL; omega, if_pos h.1⟩
  · have h := of_decide_eq_true h
    obtain ⟨h1, h2, h3⟩ := h
    refine ⟨nv P + (s - 16) / 4 * nf P + (s - 16) % 4, ?_, ?_⟩
    · have := Nat.mul_le_mul_right (nf P) (show (s - 16) / 4 + 1 ≤ no P from h2)
      rw [Nat.add_mul] at this
      unfold nL
      omega
    · rw [sI_fld h3]; omega
theorem sI_inj (hP : PWF P) (hi : i < nL P) (hj : j < nL P) (h : sI P i = sI P j) : i = j := by
  rcases Nat.lt_trichotomy i j with z | z | z
  · have := sI_mono hP z hj; omega
  · exact z
  · have := sI_mono hP z hi; omega
theorem c_nv (h : Base p P K c m) : f_X9_variableCount c 0 = some (nI (nv P)) := by
  unfold f_X9_variableCount
  rw [h.rp, Option.bind_some, zp0 h.1, h.2.2.1.1]
theorem c_nf (h : Base p P K c m) : f_X9_fieldCount c 0 = some (nI (nf P)) := by
  unfold f_X9_fieldCount
  rw [h.rp, Option.bind_some, zp2 h.1, h.2.2.1.2.2.1]
theorem locs_fwd (h : Base p P K c m) : ∃ fa, f_L_locations c = some (nL P, fa) ∧ ∀ i, i < nL P → fa i = nI (lcn (sI P i)) := by
  have hP := h.2.2.2.2.2.2.1
  have h1 := hP.1
  have h2 := hP.2.1
  have h3 := hP.2.2.1
  have hle := nL_le hP
  have hal : alN (nI (nv P) + nI (no P) * nI (nf P)) = some (nL P) := by
    rw [pk_mul, nI_add]
    show alN (nI (nL P)) = _
    unfold alN
    rw [n_cl (by omega), if_neg (fun z => z.elim (n_neg (by omega)) (fun y => by omega))]
  obtain ⟨f1, e1, hf1⟩ : ∃ f1, lp (b_L_locations_21 c (nL P)) NF ((0 : Int32), (0 : Int32), (fun _ => 0)) = some (nI (nv P), f1) ∧ ∀ i, i < nv P → f1 i = nI i := by
    have key : wp (lp (b_L_locations_21 c (nL P)) NF ((0 : Int32), (0 : Int32), (fun _ => 0))) (fun q => q.1 = nI (nv P) ∧ ∀ i, i < nv P → q.2 i = nI i) := by
      refine lp_inv (fun k st => st.1 = nI k ∧ st.2.1 = nI k ∧ ∀ i, i < k → st.2.2 i = nI i) _ (nv P) ?_ ?_ (by have : NF = 65536 := rfl; omega) ⟨rfl, rfl, fun i hi => by omega⟩
      · rintro k ⟨a, b, f⟩ hk ⟨q1, q2, q3⟩
        dsimp only at q1 q2 q3
        subst q1 q2
        unfold b_L_locations_21
        rw [c_nv h, Option.bind_some]
        dsimp only
        rw [if_neg (fun z => by have := (n_le (by omega) (by omega)).mp z; omega), wrA_at (by unfold nL; omega) (by omega), Option.bind_some, wp_some]
        refine ⟨nI_1 k, nI_1 k, fun i hi => ?_⟩
        dsimp only
        by_cases e : i = k
        · rw [e, upd_s]
        · rw [upd_o e]; exact q3 i (by omega)
      · rintro ⟨a, b, f⟩ ⟨q1, q2, q3⟩
        dsimp only at q1 q2 q3
        subst q1 q2
        unfold b_L_locations_21
        rw [c_nv h, Option.bind_some]
        dsimp only
        rw [if_pos ((n_le (by omega) (by omega)).mpr (Nat.le_refl _)), wp_some]
        exact ⟨rfl, q3⟩
    obtain ⟨⟨a, f⟩, e1, e2, e3⟩ := key
    dsimp only at e2 e3
    subst e2
    exact ⟨f, e1, e3⟩
  obtain ⟨f2, e2, hf2⟩ : ∃ f2, lp (b_L_locations_44 c (nL P)) NF (nI (nv P), (0 : Int32), f1) = some f2 ∧ ∀ i, i < nL P → f2 i = nI (lcn (sI P i)) := by
    have key : wp (lp (b_L_locations_44 c (nL P)) NF (nI (nv P), (0 : Int32), f1)) (fun q => ∀ i, i < nL P → q i = nI (lcn (sI P i))) := by
      refine lp_inv (fun k st => st.1 = nI (nv P + k * nf P) ∧ st.2.1 = nI k ∧ ∀ i, i < nv P + k * nf P → st.2.2 i = nI (lcn (sI P i))) _ (no P) ?_ ?_ (by have : NF = 65536 := rfl; omega) ⟨by rw [Nat.zero_mul]; rfl, rfl, fun i hi => ?_⟩
      · rintro k ⟨a, b, f⟩ hk ⟨q1, q2, q3⟩
        dsimp only at q1 q2 q3
        subst q1 q2
        have hkn := Nat.mul_le_mul_right (nf P) (show k + 1 ≤ no P from hk)
        rw [Nat.add_mul, Nat.one_mul] at hkn
        have hnL : nL P = nv P + no P * nf P := rfl
        unfold b_L_locations_44
        rw [c_no h, Option.bind_some]
        dsimp only
        rw [if_neg (fun z => by have := (n_le (by omega) (by omega)).mp z; omega)]
        have key2 : wp (lp (b_L_locations_55 c (nL P) (nI (nv P + k * nf P), nI k, f)) NF (nI (nv P + k * nf P), (0 : Int32), f)) (fun q => q.1 = nI (nv P + (k + 1) * nf P) ∧ ∀ i, i < nv P + (k + 1) * nf P → q.2 i = nI (lcn (sI P i))) := by
          refine lp_inv (fun t st => st.1 = nI (nv P + k * nf P + t) ∧ st.2.1 = nI t ∧ ∀ i, i < nv P + k * nf P + t → st.2.2 i = nI (lcn (sI P i))) _ (nf P) ?_ ?_ (by have : NF = 65536 := rfl; omega) ⟨rfl, rfl, q3⟩
          · rintro t ⟨a, b, g⟩ ht ⟨r1, r2, r3⟩
            dsimp only at r1 r2 r3
            subst r1 r2
            unfold b_L_locations_55
            rw [c_nf h, Option.bind_some]
            dsimp only
            rw [if_neg (fun z => by have := (n_le (by omega) (by omega)).mp z; omega), wrA_at (by omega) (by omega), Option.bind_some, wp_some]
            refine ⟨nI_1 _, nI_1 t, fun i hi => ?_⟩
            dsimp only
            by_cases e : i = nv P + k * nf P + t
            · rw [e, upd_s, sI_fld ht, lcn_f (by omega), fld_ix]
              congr 1
              omega
            · rw [upd_o e]; exact r3 i (by omega)
          · rintro ⟨a, b, g⟩ ⟨r1, r2, r3⟩
            dsimp only at r1 r2 r3
            subst r1 r2
            unfold b_L_locations_55
            rw [c_nf h, Option.bind_some]
            dsimp only
            rw [if_pos ((n_le (by omega) (by omega)).mpr (Nat.le_refl _)), wp_some]
            have e : nv P + (k + 1) * nf P = nv P + k * nf P + nf P := by rw [Nat.add_mul, Nat.one_mul]; omega
            rw [e]
            exact ⟨rfl, r3⟩
        obtain ⟨⟨a, g⟩, g1, g2, g3⟩ := key2
        dsimp only at g2 g3
        subst g2
        rw [g1, Option.bind_some, wp_some]
        exact ⟨rfl, nI_1 k, g3⟩
      · rintro ⟨a, b, f⟩ ⟨q1, q2, q3⟩
        dsimp only at q1 q2 q3
        subst q1 q2
        unfold b_L_locations_44
        rw [c_no h, Option.bind_some]
        dsimp only
        rw [if_pos ((n_le (by omega) (by omega)).mpr (Nat.le_refl _)), wp_some]
        exact q3
      · rw [Nat.zero_mul, Nat.add_zero] at hi
        rw [show sI P i = i from if_pos hi, lcn_v (by omega)]
        exact hf1 i hi
    exact key
  refine ⟨f2, ?_, hf2⟩
  unfold f_L_locations
  rw [c_nv h, Option.bind_some, c_no h, Option.bind_some, c_nf h, Option.bind_some, hal, Option.bind_some, e1, Option.bind_some, e2, Option.bind_some]
/-- all sets and all facts that aren't -/
theorem sets_fwd (h : Base p P K c m) {fa f : Nat → Int32} (hfa : ∀ i, i < nL P → fa i = nI (lcn (sI P i))) (hf : LT (SS P K (RR P K)) f) {a b : Int32} : lp (b_L_lawB_253 (nL P, fa) c (a, b, f)) NF (0 : Int32) = some () := by
  have hP := h.2.2.2.2.2.2.1
  have h2 := hP.2.1
  have hle := nL_le hP
  refine wp_is (lp_inv (fun k st => st = nI k) _ (nL P) ?_ ?_ (by have : NF = 65536 := rfl; omega) rfl)
  · rintro k st hk q1
    subst q1
    have hs := sI_lt hP hk
    have he := sI_exi hP hk
    have hl := (lcn_lt hs).1
    unfold b_L_lawB_253
    dsimp only
    rw [if_neg (fun z => by have := (n_le (by omega) (by omega)).mp z; omega), rdS_at hk (by omega), Option.bind_some, hfa k hk, c_pts h hs he, Option.bind_some, rd140 hl, Option.bind_some, hf.1 _ hs, if_pos rfl]
    have key : lp (b_L_lawB_285 c (a, b, f) (nI (lcn (sI P k)))) NF (0 : Int32) = some () := by
      refine wp_is (lp_inv (fun o st => st = nI o) _ (no P) ?_ ?_ (by have : NF = 65536 := rfl; omega) rfl)
      · rintro o st ho q1
        subst q1
        unfold b_L_lawB_285
        rw [c_no h, Option.bind_some]
        dsimp only
        rw [if_neg (fun z => by have := (n_le (by omega) (by omega)).mp z; omega), rd140 hl, Option.bind_some, hf.1 _ hs]
        cases hb : bt (SS P K (RR P K) (sI P k)) o with
        | true =>
          rw [if_pos (fun z => by rw [(hasL (by omega)).mp z] at hb; cases hb)]
          unfold k_L_lawB_321
          rw [wp_some]
          exact nI_1 o
        | false =>
          rw [if_neg (fun z => z ((hasL (by omega)).mpr hb)), c_rnd h hs he ho, Option.bind_some, hb, if_pos (show (if false = true then nI (rd P K (sI P k) o) else -2) = (-2 : Int32) from if_neg (by decide))]
          unfold k_L_lawB_321
          rw [wp_some]
          exact nI_1 o
      · rintro st q1
        subst q1
        unfold b_L_lawB_285
        rw [c_no h, Option.bind_some, if_pos ((n_le (by omega) (by omega)).mpr (Nat.le_refl _)), wp_some]
        exact (rfl : () = ())
    rw [key, Option.bind_some, wp_some]
    exact nI_1 k
  · rintro st q1
    subst q1
    unfold b_L_lawB_253
    dsimp only
    rw [if_pos ((n_le (by omega) (by omega)).mpr (Nat.le_refl _)), wp_some]
    exact (rfl : () = ())
theorem pts_off (h : Base p P K c m) : f_X9_pointsTo c 0 (99 : Int32) = some (-1) ∧ f_X9_pointsTo c 0 (140 : Int32) = some (-1) := by
  have hP := h.2.2.2.2.2.2.1
  have h1 := hP.1
  have e1 : slI P (99 : Int32) = -1 := by
    unfold slI
    rw [if_neg (fun z => by have := (n_lt (a := 99) (by omega) (by omega)).mp z.2; omega), if_pos (Or.inl (by decide))]
  have e2 : slI P (140 : Int32) = -1 := by
    unfold slI
    rw [if_neg (fun z => by have := (n_lt (a := 140) (by omega) (by omega)).mp z.2; omega), if_pos (Or.inr (by decide))]
  constructor
  · unfold f_X9_pointsTo
    rw [h.rp, Option.bind_some, c_slot h, e1]; rfl
  · unfold f_X9_pointsTo
    rw [h.rp, Option.bind_some, c_slot h, e2]; rfl
end LO
theorem pow_en : ∀ k, k < 11 → ∀ i, i < 32 → bt (jshl 1 (nI k) - 1) i = decide (i < k) := by decide +kernel
/-- the law behind its program: what is left is the edges -/
theorem lawB_fwd {p : Nat} {P : PK} {K : CK} {c m : Wd} {k : Nat} (h : Base p P K c m) (hen : ∀ i, bt (en K) i = decide (i < nc K)) (hk : nc K = k) (h3 : 3 ≤ k) (h10 : k ≤ 10)
    (hE : ∀ (fa f : Nat → Int32), (∀ i, i < nL P → fa i = nI (lcn (sI P i))) → LT (SS P K (RR P K)) f → ∃ c', f_L_areEdges c (nL P) fa f = some (1, c') ∧ Base p P K c' m) : f_L_lawB c (nI k) = some () := by
  have hP := h.2.2.2.2.2.2.1
  have hle := nL_le hP
  obtain ⟨f, e1, e2⟩ := rounds_fwd h hen
  obtain ⟨fa, e3, e4⟩ := locs_fwd h
  obtain ⟨c', e5, e6⟩ := hE fa f e4 e2
  have hen2 : en K = jshl 1 (nI k) - 1 := b_ext fun i hi => by rw [hen, pow_en k (by omega) i hi, hk]
  have hfc : f_X9_factCount c 0 = nI (cntT (SS P K (RR P K))) := h.2.2.2.2.2.2.2.2.1.2.2.1
  have hrc : f_X9_roundCount c 0 = nI (RR P K) := h.2.2.2.2.2.2.2.2.1.2.2.2.1
  unfold f_L_lawB
  rw [if_neg (fun z => by have := (n_lt (b := 3) (by omega) (by omega)).mp z; omega), c_nc h, Option.bind_some, hk, if_neg (fun z => z rfl), c_enb h, Option.bind_some, if_pos hen2, e1, Option.bind_some]
  dsimp only
  rw [hfc, if_neg (fun z => z rfl), hrc, if_pos rfl, e3, Option.bind_some, sets_fwd h e4 e2, Option.bind_some]
  dsimp only
  rw [show gN (nL P) = some () from if_pos (by omega), Option.bind_some, e5, Option.bind_some]
  dsimp only
  rw [if_neg (show ¬ (1 : Int32) = 0 by decide), (pts_off e6).1, Option.bind_some, if_neg (fun z => z rfl), (pts_off e6).2, Option.bind_some, if_neg (fun z => z rfl)]
