-- deps: b5
/-! The law's table of ways is made. -/
section FA
variable {p : Nat} {P : PK} {K : CK} {c m w : Wd} {fa f : Nat → Int32} {a b k n : Nat}
theorem EI_ne (hP : PWF P) (hK : CWF P K) (h : EI P K a b = true) : a ≠ b := fun e => by
  have := (ED_lt hP hK h).2.2
  rw [e] at this
  exact this rfl
/-- rows before a, and of row a the places before b, hold g; the others h -/
def Mx (n : Nat) (g h : Nat → Nat → Nat) (a b : Nat) (ff : Nat → Nat → Int32) : Prop := ∀ x y, x < n → y < n → ff x y = nI (if x < a ∨ (x = a ∧ y < b) then g x y else h x y)
theorem Mx.put {g h : Nat → Nat → Nat} {ff : Nat → Nat → Int32} (hM : Mx n g h a b ff) {f1 : Nat → Int32} {v : Int32} (hv : v = nI (g a b)) (hf : f1 = upd (ff a) b v) : Mx n g h a (b + 1) (updR ff a f1) := by
  intro x y hx hy
  subst hf hv
  unfold updR
  have h0 := hM x y hx hy
  by_cases e : x = a
  · subst e
    rw [if_pos rfl]
    by_cases e2 : y = b
    · subst e2
      rw [upd_s, if_pos (Or.inr ⟨rfl, by omega⟩)]
    · rw [upd_o e2, h0]
      congr 1
      by_cases z : y < b
      · rw [if_pos (Or.inr ⟨rfl, z⟩), if_pos (Or.inr ⟨rfl, by omega⟩)]
      · rw [if_neg (by omega), if_neg (by omega)]
  · rw [if_neg e, h0]
    congr 1
    by_cases z : x < a
    · rw [if_pos (Or.inl z), if_pos (Or.inl z)]
    · rw [if_neg (by omega), if_neg (by omega)]
theorem Mx.row {g h : Nat → Nat → Nat} {ff : Nat → Nat → Int32} (hM : Mx n g h a n ff) : Mx n g h (a + 1) 0 ff := fun x y hx hy => by
  rw [hM x y hx hy]
  congr 1
  by_cases z : x < a ∨ x = a
  · rw [if_pos (by omega), if_pos (by omega)]
  · rw [if_neg (by omega), if_neg (by omega)]
theorem Mx.same {g h : Nat → Nat → Nat} {ff : Nat → Nat → Int32} (hM : Mx n g h a b ff) (e : g a b = h a b) : Mx n g h a (b + 1) ff := fun x y hx hy => by
  rw [hM x y hx hy]
  congr 1
  by_cases z : x < a ∨ (x = a ∧ y < b)
  · rw [if_pos z, if_pos (by omega)]
  · rw [if_neg z]
    by_cases z2 : x = a ∧ y = b
    · rw [if_pos (by omega), z2.1, z2.2, e]
    · rw [if_neg (by omega)]
theorem Mx.end {g h : Nat → Nat → Nat} {ff : Nat → Nat → Int32} (hM : Mx n g h n b ff) : ∀ x y, x < n → y < n → ff x y = nI (g x y) := fun x y hx hy => by
  rw [hM x y hx hy, if_pos (Or.inl hx)]
theorem rdI_n {α : Type} {g : Nat → α} {i : Nat} (hP : PWF P) (hi : i < nL P) : rdS g (nL P) (nI i) = some (g i) := rdS_at hi (by have := nL_le hP; omega)
theorem wrI_n {g : Nat → Int32} {i : Nat} {x : Int32} (hP : PWF P) (hi : i < nL P) : wrA g (nL P) (nI i) x = some (upd g i x) := wrA_at hi (by have := nL_le hP; omega)
set_option maxRecDepth 16000 in
/-- one pair of locations: is there an edge, and does it keep the sets? -/
theorem pair_ok (h : WG p P K m w) (hfa : ∀ i, i < nL P → fa i = nI (lcn (sI P i))) (hf : LT (SS P K (RR P K)) f) (ha : a < nL P) (hb : b < nL P) {ff : Nat → Nat → Int32} (hM : Mx (nL P) (di (EI P K) 0) (fun _ _ => 0) a b ff) {e0 : Nat} {y : Int32} {g0 : Nat → Nat → Int32} {w0 : Wd} :
    wp (b_L_areEdges_26 (nL P) (y, nI a, g0, w0) fa f (nI (e0 + cn (EI P K a) b), nI b, ff, w)) (lpS (fun st => st.1 = nI (e0 + cn (EI P K a) (b + 1)) ∧ st.2.1 = nI (b + 1) ∧ Mx (nL P) (di (EI P K) 0) (fun _ _ => 0) a (b + 1) st.2.2.1 ∧ WG p P K m st.2.2.2) (fun _ => False)) := by
  obtain ⟨hP, hK⟩ := h.pk
  have hle := nL_le hP
  have hsa := sI_lt hP ha
  have hsb := sI_lt hP hb
  have hea := sI_exi hP ha
  have heb := sI_exi hP hb
  have hcn : cn (EI P K a) (b + 1) = cn (EI P K a) b + (if EI P K a b = true then 1 else 0) := rfl
  unfold b_L_areEdges_26
  dsimp only
  rw [if_neg (fun z => by have := (n_le (by omega) (by omega)).mp z; omega)]
  by_cases e : a = b
  · subst e
    rw [if_neg (fun z => z rfl), rdI_n hP ha, Option.bind_some, hfa a ha]
    obtain ⟨w', e1, e2⟩ := e_has h hsa hea hsa hea
    rw [Option.bind_some, e1, Option.bind_some]
    dsimp only
    rw [if_pos (show (if sI P a = sI P a then (-1 : Int32) else if ED P K (sI P a) (sI P a) = true then 1 else 0) = -1 from if_pos rfl)]
    unfold k_L_areEdges_118
    rw [wp_some]
    refine ⟨?_, nI_1 a, hM.same ?_, e2⟩
    · dsimp only
      rw [hcn, if_neg (fun z => EI_ne hP hK z rfl)]; rfl
    · unfold di; rw [if_pos rfl]
  · have hne : ¬ sI P a = sI P b := fun z => e (sI_inj hP ha hb z)
    rw [if_pos (show ¬ nI a = nI b from fun z => e ((n_eq (by omega) (by omega)).mp z)), rdI_n (g := fun q : Nat => q) hP ha, Option.bind_some, wrI_n hP hb, Option.bind_some, rdI_n hP ha, Option.bind_some, rdI_n hP hb, Option.bind_some, hfa a ha, hfa b hb]
    obtain ⟨w', e1, e2⟩ := e_has h hsa hea hsb heb
    rw [e1, Option.bind_some]
    dsimp only
    rw [if_neg hne]
    cases hE : EI P K a b with
    | false =>
      have hE' : ED P K (sI P a) (sI P b) = false := hE
      rw [hE', if_neg (show ¬ (false : Bool) = true by decide), if_neg (show ¬ ¬ (0 : Int32) = 0 from fun z => z rfl)]
      unfold k_L_areEdges_118
      rw [wp_some]
      refine ⟨?_, nI_1 b, hM.put (v := (1000 : Int32)) ?_ rfl, e2⟩
      · dsimp only
        rw [hcn, hE, if_neg (show ¬ (false : Bool) = true by decide)]; rfl
      · unfold di; rw [if_neg e, if_neg (by rw [hE]; decide)]; rfl
    | true =>
      have hE' : ED P K (sI P a) (sI P b) = true := hE
      have la := (lcn_lt hsa).1
      have lb := (lcn_lt hsb).1
      rw [hE', if_pos (show (true : Bool) = true from rfl), if_pos (show ¬ (1 : Int32) = 0 by decide), Option.bind_some, wrI_n hP hb, Option.bind_some, Option.bind_some, rd140 la, Option.bind_some, Option.bind_some, rd140 lb, Option.bind_some, hf.1 _ hsa, hf.1 _ hsb, if_pos (bt_diff.mpr fun j _ hj => LF_edge hP hK hE' hj)]
      unfold k_L_areEdges_118
      rw [wp_some]
      have hu : updR (updR ff a (upd (ff a) b 1000)) a (upd (updR ff a (upd (ff a) b 1000) a) b 1) = updR ff a (upd (ff a) b 1) := by
        funext x
        unfold updR
        by_cases z : x = a
        · rw [if_pos z, if_pos z, if_pos rfl]
          funext y
          by_cases z2 : y = b
          · subst z2; rw [upd_s, upd_s]
          · rw [upd_o z2, upd_o z2, upd_o z2]
        · rw [if_neg z, if_neg z, if_neg z]
      dsimp only
      rw [hu]
      refine ⟨?_, nI_1 b, hM.put (v := (1 : Int32)) ?_ rfl, e2⟩
      · dsimp only
        rw [hcn, hE, if_pos (show (true : Bool) = true from rfl)]; exact nI_1 _
      · unfold di; rw [if_neg e, if_pos hE]; rfl
theorem pairs_ok (h : WG p P K m w) (hfa : ∀ i, i < nL P → fa i = nI (lcn (sI P i))) (hf : LT (SS P K (RR P K)) f) : ∃ ff w', lp (b_L_areEdges_17 (nL P) fa f) NF ((0 : Int32), (0 : Int32), (fun _ _ => 0), w) = some (.inl (nI (sm (fun a => cn (EI P K a) (nL P)) (nL P)), ff, w')) ∧ WG p P K m w' ∧ ∀ x y, x < nL P → y < nL P → ff x y = nI (di (EI P K) 0 x y) := by
  obtain ⟨hP, hK⟩ := h.pk
  have hle := nL_le hP
  have key : wp (lp (b_L_areEdges_17 (nL P) fa f) NF ((0 : Int32), (0 : Int32), (fun _ _ => 0), w)) (fun q => ∃ ff w', q = .inl (nI (sm (fun a => cn (EI P K a) (nL P)) (nL P)), ff, w') ∧ WG p P K m w' ∧ ∀ x y, x < nL P → y < nL P → ff x y = nI (di (EI P K) 0 x y)) := by
    refine lp_inv (fun a st => st.1 = nI (sm (fun a => cn (EI P K a) (nL P)) a) ∧ st.2.1 = nI a ∧ Mx (nL P) (di (EI P K) 0) (fun _ _ => 0) a 0 st.2.2.1 ∧ WG p P K m st.2.2.2) _ (nL P) ?_ ?_ (by have : NF = 65536 := rfl; omega) ⟨rfl, rfl, fun x y _ _ => by show (0 : Int32) = _; rw [if_neg (by omega)]; rfl, h⟩
    · rintro a ⟨e0, a', g0, w1⟩ ha ⟨q1, q2, q3, q4⟩
      dsimp only at q1 q2 q3 q4
      subst q1 q2
      unfold b_L_areEdges_17
      dsimp only
      rw [if_neg (fun z => by have := (n_le (by omega) (by omega)).mp z; omega)]
      have key2 : wp (lp (b_L_areEdges_26 (nL P) (nI (sm (fun a => cn (EI P K a) (nL P)) a), nI a, g0, w1) fa f) NF (nI (sm (fun a => cn (EI P K a) (nL P)) a), (0 : Int32), g0, w1)) (fun q => ∃ ff w', q = .inl (nI (sm (fun a => cn (EI P K a) (nL P)) (a + 1)), ff, w') ∧ WG p P K m w' ∧ Mx (nL P) (di (EI P K) 0) (fun _ _ => 0) a (nL P) ff) := by
        refine lp_inv (fun b st => st.1 = nI (sm (fun a => cn (EI P K a) (nL P)) a + cn (EI P K a) b) ∧ st.2.1 = nI b ∧ Mx (nL P) (di (EI P K) 0) (fun _ _ => 0) a b st.2.2.1 ∧ WG p P K m st.2.2.2) _ (nL P) ?_ ?_ (by have : NF = 65536 := rfl; omega) ⟨rfl, rfl, q3, q4⟩
        · rintro b ⟨e1, b', g1, w2⟩ hb ⟨r1, r2, r3, r4⟩
          dsimp only at r1 r2 r3 r4
          subst r1 r2
          obtain ⟨bb, z1, z2⟩ := pair_ok r4 hfa hf ha hb r3 (e0 := sm (fun a => cn (EI P K a) (nL P)) a) (y := nI (sm (fun a => cn (EI P K a) (nL P)) a)) (g0 := g0) (w0 := w1)
          refine ⟨bb, z1, ?_⟩
          cases bb with
          | inl s' => exact z2
          | inr r => exact z2.elim
        · rintro ⟨e1, b', g1, w2⟩ ⟨r1, r2, r3, r4⟩
          dsimp only at r1 r2 r3 r4
          subst r1 r2
          unfold b_L_areEdges_26
          dsimp only
          rw [if_pos ((n_le (by omega) (by omega)).mpr (Nat.le_refl _)), wp_some]
          exact ⟨g1, w2, rfl, r4, r3⟩
      obtain ⟨q, z1, ff, w', rfl, z2, z3⟩ := key2
      rw [z1, Option.bind_some]
      dsimp only
      rw [wp_some]
      exact ⟨rfl, nI_1 a, z3.row, z2⟩
    · rintro ⟨e0, a', g0, w1⟩ ⟨q1, q2, q3, q4⟩
      dsimp only at q1 q2 q3 q4
      subst q1 q2
      unfold b_L_areEdges_17
      dsimp only
      rw [if_pos ((n_le (by omega) (by omega)).mpr (Nat.le_refl _)), wp_some]
      exact ⟨g0, w1, rfl, q4, q3.end⟩
  obtain ⟨q, z1, ff, w', rfl, z2, z3⟩ := key
  exact ⟨ff, w', z1, z2, z3⟩
theorem edges_sum (hP : PWF P) (hK : CWF P K) : sm (fun s => cn (ED P K s) 56) 56 = sm (fun a => cn (EI P K a) (nL P)) (nL P) := by
  rw [idx_sm (nL P) 56 (sI P) _ (fun i j h1 h2 => sI_mono hP h1 h2) (fun i hi => sI_lt hP hi) (fun s hs h => by
    have : exb (ED P K s) 56 = true := by
      cases e : exb (ED P K s) 56 with
      | true => rfl
      | false => exact absurd (cn_exb.mpr e) h
    obtain ⟨t, _, ht⟩ := exb_iff.mp this
    exact sI_surj hP (ED_exi hP hK ht).1)]
  refine sm_cong fun a ha => ?_
  exact idx_cn (nL P) 56 (sI P) _ (fun i j h1 h2 => sI_mono hP h1 h2) (fun i hi => sI_lt hP hi) (fun s hs h => sI_surj hP (ED_exi hP hK h).2)
theorem ways_ok (hP : PWF P) {ff : Nat → Nat → Int32} (h0 : ∀ x y, x < nL P → y < nL P → ff x y = nI (di (EI P K) 0 x y)) : ∃ ff', lp (b_L_areEdges_144 (nL P)) NF ((0 : Int32), ff) = some ff' ∧ ∀ x y, x < nL P → y < nL P → ff' x y = nI (di (EI P K) (nL P) x y) := by
  have hle := nL_le hP
  have key : wp (lp (b_L_areEdges_144 (nL P)) NF ((0 : Int32), ff)) (fun ff' => ∀ x y, x < nL P → y < nL P → ff' x y = nI (di (EI P K) (nL P) x y)) := by
    refine lp_inv (fun k st => st.1 = nI k ∧ ∀ x y, x < nL P → y < nL P → st.2 x y = nI (di (EI P K) k x y)) _ (nL P) ?_ ?_ (by have : NF = 65536 := rfl; omega) ⟨rfl, h0⟩
    · rintro k ⟨k', g0⟩ hk ⟨q1, q2⟩
      dsimp only at q1 q2
      subst q1
      unfold b_L_areEdges_144
      dsimp only
      rw [if_neg (fun z => by have := (n_le (by omega) (by omega)).mp z; omega)]
      have key2 : wp (lp (b_L_areEdges_153 (nL P) (nI k, g0)) NF ((0 : Int32), g0)) (fun ff' => ∀ x y, x < nL P → y < nL P → ff' x y = nI (di (EI P K) (k + 1) x y)) := by
        refine lp_inv (fun a st => st.1 = nI a ∧ Mx (nL P) (di (EI P K) (k + 1)) (di (EI P K) k) a 0 st.2) _ (nL P) ?_ ?_ (by have : NF = 65536 := rfl; omega) ⟨rfl, fun x y hx hy => by dsimp only; rw [q2 x y hx hy, if_neg (by omega)]⟩
        · rintro a ⟨a', g1⟩ ha ⟨r1, r2⟩
          dsimp only at r1 r2
          subst r1
          unfold b_L_areEdges_153
          dsimp only
          rw [if_neg (fun z => by have := (n_le (by omega) (by omega)).mp z; omega)]
          have key3 : wp (lp (b_L_areEdges_162 (nL P) (nI a, g1) (nI k, g0)) NF ((0 : Int32), g1)) (fun ff' => Mx (nL P) (di (EI P K) (k + 1)) (di (EI P K) k) a (nL P) ff') := by
            refine lp_inv (fun b st => st.1 = nI b ∧ Mx (nL P) (di (EI P K) (k + 1)) (di (EI P K) k) a b st.2) _ (nL P) ?_ ?_ (by have : NF = 65536 := rfl; omega) ⟨rfl, r2⟩
            · rintro b ⟨b', g2⟩ hb ⟨u1, u2⟩
              dsimp only at u1 u2
              subst u1
              have v1 : g2 a b = nI (di (EI P K) k a b) := by rw [u2 a b ha hb, if_neg (by omega)]
              have v2 : g2 a k = nI (di (EI P K) k a k) := by
                rw [u2 a k ha hk]
                congr 1
                split
                · exact di_col
                · rfl
              have v3 : g2 k b = nI (di (EI P K) k k b) := by
                rw [u2 k b hk hb]
                congr 1
                split
                · exact di_row
                · rfl
              have l1 := di_le (E := EI P K) (k := k) (a := a) (b := b)
              have l2 := di_le (E := EI P K) (k := k) (a := a) (b := k)
              have l3 := di_le (E := EI P K) (k := k) (a := k) (b := b)
              unfold b_L_areEdges_162
              dsimp only
              rw [if_neg (fun z => by have := (n_le (by omega) (by omega)).mp z; omega), rdI_n (g := fun q : Nat => q) hP ha, rdI_n (g := fun q : Nat => q) hP hk]
              simp only [Option.bind_some]
              rw [rdI_n hP hb, rdI_n hP hk, rdI_n hP hb, v1, v2, v3]
              simp only [Option.bind_some]
              rw [nI_add, wrI_n hP hb, Option.bind_some, wp_some]
              refine ⟨nI_1 b, u2.put (v := nI (di (EI P K) (k + 1) a b)) rfl ?_⟩
              congr 1
              rw [di_s]
              by_cases z : di (EI P K) k a k + di (EI P K) k k b < di (EI P K) k a b
              · rw [if_pos ((n_lt (by omega) (by omega)).mpr z), Nat.min_eq_right (by omega)]
              · rw [if_neg (fun y => z ((n_lt (by omega) (by omega)).mp y)), Nat.min_eq_left (by omega)]
            · rintro ⟨b', g2⟩ ⟨u1, u2⟩
              dsimp only at u1 u2
              subst u1
              unfold b_L_areEdges_162
              dsimp only
              rw [if_pos ((n_le (by omega) (by omega)).mpr (Nat.le_refl _)), wp_some]
              exact u2
          obtain ⟨g2, z1, z2⟩ := key3
          rw [z1, Option.bind_some, wp_some]
          exact ⟨nI_1 a, z2.row⟩
        · rintro ⟨a', g1⟩ ⟨r1, r2⟩
          dsimp only at r1 r2
          subst r1
          unfold b_L_areEdges_153
          dsimp only
          rw [if_pos ((n_le (by omega) (by omega)).mpr (Nat.le_refl _)), wp_some]
          exact r2.end
      obtain ⟨g2, z1, z2⟩ := key2
      rw [z1, Option.bind_some, wp_some]
      exact ⟨nI_1 k, z2⟩
    · rintro ⟨k', g0⟩ ⟨q1, q2⟩
      dsimp only at q1 q2
      subst q1
      unfold b_L_areEdges_144
      dsimp only
      rw [if_pos ((n_le (by omega) (by omega)).mpr (Nat.le_refl _)), wp_some]
      exact q2
  exact key
end FA
