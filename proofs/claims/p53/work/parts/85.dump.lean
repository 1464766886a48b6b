/-! dumpLength, dumpByte. -/
def obL (O : Nat → Wrd) (S : Int32) : Nat → List Nat
  | 0 => []
  | o + 1 => obL O S o ++ (if bt S o = true then 32 :: nmL (O o) else [])
noncomputable def DLs (P : PK) (K : CK) (V O : Nat → Wrd) : Nat → List Nat
  | 0 => []
  | v + 1 => DLs P K V O v ++ (if LF P K v = 0 then [] else nmL (V v) ++ obL O (LF P K v) (no P) ++ [59])
/-- the names of the program, in the class and in the reference -/
def NmC (c : Wd) (p : Nat) (P : PK) (V O : Nat → Wrd) : Prop := (∀ v, v < nv P → WOK (V v) ∧ c.2.1 (p + 2) v = cN (V v)) ∧ ∀ o, o < no P → WOK (O o) ∧ c.2.1 (p + 4) o = cN (O o)
def NmM (m : Wd) (P : PK) (V O : Nat → Wrd) : Prop := (∀ v, v < nv P → m.2.1 5 v = mN (V v)) ∧ ∀ o, o < no P → m.2.1 6 o = mN (O o)
/-- the dump's cells are right; the dump's cache -/
def DT (P : PK) (K : CK) (V O : Nat → Wrd) (c : Wd) : Prop := c.1 58 1 = nI (DLs P K V O (nv P)).length ∧ TXt (c.1 59) (DLs P K V O (nv P))
def DC (P : PK) (K : CK) (V O : Nat → Wrd) (c : Wd) : Prop := c.1 0 10 = bI true ∨ (c.1 0 10 = bI false ∧ DT P K V O c)
/-- what the dump's calls leave alone in the class, in the reference -/
def FdC (c c' : Wd) : Prop := (∀ q, q ≠ 0 → q ≠ 58 → q ≠ 59 → c'.1 q = c.1 q) ∧ (∀ j, j ≠ 10 → c'.1 0 j = c.1 0 j) ∧ c'.2 = c.2
def FdM (m m' : Wd) : Prop := (∀ q, q ≠ 0 → q ≠ 23 → m'.1 q = m.1 q) ∧ (∀ j, j ≠ 41 → m'.1 0 j = m.1 0 j) ∧ m'.2 = m.2
theorem FdC.refl (c : Wd) : FdC c c := ⟨fun _ _ _ _ => rfl, fun _ _ => rfl, rfl⟩
section DQ
variable {p : Nat} {P : PK} {K : CK} {V O : Nat → Wrd} {c c' m m' w : Wd} {l : List Nat} {b n k o v : Nat} {S : Int32} {x : Int32}
theorem obL_len (h : ∀ o, o < no P → WOK (O o)) (hn : n ≤ no P) : (obL O S n).length ≤ 7 * n := by
  induction n with
  | zero => exact Nat.le_refl 0
  | succ n ih =>
    have := ih (by omega)
    have h6 := (h n (by omega)).1
    rw [obL, List.length_append]
    split
    · rw [List.length_cons, nmL_len]; omega
    · rw [List.length_nil]; omega
theorem DLs_len (hP : PWF P) (hV : ∀ v, v < nv P → WOK (V v)) (hO : ∀ o, o < no P → WOK (O o)) (hn : n ≤ nv P) : (DLs P K V O n).length ≤ 77 * n := by
  have h10 := hP.2.1
  induction n with
  | zero => exact Nat.le_refl 0
  | succ n ih =>
    have := ih (by omega)
    have h6 := (hV n (by omega)).1
    have h7 := obL_len (S := LF P K n) hO (Nat.le_refl _)
    rw [DLs, List.length_append]
    split
    · rw [List.length_nil]; omega
    · rw [List.length_append, List.length_append, nmL_len, List.length_singleton]; omega
theorem TC.rp (h : TC l c w) (hp : PC p) (hP : RPc c p P) : RPc w p P := by
  have hpp : p = 4 ∨ p = 18 := hp
  have k := h.1
  unfold RPc at hP ⊢
  rw [k _ (by omega) (by omega), k _ (by omega) (by omega), k _ (by omega) (by omega), k p (by omega) (by omega), k _ (by omega) (by omega), k _ (by omega) (by omega)]
  exact hP
theorem zn2 {p : Nat} (h : PC p) : zln zC (p + 2) = 16 := by rcases h with rfl | rfl <;> rfl
theorem zn4 {p : Nat} (h : PC p) : zln zC (p + 4) = 16 := by rcases h with rfl | rfl <;> rfl
theorem zq1 {p : Nat} (h : PC p) : zrf zC (p + 1) 0 = p + 2 := by rcases h with rfl | rfl <;> rfl
theorem zq3 {p : Nat} (h : PC p) : zrf zC (p + 3) 0 = p + 4 := by rcases h with rfl | rfl <;> rfl
theorem c_writeObjects (h : TC l c w) (hp : PC p) (hP : RPc c p P) (hPw : PWF P) (hN : NmC c p P V O) (hl : l.length + 70 ≤ 1231) : ∃ w', f_X2_writeObjects w 58 (p + 3) S = some w' ∧ TC (l ++ obL O S (no P)) c w' := by
  suffices q : wp (f_X2_writeObjects w 58 (p + 3) S) (TC (l ++ obL O S (no P)) c) from q
  have h10 := hPw.2.1
  unfold f_X2_writeObjects
  rw [wp_bind]
  refine wp_mono (lp_inv (fun i s => s.1 = nI i ∧ TC (l ++ obL O S i) c s.2) (TC (l ++ obL O S (no P)) c) (no P) ?_ ?_ (by unfold NF; omega) ⟨rfl, by
    show TC (l ++ []) c w
    rw [List.append_nil]; exact h⟩) (fun r q => wp_some.mpr q)
  · rintro i ⟨a, r⟩ hi ⟨h1, h2⟩
    dsimp only at h1 h2
    subst h1
    have hw := hN.2 i hi
    have ho := obL_len (S := S) (fun o ho => (hN.2 o ho).1) (show i ≤ no P by omega)
    unfold b_X2_writeObjects_1
    dsimp only
    rw [(h2.rp hp hP).2.1, if_pos ((n_lt (by omega) (by omega)).mpr hi), cont_bt (by omega)]
    cases e : bt S i with
    | false =>
      rw [if_neg (by decide), Option.bind_some, wp_some]
      refine ⟨nI_1 i, ?_⟩
      show TC (l ++ (obL O S i ++ (if bt S i = true then _ else []))) c r
      rw [e, if_neg (by decide), List.append_nil]
      exact h2
    | true =>
      rw [if_pos rfl]
      obtain ⟨w1, e1, e2⟩ := h2.put (b := 32) (by rw [List.length_append]; omega) (by omega)
      show wp (Option.bind (Option.bind (f_X2_writeByte r 58 (nI 32)) fun w6 => Option.bind (rdL zC w6 (zrf zC (p + 3) 0) (nI i)) _) _) _
      rw [e1, Option.bind_some, zq3 hp, rdL_C (by rw [zn4 hp]; omega), Option.bind_some, e2.2.2.1, hw.2]
      obtain ⟨w2, e3, e4⟩ := c_writeName e2 hw.1 (by rw [List.length_append, List.length_append]; show _ + 1 + 6 ≤ 1232; omega)
      rw [e3, Option.bind_some, Option.bind_some, wp_some]
      refine ⟨nI_1 i, ?_⟩
      show TC (l ++ (obL O S i ++ (if bt S i = true then 32 :: nmL (O i) else []))) c w2
      rw [e, if_pos rfl]
      rw [List.append_assoc, List.append_assoc] at e4
      exact e4
  · rintro ⟨a, r⟩ ⟨h1, h2⟩
    dsimp only at h1 h2
    subst h1
    unfold b_X2_writeObjects_1
    dsimp only
    rw [(h2.rp hp hP).2.1, if_neg (fun z => Nat.lt_irrefl _ ((n_lt (by omega) (by omega)).mp z)), wp_some]
    exact h2
theorem c_write (h : Base p P K c m) (hN : NmC c p P V O) : ∃ w, f_X2_write c 58 p 45 = some w ∧ TC (DLs P K V O (nv P)) c w := by
  suffices q : wp (f_X2_write c 58 p 45) (TC (DLs P K V O (nv P)) c) from q
  obtain ⟨hp, h2, hP, hL, h5, h6, hPw, hKw, h9, h10⟩ := h
  have hv16 := hPw.1
  have ho10 := hPw.2.1
  unfold f_X2_write
  rw [wp_bind, wp_some, wp_bind]
  refine wp_mono (lp_inv (fun i s => s.1 = nI i ∧ TC (DLs P K V O i) c s.2) (TC (DLs P K V O (nv P)) c) (nv P) ?_ ?_ (by unfold NF; omega) ⟨rfl, fun q q1 q2 => wsI_o _ _ _ q1, fun j hj => by dsimp only; rw [wsI_s, upd_o hj], rfl, by dsimp only; rw [wsI_s, upd_s]; rfl, fun j hj => absurd hj (Nat.not_lt_zero j)⟩) (fun r q => wp_some.mpr q)
  · rintro i ⟨a, r⟩ hi ⟨h1, h2⟩
    dsimp only at h1 h2
    subst h1
    have hw := hN.1 i hi
    have hl := DLs_len (K := K) (n := i) hPw (fun o ho => (hN.1 o ho).1) (fun o ho => (hN.2 o ho).1) (by omega)
    have hs : ∀ r', (∀ q, q ≠ 58 → q ≠ 59 → r'.1 q = c.1 q) → rdI zC r' (zrf zC 45 0) (nI i) = some (LF P K i) := fun r' hr => by
      show rdI zC r' 46 (nI i) = _
      rw [rdI_C (show i < 56 by omega), hr 46 (by omega) (by omega)]
      exact congrArg some (h9.1 i (by omega))
    unfold b_X2_write_1
    dsimp only
    rw [zp0 hp, zp1 hp, (h2.rp hp hP).1, if_pos ((n_lt (by omega) (by omega)).mpr hi), hs r h2.1, Option.bind_some]
    by_cases e : LF P K i = 0
    · rw [if_neg (fun z => z e), Option.bind_some, wp_some]
      refine ⟨nI_1 i, ?_⟩
      show TC (DLs P K V O i ++ (if LF P K i = 0 then [] else _)) c r
      rw [if_pos e, List.append_nil]
      exact h2
    · rw [if_pos e, zq1 hp, rdL_C (by rw [zn2 hp]; omega), Option.bind_some, h2.2.2.1, hw.2]
      obtain ⟨w1, e1, e2⟩ := c_writeName h2 hw.1 (by omega)
      rw [e1, Option.bind_some, hs w1 e2.1, Option.bind_some]
      have h6 := hw.1.1
      obtain ⟨w2, e3, e4⟩ := c_writeObjects (S := LF P K i) e2 hp hP hPw hN (by rw [List.length_append, nmL_len]; omega)
      rw [e3, Option.bind_some]
      have ho := obL_len (S := LF P K i) (fun o ho => (hN.2 o ho).1) (Nat.le_refl _)
      obtain ⟨w3, e5, e6⟩ := e4.put (b := 59) (by rw [List.length_append, List.length_append, nmL_len]; omega) (by omega)
      show wp (Option.bind (Option.bind (f_X2_writeByte w2 58 (nI 59)) _) _) _
      rw [e5, Option.bind_some, Option.bind_some, wp_some]
      refine ⟨nI_1 i, ?_⟩
      show TC (DLs P K V O i ++ (if LF P K i = 0 then [] else nmL (V i) ++ obL O (LF P K i) (no P) ++ [59])) c w3
      rw [if_neg e, List.append_assoc, ← List.append_assoc, ← List.append_assoc]
      exact e6
  · rintro ⟨a, r⟩ ⟨h1, h2⟩
    dsimp only at h1 h2
    subst h1
    unfold b_X2_write_1
    dsimp only
    rw [zp0 hp, (h2.rp hp hP).1, if_neg (fun z => Nat.lt_irrefl _ ((n_lt (by omega) (by omega)).mp z)), wp_some]
    exact h2
theorem c_dumped (h : Base p P K c m) (hN : NmC c p P V O) (hd : DC P K V O c) : ∃ c', f_X9_dumped c 0 = some (58, c') ∧ DT P K V O c' ∧ c'.1 0 10 = bI false ∧ FdC c c' := by
  unfold f_X9_dumped
  rcases hd with hd | ⟨hd, hD⟩
  · rw [hd, rdB_t, Option.bind_some, if_pos rfl, h.rp, Option.bind_some]
    obtain ⟨w, e1, e2, e3, e4, e5, e6⟩ := c_write h hN
    show ∃ c', Option.bind (Option.bind (f_X2_write c 58 p 45) _) _ = _ ∧ _
    rw [e1, Option.bind_some, Option.bind_some, Option.bind_some]
    refine ⟨wsI w 0 10 (bI false), rfl, ⟨?_, ?_⟩, by rw [wsI_s, upd_s], fun q q1 q2 q3 => by rw [wsI_o _ _ _ q1]; exact e2 q q2 q3, fun j hj => by rw [wsI_s, upd_o hj, e2 0 (by omega) (by omega)], e4⟩
    · rw [wsI_o _ _ _ (by omega)]; exact e5
    · rw [wsI_o _ _ _ (by omega)]; exact e6
  · rw [hd, rdB_t, Option.bind_some, if_neg (by decide), Option.bind_some]
    exact ⟨c, rfl, hD, hd, FdC.refl c⟩
/-! the reference's dump -/
theorem TM.bp (h : TM l m w) (hb : Base p P K c m) : RPm w P := hb.2.2.2.2.1.keep fun q _ _ => h.1 q (by omega) (by omega)
theorem TM.st (h : TM l m w) (hb : Base p P K c m) (hk : k < 56) : rdI zM w (zrf zM 0 24) (nI k) = some (LF P K k) := by
  show rdI zM w 15 (nI k) = _
  rw [rdI_M (show k < 56 from hk), h.1 15 (by omega) (by omega)]
  exact congrArg some (hb.2.2.2.2.2.2.2.2.2.1 k hk)
theorem m_vars (h : RPm m P) : rdI zM m (zrf zM 0 10) (0 : Int32) = some (nI (nv P)) := by
  show rdI zM m 2 (nI 0) = _
  rw [rdI_M (show 0 < 2 by omega), h.1]
theorem m_layDump (hb : Base p P K c m) (hN : NmC c p P V O) (hM : NmM m P V O) : ∃ w, f_X10_layDump m 0 = some w ∧ TM (DLs P K V O (nv P)) m w := by
  suffices q : wp (f_X10_layDump m 0) (TM (DLs P K V O (nv P)) m) from q
  have hPw := hb.2.2.2.2.2.2.1
  have hv16 := hPw.1
  have ho10 := hPw.2.1
  unfold f_X10_layDump
  rw [wp_bind, wp_some, wp_bind]
  refine wp_mono (lp_inv (fun i s => s.1 = nI i ∧ TM (DLs P K V O i) m s.2) (TM (DLs P K V O (nv P)) m) (nv P) ?_ ?_ (by unfold NF; omega) ⟨rfl, fun q q1 q2 => wsI_o _ _ _ q1, fun j hj => by dsimp only; rw [wsI_s, upd_o hj], rfl, by dsimp only; rw [wsI_s, upd_s]; rfl, fun j hj => absurd hj (Nat.not_lt_zero j)⟩) (fun r q => wp_some.mpr q)
  · rintro i ⟨a, r⟩ hi ⟨h1, h2⟩
    dsimp only at h1 h2
    subst h1
    have hw := hN.1 i hi
    have h6 := hw.1.1
    have hl := DLs_len (K := K) (n := i) hPw (fun o ho => (hN.1 o ho).1) (fun o ho => (hN.2 o ho).1) (by omega)
    unfold b_X10_layDump_1
    dsimp only
    rw [m_vars (h2.bp hb), Option.bind_some, if_pos ((n_lt (by omega) (by omega)).mpr hi), h2.st hb (by omega), Option.bind_some]
    by_cases e : LF P K i = 0
    · rw [if_pos e, wp_some]
      refine ⟨nI_1 i, ?_⟩
      show TM (DLs P K V O i ++ (if LF P K i = 0 then [] else _)) m r
      rw [if_pos e, List.append_nil]
      exact h2
    · rw [if_neg e]
      show wp (Option.bind (rdL zM r 5 (nI i)) _) _
      rw [rdL_M (show i < 32 by omega), Option.bind_some, h2.2.2.1, hM.1 i hi]
      obtain ⟨w1, e1, e2⟩ := m_writeName h2 hw.1 (by omega)
      rw [e1, Option.bind_some, wp_bind]
      refine wp_mono (lp_inv (fun o s => s.1 = nI o ∧ TM (DLs P K V O i ++ nmL (V i) ++ obL O (LF P K i) o) m s.2) (TM (DLs P K V O i ++ nmL (V i) ++ obL O (LF P K i) (no P)) m) (no P) ?_ ?_ (by unfold NF; omega) ⟨rfl, by
        show TM (DLs P K V O i ++ nmL (V i) ++ []) m w1
        rw [List.append_nil]; exact e2⟩) (fun r2 q => ?_)
      · rintro o ⟨a, r⟩ ho ⟨h1, h2⟩
        dsimp only at h1 h2
        subst h1
        have hw2 := hN.2 o ho
        have ho := obL_len (S := LF P K i) (fun o ho => (hN.2 o ho).1) (show o ≤ no P by omega)
        unfold b_X10_layDump_2
        dsimp only
        rw [m_objects (h2.bp hb), Option.bind_some, if_pos ((n_lt (by omega) (by omega)).mpr (by omega)), h2.st hb (by omega), Option.bind_some, has_bt (by omega)]
        cases e : bt (LF P K i) o with
        | false =>
          rw [if_pos (by decide), wp_some]
          refine ⟨nI_1 o, ?_⟩
          show TM (_ ++ (obL O (LF P K i) o ++ (if bt (LF P K i) o = true then _ else []))) m r
          rw [e, if_neg (by decide), List.append_nil]
          exact h2
        | true =>
          rw [if_neg (fun z => z rfl)]
          obtain ⟨w3, e3, e4⟩ := h2.put (b := 32) (by rw [List.length_append, List.length_append, nmL_len]; omega)
          show wp (Option.bind (f_X10_write r 0 (nI 32)) fun w16 => Option.bind (rdL zM w16 6 (nI o)) _) _
          rw [e3, Option.bind_some, rdL_M (show o < 20 by omega), Option.bind_some, e4.2.2.1, hM.2 o (by omega)]
          obtain ⟨w5, e5, e6⟩ := m_writeName e4 hw2.1 (by rw [List.length_append, List.length_append, List.length_append, nmL_len]; show _ + 1 + 6 ≤ 1300; omega)
          rw [e5, Option.bind_some, wp_some]
          refine ⟨nI_1 o, ?_⟩
          show TM (_ ++ (obL O (LF P K i) o ++ (if bt (LF P K i) o = true then 32 :: nmL (O o) else []))) m w5
          rw [e, if_pos rfl]
          rw [List.append_assoc] at e6
          rw [← List.append_assoc]
          exact e6
      · rintro ⟨a, r⟩ ⟨h1, h2⟩
        dsimp only at h1 h2
        subst h1
        unfold b_X10_layDump_2
        dsimp only
        rw [m_objects (h2.bp hb), Option.bind_some, if_neg (fun z => Nat.lt_irrefl _ ((n_lt (by omega) (by omega)).mp z)), wp_some]
        exact h2
      · have ho := obL_len (S := LF P K i) (fun o ho => (hN.2 o ho).1) (Nat.le_refl _)
        obtain ⟨w3, e3, e4⟩ := q.put (b := 59) (by rw [List.length_append, List.length_append, nmL_len]; omega)
        show wp (Option.bind (f_X10_write r2 0 (nI 59)) _) _
        rw [e3, Option.bind_some, wp_some]
        refine ⟨nI_1 i, ?_⟩
        show TM (DLs P K V O i ++ (if LF P K i = 0 then [] else nmL (V i) ++ obL O (LF P K i) (no P) ++ [59])) m w3
        rw [if_neg e, List.append_assoc, ← List.append_assoc, ← List.append_assoc]
        exact e4
  · rintro ⟨a, r⟩ ⟨h1, h2⟩
    dsimp only at h1 h2
    subst h1
    unfold b_X10_layDump_1
    dsimp only
    rw [m_vars (h2.bp hb), Option.bind_some, if_neg (fun z => Nat.lt_irrefl _ ((n_lt (by omega) (by omega)).mp z)), wp_some]
    exact h2
/-- class and reference answer alike; the class's dump is stale or right afterwards -/
def QDm (P : PK) (K : CK) (V O : Nat → Wrd) (c m : Wd) (f g : Option (Int32 × Wd)) : Prop := ∃ r c' m', f = some (r, c') ∧ g = some (r, m') ∧ FdC c c' ∧ DC P K V O c' ∧ FdM (wsI m 0 0 0) m'
theorem TM.fd (h : TM l m w) : FdM m w := ⟨h.1, h.2.1, h.2.2.1⟩
theorem q_dumpLength (h : Base p P K c m) (hN : NmC c p P V O) (hM : NmM m P V O) (hd : DC P K V O c) : QDm P K V O c m (f_X9_dumpLength c 0) (f_X10_dumpLength m 0) := by
  obtain ⟨c', e1, e2, e3, e4⟩ := c_dumped h hN hd
  obtain ⟨m', f1, f2⟩ := m_layDump (V := V) (O := O) h.m0 hN hM
  refine ⟨nI (DLs P K V O (nv P)).length, c', m', ?_, ?_, e4, Or.inr ⟨e3, e2⟩, f2.fd⟩
  · unfold f_X9_dumpLength
    rw [e1, Option.bind_some]
    dsimp only
    rw [e2.1]
  · unfold f_X10_dumpLength
    rw [Option.bind_some, f1, Option.bind_some, f2.2.2.2.1]
theorem q_dumpByte (h : Base p P K c m) (hN : NmC c p P V O) (hM : NmM m P V O) (hd : DC P K V O c) : QDm P K V O c m (f_X9_dumpByte c 0 x) (f_X10_dumpByte m 0 x) := by
  have hPw := h.2.2.2.2.2.2.1
  have hv16 := hPw.1
  have hl := DLs_len (K := K) (n := nv P) hPw (fun o ho => (hN.1 o ho).1) (fun o ho => (hN.2 o ho).1) (by omega)
  obtain ⟨c', e1, e2, e3, e4⟩ := c_dumped h hN hd
  obtain ⟨m', f1, f2⟩ := m_layDump (V := V) (O := O) h.m0 hN hM
  unfold QDm f_X9_dumpByte f_X10_dumpByte
  rw [e1, Option.bind_some, Option.bind_some, f1, Option.bind_some, f2.2.2.2.1, within_R (by omega)]
  dsimp only
  rw [e2.1]
  cases e : inR x (DLs P K V O (nv P)).length with
  | false =>
    rw [if_pos (by
      have e' := of_decide_eq_false e
      rcases Decidable.em (x < (0 : Int32)) with q | q
      · exact Or.inl q
      · refine Or.inr (i_lt fun z => e' ⟨i_lt q, z⟩)), if_neg (by decide), Option.bind_some, Option.bind_some]
    exact ⟨_, c', m', rfl, rfl, e4, Or.inr ⟨e3, e2⟩, f2.fd⟩
  | true =>
    obtain ⟨j, hj, rfl⟩ := inR_t (by omega) e
    rw [if_neg (fun z => z.elim (n_neg (by omega)) (fun y => by have := (n_le (by omega) (by omega)).mp y; omega)), if_pos rfl]
    show ∃ r c'' m'', Option.bind (Option.bind (rdI zC c' 59 (nI j)) _) _ = _ ∧ Option.bind (Option.bind (rdI zM m' 23 (nI j)) _) _ = _ ∧ _
    rw [rdI_C (show j < 1232 by omega), rdI_M (show j < 1300 by omega), Option.bind_some, Option.bind_some, Option.bind_some, Option.bind_some, e2.2 j hj, f2.2.2.2.2 j hj]
    exact ⟨_, c', m', rfl, rfl, e4, Or.inr ⟨e3, e2⟩, f2.fd⟩
end DQ
