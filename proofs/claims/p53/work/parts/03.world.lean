/-! The world of a class's objects: cell k's int places, long places, changing references; the rest of a cell is its shape. -/
abbrev Wd : Type := (Nat → Nat → Int32) × (Nat → Nat → Int64) × (Nat → Nat → Nat)
def wsI (w : Wd) (k j : Nat) (x : Int32) : Wd := (fun q => if q = k then upd (w.1 q) j x else w.1 q, w.2.1, w.2.2)
def wsL (w : Wd) (k j : Nat) (x : Int64) : Wd := (w.1, fun q => if q = k then vp_updL (w.2.1 q) j x else w.2.1 q, w.2.2)
def wsR (w : Wd) (k j : Nat) (x : Nat) : Wd := (w.1, w.2.1, fun q i => if q = k ∧ i = j then x else w.2.2 q i)
def bI (b : Bool) : Int32 := match b with
  | true => 1
  | false => 0
/-- how many cells; a cell's kind (0 to 10: an object of that class; 20 int, 21 long, 22 byte, 23 boolean, 24 references: an array); an array's length; what a final reference points to -/
abbrev Shp : Type := Nat × (Nat → Nat) × (Nat → Nat) × (Nat → Nat → Nat)
/-- the classes' numbers and slots, the array classes, the cells' addresses -/
abbrev Gh : Type := va_G × (Nat → ClassId) × (Nat → Nat)
def zct (Z : Shp) (k : Nat) : Nat := if k < Z.1 then Z.2.1 k else 99
def zln (Z : Shp) (k : Nat) : Nat := Z.2.2.1 k
def zrf (Z : Shp) (k j : Nat) : Nat := Z.2.2.2 k j
theorem zct_lt {Z : Shp} {k c : Nat} (h : zct Z k = c) (hc : c < 99) : k < Z.1 := by
  unfold zct at h
  split at h
  · assumption
  · omega
def ftyL : List (List Nat) := [[2, 2, 2, 2, 0, 0], [2, 2, 2, 1], [2, 0], [2, 0, 0], [2, 0, 0], [2, 0, 0, 0, 0, 0, 1, 0, 2], [2, 2, 2, 2, 2, 0, 2], [2, 2, 0, 0, 0, 2, 2, 2, 2, 2, 2], [2], [2, 3, 3, 2, 2, 0, 2, 2, 2, 4, 4, 2], [2, 0, 0, 4], [3, 0, 4, 0]]
def ctCL : List Nat := [9, 5, 22, 20, 6, 4, 21, 4, 21, 4, 21, 20, 20, 0, 20, 20, 20, 20, 6, 4, 21, 4, 21, 4, 21, 20, 20, 0, 20, 20, 20, 20, 3, 20, 24, 0, 20, 20, 20, 20, 0, 20, 20, 20, 20, 7, 20, 20, 20, 20, 20, 20, 20, 20, 1, 21, 21, 21, 2, 22, 8, 20]
def lnCL : List Nat := [0, 0, 600, 3, 0, 0, 16, 0, 16, 0, 16, 10, 10, 0, 30, 30, 30, 30, 0, 0, 16, 0, 16, 0, 16, 10, 10, 0, 30, 30, 30, 30, 0, 12, 2, 0, 30, 30, 30, 30, 0, 30, 30, 30, 30, 0, 56, 56, 560, 560, 560, 560, 560, 560, 0, 56, 56, 56, 0, 1232, 0, 56]
def rfCL : List (List Nat) := [[1, 4, 18, 32, 34, 0, 45, 54, 58, 0, 0, 60], [2, 0, 0, 0, 0, 0, 0, 0, 3], [], [], [5, 7, 9, 11, 12, 0, 13], [6], [], [8], [], [10], [], [], [], [14, 15, 16, 17], [], [], [], [], [19, 21, 23, 25, 26, 0, 27], [20], [], [22], [], [24], [], [], [], [28, 29, 30, 31], [], [], [], [], [33], [], [35, 40], [36, 37, 38, 39], [], [], [], [], [41, 42, 43, 44], [], [], [], [], [46, 47, 0, 0, 0, 48, 49, 50, 51, 52, 53], [], [], [], [], [], [], [], [], [55, 56, 57], [], [], [], [59], [], [61], []]
def zC : Shp := (62, fun k => ctCL.getD k 99, fun k => lnCL.getD k 0, fun k j => (rfCL.getD k []).getD j 0)
def ctML : List Nat := [10, 22, 20, 20, 20, 21, 21, 21, 20, 20, 20, 20, 20, 20, 23, 20, 20, 20, 20, 23, 21, 21, 21, 20]
def lnML : List Nat := [0, 600, 2, 2, 2, 32, 20, 8, 20, 20, 122, 122, 1464, 244, 2, 56, 56, 560, 560, 560, 56, 56, 56, 1300]
def rfML : List (List Nat) := [[0, 1, 0, 0, 0, 0, 0, 0, 0, 0, 2, 3, 4, 5, 6, 7, 8, 9, 10, 11, 12, 0, 13, 14, 15, 16, 17, 0, 0, 0, 0, 0, 0, 18, 19, 0, 0, 20, 21, 22, 23], [], [], [], [], [], [], [], [], [], [], [], [], [], [], [], [], [], [], [], [], [], [], []]
def zM : Shp := (24, fun k => ctML.getD k 99, fun k => lnML.getD k 0, fun k j => (rfML.getD k []).getD j 0)
def fty (ci j : Nat) : Nat := (ftyL.getD ci []).getD j 9
def znf (ci : Nat) : Nat := (ftyL.getD ci []).length
def zfv (Z : Shp) (g : Gh) (w : Wd) (k j t : Nat) : Value := match t with
  | 0 => .int (w.1 k j)
  | 1 => .long (w.2.1 k j)
  | 2 => .ref (g.2.2 (zrf Z k j))
  | 3 => .ref (g.2.2 (w.2.2 k j))
  | _ => .int (w.1 k j)
def zfs (Z : Shp) (g : Gh) (w : Wd) (k ci : Nat) : List Value := (List.range (znf ci)).map (fun j => zfv Z g w k j (fty ci j))
def zcl (Z : Shp) (g : Gh) (w : Wd) (k t : Nat) : va_E := match t with
  | 20 => .inl (g.2.1 0, zln Z k, .inl (w.1 k))
  | 21 => .inl (g.2.1 1, zln Z k, .inr (.inl (w.2.1 k)))
  | 22 => .inl (g.2.1 2, zln Z k, .inl (w.1 k))
  | 23 => .inl (g.2.1 3, zln Z k, .inl (w.1 k))
  | 24 => .inl (g.2.1 4, zln Z k, .inr (.inr (.inr (.inr (fun i => some (g.2.2 (zrf Z k i)))))))
  | c => .inr (c, zfs Z g w k c)
def zcells (Z : Shp) (g : Gh) (w : Wd) : va_W := (List.range Z.1).map (fun k => (g.2.2 k, zcl Z g w k (zct Z k)))
def ztys (g : Gh) : List (ClassId × FieldType) := [(g.2.1 0, .int), (g.2.1 1, .long), (g.2.1 2, .byte), (g.2.1 3, .array .int), (g.2.1 4, .object RX0)]
def zA (Z : Shp) (g : Gh) : Nat → Prop := fun q => ∃ k, k < Z.1 ∧ q = g.2.2 k
def HW (Z : Shp) (g : Gh) (w : Wd) (H0 H : Heap) (locs : List Loc) : Prop := va_P g.1 vwCl (zcells Z g w) H ∧ va_D (zA Z g) (zcells Z g w) ∧ va_S (zA Z g) H0 H locs
theorem zget (Z : Shp) (g : Gh) (w : Wd) {k : Nat} (hk : k < Z.1) : (zcells Z g w)[k]? = some (g.2.2 k, zcl Z g w k (zct Z k)) := by
  simp [zcells, hk]
theorem zgetc (Z : Shp) (g : Gh) (w : Wd) {k c : Nat} (h : zct Z k = c) (hc : c < 99) : (zcells Z g w)[k]? = some (g.2.2 k, zcl Z g w k c) := by
  rw [zget Z g w (zct_lt h hc), h]
theorem zset {Z : Shp} {g : Gh} {w w2 : Wd} {k : Nat} {e : va_E} (hk : k < Z.1) (h1 : zcl Z g w2 k (zct Z k) = e) (h2 : ∀ q, q ≠ k → zcl Z g w2 q (zct Z q) = zcl Z g w q (zct Z q)) : (zcells Z g w).set k (g.2.2 k, e) = zcells Z g w2 := by
  apply List.ext_getElem?
  intro i
  rw [List.getElem?_set]
  by_cases hi : k = i
  · subst hi
    rw [if_pos rfl, if_pos (by simp [zcells]; exact hk), zget Z g w2 hk, h1]
  · rw [if_neg hi]
    by_cases hl : i < Z.1
    · rw [zget Z g w hl, zget Z g w2 hl, h2 i (Ne.symm hi)]
    · simp [zcells, hl]
theorem zcl_congr {Z : Shp} {g : Gh} {w w2 : Wd} {k : Nat} (t : Nat) (h1 : w2.1 k = w.1 k) (h2 : w2.2.1 k = w.2.1 k) (h3 : w2.2.2 k = w.2.2 k) : zcl Z g w2 k t = zcl Z g w k t := by
  have e : ∀ c, zfs Z g w2 k c = zfs Z g w k c := fun c => by
    unfold zfs
    refine List.map_congr_left fun j _ => ?_
    unfold zfv
    split <;> simp only [h1, h2, h3]
  unfold zcl
  split <;> simp only [h1, h2, e]
theorem zcl_obj (Z : Shp) (g : Gh) (w : Wd) (k : Nat) {c : Nat} (h : c < 20) : zcl Z g w k c = .inr (c, zfs Z g w k c) := by
  unfold zcl
  split <;> first | omega | rfl
theorem zfs_get (Z : Shp) (g : Gh) (w : Wd) (k : Nat) {c j : Nat} (h : j < znf c) : (zfs Z g w k c)[j]? = some (zfv Z g w k j (fty c j)) := by
  simp [zfs, h]
theorem zfs_set {Z : Shp} {g : Gh} {w w2 : Wd} {k c j : Nat} {v : Value} (h0 : zfv Z g w2 k j (fty c j) = v) (h : ∀ i, i ≠ j → zfv Z g w2 k i (fty c i) = zfv Z g w k i (fty c i)) : (zfs Z g w k c).set j v = zfs Z g w2 k c := by
  apply List.ext_getElem?
  intro i
  rw [List.getElem?_set]
  by_cases hi : j = i
  · subst hi
    by_cases hl : j < znf c
    · rw [if_pos rfl, if_pos (by simp [zfs]; exact hl), zfs_get Z g w2 k hl, h0]
    · simp [zfs, hl]
  · rw [if_neg hi]
    by_cases hl : i < znf c
    · rw [zfs_get Z g w k hl, zfs_get Z g w2 k hl, h i (Ne.symm hi)]
    · simp [zfs, hl]
theorem wsI_1 (w : Wd) (k j : Nat) (x : Int32) : (wsI w k j x).1 = fun q => if q = k then upd (w.1 q) j x else w.1 q := rfl
theorem wsI_2 (w : Wd) (k j : Nat) (x : Int32) : (wsI w k j x).2 = w.2 := rfl
theorem wsL_1 (w : Wd) (k j : Nat) (x : Int64) : (wsL w k j x).1 = w.1 := rfl
theorem wsL_2 (w : Wd) (k j : Nat) (x : Int64) : (wsL w k j x).2.1 = fun q => if q = k then vp_updL (w.2.1 q) j x else w.2.1 q := rfl
theorem wsL_3 (w : Wd) (k j : Nat) (x : Int64) : (wsL w k j x).2.2 = w.2.2 := rfl
theorem wsR_1 (w : Wd) (k j : Nat) (x : Nat) : (wsR w k j x).1 = w.1 := rfl
theorem wsR_2 (w : Wd) (k j : Nat) (x : Nat) : (wsR w k j x).2.1 = w.2.1 := rfl
theorem wsR_3 (w : Wd) (k j : Nat) (x : Nat) : (wsR w k j x).2.2 = fun q i => if q = k ∧ i = j then x else w.2.2 q i := rfl
theorem wsI_o (w : Wd) {k q : Nat} (j : Nat) (x : Int32) (h : q ≠ k) : (wsI w k j x).1 q = w.1 q := by simp [wsI, h]
theorem wsI_s (w : Wd) (k j : Nat) (x : Int32) : (wsI w k j x).1 k = upd (w.1 k) j x := by simp [wsI]
theorem wsL_o (w : Wd) {k q : Nat} (j : Nat) (x : Int64) (h : q ≠ k) : (wsL w k j x).2.1 q = w.2.1 q := by simp [wsL, h]
theorem wsL_s (w : Wd) (k j : Nat) (x : Int64) : (wsL w k j x).2.1 k = vp_updL (w.2.1 k) j x := by simp [wsL]
theorem wsR_o (w : Wd) {k q : Nat} (j : Nat) (x : Nat) (h : q ≠ k) : (wsR w k j x).2.2 q = w.2.2 q := by funext i; simp [wsR, h]
theorem wsR_s (w : Wd) (k j : Nat) (x : Nat) : (wsR w k j x).2.2 k = fun i => if i = j then x else w.2.2 k i := by funext i; simp [wsR]
/-- an int place of an array is written -/
theorem zset_ai {Z : Shp} {g : Gh} {w : Wd} {k i t : Nat} {x : Int32} (h : zct Z k = t) (ht : t = 20 ∨ t = 22 ∨ t = 23) {cA : ClassId} (hA : zcl Z g w k t = .inl (cA, zln Z k, .inl (w.1 k))) : (zcells Z g w).set k (g.2.2 k, .inl (cA, zln Z k, .inl (upd (w.1 k) i x))) = zcells Z g (wsI w k i x) := by
  refine zset (zct_lt h (by omega)) ?_ (fun q hq => zcl_congr _ (wsI_o w i x hq) rfl rfl)
  rw [h]
  rcases ht with rfl | rfl | rfl <;> (simp only [zcl, wsI_s] at hA ⊢; cases hA; rfl)
theorem zset_al {Z : Shp} {g : Gh} {w : Wd} {k i : Nat} {x : Int64} (h : zct Z k = 21) : (zcells Z g w).set k (g.2.2 k, .inl (g.2.1 1, zln Z k, .inr (.inl (vp_updL (w.2.1 k) i x)))) = zcells Z g (wsL w k i x) := by
  refine zset (zct_lt h (by omega)) ?_ (fun q hq => zcl_congr _ rfl (wsL_o w i x hq) rfl)
  rw [h]
  simp only [zcl, wsL_s]
theorem upd_o {f : Nat → Int32} {k j : Nat} {x : Int32} (h : j ≠ k) : upd f k x j = f j := by simp [upd, h]
theorem upd_s (f : Nat → Int32) (k : Nat) (x : Int32) : upd f k x k = x := by simp [upd]
theorem updL_o {f : Nat → Int64} {k j : Nat} {x : Int64} (h : j ≠ k) : vp_updL f k x j = f j := by simp [vp_updL, h]
theorem updL_s (f : Nat → Int64) (k : Nat) (x : Int64) : vp_updL f k x k = x := by simp [vp_updL]
theorem zset_fi {Z : Shp} {g : Gh} {w : Wd} {k c j t : Nat} {x : Int32} (h : zct Z k = c) (hc : c < 20) (hf : fty c j = t) (ht : t = 0 ∨ t = 4) : (zcells Z g w).set k (g.2.2 k, .inr (c, (zfs Z g w k c).set j (.int x))) = zcells Z g (wsI w k j x) := by
  refine zset (zct_lt h (by omega)) ?_ (fun q hq => zcl_congr _ (wsI_o w j x hq) rfl rfl)
  rw [h, zcl_obj Z g _ k hc]
  congr 2
  refine (zfs_set ?_ fun i hi => ?_).symm
  · rw [hf]
    rcases ht with rfl | rfl <;> simp [zfv, wsI_s, upd_s]
  · unfold zfv
    split <;> simp [wsI_s, upd_o hi, wsI_2]
theorem zset_fl {Z : Shp} {g : Gh} {w : Wd} {k c j : Nat} {x : Int64} (h : zct Z k = c) (hc : c < 20) (hf : fty c j = 1) : (zcells Z g w).set k (g.2.2 k, .inr (c, (zfs Z g w k c).set j (.long x))) = zcells Z g (wsL w k j x) := by
  refine zset (zct_lt h (by omega)) ?_ (fun q hq => zcl_congr _ rfl (wsL_o w j x hq) rfl)
  rw [h, zcl_obj Z g _ k hc]
  congr 2
  refine (zfs_set ?_ fun i hi => ?_).symm
  · rw [hf]
    simp [zfv, wsL_s, updL_s]
  · unfold zfv
    split <;> simp [wsL_s, updL_o hi, wsL_1, wsL_3]
theorem zset_fr {Z : Shp} {g : Gh} {w : Wd} {k c j q : Nat} (h : zct Z k = c) (hc : c < 20) (hf : fty c j = 3) : (zcells Z g w).set k (g.2.2 k, .inr (c, (zfs Z g w k c).set j (.ref (g.2.2 q)))) = zcells Z g (wsR w k j q) := by
  refine zset (zct_lt h (by omega)) ?_ (fun q hq => zcl_congr _ rfl rfl (wsR_o w j _ hq))
  rw [h, zcl_obj Z g _ k hc]
  congr 2
  refine (zfs_set ?_ fun i hi => ?_).symm
  · rw [hf]
    simp [zfv, wsR_s]
  · unfold zfv
    split <;> simp [wsR_s, hi, wsR_1, wsR_2]
/-- what is known of a class, and of a field -/
def CSt (ci : Nat) : Prop := ∃ q : vw_C, vwCl[ci]? = some q ∧ ci < 20 ∧ znf ci = q.2.2 ∧ (∀ w ∈ u_ws q.1 q.2.1 q.2.2, w ∈ TT) ∧ (∃ ty : Nat → FieldType, ∀ k, k < q.2.2 → parseFieldDescriptor (q.2.1 k).2.2.1 = some (ty k)) ∧ (∀ a, a < q.2.2 → ∀ b, b < q.2.2 → a ≠ b → (q.2.1 a).2.1 ≠ (q.2.1 b).2.1)
def zty (t : Nat) (ty : Option FieldType) : Bool := match t, ty with
  | 0, some .int => true
  | 1, some .long => true
  | 4, some .boolean => true
  | 2, _ => true
  | 3, some (.object _) => true
  | _, _ => false
def FSt (ci j t : Nat) : Prop := CSt ci ∧ j < znf ci ∧ fty ci j = t ∧ ∃ q : vw_C, vwCl[ci]? = some q ∧ (q.2.1 j).1 = q.1 ∧ zty t (parseFieldDescriptor (q.2.1 j).2.2.1) = true
def NFt (ci j : Nat) : Prop := ∃ q : vw_C, vwCl[ci]? = some q ∧ (q.2.1 j).2.2.2 = false
def LKt (own : String) (idx ci j : Nat) : Prop := (∃ q : vw_C, vwCl[ci]? = some q ∧ Cond.fieldLink own idx q.1 (q.2.1 j).2.1 (q.2.1 j).2.2.1 ∈ TT) ∨ (∃ (q : vw_C) (host : String), vwCl[ci]? = some q ∧ Cond.fieldLinkNest own idx q.1 (q.2.1 j).2.1 (q.2.1 j).2.2.1 host ∈ NL)
theorem zz_ac {P : Cond → Prop} {a : Cond} {l : List Cond} (h : P a) (hl : ∀ w ∈ l, P w) : ∀ w ∈ a :: l, P w := List.forall_mem_cons.mpr ⟨h, hl⟩
theorem zz_an {P : Cond → Prop} : ∀ w ∈ ([] : List Cond), P w := fun _ h => absurd h List.not_mem_nil
theorem zz_all {l m : List Cond} (h : ∀ w ∈ l, w ∈ TT) (e : m = l := by rfl) : ∀ w ∈ m, w ∈ TT := e ▸ h
theorem zz_rt {Z : Shp} {c : Nat} {P : Nat → Prop} (h0 : ∀ k, k < Z.1 → zct Z k = c → P k) (hc : c < 99) {k : Nat} (h : zct Z k = c) : P k := h0 k (zct_lt h hc) h
theorem zz_u0 : ∀ w ∈ u_ws RX0 TX0 6, w ∈ TT := zz_all (zz_ac tw_1_125 (zz_ac tw_1_127 (zz_ac tw_1_129 (zz_ac tw_1_131 (zz_ac tw_1_133 (zz_ac tw_1_135 (zz_an)))))))
theorem cs_0 : CSt 0 := ⟨(RX0, TX0, 6), rfl, by decide, rfl, zz_u0, ⟨tyX0, tyX0_ok⟩, nmX0⟩
theorem fs_0_0 : FSt 0 0 2 := ⟨cs_0, by decide, rfl, ⟨(RX0, TX0, 6), rfl, rfl, by decide +kernel⟩⟩
theorem fs_0_1 : FSt 0 1 2 := ⟨cs_0, by decide, rfl, ⟨(RX0, TX0, 6), rfl, rfl, by decide +kernel⟩⟩
theorem fs_0_2 : FSt 0 2 2 := ⟨cs_0, by decide, rfl, ⟨(RX0, TX0, 6), rfl, rfl, by decide +kernel⟩⟩
theorem fs_0_3 : FSt 0 3 2 := ⟨cs_0, by decide, rfl, ⟨(RX0, TX0, 6), rfl, rfl, by decide +kernel⟩⟩
theorem fs_0_4 : FSt 0 4 0 := ⟨cs_0, by decide, rfl, ⟨(RX0, TX0, 6), rfl, rfl, by decide +kernel⟩⟩
theorem nf_0_4 : NFt 0 4 := ⟨(RX0, TX0, 6), rfl, rfl⟩
theorem fs_0_5 : FSt 0 5 0 := ⟨cs_0, by decide, rfl, ⟨(RX0, TX0, 6), rfl, rfl, by decide +kernel⟩⟩
theorem nf_0_5 : NFt 0 5 := ⟨(RX0, TX0, 6), rfl, rfl⟩
theorem zz_u1 : ∀ w ∈ u_ws RX1 TX1 4, w ∈ TT := zz_all (zz_ac tw_2_8 (zz_ac tw_2_10 (zz_ac tw_2_12 (zz_ac tw_2_14 (zz_an)))))
theorem cs_1 : CSt 1 := ⟨(RX1, TX1, 4), rfl, by decide, rfl, zz_u1, ⟨tyX1, tyX1_ok⟩, nmX1⟩
theorem fs_1_0 : FSt 1 0 2 := ⟨cs_1, by decide, rfl, ⟨(RX1, TX1, 4), rfl, rfl, by decide +kernel⟩⟩
theorem fs_1_1 : FSt 1 1 2 := ⟨cs_1, by decide, rfl, ⟨(RX1, TX1, 4), rfl, rfl, by decide +kernel⟩⟩
theorem fs_1_2 : FSt 1 2 2 := ⟨cs_1, by decide, rfl, ⟨(RX1, TX1, 4), rfl, rfl, by decide +kernel⟩⟩
theorem fs_1_3 : FSt 1 3 1 := ⟨cs_1, by decide, rfl, ⟨(RX1, TX1, 4), rfl, rfl, by decide +kernel⟩⟩
theorem nf_1_3 : NFt 1 3 := ⟨(RX1, TX1, 4), rfl, rfl⟩
theorem zz_u2 : ∀ w ∈ u_ws RX2 TX2 2, w ∈ TT := zz_all (zz_ac tw_2_25 (zz_ac tw_2_27 (zz_an)))
theorem cs_2 : CSt 2 := ⟨(RX2, TX2, 2), rfl, by decide, rfl, zz_u2, ⟨tyX2, tyX2_ok⟩, nmX2⟩
theorem fs_2_0 : FSt 2 0 2 := ⟨cs_2, by decide, rfl, ⟨(RX2, TX2, 2), rfl, rfl, by decide +kernel⟩⟩
theorem fs_2_1 : FSt 2 1 0 := ⟨cs_2, by decide, rfl, ⟨(RX2, TX2, 2), rfl, rfl, by decide +kernel⟩⟩
theorem nf_2_1 : NFt 2 1 := ⟨(RX2, TX2, 2), rfl, rfl⟩
theorem zz_u3 : ∀ w ∈ u_ws RX3 TX3 3, w ∈ TT := zz_all (zz_ac tw_1_181 (zz_ac tw_1_183 (zz_ac tw_1_185 (zz_an))))
theorem cs_3 : CSt 3 := ⟨(RX3, TX3, 3), rfl, by decide, rfl, zz_u3, ⟨tyX3, tyX3_ok⟩, nmX3⟩
theorem fs_3_0 : FSt 3 0 2 := ⟨cs_3, by decide, rfl, ⟨(RX3, TX3, 3), rfl, rfl, by decide +kernel⟩⟩
theorem fs_3_1 : FSt 3 1 0 := ⟨cs_3, by decide, rfl, ⟨(RX3, TX3, 3), rfl, rfl, by decide +kernel⟩⟩
theorem nf_3_1 : NFt 3 1 := ⟨(RX3, TX3, 3), rfl, rfl⟩
theorem fs_3_2 : FSt 3 2 0 := ⟨cs_3, by decide, rfl, ⟨(RX3, TX3, 3), rfl, rfl, by decide +kernel⟩⟩
theorem nf_3_2 : NFt 3 2 := ⟨(RX3, TX3, 3), rfl, rfl⟩
theorem zz_u4 : ∀ w ∈ u_ws RX4 TX4 3, w ∈ TT := zz_all (zz_ac tw_1_93 (zz_ac tw_1_95 (zz_ac tw_1_97 (zz_an))))
theorem cs_4 : CSt 4 := ⟨(RX4, TX4, 3), rfl, by decide, rfl, zz_u4, ⟨tyX4, tyX4_ok⟩, nmX4⟩
theorem fs_4_0 : FSt 4 0 2 := ⟨cs_4, by decide, rfl, ⟨(RX4, TX4, 3), rfl, rfl, by decide +kernel⟩⟩
theorem fs_4_1 : FSt 4 1 0 := ⟨cs_4, by decide, rfl, ⟨(RX4, TX4, 3), rfl, rfl, by decide +kernel⟩⟩
theorem fs_4_2 : FSt 4 2 0 := ⟨cs_4, by decide, rfl, ⟨(RX4, TX4, 3), rfl, rfl, by decide +kernel⟩⟩
theorem nf_4_2 : NFt 4 2 := ⟨(RX4, TX4, 3), rfl, rfl⟩
theorem zz_u5 : ∀ w ∈ u_ws RX5 TX5 9, w ∈ TT := zz_all (zz_ac tw_1_52 (zz_ac tw_1_54 (zz_ac tw_1_56 (zz_ac tw_1_58 (zz_ac tw_1_60 (zz_ac tw_1_62 (zz_ac tw_1_64 (zz_ac tw_1_66 (zz_ac tw_1_68 (zz_an))))))))))
theorem cs_5 : CSt 5 := ⟨(RX5, TX5, 9), rfl, by decide, rfl, zz_u5, ⟨tyX5, tyX5_ok⟩, nmX5⟩
theorem fs_5_0 : FSt 5 0 2 := ⟨cs_5, by decide, rfl, ⟨(RX5, TX5, 9), rfl, rfl, by decide +kernel⟩⟩
theorem fs_5_1 : FSt 5 1 0 := ⟨cs_5, by decide, rfl, ⟨(RX5, TX5, 9), rfl, rfl, by decide +kernel⟩⟩
theorem nf_5_1 : NFt 5 1 := ⟨(RX5, TX5, 9), rfl, rfl⟩
theorem fs_5_2 : FSt 5 2 0 := ⟨cs_5, by decide, rfl, ⟨(RX5, TX5, 9), rfl, rfl, by decide +kernel⟩⟩
theorem nf_5_2 : NFt 5 2 := ⟨(RX5, TX5, 9), rfl, rfl⟩
theorem fs_5_3 : FSt 5 3 0 := ⟨cs_5, by decide, rfl, ⟨(RX5, TX5, 9), rfl, rfl, by decide +kernel⟩⟩
theorem nf_5_3 : NFt 5 3 := ⟨(RX5, TX5, 9), rfl, rfl⟩
theorem fs_5_4 : FSt 5 4 0 := ⟨cs_5, by decide, rfl, ⟨(RX5, TX5, 9), rfl, rfl, by decide +kernel⟩⟩
theorem nf_5_4 : NFt 5 4 := ⟨(RX5, TX5, 9), rfl, rfl⟩
theorem fs_5_5 : FSt 5 5 0 := ⟨cs_5, by decide, rfl, ⟨(RX5, TX5, 9), rfl, rfl, by decide +kernel⟩⟩
theorem nf_5_5 : NFt 5 5 := ⟨(RX5, TX5, 9), rfl, rfl⟩
theorem fs_5_6 : FSt 5 6 1 := ⟨cs_5, by decide, rfl, ⟨(RX5, TX5, 9), rfl, rfl, by decide +kernel⟩⟩
theorem nf_5_6 : NFt 5 6 := ⟨(RX5, TX5, 9), rfl, rfl⟩
theorem fs_5_7 : FSt 5 7 0 := ⟨cs_5, by decide, rfl, ⟨(RX5, TX5, 9), rfl, rfl, by decide +kernel⟩⟩
theorem nf_5_7 : NFt 5 7 := ⟨(RX5, TX5, 9), rfl, rfl⟩
theorem fs_5_8 : FSt 5 8 2 := ⟨cs_5, by decide, rfl, ⟨(RX5, TX5, 9), rfl, rfl, by decide +kernel⟩⟩
theorem zz_u6 : ∀ w ∈ u_ws RX6 TX6 7, w ∈ TT := zz_all (zz_ac tw_1_157 (zz_ac tw_1_159 (zz_ac tw_1_161 (zz_ac tw_1_163 (zz_ac tw_1_165 (zz_ac tw_1_167 (zz_ac tw_1_169 (zz_an))))))))
theorem cs_6 : CSt 6 := ⟨(RX6, TX6, 7), rfl, by decide, rfl, zz_u6, ⟨tyX6, tyX6_ok⟩, nmX6⟩
theorem fs_6_0 : FSt 6 0 2 := ⟨cs_6, by decide, rfl, ⟨(RX6, TX6, 7), rfl, rfl, by decide +kernel⟩⟩
theorem fs_6_1 : FSt 6 1 2 := ⟨cs_6, by decide, rfl, ⟨(RX6, TX6, 7), rfl, rfl, by decide +kernel⟩⟩
theorem fs_6_2 : FSt 6 2 2 := ⟨cs_6, by decide, rfl, ⟨(RX6, TX6, 7), rfl, rfl, by decide +kernel⟩⟩
theorem fs_6_3 : FSt 6 3 2 := ⟨cs_6, by decide, rfl, ⟨(RX6, TX6, 7), rfl, rfl, by decide +kernel⟩⟩
theorem fs_6_4 : FSt 6 4 2 := ⟨cs_6, by decide, rfl, ⟨(RX6, TX6, 7), rfl, rfl, by decide +kernel⟩⟩
theorem fs_6_5 : FSt 6 5 0 := ⟨cs_6, by decide, rfl, ⟨(RX6, TX6, 7), rfl, rfl, by decide +kernel⟩⟩
theorem nf_6_5 : NFt 6 5 := ⟨(RX6, TX6, 7), rfl, rfl⟩
theorem fs_6_6 : FSt 6 6 2 := ⟨cs_6, by decide, rfl, ⟨(RX6, TX6, 7), rfl, rfl, by decide +kernel⟩⟩
theorem zz_u7 : ∀ w ∈ u_ws RX7 TX7 11, w ∈ TT := zz_all (zz_ac tw_1_213 (zz_ac tw_1_215 (zz_ac tw_1_217 (zz_ac tw_1_219 (zz_ac tw_1_221 (zz_ac tw_1_223 (zz_ac tw_1_225 (zz_ac tw_1_227 (zz_ac tw_1_229 (zz_ac tw_1_231 (zz_ac tw_1_233 (zz_an))))))))))))
theorem cs_7 : CSt 7 := ⟨(RX7, TX7, 11), rfl, by decide, rfl, zz_u7, ⟨tyX7, tyX7_ok⟩, nmX7⟩
theorem fs_7_0 : FSt 7 0 2 := ⟨cs_7, by decide, rfl, ⟨(RX7, TX7, 11), rfl, rfl, by decide +kernel⟩⟩
theorem fs_7_1 : FSt 7 1 2 := ⟨cs_7, by decide, rfl, ⟨(RX7, TX7, 11), rfl, rfl, by decide +kernel⟩⟩
theorem fs_7_2 : FSt 7 2 0 := ⟨cs_7, by decide, rfl, ⟨(RX7, TX7, 11), rfl, rfl, by decide +kernel⟩⟩
theorem nf_7_2 : NFt 7 2 := ⟨(RX7, TX7, 11), rfl, rfl⟩
theorem fs_7_3 : FSt 7 3 0 := ⟨cs_7, by decide, rfl, ⟨(RX7, TX7, 11), rfl, rfl, by decide +kernel⟩⟩
theorem nf_7_3 : NFt 7 3 := ⟨(RX7, TX7, 11), rfl, rfl⟩
theorem fs_7_4 : FSt 7 4 0 := ⟨cs_7, by decide, rfl, ⟨(RX7, TX7, 11), rfl, rfl, by decide +kernel⟩⟩
theorem nf_7_4 : NFt 7 4 := ⟨(RX7, TX7, 11), rfl, rfl⟩
theorem fs_7_5 : FSt 7 5 2 := ⟨cs_7, by decide, rfl, ⟨(RX7, TX7, 11), rfl, rfl, by decide +kernel⟩⟩
theorem fs_7_6 : FSt 7 6 2 := ⟨cs_7, by decide, rfl, ⟨(RX7, TX7, 11), rfl, rfl, by decide +kernel⟩⟩
theorem fs_7_7 : FSt 7 7 2 := ⟨cs_7, by decide, rfl, ⟨(RX7, TX7, 11), rfl, rfl, by decide +kernel⟩⟩
theorem fs_7_8 : FSt 7 8 2 := ⟨cs_7, by decide, rfl, ⟨(RX7, TX7, 11), rfl, rfl, by decide +kernel⟩⟩
theorem fs_7_9 : FSt 7 9 2 := ⟨cs_7, by decide, rfl, ⟨(RX7, TX7, 11), rfl, rfl, by decide +kernel⟩⟩
theorem fs_7_10 : FSt 7 10 2 := ⟨cs_7, by decide, rfl, ⟨(RX7, TX7, 11), rfl, rfl, by decide +kernel⟩⟩
theorem zz_u8 : ∀ w ∈ u_ws RX8 TX8 1, w ∈ TT := zz_all (zz_ac tw_2_37 (zz_an))
theorem cs_8 : CSt 8 := ⟨(RX8, TX8, 1), rfl, by decide, rfl, zz_u8, ⟨tyX8, tyX8_ok⟩, nmX8⟩
theorem fs_8_0 : FSt 8 0 2 := ⟨cs_8, by decide, rfl, ⟨(RX8, TX8, 1), rfl, rfl, by decide +kernel⟩⟩
theorem zz_u9 : ∀ w ∈ u_ws RX9 TX9 12, w ∈ TT := zz_all (zz_ac tw_2_52 (zz_ac tw_2_54 (zz_ac tw_2_56 (zz_ac tw_2_58 (zz_ac tw_2_60 (zz_ac tw_2_62 (zz_ac tw_2_64 (zz_ac tw_2_66 (zz_ac tw_2_68 (zz_ac tw_2_70 (zz_ac tw_2_72 (zz_ac tw_2_74 (zz_an)))))))))))))
theorem cs_9 : CSt 9 := ⟨(RX9, TX9, 12), rfl, by decide, rfl, zz_u9, ⟨tyX9, tyX9_ok⟩, nmX9⟩
theorem fs_9_0 : FSt 9 0 2 := ⟨cs_9, by decide, rfl, ⟨(RX9, TX9, 12), rfl, rfl, by decide +kernel⟩⟩
theorem fs_9_1 : FSt 9 1 3 := ⟨cs_9, by decide, rfl, ⟨(RX9, TX9, 12), rfl, rfl, by decide +kernel⟩⟩
theorem nf_9_1 : NFt 9 1 := ⟨(RX9, TX9, 12), rfl, rfl⟩
theorem fs_9_2 : FSt 9 2 3 := ⟨cs_9, by decide, rfl, ⟨(RX9, TX9, 12), rfl, rfl, by decide +kernel⟩⟩
theorem nf_9_2 : NFt 9 2 := ⟨(RX9, TX9, 12), rfl, rfl⟩
theorem fs_9_3 : FSt 9 3 2 := ⟨cs_9, by decide, rfl, ⟨(RX9, TX9, 12), rfl, rfl, by decide +kernel⟩⟩
theorem fs_9_4 : FSt 9 4 2 := ⟨cs_9, by decide, rfl, ⟨(RX9, TX9, 12), rfl, rfl, by decide +kernel⟩⟩
theorem fs_9_5 : FSt 9 5 0 := ⟨cs_9, by decide, rfl, ⟨(RX9, TX9, 12), rfl, rfl, by decide +kernel⟩⟩
theorem nf_9_5 : NFt 9 5 := ⟨(RX9, TX9, 12), rfl, rfl⟩
theorem fs_9_6 : FSt 9 6 2 := ⟨cs_9, by decide, rfl, ⟨(RX9, TX9, 12), rfl, rfl, by decide +kernel⟩⟩
theorem fs_9_7 : FSt 9 7 2 := ⟨cs_9, by decide, rfl, ⟨(RX9, TX9, 12), rfl, rfl, by decide +kernel⟩⟩
theorem fs_9_8 : FSt 9 8 2 := ⟨cs_9, by decide, rfl, ⟨(RX9, TX9, 12), rfl, rfl, by decide +kernel⟩⟩
theorem fs_9_9 : FSt 9 9 4 := ⟨cs_9, by decide, rfl, ⟨(RX9, TX9, 12), rfl, rfl, by decide +kernel⟩⟩
theorem nf_9_9 : NFt 9 9 := ⟨(RX9, TX9, 12), rfl, rfl⟩
theorem fs_9_10 : FSt 9 10 4 := ⟨cs_9, by decide, rfl, ⟨(RX9, TX9, 12), rfl, rfl, by decide +kernel⟩⟩
theorem nf_9_10 : NFt 9 10 := ⟨(RX9, TX9, 12), rfl, rfl⟩
theorem fs_9_11 : FSt 9 11 2 := ⟨cs_9, by decide, rfl, ⟨(RX9, TX9, 12), rfl, rfl, by decide +kernel⟩⟩
theorem lk_5_9 : LKt RX5 9 5 0 := Or.inl ⟨(RX5, TX5, 9), rfl, tw_1_42⟩
theorem lk_5_15 : LKt RX5 15 5 1 := Or.inl ⟨(RX5, TX5, 9), rfl, tw_1_43⟩
theorem lk_9_79 : LKt RX9 79 5 1 := Or.inr ⟨(RX5, TX5, 9), "PointsToSolver", rfl, tw_1_44⟩
theorem lk_5_19 : LKt RX5 19 5 2 := Or.inl ⟨(RX5, TX5, 9), rfl, tw_1_45⟩
theorem lk_5_22 : LKt RX5 22 5 3 := Or.inl ⟨(RX5, TX5, 9), rfl, tw_1_46⟩
theorem lk_5_25 : LKt RX5 25 5 4 := Or.inl ⟨(RX5, TX5, 9), rfl, tw_1_47⟩
theorem lk_5_28 : LKt RX5 28 5 5 := Or.inl ⟨(RX5, TX5, 9), rfl, tw_1_48⟩
theorem lk_5_31 : LKt RX5 31 5 6 := Or.inl ⟨(RX5, TX5, 9), rfl, tw_1_49⟩
theorem lk_5_35 : LKt RX5 35 5 7 := Or.inl ⟨(RX5, TX5, 9), rfl, tw_1_50⟩
theorem lk_5_38 : LKt RX5 38 5 8 := Or.inl ⟨(RX5, TX5, 9), rfl, tw_1_51⟩
theorem lk_4_9 : LKt RX4 9 4 0 := Or.inl ⟨(RX4, TX4, 3), rfl, tw_1_88⟩
theorem lk_4_25 : LKt RX4 25 4 1 := Or.inl ⟨(RX4, TX4, 3), rfl, tw_1_89⟩
theorem lk_4_15 : LKt RX4 15 4 2 := Or.inl ⟨(RX4, TX4, 3), rfl, tw_1_90⟩
theorem lk_6_44 : LKt RX6 44 4 2 := Or.inr ⟨(RX4, TX4, 3), "PointsToSolver", rfl, tw_1_91⟩
theorem lk_9_107 : LKt RX9 107 4 2 := Or.inr ⟨(RX4, TX4, 3), "PointsToSolver", rfl, tw_1_92⟩
theorem lk_0_9 : LKt RX0 9 0 0 := Or.inl ⟨(RX0, TX0, 6), rfl, tw_1_107⟩
theorem lk_7_77 : LKt RX7 77 0 0 := Or.inr ⟨(RX0, TX0, 6), "PointsToSolver", rfl, tw_1_108⟩
theorem lk_6_61 : LKt RX6 61 0 0 := Or.inr ⟨(RX0, TX0, 6), "PointsToSolver", rfl, tw_1_109⟩
theorem lk_9_133 : LKt RX9 133 0 0 := Or.inr ⟨(RX0, TX0, 6), "PointsToSolver", rfl, tw_1_110⟩
theorem lk_0_15 : LKt RX0 15 0 1 := Or.inl ⟨(RX0, TX0, 6), rfl, tw_1_111⟩
theorem lk_7_100 : LKt RX7 100 0 1 := Or.inr ⟨(RX0, TX0, 6), "PointsToSolver", rfl, tw_1_112⟩
theorem lk_6_67 : LKt RX6 67 0 1 := Or.inr ⟨(RX0, TX0, 6), "PointsToSolver", rfl, tw_1_113⟩
theorem lk_0_18 : LKt RX0 18 0 2 := Or.inl ⟨(RX0, TX0, 6), rfl, tw_1_114⟩
theorem lk_7_103 : LKt RX7 103 0 2 := Or.inr ⟨(RX0, TX0, 6), "PointsToSolver", rfl, tw_1_115⟩
theorem lk_6_64 : LKt RX6 64 0 2 := Or.inr ⟨(RX0, TX0, 6), "PointsToSolver", rfl, tw_1_116⟩
theorem lk_0_21 : LKt RX0 21 0 3 := Or.inl ⟨(RX0, TX0, 6), rfl, tw_1_117⟩
theorem lk_6_74 : LKt RX6 74 0 3 := Or.inr ⟨(RX0, TX0, 6), "PointsToSolver", rfl, tw_1_118⟩
theorem lk_0_24 : LKt RX0 24 0 4 := Or.inl ⟨(RX0, TX0, 6), rfl, tw_1_119⟩
theorem lk_1_37 : LKt RX1 37 0 4 := Or.inr ⟨(RX0, TX0, 6), "PointsToSolver", rfl, tw_1_120⟩
theorem lk_7_64 : LKt RX7 64 0 4 := Or.inr ⟨(RX0, TX0, 6), "PointsToSolver", rfl, tw_1_121⟩
theorem lk_9_100 : LKt RX9 100 0 4 := Or.inr ⟨(RX0, TX0, 6), "PointsToSolver", rfl, tw_1_122⟩
theorem lk_0_28 : LKt RX0 28 0 5 := Or.inl ⟨(RX0, TX0, 6), rfl, tw_1_123⟩
theorem lk_9_116 : LKt RX9 116 0 5 := Or.inr ⟨(RX0, TX0, 6), "PointsToSolver", rfl, tw_1_124⟩
theorem lk_6_14 : LKt RX6 14 6 0 := Or.inl ⟨(RX6, TX6, 7), rfl, tw_1_138⟩
theorem lk_9_103 : LKt RX9 103 6 0 := Or.inr ⟨(RX6, TX6, 7), "PointsToSolver", rfl, tw_1_139⟩
theorem lk_5_110 : LKt RX5 110 6 0 := Or.inr ⟨(RX6, TX6, 7), "PointsToSolver", rfl, tw_1_140⟩
theorem lk_6_20 : LKt RX6 20 6 1 := Or.inl ⟨(RX6, TX6, 7), rfl, tw_1_141⟩
theorem lk_9_110 : LKt RX9 110 6 1 := Or.inr ⟨(RX6, TX6, 7), "PointsToSolver", rfl, tw_1_142⟩
theorem lk_5_103 : LKt RX5 103 6 1 := Or.inr ⟨(RX6, TX6, 7), "PointsToSolver", rfl, tw_1_143⟩
theorem lk_6_23 : LKt RX6 23 6 2 := Or.inl ⟨(RX6, TX6, 7), rfl, tw_1_144⟩
theorem lk_5_107 : LKt RX5 107 6 2 := Or.inr ⟨(RX6, TX6, 7), "PointsToSolver", rfl, tw_1_145⟩
theorem lk_9_113 : LKt RX9 113 6 2 := Or.inr ⟨(RX6, TX6, 7), "PointsToSolver", rfl, tw_1_146⟩
theorem lk_6_26 : LKt RX6 26 6 3 := Or.inl ⟨(RX6, TX6, 7), rfl, tw_1_147⟩
theorem lk_9_149 : LKt RX9 149 6 3 := Or.inr ⟨(RX6, TX6, 7), "PointsToSolver", rfl, tw_1_148⟩
theorem lk_6_30 : LKt RX6 30 6 4 := Or.inl ⟨(RX6, TX6, 7), rfl, tw_1_149⟩
theorem lk_9_152 : LKt RX9 152 6 4 := Or.inr ⟨(RX6, TX6, 7), "PointsToSolver", rfl, tw_1_150⟩
theorem lk_6_33 : LKt RX6 33 6 5 := Or.inl ⟨(RX6, TX6, 7), rfl, tw_1_151⟩
theorem lk_6_40 : LKt RX6 40 6 6 := Or.inl ⟨(RX6, TX6, 7), rfl, tw_1_152⟩
theorem lk_1_31 : LKt RX1 31 6 6 := Or.inr ⟨(RX6, TX6, 7), "PointsToSolver", rfl, tw_1_153⟩
theorem lk_7_58 : LKt RX7 58 6 6 := Or.inr ⟨(RX6, TX6, 7), "PointsToSolver", rfl, tw_1_154⟩
theorem lk_9_96 : LKt RX9 96 6 6 := Or.inr ⟨(RX6, TX6, 7), "PointsToSolver", rfl, tw_1_155⟩
theorem lk_5_68 : LKt RX5 68 6 6 := Or.inr ⟨(RX6, TX6, 7), "PointsToSolver", rfl, tw_1_156⟩
theorem lk_3_9 : LKt RX3 9 3 0 := Or.inl ⟨(RX3, TX3, 3), rfl, tw_1_178⟩
theorem lk_3_15 : LKt RX3 15 3 1 := Or.inl ⟨(RX3, TX3, 3), rfl, tw_1_179⟩
theorem lk_3_19 : LKt RX3 19 3 2 := Or.inl ⟨(RX3, TX3, 3), rfl, tw_1_180⟩
theorem lk_7_9 : LKt RX7 9 7 0 := Or.inl ⟨(RX7, TX7, 11), rfl, tw_1_197⟩
theorem lk_1_47 : LKt RX1 47 7 0 := Or.inr ⟨(RX7, TX7, 11), "PointsToSolver", rfl, tw_1_198⟩
theorem lk_9_165 : LKt RX9 165 7 0 := Or.inr ⟨(RX7, TX7, 11), "PointsToSolver", rfl, tw_1_199⟩
theorem lk_7_15 : LKt RX7 15 7 1 := Or.inl ⟨(RX7, TX7, 11), rfl, tw_1_200⟩
theorem lk_7_18 : LKt RX7 18 7 2 := Or.inl ⟨(RX7, TX7, 11), rfl, tw_1_201⟩
theorem lk_9_155 : LKt RX9 155 7 2 := Or.inr ⟨(RX7, TX7, 11), "PointsToSolver", rfl, tw_1_202⟩
theorem lk_7_22 : LKt RX7 22 7 3 := Or.inl ⟨(RX7, TX7, 11), rfl, tw_1_203⟩
theorem lk_9_158 : LKt RX9 158 7 3 := Or.inr ⟨(RX7, TX7, 11), "PointsToSolver", rfl, tw_1_204⟩
theorem lk_7_25 : LKt RX7 25 7 4 := Or.inl ⟨(RX7, TX7, 11), rfl, tw_1_205⟩
theorem lk_7_28 : LKt RX7 28 7 5 := Or.inl ⟨(RX7, TX7, 11), rfl, tw_1_206⟩
theorem lk_9_178 : LKt RX9 178 7 5 := Or.inr ⟨(RX7, TX7, 11), "PointsToSolver", rfl, tw_1_207⟩
theorem lk_7_31 : LKt RX7 31 7 6 := Or.inl ⟨(RX7, TX7, 11), rfl, tw_1_208⟩
theorem lk_7_34 : LKt RX7 34 7 7 := Or.inl ⟨(RX7, TX7, 11), rfl, tw_1_209⟩
theorem lk_7_37 : LKt RX7 37 7 8 := Or.inl ⟨(RX7, TX7, 11), rfl, tw_1_210⟩
theorem lk_7_40 : LKt RX7 40 7 9 := Or.inl ⟨(RX7, TX7, 11), rfl, tw_1_211⟩
theorem lk_7_43 : LKt RX7 43 7 10 := Or.inl ⟨(RX7, TX7, 11), rfl, tw_1_212⟩
theorem lk_1_9 : LKt RX1 9 1 0 := Or.inl ⟨(RX1, TX1, 4), rfl, tw_2_2⟩
theorem lk_9_223 : LKt RX9 223 1 0 := Or.inr ⟨(RX1, TX1, 4), "PointsToSolver", rfl, tw_2_3⟩
theorem lk_1_15 : LKt RX1 15 1 1 := Or.inl ⟨(RX1, TX1, 4), rfl, tw_2_4⟩
theorem lk_1_18 : LKt RX1 18 1 2 := Or.inl ⟨(RX1, TX1, 4), rfl, tw_2_5⟩
theorem lk_9_234 : LKt RX9 234 1 2 := Or.inr ⟨(RX1, TX1, 4), "PointsToSolver", rfl, tw_2_6⟩
theorem lk_1_21 : LKt RX1 21 1 3 := Or.inl ⟨(RX1, TX1, 4), rfl, tw_2_7⟩
theorem lk_2_9 : LKt RX2 9 2 0 := Or.inl ⟨(RX2, TX2, 2), rfl, tw_2_23⟩
theorem lk_2_15 : LKt RX2 15 2 1 := Or.inl ⟨(RX2, TX2, 2), rfl, tw_2_24⟩
theorem lk_8_9 : LKt RX8 9 8 0 := Or.inl ⟨(RX8, TX8, 1), rfl, tw_2_36⟩
theorem lk_9_12 : LKt RX9 12 9 0 := Or.inl ⟨(RX9, TX9, 12), rfl, tw_2_40⟩
theorem lk_9_19 : LKt RX9 19 9 1 := Or.inl ⟨(RX9, TX9, 12), rfl, tw_2_41⟩
theorem lk_9_23 : LKt RX9 23 9 2 := Or.inl ⟨(RX9, TX9, 12), rfl, tw_2_42⟩
theorem lk_9_29 : LKt RX9 29 9 3 := Or.inl ⟨(RX9, TX9, 12), rfl, tw_2_43⟩
theorem lk_9_36 : LKt RX9 36 9 4 := Or.inl ⟨(RX9, TX9, 12), rfl, tw_2_44⟩
theorem lk_9_40 : LKt RX9 40 9 5 := Or.inl ⟨(RX9, TX9, 12), rfl, tw_2_45⟩
theorem lk_9_47 : LKt RX9 47 9 6 := Or.inl ⟨(RX9, TX9, 12), rfl, tw_2_46⟩
theorem lk_9_54 : LKt RX9 54 9 7 := Or.inl ⟨(RX9, TX9, 12), rfl, tw_2_47⟩
theorem lk_9_61 : LKt RX9 61 9 8 := Or.inl ⟨(RX9, TX9, 12), rfl, tw_2_48⟩
theorem lk_9_65 : LKt RX9 65 9 9 := Or.inl ⟨(RX9, TX9, 12), rfl, tw_2_49⟩
theorem lk_9_69 : LKt RX9 69 9 10 := Or.inl ⟨(RX9, TX9, 12), rfl, tw_2_50⟩
theorem lk_9_75 : LKt RX9 75 9 11 := Or.inl ⟨(RX9, TX9, 12), rfl, tw_2_51⟩
theorem rt_C_9_0 {k : Nat} (h : zct zC k = 9) : zct zC (zrf zC k 0) = 5 := zz_rt (P := fun k => zct zC (zrf zC k 0) = 5) (by decide +kernel) (by decide) h
theorem rt_C_9_3 {k : Nat} (h : zct zC k = 9) : zct zC (zrf zC k 3) = 3 := zz_rt (P := fun k => zct zC (zrf zC k 3) = 3) (by decide +kernel) (by decide) h
theorem rt_C_9_4 {k : Nat} (h : zct zC k = 9) : zct zC (zrf zC k 4) = 24 := zz_rt (P := fun k => zct zC (zrf zC k 4) = 24) (by decide +kernel) (by decide) h
theorem rl_C_9_4 {k : Nat} (h : zct zC k = 9) : zln zC (zrf zC k 4) = 2 := zz_rt (P := fun k => zln zC (zrf zC k 4) = 2) (by decide +kernel) (by decide) h
theorem rt_C_9_6 {k : Nat} (h : zct zC k = 9) : zct zC (zrf zC k 6) = 7 := zz_rt (P := fun k => zct zC (zrf zC k 6) = 7) (by decide +kernel) (by decide) h
theorem rt_C_9_7 {k : Nat} (h : zct zC k = 9) : zct zC (zrf zC k 7) = 1 := zz_rt (P := fun k => zct zC (zrf zC k 7) = 1) (by decide +kernel) (by decide) h
theorem rt_C_9_8 {k : Nat} (h : zct zC k = 9) : zct zC (zrf zC k 8) = 2 := zz_rt (P := fun k => zct zC (zrf zC k 8) = 2) (by decide +kernel) (by decide) h
theorem rt_C_9_11 {k : Nat} (h : zct zC k = 9) : zct zC (zrf zC k 11) = 8 := zz_rt (P := fun k => zct zC (zrf zC k 11) = 8) (by decide +kernel) (by decide) h
theorem rt_C_5_0 {k : Nat} (h : zct zC k = 5) : zct zC (zrf zC k 0) = 22 := zz_rt (P := fun k => zct zC (zrf zC k 0) = 22) (by decide +kernel) (by decide) h
theorem rl_C_5_0 {k : Nat} (h : zct zC k = 5) : zln zC (zrf zC k 0) = 600 := zz_rt (P := fun k => zln zC (zrf zC k 0) = 600) (by decide +kernel) (by decide) h
theorem rt_C_5_8 {k : Nat} (h : zct zC k = 5) : zct zC (zrf zC k 8) = 20 := zz_rt (P := fun k => zct zC (zrf zC k 8) = 20) (by decide +kernel) (by decide) h
theorem rl_C_5_8 {k : Nat} (h : zct zC k = 5) : zln zC (zrf zC k 8) = 3 := zz_rt (P := fun k => zln zC (zrf zC k 8) = 3) (by decide +kernel) (by decide) h
theorem rt_C_6_0 {k : Nat} (h : zct zC k = 6) : zct zC (zrf zC k 0) = 4 := zz_rt (P := fun k => zct zC (zrf zC k 0) = 4) (by decide +kernel) (by decide) h
theorem rt_C_6_1 {k : Nat} (h : zct zC k = 6) : zct zC (zrf zC k 1) = 4 := zz_rt (P := fun k => zct zC (zrf zC k 1) = 4) (by decide +kernel) (by decide) h
theorem rt_C_6_2 {k : Nat} (h : zct zC k = 6) : zct zC (zrf zC k 2) = 4 := zz_rt (P := fun k => zct zC (zrf zC k 2) = 4) (by decide +kernel) (by decide) h
theorem rt_C_6_3 {k : Nat} (h : zct zC k = 6) : zct zC (zrf zC k 3) = 20 := zz_rt (P := fun k => zct zC (zrf zC k 3) = 20) (by decide +kernel) (by decide) h
theorem rl_C_6_3 {k : Nat} (h : zct zC k = 6) : zln zC (zrf zC k 3) = 10 := zz_rt (P := fun k => zln zC (zrf zC k 3) = 10) (by decide +kernel) (by decide) h
theorem rt_C_6_4 {k : Nat} (h : zct zC k = 6) : zct zC (zrf zC k 4) = 20 := zz_rt (P := fun k => zct zC (zrf zC k 4) = 20) (by decide +kernel) (by decide) h
theorem rl_C_6_4 {k : Nat} (h : zct zC k = 6) : zln zC (zrf zC k 4) = 10 := zz_rt (P := fun k => zln zC (zrf zC k 4) = 10) (by decide +kernel) (by decide) h
theorem rt_C_6_6 {k : Nat} (h : zct zC k = 6) : zct zC (zrf zC k 6) = 0 := zz_rt (P := fun k => zct zC (zrf zC k 6) = 0) (by decide +kernel) (by decide) h
theorem rt_C_4_0 {k : Nat} (h : zct zC k = 4) : zct zC (zrf zC k 0) = 21 := zz_rt (P := fun k => zct zC (zrf zC k 0) = 21) (by decide +kernel) (by decide) h
theorem rl_C_4_0 {k : Nat} (h : zct zC k = 4) : zln zC (zrf zC k 0) = 16 := zz_rt (P := fun k => zln zC (zrf zC k 0) = 16) (by decide +kernel) (by decide) h
theorem rt_C_0_0 {k : Nat} (h : zct zC k = 0) : zct zC (zrf zC k 0) = 20 := zz_rt (P := fun k => zct zC (zrf zC k 0) = 20) (by decide +kernel) (by decide) h
theorem rl_C_0_0 {k : Nat} (h : zct zC k = 0) : zln zC (zrf zC k 0) = 30 := zz_rt (P := fun k => zln zC (zrf zC k 0) = 30) (by decide +kernel) (by decide) h
theorem rt_C_0_1 {k : Nat} (h : zct zC k = 0) : zct zC (zrf zC k 1) = 20 := zz_rt (P := fun k => zct zC (zrf zC k 1) = 20) (by decide +kernel) (by decide) h
theorem rl_C_0_1 {k : Nat} (h : zct zC k = 0) : zln zC (zrf zC k 1) = 30 := zz_rt (P := fun k => zln zC (zrf zC k 1) = 30) (by decide +kernel) (by decide) h
theorem rt_C_0_2 {k : Nat} (h : zct zC k = 0) : zct zC (zrf zC k 2) = 20 := zz_rt (P := fun k => zct zC (zrf zC k 2) = 20) (by decide +kernel) (by decide) h
theorem rl_C_0_2 {k : Nat} (h : zct zC k = 0) : zln zC (zrf zC k 2) = 30 := zz_rt (P := fun k => zln zC (zrf zC k 2) = 30) (by decide +kernel) (by decide) h
theorem rt_C_0_3 {k : Nat} (h : zct zC k = 0) : zct zC (zrf zC k 3) = 20 := zz_rt (P := fun k => zct zC (zrf zC k 3) = 20) (by decide +kernel) (by decide) h
theorem rl_C_0_3 {k : Nat} (h : zct zC k = 0) : zln zC (zrf zC k 3) = 30 := zz_rt (P := fun k => zln zC (zrf zC k 3) = 30) (by decide +kernel) (by decide) h
theorem rt_C_3_0 {k : Nat} (h : zct zC k = 3) : zct zC (zrf zC k 0) = 20 := zz_rt (P := fun k => zct zC (zrf zC k 0) = 20) (by decide +kernel) (by decide) h
theorem rl_C_3_0 {k : Nat} (h : zct zC k = 3) : zln zC (zrf zC k 0) = 12 := zz_rt (P := fun k => zln zC (zrf zC k 0) = 12) (by decide +kernel) (by decide) h
theorem rt_C_7_0 {k : Nat} (h : zct zC k = 7) : zct zC (zrf zC k 0) = 20 := zz_rt (P := fun k => zct zC (zrf zC k 0) = 20) (by decide +kernel) (by decide) h
theorem rl_C_7_0 {k : Nat} (h : zct zC k = 7) : zln zC (zrf zC k 0) = 56 := zz_rt (P := fun k => zln zC (zrf zC k 0) = 56) (by decide +kernel) (by decide) h
theorem rt_C_7_1 {k : Nat} (h : zct zC k = 7) : zct zC (zrf zC k 1) = 20 := zz_rt (P := fun k => zct zC (zrf zC k 1) = 20) (by decide +kernel) (by decide) h
theorem rl_C_7_1 {k : Nat} (h : zct zC k = 7) : zln zC (zrf zC k 1) = 56 := zz_rt (P := fun k => zln zC (zrf zC k 1) = 56) (by decide +kernel) (by decide) h
theorem rt_C_7_5 {k : Nat} (h : zct zC k = 7) : zct zC (zrf zC k 5) = 20 := zz_rt (P := fun k => zct zC (zrf zC k 5) = 20) (by decide +kernel) (by decide) h
theorem rl_C_7_5 {k : Nat} (h : zct zC k = 7) : zln zC (zrf zC k 5) = 560 := zz_rt (P := fun k => zln zC (zrf zC k 5) = 560) (by decide +kernel) (by decide) h
theorem rt_C_7_6 {k : Nat} (h : zct zC k = 7) : zct zC (zrf zC k 6) = 20 := zz_rt (P := fun k => zct zC (zrf zC k 6) = 20) (by decide +kernel) (by decide) h
theorem rl_C_7_6 {k : Nat} (h : zct zC k = 7) : zln zC (zrf zC k 6) = 560 := zz_rt (P := fun k => zln zC (zrf zC k 6) = 560) (by decide +kernel) (by decide) h
theorem rt_C_7_7 {k : Nat} (h : zct zC k = 7) : zct zC (zrf zC k 7) = 20 := zz_rt (P := fun k => zct zC (zrf zC k 7) = 20) (by decide +kernel) (by decide) h
theorem rl_C_7_7 {k : Nat} (h : zct zC k = 7) : zln zC (zrf zC k 7) = 560 := zz_rt (P := fun k => zln zC (zrf zC k 7) = 560) (by decide +kernel) (by decide) h
theorem rt_C_7_8 {k : Nat} (h : zct zC k = 7) : zct zC (zrf zC k 8) = 20 := zz_rt (P := fun k => zct zC (zrf zC k 8) = 20) (by decide +kernel) (by decide) h
theorem rl_C_7_8 {k : Nat} (h : zct zC k = 7) : zln zC (zrf zC k 8) = 560 := zz_rt (P := fun k => zln zC (zrf zC k 8) = 560) (by decide +kernel) (by decide) h
theorem rt_C_7_9 {k : Nat} (h : zct zC k = 7) : zct zC (zrf zC k 9) = 20 := zz_rt (P := fun k => zct zC (zrf zC k 9) = 20) (by decide +kernel) (by decide) h
theorem rl_C_7_9 {k : Nat} (h : zct zC k = 7) : zln zC (zrf zC k 9) = 560 := zz_rt (P := fun k => zln zC (zrf zC k 9) = 560) (by decide +kernel) (by decide) h
theorem rt_C_7_10 {k : Nat} (h : zct zC k = 7) : zct zC (zrf zC k 10) = 20 := zz_rt (P := fun k => zct zC (zrf zC k 10) = 20) (by decide +kernel) (by decide) h
theorem rl_C_7_10 {k : Nat} (h : zct zC k = 7) : zln zC (zrf zC k 10) = 560 := zz_rt (P := fun k => zln zC (zrf zC k 10) = 560) (by decide +kernel) (by decide) h
theorem rt_C_1_0 {k : Nat} (h : zct zC k = 1) : zct zC (zrf zC k 0) = 21 := zz_rt (P := fun k => zct zC (zrf zC k 0) = 21) (by decide +kernel) (by decide) h
theorem rl_C_1_0 {k : Nat} (h : zct zC k = 1) : zln zC (zrf zC k 0) = 56 := zz_rt (P := fun k => zln zC (zrf zC k 0) = 56) (by decide +kernel) (by decide) h
theorem rt_C_1_1 {k : Nat} (h : zct zC k = 1) : zct zC (zrf zC k 1) = 21 := zz_rt (P := fun k => zct zC (zrf zC k 1) = 21) (by decide +kernel) (by decide) h
theorem rl_C_1_1 {k : Nat} (h : zct zC k = 1) : zln zC (zrf zC k 1) = 56 := zz_rt (P := fun k => zln zC (zrf zC k 1) = 56) (by decide +kernel) (by decide) h
theorem rt_C_1_2 {k : Nat} (h : zct zC k = 1) : zct zC (zrf zC k 2) = 21 := zz_rt (P := fun k => zct zC (zrf zC k 2) = 21) (by decide +kernel) (by decide) h
theorem rl_C_1_2 {k : Nat} (h : zct zC k = 1) : zln zC (zrf zC k 2) = 56 := zz_rt (P := fun k => zln zC (zrf zC k 2) = 56) (by decide +kernel) (by decide) h
theorem rt_C_2_0 {k : Nat} (h : zct zC k = 2) : zct zC (zrf zC k 0) = 22 := zz_rt (P := fun k => zct zC (zrf zC k 0) = 22) (by decide +kernel) (by decide) h
theorem rl_C_2_0 {k : Nat} (h : zct zC k = 2) : zln zC (zrf zC k 0) = 1232 := zz_rt (P := fun k => zln zC (zrf zC k 0) = 1232) (by decide +kernel) (by decide) h
theorem rt_C_8_0 {k : Nat} (h : zct zC k = 8) : zct zC (zrf zC k 0) = 20 := zz_rt (P := fun k => zct zC (zrf zC k 0) = 20) (by decide +kernel) (by decide) h
theorem rl_C_8_0 {k : Nat} (h : zct zC k = 8) : zln zC (zrf zC k 0) = 56 := zz_rt (P := fun k => zln zC (zrf zC k 0) = 56) (by decide +kernel) (by decide) h
theorem rt_M_10_1 {k : Nat} (h : zct zM k = 10) : zct zM (zrf zM k 1) = 22 := zz_rt (P := fun k => zct zM (zrf zM k 1) = 22) (by decide +kernel) (by decide) h
theorem rl_M_10_1 {k : Nat} (h : zct zM k = 10) : zln zM (zrf zM k 1) = 600 := zz_rt (P := fun k => zln zM (zrf zM k 1) = 600) (by decide +kernel) (by decide) h
theorem rt_M_10_10 {k : Nat} (h : zct zM k = 10) : zct zM (zrf zM k 10) = 20 := zz_rt (P := fun k => zct zM (zrf zM k 10) = 20) (by decide +kernel) (by decide) h
theorem rl_M_10_10 {k : Nat} (h : zct zM k = 10) : zln zM (zrf zM k 10) = 2 := zz_rt (P := fun k => zln zM (zrf zM k 10) = 2) (by decide +kernel) (by decide) h
theorem rt_M_10_11 {k : Nat} (h : zct zM k = 10) : zct zM (zrf zM k 11) = 20 := zz_rt (P := fun k => zct zM (zrf zM k 11) = 20) (by decide +kernel) (by decide) h
theorem rl_M_10_11 {k : Nat} (h : zct zM k = 10) : zln zM (zrf zM k 11) = 2 := zz_rt (P := fun k => zln zM (zrf zM k 11) = 2) (by decide +kernel) (by decide) h
theorem rt_M_10_12 {k : Nat} (h : zct zM k = 10) : zct zM (zrf zM k 12) = 20 := zz_rt (P := fun k => zct zM (zrf zM k 12) = 20) (by decide +kernel) (by decide) h
theorem rl_M_10_12 {k : Nat} (h : zct zM k = 10) : zln zM (zrf zM k 12) = 2 := zz_rt (P := fun k => zln zM (zrf zM k 12) = 2) (by decide +kernel) (by decide) h
theorem rt_M_10_13 {k : Nat} (h : zct zM k = 10) : zct zM (zrf zM k 13) = 21 := zz_rt (P := fun k => zct zM (zrf zM k 13) = 21) (by decide +kernel) (by decide) h
theorem rl_M_10_13 {k : Nat} (h : zct zM k = 10) : zln zM (zrf zM k 13) = 32 := zz_rt (P := fun k => zln zM (zrf zM k 13) = 32) (by decide +kernel) (by decide) h
theorem rt_M_10_14 {k : Nat} (h : zct zM k = 10) : zct zM (zrf zM k 14) = 21 := zz_rt (P := fun k => zct zM (zrf zM k 14) = 21) (by decide +kernel) (by decide) h
theorem rl_M_10_14 {k : Nat} (h : zct zM k = 10) : zln zM (zrf zM k 14) = 20 := zz_rt (P := fun k => zln zM (zrf zM k 14) = 20) (by decide +kernel) (by decide) h
theorem rt_M_10_15 {k : Nat} (h : zct zM k = 10) : zct zM (zrf zM k 15) = 21 := zz_rt (P := fun k => zct zM (zrf zM k 15) = 21) (by decide +kernel) (by decide) h
theorem rl_M_10_15 {k : Nat} (h : zct zM k = 10) : zln zM (zrf zM k 15) = 8 := zz_rt (P := fun k => zln zM (zrf zM k 15) = 8) (by decide +kernel) (by decide) h
theorem rt_M_10_16 {k : Nat} (h : zct zM k = 10) : zct zM (zrf zM k 16) = 20 := zz_rt (P := fun k => zct zM (zrf zM k 16) = 20) (by decide +kernel) (by decide) h
theorem rl_M_10_16 {k : Nat} (h : zct zM k = 10) : zln zM (zrf zM k 16) = 20 := zz_rt (P := fun k => zln zM (zrf zM k 16) = 20) (by decide +kernel) (by decide) h
theorem rt_M_10_17 {k : Nat} (h : zct zM k = 10) : zct zM (zrf zM k 17) = 20 := zz_rt (P := fun k => zct zM (zrf zM k 17) = 20) (by decide +kernel) (by decide) h
theorem rl_M_10_17 {k : Nat} (h : zct zM k = 10) : zln zM (zrf zM k 17) = 20 := zz_rt (P := fun k => zln zM (zrf zM k 17) = 20) (by decide +kernel) (by decide) h
theorem rt_M_10_18 {k : Nat} (h : zct zM k = 10) : zct zM (zrf zM k 18) = 20 := zz_rt (P := fun k => zct zM (zrf zM k 18) = 20) (by decide +kernel) (by decide) h
theorem rl_M_10_18 {k : Nat} (h : zct zM k = 10) : zln zM (zrf zM k 18) = 122 := zz_rt (P := fun k => zln zM (zrf zM k 18) = 122) (by decide +kernel) (by decide) h
theorem rt_M_10_19 {k : Nat} (h : zct zM k = 10) : zct zM (zrf zM k 19) = 20 := zz_rt (P := fun k => zct zM (zrf zM k 19) = 20) (by decide +kernel) (by decide) h
theorem rl_M_10_19 {k : Nat} (h : zct zM k = 10) : zln zM (zrf zM k 19) = 122 := zz_rt (P := fun k => zln zM (zrf zM k 19) = 122) (by decide +kernel) (by decide) h
theorem rt_M_10_20 {k : Nat} (h : zct zM k = 10) : zct zM (zrf zM k 20) = 20 := zz_rt (P := fun k => zct zM (zrf zM k 20) = 20) (by decide +kernel) (by decide) h
theorem rl_M_10_20 {k : Nat} (h : zct zM k = 10) : zln zM (zrf zM k 20) = 1464 := zz_rt (P := fun k => zln zM (zrf zM k 20) = 1464) (by decide +kernel) (by decide) h
theorem rt_M_10_22 {k : Nat} (h : zct zM k = 10) : zct zM (zrf zM k 22) = 20 := zz_rt (P := fun k => zct zM (zrf zM k 22) = 20) (by decide +kernel) (by decide) h
theorem rl_M_10_22 {k : Nat} (h : zct zM k = 10) : zln zM (zrf zM k 22) = 244 := zz_rt (P := fun k => zln zM (zrf zM k 22) = 244) (by decide +kernel) (by decide) h
theorem rt_M_10_23 {k : Nat} (h : zct zM k = 10) : zct zM (zrf zM k 23) = 23 := zz_rt (P := fun k => zct zM (zrf zM k 23) = 23) (by decide +kernel) (by decide) h
theorem rl_M_10_23 {k : Nat} (h : zct zM k = 10) : zln zM (zrf zM k 23) = 2 := zz_rt (P := fun k => zln zM (zrf zM k 23) = 2) (by decide +kernel) (by decide) h
theorem rt_M_10_24 {k : Nat} (h : zct zM k = 10) : zct zM (zrf zM k 24) = 20 := zz_rt (P := fun k => zct zM (zrf zM k 24) = 20) (by decide +kernel) (by decide) h
theorem rl_M_10_24 {k : Nat} (h : zct zM k = 10) : zln zM (zrf zM k 24) = 56 := zz_rt (P := fun k => zln zM (zrf zM k 24) = 56) (by decide +kernel) (by decide) h
theorem rt_M_10_25 {k : Nat} (h : zct zM k = 10) : zct zM (zrf zM k 25) = 20 := zz_rt (P := fun k => zct zM (zrf zM k 25) = 20) (by decide +kernel) (by decide) h
theorem rl_M_10_25 {k : Nat} (h : zct zM k = 10) : zln zM (zrf zM k 25) = 56 := zz_rt (P := fun k => zln zM (zrf zM k 25) = 56) (by decide +kernel) (by decide) h
theorem rt_M_10_26 {k : Nat} (h : zct zM k = 10) : zct zM (zrf zM k 26) = 20 := zz_rt (P := fun k => zct zM (zrf zM k 26) = 20) (by decide +kernel) (by decide) h
theorem rl_M_10_26 {k : Nat} (h : zct zM k = 10) : zln zM (zrf zM k 26) = 560 := zz_rt (P := fun k => zln zM (zrf zM k 26) = 560) (by decide +kernel) (by decide) h
theorem rt_M_10_33 {k : Nat} (h : zct zM k = 10) : zct zM (zrf zM k 33) = 20 := zz_rt (P := fun k => zct zM (zrf zM k 33) = 20) (by decide +kernel) (by decide) h
theorem rl_M_10_33 {k : Nat} (h : zct zM k = 10) : zln zM (zrf zM k 33) = 560 := zz_rt (P := fun k => zln zM (zrf zM k 33) = 560) (by decide +kernel) (by decide) h
theorem rt_M_10_34 {k : Nat} (h : zct zM k = 10) : zct zM (zrf zM k 34) = 23 := zz_rt (P := fun k => zct zM (zrf zM k 34) = 23) (by decide +kernel) (by decide) h
theorem rl_M_10_34 {k : Nat} (h : zct zM k = 10) : zln zM (zrf zM k 34) = 560 := zz_rt (P := fun k => zln zM (zrf zM k 34) = 560) (by decide +kernel) (by decide) h
theorem rt_M_10_37 {k : Nat} (h : zct zM k = 10) : zct zM (zrf zM k 37) = 21 := zz_rt (P := fun k => zct zM (zrf zM k 37) = 21) (by decide +kernel) (by decide) h
theorem rl_M_10_37 {k : Nat} (h : zct zM k = 10) : zln zM (zrf zM k 37) = 56 := zz_rt (P := fun k => zln zM (zrf zM k 37) = 56) (by decide +kernel) (by decide) h
theorem rt_M_10_38 {k : Nat} (h : zct zM k = 10) : zct zM (zrf zM k 38) = 21 := zz_rt (P := fun k => zct zM (zrf zM k 38) = 21) (by decide +kernel) (by decide) h
theorem rl_M_10_38 {k : Nat} (h : zct zM k = 10) : zln zM (zrf zM k 38) = 56 := zz_rt (P := fun k => zln zM (zrf zM k 38) = 56) (by decide +kernel) (by decide) h
theorem rt_M_10_39 {k : Nat} (h : zct zM k = 10) : zct zM (zrf zM k 39) = 21 := zz_rt (P := fun k => zct zM (zrf zM k 39) = 21) (by decide +kernel) (by decide) h
theorem rl_M_10_39 {k : Nat} (h : zct zM k = 10) : zln zM (zrf zM k 39) = 56 := zz_rt (P := fun k => zln zM (zrf zM k 39) = 56) (by decide +kernel) (by decide) h
theorem rt_M_10_40 {k : Nat} (h : zct zM k = 10) : zct zM (zrf zM k 40) = 20 := zz_rt (P := fun k => zct zM (zrf zM k 40) = 20) (by decide +kernel) (by decide) h
theorem rl_M_10_40 {k : Nat} (h : zct zM k = 10) : zln zM (zrf zM k 40) = 1300 := zz_rt (P := fun k => zln zM (zrf zM k 40) = 1300) (by decide +kernel) (by decide) h
