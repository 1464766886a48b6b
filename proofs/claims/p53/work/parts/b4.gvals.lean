-- deps: b3
/-! What the graph's calls answer, by the class alone. -/
def WG (p : Nat) (P : PK) (K : CK) (m w : Wd) : Prop := Base p P K w m ∧ GC P K w
section GV4
variable {p : Nat} {P : PK} {K : CK} {c m w : Wd} {s t : Nat}
theorem WG.g (h : WG p P K m w) : ∃ w', f_X9_graphed w 0 = some (54, w') ∧ GG P K w' ∧ WG p P K m w' := by
  obtain ⟨c', e1, e2, e3, e4⟩ := c_graphed h.1 h.2
  exact ⟨c', e1, e2, h.1.keepG e4, e2.gc e3⟩
theorem WG.pk (h : WG p P K m w) : PWF P ∧ CWF P K := ⟨h.1.2.2.2.2.2.2.1, h.1.2.2.2.2.2.2.2.1⟩
theorem lcn_loc (hs : s < 56) : f_X9_locationOf (nI s) = nI (lcn s) := by
  rw [loc_n hs]
  unfold lcn
  split <;> rfl
theorem e_has (h : WG p P K m w) (hs : s < 56) (es : exi P s = true) (ht : t < 56) (et : exi P t = true) : ∃ w', f_X9_hasEdge w 0 (nI (lcn s)) (nI (lcn t)) = some (if s = t then -1 else if ED P K s t = true then 1 else 0, w') ∧ WG p P K m w' := by
  obtain ⟨hP, hK⟩ := h.pk
  unfold f_X9_hasEdge
  rw [h.1.rp, Option.bind_some, Option.bind_some, c_slot h.1, c_slot h.1, slI_lcn hP hs es, slI_lcn hP ht et]
  by_cases q : s = t
  · rw [if_pos (Or.inr (by rw [q])), if_pos q]
    exact ⟨w, rfl, h⟩
  · rw [if_neg (fun z => z.elim (fun z => z.elim (n_m1 (by omega)) (n_m1 (by omega))) (fun z => q ((n_eq (by omega) (by omega)).mp z))), if_neg q]
    obtain ⟨w', e1, e2, e3⟩ := h.g
    rw [e1, Option.bind_some]
    show ∃ w'', Option.bind (rdL zC w' 55 (nI s)) _ = _ ∧ _
    rw [rdL_C (show s < 56 by omega), Option.bind_some, holds_lb (by omega), e2.1 s t (by omega) (by omega)]
    exact ⟨w', rfl, e3⟩
theorem e_cnt (h : WG p P K m w) : ∃ w', f_X9_edgeCount w 0 = some (nI (sm (fun s => cn (ED P K s) 56) 56), w') ∧ WG p P K m w' := by
  obtain ⟨hP, hK⟩ := h.pk
  obtain ⟨w', e1, e2, e3⟩ := h.g
  refine ⟨w', ?_, e3⟩
  unfold f_X9_edgeCount
  rw [e1, Option.bind_some, c_countEdges hP hK e2]; rfl
theorem e_dist (h : WG p P K m w) (hs : s < 56) (es : exi P s = true) (ht : t < 56) (et : exi P t = true) : ∃ w', f_X9_distance w 0 (nI (lcn s)) (nI (lcn t)) = some (if exb (fun n => stp P K s n t) 56 = true then nI (fstb (fun n => stp P K s n t) 56) else -2, w') ∧ WG p P K m w' := by
  obtain ⟨hP, hK⟩ := h.pk
  unfold f_X9_distance
  rw [h.1.rp, Option.bind_some, Option.bind_some, c_slot h.1, c_slot h.1, slI_lcn hP hs es, slI_lcn hP ht et, if_neg (fun z => z.elim (n_m1 (by omega)) (n_m1 (by omega)))]
  obtain ⟨w', e1, e2, e3⟩ := h.g
  obtain ⟨r, d1, d2⟩ := c_path e2 hs ht
  rw [e1, Option.bind_some]
  dsimp only
  rw [d1, Option.bind_some, d2]
  exact ⟨w', rfl, e3⟩
theorem e_size (h : WG p P K m w) (hs : s < 56) (es : exi P s = true) : ∃ w', f_X9_componentSize w 0 (nI (lcn s)) = some (nI (cn (fun a => tg P K s a) 56), w') ∧ WG p P K m w' := by
  obtain ⟨hP, hK⟩ := h.pk
  unfold f_X9_componentSize
  rw [h.1.rp, Option.bind_some, c_slot h.1, slI_lcn hP hs es, if_neg (n_m1 (by omega))]
  obtain ⟨w', e1, e2, e3⟩ := h.g
  rw [e1, Option.bind_some]
  show ∃ w'', Option.bind (Option.bind (rdL zC w' 57 (nI s)) _) _ = _ ∧ _
  rw [rdL_C (show s < 56 by omega), Option.bind_some, Option.bind_some, bc64, comp_cn e2 hs]
  exact ⟨w', rfl, e3⟩
theorem e_rep (h : WG p P K m w) (hs : s < 56) (es : exi P s = true) : ∃ w', f_X9_representative w 0 (nI (lcn s)) = some (nI (lcn (low P K s)), w') ∧ WG p P K m w' := by
  obtain ⟨hP, hK⟩ := h.pk
  have hl := (low_ok (P := P) (K := K) hs).1
  unfold f_X9_representative
  rw [h.1.rp, Option.bind_some, c_slot h.1, slI_lcn hP hs es, if_neg (n_m1 (by omega))]
  obtain ⟨w', e1, e2, e3⟩ := h.g
  rw [e1, Option.bind_some]
  dsimp only
  rw [c_lowest e2 hs, Option.bind_some, Option.bind_some, lcn_loc (by omega)]
  exact ⟨w', rfl, e3⟩
theorem e_nodes (h : WG p P K m w) : ∃ w', f_X9_condensedNodeCount w 0 = some (nI (cn (isl P K) 56), w') ∧ WG p P K m w' := by
  obtain ⟨w', e1, e2, e3⟩ := h.g
  refine ⟨w', ?_, e3⟩
  unfold f_X9_condensedNodeCount
  rw [e1, Option.bind_some]
  show Option.bind (f_X1_countComponents w' 54 (nI 1)) _ = _
  rw [c_countComp e2 (by omega), cn_cong (q := isl P K) fun i hi => by
    rw [decide_eq_true (cn_pos (q := fun a => tg P K i a) hi (tg_refl i)), Bool.and_true]]
  rfl
theorem e_cyc (h : WG p P K m w) : ∃ w', f_X9_cyclicComponentCount w 0 = some (nI (cn (fun s => isl P K s && decide (2 ≤ cn (fun a => tg P K s a) 56)) 56), w') ∧ WG p P K m w' := by
  obtain ⟨w', e1, e2, e3⟩ := h.g
  refine ⟨w', ?_, e3⟩
  unfold f_X9_cyclicComponentCount
  rw [e1, Option.bind_some]
  show Option.bind (f_X1_countComponents w' 54 (nI 2)) _ = _
  rw [c_countComp e2 (by omega)]; rfl
theorem e_cond (h : WG p P K m w) : ∃ w', f_X9_condensedEdgeCount w 0 = some (nI (sm (fun k => cn (DE P K k) 56) 56), w') ∧ WG p P K m w' := by
  obtain ⟨hP, hK⟩ := h.pk
  obtain ⟨w', e1, e2, e3⟩ := h.g
  refine ⟨w', ?_, e3⟩
  unfold f_X9_condensedEdgeCount
  rw [e1, Option.bind_some, c_condensed hP hK e2]; rfl
end GV4
