/-! What a throw asks for: words, two text constants, two statics of Throwable. -/
def IOB : String := "java/lang/IndexOutOfBoundsException"
def NMS : List String := ["java/lang/RuntimeException", "java/lang/Exception"]
def NGW : List Cond := (vx_atS RX9 130 IOB NMS).filter (fun w => !goodWord w)
def ngk : Cond → Bool
  | .declares _ => true
  | .castable _ _ => true
  | .privateMethod _ => true
  | .sameMethod r _ _ _ => decide (r ≠ "java/lang/invoke/MethodHandle") && decide (r ≠ "java/lang/invoke/VarHandle")
  | _ => false
theorem ng_k : ∀ w ∈ NGW, ngk w = true := by decide +kernel
theorem gd_in : ∀ w ∈ (vx_atS RX9 130 IOB NMS).filter goodWord, w ∈ TT := by
  have h : ∀ w ∈ (vx_atS RX9 130 IOB NMS).filter goodWord, w ∈ lw_tbl := by decide +kernel
  exact fun w hw => List.mem_filter.mpr ⟨h w hw, (List.mem_filter.mp hw).2⟩
theorem ng_in : ∀ w ∈ NGW, w ∈ tables_1 := by decide +kernel
theorem ng_warm {s U : State} (hW : s.WarmedH U.vm) (h : ∀ w ∈ NGW, va_Nw w s) : ∀ w ∈ NGW, va_Nw w U := by
  intro w hw
  have h1 := h w hw
  have h2 := ng_k w hw
  cases w <;> first
    | exact va_Nw.warmD hW h1
    | exact va_Nw.warmC hW h1
    | exact va_tabs rfl (rfl : (s.setVm U.vm).vm = U.vm) (by rw [Cond.privateMethod_setVm hW.alike]; exact h1)
    | (simp only [ngk, Bool.and_eq_true, decide_eq_true_eq] at h2; exact va_tabs rfl (rfl : (s.setVm U.vm).vm = U.vm) (by rw [Cond.sameMethod_setVm hW.alike h2]; exact h1))
    | cases h2
theorem ng_same {u U : State} (e : u.vm = U.vm) (h : ∀ w ∈ NGW, va_Nw w u) : ∀ w ∈ NGW, va_Nw w U := by
  intro w hw
  have h1 := h w hw
  have h2 := ng_k w hw
  cases w <;> first | exact va_Nw.same rfl e h1 | cases h2
def XE (A : Nat → Prop) (g : Gh) (U : State) (H : Heap) : Prop := (∀ w ∈ NGW, va_Nw w U) ∧ (vk_R RX9 128 "no such constraint" (g.2.2 4000) U ∧ vk_R RX9 137 "no such position" (g.2.2 4001) U) ∧ vx_Zq Bundle.tN "UNASSIGNED_STACK" Bundle.steD A U H ∧ vx_Zq Bundle.tN "SUPPRESSED_SENTINEL" Bundle.listD A U H
theorem XE.warm {A : Nat → Prop} {g : Gh} {s U : State} {H : Heap} (hW : s.WarmedH U.vm) (h : XE A g s H) : XE A g U H :=
  ⟨ng_warm hW h.1, ⟨h.2.1.1.warm hW, h.2.1.2.warm hW⟩, vx_Zq.moved hW.alike h.2.2.1, vx_Zq.moved hW.alike h.2.2.2⟩
theorem XE.same {A : Nat → Prop} {g : Gh} {u U : State} {H : Heap} (hv : U.vm = u.vm) (h : XE A g u H) : XE A g U H := by
  have hvm : u.vm.Alike U.vm := by rw [hv]; exact Vm.Alike.refl _
  exact ⟨ng_same hv.symm h.1, ⟨h.2.1.1.same hv, h.2.1.2.same hv⟩, vx_Zq.moved hvm h.2.2.1, vx_Zq.moved hvm h.2.2.2⟩
theorem XE.kept {A : Nat → Prop} {g : Gh} {U : State} {H H1 : Heap} {locs : List Loc} (hS : va_S A H H1 locs) (h : XE A g U H) : XE A g U H1 :=
  ⟨h.1, h.2.1, h.2.2.1.kept hS.2.1, h.2.2.2.kept hS.2.1⟩
theorem XE.to {A B : Nat → Prop} {g g2 : Gh} {U : State} {H : Heap} (h : XE A g U H) (hg : ∀ k, 1000 ≤ k → g2.2.2 k = g.2.2 k) (hA : ∀ q, B q → A q) : XE B g2 U H := by
  obtain ⟨h1, ⟨h2, h3⟩, h4, h5⟩ := h
  refine ⟨h1, ⟨?_, ?_⟩, h4.narrow hA, h5.narrow hA⟩
  · rw [hg _ (by omega)]; exact h2
  · rw [hg _ (by omega)]; exact h3
theorem x_hat {args : Array Value} {s : State} (h1 : ∀ w ∈ TT, w.before args s = true) (h2 : ∀ w ∈ NGW, va_Nw w s) : ∀ w ∈ vx_atS RX9 130 IOB NMS, w.before args s = true := by
  intro w hw
  by_cases g : goodWord w = true
  · exact h1 w (gd_in w (List.mem_filter.mpr ⟨hw, g⟩))
  · have h3 : w ∈ NGW := List.mem_filter.mpr ⟨hw, by cases hgw : goodWord w; rfl; exact absurd hgw g⟩
    have h4 := h2 w h3
    have h5 := ng_k w h3
    cases w <;> first | exact va_Nw.use rfl h4 | cases h5
theorem x_hgood : ∀ w ∈ Cond.classLink RX9 126 IOB :: Cond.initialized IOB :: vx_atS RX9 130 IOB NMS, vx_ot w = true := by decide +kernel
