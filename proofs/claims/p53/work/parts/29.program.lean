-- deps: 25
/-! program: the text that the law makes. -/
def lsN (i : Nat) : List Nat := ([[102, 117, 110, 32, 112, 32, 97, 32, 98, 59], [102, 117, 110, 32, 113, 32], [32], [59], [110, 101, 119, 32], [99, 111, 112, 121, 32], [108, 111, 97, 100, 32], [115, 116, 111, 114, 101, 32], [99, 97, 108, 108, 32]] : List (List Nat)).getD i []
def StmtOK (u : List Nat) : Prop :=
  (∃ a o, a < 6 ∧ o < 4 ∧ u = lsN 4 ++ ([97 + a] ++ (lsN 2 ++ ([112 + o] ++ lsN 3)))) ∨ (∃ a b, a < 6 ∧ b < 6 ∧ u = lsN 5 ++ ([97 + a] ++ (lsN 2 ++ ([97 + b] ++ lsN 3)))) ∨
  (∃ a b f, a < 6 ∧ b < 6 ∧ f < 2 ∧ u = lsN 6 ++ ([97 + a] ++ (lsN 2 ++ ([97 + b] ++ (lsN 2 ++ ([120 + f] ++ lsN 3)))))) ∨
  (∃ a b f, a < 6 ∧ b < 6 ∧ f < 2 ∧ u = lsN 7 ++ ([97 + a] ++ (lsN 2 ++ ([120 + f] ++ (lsN 2 ++ ([97 + b] ++ lsN 3)))))) ∨
  (∃ a b d, a < 6 ∧ b < 6 ∧ d < 6 ∧ u = lsN 8 ++ ([97 + a] ++ (lsN 2 ++ ([97 + b] ++ (lsN 2 ++ ([97 + d] ++ lsN 3))))))
def HeadOK (t : List Nat) : Prop := ∃ p1 p2, t = p1 ++ p2 ∧ (p1 = [] ∨ p1 = lsN 0) ∧ (p2 = [] ∨ ∃ a b, a < 6 ∧ b < 6 ∧ p2 = lsN 1 ++ ([97 + a] ++ (lsN 2 ++ ([97 + b] ++ lsN 3))))
def ProgOK (t : List Nat) (k : Nat) : Prop := ∃ (h : List Nat) (us : List (List Nat)), t = h ++ us.flatten ∧ HeadOK h ∧ us.length = k ∧ ∀ u ∈ us, StmtOK u
theorem StmtOK.len {u : List Nat} (h : StmtOK u) : u.length ≤ 13 := by
  rcases h with ⟨a, o, -, -, rfl⟩ | ⟨a, b, -, -, rfl⟩ | ⟨a, b, f, -, -, -, rfl⟩ | ⟨a, b, f, -, -, -, rfl⟩ | ⟨a, b, d, -, -, -, rfl⟩ <;> simp [lsN]
theorem HeadOK.len {t : List Nat} (h : HeadOK t) : t.length ≤ 20 := by
  obtain ⟨p1, p2, rfl, h1, h2⟩ := h
  rcases h1 with rfl | rfl <;> rcases h2 with rfl | ⟨a, b, -, -, rfl⟩ <;> simp [lsN]
theorem ProgOK.nil {t : List Nat} (h : HeadOK t) : ProgOK t 0 := ⟨t, [], by simp, h, rfl, fun u hu => by cases hu⟩
theorem ProgOK.next {t u : List Nat} {k : Nat} (h : ProgOK t k) (hu : StmtOK u) : ProgOK (t ++ u) (k + 1) := by
  obtain ⟨h0, us, rfl, h1, h2, h3⟩ := h
  refine ⟨h0, us ++ [u], by simp, h1, by simp [h2], fun x hx => ?_⟩
  rcases List.mem_append.mp hx with h | h
  · exact h3 x h
  · rw [List.mem_singleton.mp h]; exact hu
theorem flat_len {us : List (List Nat)} (h : ∀ u ∈ us, u.length ≤ 13) : us.flatten.length ≤ 13 * us.length := by
  induction us with
  | nil => simp
  | cons u us ih =>
    have h1 := h u List.mem_cons_self
    have h2 := ih (fun x hx => h x (List.mem_cons_of_mem _ hx))
    simp only [List.flatten_cons, List.length_append, List.length_cons]
    omega
theorem ProgOK.len {t : List Nat} {k : Nat} (h : ProgOK t k) : t.length ≤ 20 + 13 * k := by
  obtain ⟨h0, us, rfl, h1, h2, h3⟩ := h
  have := h1.len
  have := flat_len (fun u hu => (h3 u hu).len)
  rw [List.length_append]
  omega
/-- the builder holds the text t -/
def SBt (g : Gh) (q : Nat) (t : List Nat) (ws : va_W) : Prop := ∃ v m0 f, ws = [(q, sbE v (nI t.length)), (v, ba g m0 f)] ∧ t.length ≤ m0 ∧ m0 ≤ 16 + 2 * t.length ∧ BF m0 f ∧ ∀ j, j < t.length → f j = nI (t.getD j 0)
theorem lsN_len : ∀ i, i < 9 → (lsN i).length = lsLen.getD i 0 := by decide +kernel
theorem lsN_ten : ∀ i, i < 9 → lsLen.getD i 0 ≤ 10 := by decide +kernel
theorem lsN_at : ∀ i, i < 9 → ∀ j, j < lsLen.getD i 0 → (lsByt.getD i []).getD j 0 = nI ((lsN i).getD j 0) := by decide +kernel
section PR
variable {p : Program} {l : Launch} {e : Env} {R : Room} {s : State} {m : MethodId} {args : Array Value} {below : List Frame} {meth : Method} {c : Code} {H : Heap} {locs : List Loc} {cells slots : Nat} {Q : State → Prop}
variable {cc : ByteArray} {nL : Nat} {g : Gh} {pc : Nat} {ls : Array Slot} {rest : List Value} {A : Nat → Prop} {ws : va_W} {Lx : Nat × (Nat → Int32)} {q : Nat} {t : List Nat}
theorem y_apS (X : AmC p s m args meth c cc nL RL g) (hZ : ZX Lx A g s s.heap) (hS : SBt g q t ws) (hL : LW g A ws s.heap H locs) {i B : Nat} (hi : i < 9) (hn : t.length ≤ B) (hB0 : B ≤ 890) (hR : 6 ≤ R.frames ∧ 221 ≤ R.locals) (hsz : ls.size = nL) (hW : (rest.map fun v => v.category).sum ≤ 8) (hf : cells + 1 ≤ R.cells ∧ slots + 5000 ≤ R.slots) (hdg : decode cc pc = .ok (.invokevirtual 44, 3))
    (kk : ∀ (ws2 : va_W) (H : Heap) (locs : List Loc), (t ++ lsN i).length ≤ B + 10 → SBt g q (t ++ lsN i) ws2 → LW g A ws2 s.heap H locs → W p l e R s m args below meth c H locs (cells + 1) (slots + 5000) Q (F0 m (pc + 3) ls (.ref q :: rest))) : W p l e R s m args below meth c H locs cells slots Q (F0 m pc ls (.ref (g.2.2 (2000 + i)) :: .ref q :: rest)) := by
  obtain ⟨v, m0, f, rfl, h1, h2, h3, h4⟩ := hS
  refine x_callLV (As := [.ref (g.2.2 (2000 + i))]) (rest := rest) X hZ [] [(q, sbE v (nI t.length)), (v, ba g m0 f)] hL (k_appS hi (by omega) ⟨h1, h2⟩ h3) tw_3_209 ms_J4_append_15ec4 tw_3_210 tw_3_211 (x_recvL (W1 := []) (ws := [(q, sbE v (nI t.length)), (v, ba g m0 f)]) X hL (j := 0) (ci := 11) rfl rfl) ⟨hR.1, hR.2⟩ rfl rfl hsz hW hdg hf (fun r nb H locs hB hL => ?_)
  obtain ⟨rfl, v2, m2, f2, rfl, e1, e2, e3, e4, e5⟩ := hB
  refine kk _ H locs (by rw [List.length_append, lsN_len i hi]; have := lsN_ten i hi; omega) ⟨v2, m2, f2, (by rw [List.length_append, lsN_len i hi]; rfl), by rw [List.length_append, lsN_len i hi]; exact e1, by rw [List.length_append, lsN_len i hi]; exact e2, e5, fun j hj => ?_⟩ hL
  rw [List.length_append, lsN_len i hi] at hj
  by_cases hlt : j < t.length
  · rw [List.getD_eq_getElem?_getD, List.getElem?_append_left hlt, ← List.getD_eq_getElem?_getD, e3 j hlt]
    exact h4 j hlt
  · have h5 := e4 (j - t.length) (by omega)
    rw [show t.length + (j - t.length) = j by omega, lsN_at i hi _ (by omega)] at h5
    rw [List.getD_eq_getElem?_getD, List.getElem?_append_right (by omega), ← List.getD_eq_getElem?_getD]
    exact h5
theorem y_apC (X : AmC p s m args meth c cc nL RL g) (hZ : ZX Lx A g s s.heap) (hS : SBt g q t ws) (hL : LW g A ws s.heap H locs) {k B : Nat} (hk : k < 128) (hn : t.length ≤ B) (hB0 : B ≤ 890) (hR : 6 ≤ R.frames ∧ 221 ≤ R.locals) (hsz : ls.size = nL) (hW : (rest.map fun v => v.category).sum ≤ 8) (hf : cells + 1 ≤ R.cells ∧ slots + 5000 ≤ R.slots) (hdg : decode cc pc = .ok (.invokevirtual 53, 3))
    (kk : ∀ (ws2 : va_W) (H : Heap) (locs : List Loc), (t ++ [k]).length ≤ B + 1 → SBt g q (t ++ [k]) ws2 → LW g A ws2 s.heap H locs → W p l e R s m args below meth c H locs (cells + 1) (slots + 5000) Q (F0 m (pc + 3) ls (.ref q :: rest))) : W p l e R s m args below meth c H locs cells slots Q (F0 m pc ls (.int (nI k) :: .ref q :: rest)) := by
  obtain ⟨v, m0, f, rfl, h1, h2, h3, h4⟩ := hS
  refine x_callLV (As := [.int (nI k)]) (rest := rest) X hZ [] [(q, sbE v (nI t.length)), (v, ba g m0 f)] hL (k_appC hk (by omega) ⟨h1, h2⟩ h3) tw_4_70 ms_J4_append_cf468 tw_4_71 tw_4_72 (x_recvL (W1 := []) (ws := [(q, sbE v (nI t.length)), (v, ba g m0 f)]) X hL (j := 0) (ci := 11) rfl rfl) ⟨hR.1, hR.2⟩ rfl rfl hsz hW hdg hf (fun r nb H locs hB hL => ?_)
  obtain ⟨rfl, v2, m2, f2, rfl, e1, e2, e3, e4, e5⟩ := hB
  refine kk _ H locs (by rw [List.length_append]; show t.length + 1 ≤ _; omega) ⟨v2, m2, f2, by rw [List.length_append]; rfl, by rw [List.length_append]; exact e1, by rw [List.length_append]; exact e2, e5, fun j hj => ?_⟩ hL
  rw [List.length_append] at hj
  by_cases hlt : j < t.length
  · rw [List.getD_eq_getElem?_getD, List.getElem?_append_left hlt, ← List.getD_eq_getElem?_getD, e3 j hlt]
    exact h4 j hlt
  · have h5 : j = t.length := by have : j < t.length + 1 := hj; omega
    subst h5
    rw [List.getD_eq_getElem?_getD, List.getElem?_append_right (Nat.le_refl _), Nat.sub_self]
    exact e4
end PR
theorem dL_program_0 : decode cL_program 0 = .ok (.new 35, 3) := by decide +kernel
theorem dL_program_3 : decode cL_program 3 = .ok (.dup, 1) := by decide +kernel
theorem dL_program_4 : decode cL_program 4 = .ok (.invokespecial 37, 3) := by decide +kernel
theorem dL_program_7 : decode cL_program 7 = .ok (.astore_n 1, 1) := by decide +kernel
theorem dL_program_8 : decode cL_program 8 = .ok (.aload_n 0, 1) := by decide +kernel
theorem dL_program_9 : decode cL_program 9 = .ok (.iconst 0, 1) := by decide +kernel
theorem dL_program_10 : decode cL_program 10 = .ok (.iconst 3, 1) := by decide +kernel
theorem dL_program_11 : decode cL_program 11 = .ok (.invokestatic 38, 3) := by decide +kernel
theorem dL_program_14 : decode cL_program 14 = .ok (.ifCond .le 10, 3) := by decide +kernel
theorem dL_program_17 : decode cL_program 17 = .ok (.aload_n 1, 1) := by decide +kernel
theorem dL_program_18 : decode cL_program 18 = .ok (.ldc 42, 2) := by decide +kernel
theorem dL_program_20 : decode cL_program 20 = .ok (.invokevirtual 44, 3) := by decide +kernel
theorem dL_program_23 : decode cL_program 23 = .ok (.pop, 1) := by decide +kernel
theorem dL_program_24 : decode cL_program 24 = .ok (.aload_n 0, 1) := by decide +kernel
theorem dL_program_25 : decode cL_program 25 = .ok (.iconst 1, 1) := by decide +kernel
theorem dL_program_26 : decode cL_program 26 = .ok (.iconst 3, 1) := by decide +kernel
theorem dL_program_27 : decode cL_program 27 = .ok (.invokestatic 38, 3) := by decide +kernel
theorem dL_program_30 : decode cL_program 30 = .ok (.ifCond .le 36, 3) := by decide +kernel
theorem dL_program_33 : decode cL_program 33 = .ok (.aload_n 1, 1) := by decide +kernel
theorem dL_program_34 : decode cL_program 34 = .ok (.ldc 47, 2) := by decide +kernel
theorem dL_program_36 : decode cL_program 36 = .ok (.invokevirtual 44, 3) := by decide +kernel
theorem dL_program_39 : decode cL_program 39 = .ok (.aload_n 0, 1) := by decide +kernel
theorem dL_program_40 : decode cL_program 40 = .ok (.iconst 2, 1) := by decide +kernel
theorem dL_program_41 : decode cL_program 41 = .ok (.invokestatic 49, 3) := by decide +kernel
theorem dL_program_44 : decode cL_program 44 = .ok (.invokevirtual 53, 3) := by decide +kernel
theorem dL_program_47 : decode cL_program 47 = .ok (.ldc 56, 2) := by decide +kernel
theorem dL_program_49 : decode cL_program 49 = .ok (.invokevirtual 44, 3) := by decide +kernel
theorem dL_program_52 : decode cL_program 52 = .ok (.aload_n 0, 1) := by decide +kernel
theorem dL_program_53 : decode cL_program 53 = .ok (.iconst 3, 1) := by decide +kernel
theorem dL_program_54 : decode cL_program 54 = .ok (.invokestatic 49, 3) := by decide +kernel
theorem dL_program_57 : decode cL_program 57 = .ok (.invokevirtual 53, 3) := by decide +kernel
theorem dL_program_60 : decode cL_program 60 = .ok (.ldc 58, 2) := by decide +kernel
theorem dL_program_62 : decode cL_program 62 = .ok (.invokevirtual 44, 3) := by decide +kernel
theorem dL_program_65 : decode cL_program 65 = .ok (.pop, 1) := by decide +kernel
theorem dL_program_66 : decode cL_program 66 = .ok (.iconst 3, 1) := by decide +kernel
theorem dL_program_67 : decode cL_program 67 = .ok (.aload_n 0, 1) := by decide +kernel
theorem dL_program_68 : decode cL_program 68 = .ok (.iconst 4, 1) := by decide +kernel
theorem dL_program_69 : decode cL_program 69 = .ok (.bipush 8, 2) := by decide +kernel
theorem dL_program_71 : decode cL_program 71 = .ok (.invokestatic 38, 3) := by decide +kernel
theorem dL_program_74 : decode cL_program 74 = .ok (.iadd, 1) := by decide +kernel
theorem dL_program_75 : decode cL_program 75 = .ok (.istore_n 2, 1) := by decide +kernel
theorem dL_program_76 : decode cL_program 76 = .ok (.iconst 0, 1) := by decide +kernel
theorem dL_program_77 : decode cL_program 77 = .ok (.istore_n 3, 1) := by decide +kernel
theorem dL_program_78 : decode cL_program 78 = .ok (.iload_n 3, 1) := by decide +kernel
theorem dL_program_79 : decode cL_program 79 = .ok (.iload_n 2, 1) := by decide +kernel
theorem dL_program_80 : decode cL_program 80 = .ok (.if_icmp .ge 300, 3) := by decide +kernel
theorem dL_program_83 : decode cL_program 83 = .ok (.iconst 5, 1) := by decide +kernel
theorem dL_program_84 : decode cL_program 84 = .ok (.iconst 5, 1) := by decide +kernel
theorem dL_program_85 : decode cL_program 85 = .ok (.iload_n 3, 1) := by decide +kernel
theorem dL_program_86 : decode cL_program 86 = .ok (.imul, 1) := by decide +kernel
theorem dL_program_87 : decode cL_program 87 = .ok (.iadd, 1) := by decide +kernel
theorem dL_program_88 : decode cL_program 88 = .ok (.istore 4, 2) := by decide +kernel
theorem dL_program_90 : decode cL_program 90 = .ok (.aload_n 0, 1) := by decide +kernel
theorem dL_program_91 : decode cL_program 91 = .ok (.iload 4, 2) := by decide +kernel
theorem dL_program_93 : decode cL_program 93 = .ok (.bipush 7, 2) := by decide +kernel
theorem dL_program_95 : decode cL_program 95 = .ok (.invokestatic 38, 3) := by decide +kernel
theorem dL_program_98 : decode cL_program 98 = .ok (.tableswitch 219 0 4 #[34, 34, 76, 113, 166], 34) := by decide +kernel
theorem dL_program_132 : decode cL_program 132 = .ok (.aload_n 1, 1) := by decide +kernel
theorem dL_program_133 : decode cL_program 133 = .ok (.ldc 60, 2) := by decide +kernel
theorem dL_program_135 : decode cL_program 135 = .ok (.invokevirtual 44, 3) := by decide +kernel
theorem dL_program_138 : decode cL_program 138 = .ok (.aload_n 0, 1) := by decide +kernel
theorem dL_program_139 : decode cL_program 139 = .ok (.iload 4, 2) := by decide +kernel
theorem dL_program_141 : decode cL_program 141 = .ok (.iconst 1, 1) := by decide +kernel
theorem dL_program_142 : decode cL_program 142 = .ok (.iadd, 1) := by decide +kernel
theorem dL_program_143 : decode cL_program 143 = .ok (.invokestatic 49, 3) := by decide +kernel
theorem dL_program_146 : decode cL_program 146 = .ok (.invokevirtual 53, 3) := by decide +kernel
theorem dL_program_149 : decode cL_program 149 = .ok (.ldc 56, 2) := by decide +kernel
theorem dL_program_151 : decode cL_program 151 = .ok (.invokevirtual 44, 3) := by decide +kernel
theorem dL_program_154 : decode cL_program 154 = .ok (.bipush 112, 2) := by decide +kernel
theorem dL_program_156 : decode cL_program 156 = .ok (.aload_n 0, 1) := by decide +kernel
theorem dL_program_157 : decode cL_program 157 = .ok (.iload 4, 2) := by decide +kernel
theorem dL_program_159 : decode cL_program 159 = .ok (.iconst 2, 1) := by decide +kernel
theorem dL_program_160 : decode cL_program 160 = .ok (.iadd, 1) := by decide +kernel
theorem dL_program_161 : decode cL_program 161 = .ok (.iconst 4, 1) := by decide +kernel
theorem dL_program_162 : decode cL_program 162 = .ok (.invokestatic 38, 3) := by decide +kernel
theorem dL_program_165 : decode cL_program 165 = .ok (.iadd, 1) := by decide +kernel
theorem dL_program_166 : decode cL_program 166 = .ok (.i2c, 1) := by decide +kernel
theorem dL_program_167 : decode cL_program 167 = .ok (.invokevirtual 53, 3) := by decide +kernel
theorem dL_program_170 : decode cL_program 170 = .ok (.pop, 1) := by decide +kernel
theorem dL_program_171 : decode cL_program 171 = .ok (.goto 196, 3) := by decide +kernel
theorem dL_program_174 : decode cL_program 174 = .ok (.aload_n 1, 1) := by decide +kernel
theorem dL_program_175 : decode cL_program 175 = .ok (.ldc 62, 2) := by decide +kernel
theorem dL_program_177 : decode cL_program 177 = .ok (.invokevirtual 44, 3) := by decide +kernel
theorem dL_program_180 : decode cL_program 180 = .ok (.aload_n 0, 1) := by decide +kernel
theorem dL_program_181 : decode cL_program 181 = .ok (.iload 4, 2) := by decide +kernel
theorem dL_program_183 : decode cL_program 183 = .ok (.iconst 1, 1) := by decide +kernel
theorem dL_program_184 : decode cL_program 184 = .ok (.iadd, 1) := by decide +kernel
theorem dL_program_185 : decode cL_program 185 = .ok (.invokestatic 49, 3) := by decide +kernel
theorem dL_program_188 : decode cL_program 188 = .ok (.invokevirtual 53, 3) := by decide +kernel
theorem dL_program_191 : decode cL_program 191 = .ok (.ldc 56, 2) := by decide +kernel
theorem dL_program_193 : decode cL_program 193 = .ok (.invokevirtual 44, 3) := by decide +kernel
theorem dL_program_196 : decode cL_program 196 = .ok (.aload_n 0, 1) := by decide +kernel
theorem dL_program_197 : decode cL_program 197 = .ok (.iload 4, 2) := by decide +kernel
theorem dL_program_199 : decode cL_program 199 = .ok (.iconst 2, 1) := by decide +kernel
theorem dL_program_200 : decode cL_program 200 = .ok (.iadd, 1) := by decide +kernel
theorem dL_program_201 : decode cL_program 201 = .ok (.invokestatic 49, 3) := by decide +kernel
theorem dL_program_204 : decode cL_program 204 = .ok (.invokevirtual 53, 3) := by decide +kernel
theorem dL_program_207 : decode cL_program 207 = .ok (.pop, 1) := by decide +kernel
theorem dL_program_208 : decode cL_program 208 = .ok (.goto 159, 3) := by decide +kernel
theorem dL_program_211 : decode cL_program 211 = .ok (.aload_n 1, 1) := by decide +kernel
theorem dL_program_212 : decode cL_program 212 = .ok (.ldc 64, 2) := by decide +kernel
theorem dL_program_214 : decode cL_program 214 = .ok (.invokevirtual 44, 3) := by decide +kernel
theorem dL_program_217 : decode cL_program 217 = .ok (.aload_n 0, 1) := by decide +kernel
theorem dL_program_218 : decode cL_program 218 = .ok (.iload 4, 2) := by decide +kernel
theorem dL_program_220 : decode cL_program 220 = .ok (.iconst 1, 1) := by decide +kernel
theorem dL_program_221 : decode cL_program 221 = .ok (.iadd, 1) := by decide +kernel
theorem dL_program_222 : decode cL_program 222 = .ok (.invokestatic 49, 3) := by decide +kernel
theorem dL_program_225 : decode cL_program 225 = .ok (.invokevirtual 53, 3) := by decide +kernel
theorem dL_program_228 : decode cL_program 228 = .ok (.ldc 56, 2) := by decide +kernel
theorem dL_program_230 : decode cL_program 230 = .ok (.invokevirtual 44, 3) := by decide +kernel
theorem dL_program_233 : decode cL_program 233 = .ok (.aload_n 0, 1) := by decide +kernel
theorem dL_program_234 : decode cL_program 234 = .ok (.iload 4, 2) := by decide +kernel
theorem dL_program_236 : decode cL_program 236 = .ok (.iconst 2, 1) := by decide +kernel
theorem dL_program_237 : decode cL_program 237 = .ok (.iadd, 1) := by decide +kernel
theorem dL_program_238 : decode cL_program 238 = .ok (.invokestatic 49, 3) := by decide +kernel
theorem dL_program_241 : decode cL_program 241 = .ok (.invokevirtual 53, 3) := by decide +kernel
theorem dL_program_244 : decode cL_program 244 = .ok (.ldc 56, 2) := by decide +kernel
theorem dL_program_246 : decode cL_program 246 = .ok (.invokevirtual 44, 3) := by decide +kernel
theorem dL_program_249 : decode cL_program 249 = .ok (.aload_n 0, 1) := by decide +kernel
theorem dL_program_250 : decode cL_program 250 = .ok (.iload 4, 2) := by decide +kernel
theorem dL_program_252 : decode cL_program 252 = .ok (.iconst 3, 1) := by decide +kernel
theorem dL_program_253 : decode cL_program 253 = .ok (.iadd, 1) := by decide +kernel
theorem dL_program_254 : decode cL_program 254 = .ok (.invokestatic 66, 3) := by decide +kernel
theorem dL_program_257 : decode cL_program 257 = .ok (.invokevirtual 53, 3) := by decide +kernel
theorem dL_program_260 : decode cL_program 260 = .ok (.pop, 1) := by decide +kernel
theorem dL_program_261 : decode cL_program 261 = .ok (.goto 106, 3) := by decide +kernel
theorem dL_program_264 : decode cL_program 264 = .ok (.aload_n 1, 1) := by decide +kernel
theorem dL_program_265 : decode cL_program 265 = .ok (.ldc 69, 2) := by decide +kernel
theorem dL_program_267 : decode cL_program 267 = .ok (.invokevirtual 44, 3) := by decide +kernel
theorem dL_program_270 : decode cL_program 270 = .ok (.aload_n 0, 1) := by decide +kernel
theorem dL_program_271 : decode cL_program 271 = .ok (.iload 4, 2) := by decide +kernel
theorem dL_program_273 : decode cL_program 273 = .ok (.iconst 1, 1) := by decide +kernel
theorem dL_program_274 : decode cL_program 274 = .ok (.iadd, 1) := by decide +kernel
theorem dL_program_275 : decode cL_program 275 = .ok (.invokestatic 49, 3) := by decide +kernel
theorem dL_program_278 : decode cL_program 278 = .ok (.invokevirtual 53, 3) := by decide +kernel
theorem dL_program_281 : decode cL_program 281 = .ok (.ldc 56, 2) := by decide +kernel
theorem dL_program_283 : decode cL_program 283 = .ok (.invokevirtual 44, 3) := by decide +kernel
theorem dL_program_286 : decode cL_program 286 = .ok (.aload_n 0, 1) := by decide +kernel
theorem dL_program_287 : decode cL_program 287 = .ok (.iload 4, 2) := by decide +kernel
theorem dL_program_289 : decode cL_program 289 = .ok (.iconst 3, 1) := by decide +kernel
theorem dL_program_290 : decode cL_program 290 = .ok (.iadd, 1) := by decide +kernel
theorem dL_program_291 : decode cL_program 291 = .ok (.invokestatic 66, 3) := by decide +kernel
theorem dL_program_294 : decode cL_program 294 = .ok (.invokevirtual 53, 3) := by decide +kernel
theorem dL_program_297 : decode cL_program 297 = .ok (.ldc 56, 2) := by decide +kernel
theorem dL_program_299 : decode cL_program 299 = .ok (.invokevirtual 44, 3) := by decide +kernel
theorem dL_program_302 : decode cL_program 302 = .ok (.aload_n 0, 1) := by decide +kernel
theorem dL_program_303 : decode cL_program 303 = .ok (.iload 4, 2) := by decide +kernel
theorem dL_program_305 : decode cL_program 305 = .ok (.iconst 2, 1) := by decide +kernel
theorem dL_program_306 : decode cL_program 306 = .ok (.iadd, 1) := by decide +kernel
theorem dL_program_307 : decode cL_program 307 = .ok (.invokestatic 49, 3) := by decide +kernel
theorem dL_program_310 : decode cL_program 310 = .ok (.invokevirtual 53, 3) := by decide +kernel
theorem dL_program_313 : decode cL_program 313 = .ok (.pop, 1) := by decide +kernel
theorem dL_program_314 : decode cL_program 314 = .ok (.goto 53, 3) := by decide +kernel
theorem dL_program_317 : decode cL_program 317 = .ok (.aload_n 1, 1) := by decide +kernel
theorem dL_program_318 : decode cL_program 318 = .ok (.ldc 71, 2) := by decide +kernel
theorem dL_program_320 : decode cL_program 320 = .ok (.invokevirtual 44, 3) := by decide +kernel
theorem dL_program_323 : decode cL_program 323 = .ok (.aload_n 0, 1) := by decide +kernel
theorem dL_program_324 : decode cL_program 324 = .ok (.iload 4, 2) := by decide +kernel
theorem dL_program_326 : decode cL_program 326 = .ok (.iconst 1, 1) := by decide +kernel
theorem dL_program_327 : decode cL_program 327 = .ok (.iadd, 1) := by decide +kernel
theorem dL_program_328 : decode cL_program 328 = .ok (.invokestatic 49, 3) := by decide +kernel
theorem dL_program_331 : decode cL_program 331 = .ok (.invokevirtual 53, 3) := by decide +kernel
theorem dL_program_334 : decode cL_program 334 = .ok (.ldc 56, 2) := by decide +kernel
theorem dL_program_336 : decode cL_program 336 = .ok (.invokevirtual 44, 3) := by decide +kernel
theorem dL_program_339 : decode cL_program 339 = .ok (.aload_n 0, 1) := by decide +kernel
theorem dL_program_340 : decode cL_program 340 = .ok (.iload 4, 2) := by decide +kernel
theorem dL_program_342 : decode cL_program 342 = .ok (.iconst 2, 1) := by decide +kernel
theorem dL_program_343 : decode cL_program 343 = .ok (.iadd, 1) := by decide +kernel
theorem dL_program_344 : decode cL_program 344 = .ok (.invokestatic 49, 3) := by decide +kernel
theorem dL_program_347 : decode cL_program 347 = .ok (.invokevirtual 53, 3) := by decide +kernel
theorem dL_program_350 : decode cL_program 350 = .ok (.ldc 56, 2) := by decide +kernel
theorem dL_program_352 : decode cL_program 352 = .ok (.invokevirtual 44, 3) := by decide +kernel
theorem dL_program_355 : decode cL_program 355 = .ok (.aload_n 0, 1) := by decide +kernel
theorem dL_program_356 : decode cL_program 356 = .ok (.iload 4, 2) := by decide +kernel
theorem dL_program_358 : decode cL_program 358 = .ok (.iconst 3, 1) := by decide +kernel
theorem dL_program_359 : decode cL_program 359 = .ok (.iadd, 1) := by decide +kernel
theorem dL_program_360 : decode cL_program 360 = .ok (.invokestatic 49, 3) := by decide +kernel
theorem dL_program_363 : decode cL_program 363 = .ok (.invokevirtual 53, 3) := by decide +kernel
theorem dL_program_366 : decode cL_program 366 = .ok (.pop, 1) := by decide +kernel
theorem dL_program_367 : decode cL_program 367 = .ok (.aload_n 1, 1) := by decide +kernel
theorem dL_program_368 : decode cL_program 368 = .ok (.ldc 58, 2) := by decide +kernel
theorem dL_program_370 : decode cL_program 370 = .ok (.invokevirtual 44, 3) := by decide +kernel
theorem dL_program_373 : decode cL_program 373 = .ok (.pop, 1) := by decide +kernel
theorem dL_program_374 : decode cL_program 374 = .ok (.iinc 3 1, 3) := by decide +kernel
theorem dL_program_377 : decode cL_program 377 = .ok (.goto (-299), 3) := by decide +kernel
theorem dL_program_380 : decode cL_program 380 = .ok (.aload_n 1, 1) := by decide +kernel
theorem dL_program_381 : decode cL_program 381 = .ok (.invokevirtual 73, 3) := by decide +kernel
theorem dL_program_384 : decode cL_program 384 = .ok (.areturn, 1) := by decide +kernel
theorem ms_L_program : MSt yL_program cL_program 5 (some (.object "java/lang/String")) 1 := ⟨tw_3_169, tw_1_0, by decide, by decide, by decide +kernel⟩
def BPr (g : Gh) : Option Value → va_W → Prop := fun v nb => ∃ r y f t k, v = some (.ref r) ∧ nb = [(r, stE y), (y, ba g t.length f)] ∧ (∀ j, j < t.length → f j = nI (t.getD j 0)) ∧ ProgOK t k ∧ 3 ≤ k ∧ k ≤ 10
theorem nI_mul (a b : Nat) : nI a * nI b = nI (a * b) := by
  apply Int32.toBitVec_inj.mp
  show BitVec.ofNat 32 a * BitVec.ofNat 32 b = BitVec.ofNat 32 (a * b)
  rw [BitVec.ofNat_mul]
set_option maxHeartbeats 8000000 in
set_option maxRecDepth 100000 in
theorem k_program {l : Launch} {g : Gh} {Lx : Nat × (Nat → Int32)} (hLx : Lx.1 ≤ 260) : LMt l Lx g yL_program cL_program 5 (some (.object "java/lang/String")) 8 200 1000000 [] [.ref (g.2.2 1002)] (BPr g) := by
  refine lm_start (by decide) (Nat.le_of_ble_eq_true rfl) ?_
  intro p e s m args below meth c ls X hZ hnm hr hl hL
  have hx := X.1
  have hb := X.2.1
  have hown := X.2.2.2.1
  have ht := X.2.2.2.2.1
  have hl : lv_has ls 5 [(0, .ref (g.2.2 1002))] := hl
  refine x_new (ci := 11) (N := 4) X hL rfl cs_11 tyJ4_ok tw_3_170 tw_3_171 tw_1_18 (df := [.null, .int 0, .int 0, .int 0]) (by decide) rfl (Nat.le_of_ble_eq_true rfl) (Nat.le_of_ble_eq_true rfl) dL_program_0 (fun q H hL => ?_)
  have hL : LW g (va_A [] s.heap.size) [(q, sbD)] s.heap H [] := hL
  refine lv_dup hx hb dL_program_3 rfl ?_
  refine x_callLI (As := []) (rest := [.ref q]) X hZ [] [(q, sbD)] hL (k_initSB) tw_3_172 ms_J4_init_da8c8 tw_3_173 rfl ⟨Nat.le_of_ble_eq_true rfl, Nat.le_of_ble_eq_true rfl⟩ rfl rfl hl.1 (Nat.le_of_ble_eq_true rfl) dL_program_4 ⟨Nat.le_of_ble_eq_true rfl, Nat.le_of_ble_eq_true rfl⟩ (fun v nb H locs hB hL => ?_)
  obtain ⟨rfl, v0, rfl⟩ := hB
  refine lv_astore_n (lv' := [(1, .ref q), (0, .ref (g.2.2 1002))]) hx hb dL_program_7 rfl hl (by decide) rfl (fun ls hl => ?_)
  have hl : lv_has ls 5 [(0, .ref (g.2.2 1002)), (1, .ref q)] := lv_sub hl [1, 0] rfl
  have hS : SBt g q [] ([] ++ [(q, sbE v0 0), (v0, ba g 16 (fun _ => 0))]) := ⟨v0, 16, _, rfl, by decide, by decide, fun _ _ => rfl, fun j hj => absurd hj (Nat.not_lt_zero _)⟩
  have LP : ∀ (n i many : Nat), 3 ≤ many → many ≤ 10 → i + n = many → ∀ (t : List Nat) (ws : va_W) (H : Heap) (locs : List Loc) (ls : Array Slot), ProgOK t i → SBt g q t ws → LW g (va_A [] s.heap.size) ws s.heap H locs → lv_has ls 5 [(0, .ref (g.2.2 1002)), (1, .ref q), (2, .int (nI many)), (3, .int (nI i))] → W p l e { frames := 8, cells := 200, slots := 1000000, locals := 40 * 8 } s m args below meth c H locs (20 + 8 * i) (100000 + 40000 * i) (MQ below (LQc g [] s.heap.size (BPr g)) args s 200 1000000 (va_A [] s.heap.size)) (F0 m 78 ls []) := by
    intro n
    induction n with
    | zero =>
      intro i many h3 h10 hin t ws H locs ls hT hS hL hl
      have hlen := hT.len
      refine lv_iload_n hx hb dL_program_78 rfl (lv_at hl 3 rfl) ?_
      refine lv_iload_n hx hb dL_program_79 rfl (lv_at hl 2 rfl) ?_
      refine lv_icmp_ge (tgt := 380) hx hb dL_program_80 (by decide) (fun _ => ?_) (fun z => absurd (show nI many ≤ nI i from nI_le (by omega) (by omega)) z)
      refine lv_aload_n hx hb dL_program_380 rfl (lv_at hl 1 rfl) ?_
      obtain ⟨v1, m1, f1, rfl, z1, z2, z3, z4⟩ := hS
      refine x_callLV (As := []) (rest := []) X hZ [] [(q, sbE v1 (nI t.length)), (v1, ba g m1 f1)] hL (k_toS (n := t.length) (by omega) (by omega) z1 z3) tw_4_93 ms_J4_toString_0e30d tw_4_94 tw_4_95 (x_recvL (W1 := []) (ws := [(q, sbE v1 (nI t.length)), (v1, ba g m1 f1)]) X hL (j := 0) (ci := 11) rfl rfl) ⟨Nat.le_of_ble_eq_true rfl, Nat.le_of_ble_eq_true rfl⟩ rfl rfl hl.1 (Nat.le_of_ble_eq_true rfl) dL_program_381 ⟨(by show _ ≤ 200; omega), (by show _ ≤ 1000000; omega)⟩ (fun v nb H locs hB hL => ?_)
      obtain ⟨r, y2, f2, rfl, rfl, e1⟩ := hB
      exact x_aret X hL hr (Or.inl ⟨_, rfl⟩) ⟨r, y2, f2, t, i, rfl, rfl, fun j hj => (e1 j hj).trans (z4 j hj), hT, by omega, by omega⟩ (by omega) (by omega) dL_program_384
    | succ n ih =>
      intro i many h3 h10 hin t ws H locs ls hT hS hL hl
      have hlen := hT.len
      refine lv_iload_n hx hb dL_program_78 rfl (lv_at hl 3 rfl) ?_
      refine lv_iload_n hx hb dL_program_79 rfl (lv_at hl 2 rfl) ?_
      refine lv_icmp_ge (tgt := 380) hx hb dL_program_80 (by decide) (fun z => absurd z (show ¬ nI many ≤ nI i from nI_ge (by omega) (by omega))) (fun _ => ?_)
      refine lv_iconst (v := (5 : Int32)) hx hb dL_program_83 (by decide) ?_
      refine lv_iconst (v := (5 : Int32)) hx hb dL_program_84 (by decide) ?_
      refine lv_iload_n hx hb dL_program_85 rfl (lv_at hl 3 rfl) ?_
      refine lv_imul hx hb dL_program_86 ?_
      rw [show (5 : Int32) * nI i = nI (5 * i) from nI_mul 5 i]
      refine lv_iadd hx hb dL_program_87 ?_
      rw [show (5 : Int32) + nI (5 * i) = nI (5 + (5 * i)) from nI_add 5 (5 * i)]
      refine lv_istore (lv' := [(4, .int (nI (5 + (5 * i)))), (0, .ref (g.2.2 1002)), (1, .ref q), (2, .int (nI many)), (3, .int (nI i))]) hx hb dL_program_88 hl (by decide) rfl (fun ls hl => ?_)
      have hl : lv_has ls 5 [(0, .ref (g.2.2 1002)), (1, .ref q), (2, .int (nI many)), (3, .int (nI i)), (4, .int (nI (5 + (5 * i))))] := lv_sub hl [1, 2, 3, 4, 0] rfl
      have J367 : ∀ (u : List Nat) (ws : va_W) (H : Heap) (locs : List Loc), u.length ≤ 12 → StmtOK (u ++ lsN 3) → SBt g q (t ++ u) ws → LW g (va_A [] s.heap.size) ws s.heap H locs → W p l e { frames := 8, cells := 200, slots := 1000000, locals := 40 * 8 } s m args below meth c H locs (20 + 8 * i + 7) (100000 + 40000 * i + 35000) (MQ below (LQc g [] s.heap.size (BPr g)) args s 200 1000000 (va_A [] s.heap.size)) (F0 m 367 ls []) := by
        intro u ws H locs hu hU hS hL
        have hlen : (t ++ u).length ≤ 200 := by rw [List.length_append]; omega
        refine lv_aload_n hx hb dL_program_367 rfl (lv_at hl 1 rfl) ?_
        refine va_ldcS hx hb hown (hZ.1.2.2.2.1 3 (by decide)) dL_program_368 ?_
        refine y_apS (i := 3) (rest := []) X hZ hS hL (by decide) hlen (by omega) ⟨Nat.le_of_ble_eq_true rfl, Nat.le_of_ble_eq_true rfl⟩ hl.1 (Nat.le_of_ble_eq_true rfl) ⟨(by show _ ≤ 200; omega), (by show _ ≤ 1000000; omega)⟩ dL_program_370 (fun ws H locs hlen hS hL => ?_)
        refine lv_pop hx hb dL_program_373 rfl ?_
        rw [List.append_assoc] at hS
        refine lv_iinc (v := ((nI i) + (1 : Int32))) (lv' := [(3, .int ((nI i) + (1 : Int32))), (0, .ref (g.2.2 1002)), (1, .ref q), (2, .int (nI many)), (4, .int (nI (5 + (5 * i))))]) hx hb dL_program_374 hl (k := 3) rfl rfl (by decide) rfl (fun ls hl => ?_)
        rw [show nI i + (1 : Int32) = nI (i + 1) from nI_add i 1] at hl
        refine lv_goto (tgt := 78) hx hb dL_program_377 (by decide) ?_
        refine W.widen (k := 20 + 8 * (i + 1)) (n := 100000 + 40000 * (i + 1)) (by omega) (by omega) ?_
        exact ih (i + 1) many h3 h10 (by omega) _ _ _ _ _ (hT.next hU) hS hL (lv_sub hl [1, 2, 3, 0] rfl)
      refine lv_aload_n hx hb dL_program_90 rfl (lv_at hl 0 rfl) ?_
      refine lv_iload hx hb dL_program_91 (lv_at hl 4 rfl) ?_
      refine lv_bipush (v := (7 : Int32)) hx hb dL_program_93 (by decide) ?_
      refine x_callLS (As := [.ref (g.2.2 1002), .int (nI (5 + (5 * i))), .int (7 : Int32)]) (rest := []) X hZ ws [] (by rw [List.append_nil]; exact hL) (k_pick (k := (5 + (5 * i))) (n := 7) (by omega) hLx (by decide) (by decide)) tw_3_200 ms_L_pick tw_3_201 ⟨Nat.le_of_ble_eq_true rfl, Nat.le_of_ble_eq_true rfl⟩ rfl rfl hl.1 (Nat.le_of_ble_eq_true rfl) dL_program_95 ⟨(by show _ ≤ 200; omega), (by show _ ≤ 1000000; omega)⟩ (fun v nb H locs hB hL => ?_)
      obtain ⟨r1, hr1, rfl, rfl⟩ := hB
      rw [List.append_nil] at hL
      have hsw := hr1
      have J132 : W p l e { frames := 8, cells := 200, slots := 1000000, locals := 40 * 8 } s m args below meth c H locs (20 + 8 * i) (100000 + 40000 * i) (MQ below (LQc g [] s.heap.size (BPr g)) args s 200 1000000 (va_A [] s.heap.size)) (F0 m 132 ls []) := by
        refine lv_aload_n hx hb dL_program_132 rfl (lv_at hl 1 rfl) ?_
        refine va_ldcS hx hb hown (hZ.1.2.2.2.1 4 (by decide)) dL_program_133 ?_
        refine y_apS (i := 4) (rest := []) X hZ hS hL (by decide) hlen (by omega) ⟨Nat.le_of_ble_eq_true rfl, Nat.le_of_ble_eq_true rfl⟩ hl.1 (Nat.le_of_ble_eq_true rfl) ⟨(by show _ ≤ 200; omega), (by show _ ≤ 1000000; omega)⟩ dL_program_135 (fun ws H locs hlen hS hL => ?_)
        refine lv_aload_n hx hb dL_program_138 rfl (lv_at hl 0 rfl) ?_
        refine lv_iload hx hb dL_program_139 (lv_at hl 4 rfl) ?_
        refine lv_iconst (v := (1 : Int32)) hx hb dL_program_141 (by decide) ?_
        refine lv_iadd hx hb dL_program_142 ?_
        rw [show nI (5 + (5 * i)) + (1 : Int32) = nI ((5 + (5 * i)) + 1) from nI_add (5 + (5 * i)) 1]
        refine x_callLS (As := [.ref (g.2.2 1002), .int (nI ((5 + (5 * i)) + 1))]) (rest := [.ref q]) X hZ ws [] (by rw [List.append_nil]; exact hL) (k_variable (k := ((5 + (5 * i)) + 1)) (by omega) hLx) tw_4_67 ms_L_variable tw_4_68 ⟨Nat.le_of_ble_eq_true rfl, Nat.le_of_ble_eq_true rfl⟩ rfl rfl hl.1 (Nat.le_of_ble_eq_true rfl) dL_program_143 ⟨(by show _ ≤ 200; omega), (by show _ ≤ 1000000; omega)⟩ (fun v nb H locs hB hL => ?_)
        obtain ⟨r11, hr11, rfl, rfl⟩ := hB
        rw [List.append_nil] at hL
        refine y_apC (k := (97 + r11)) (rest := []) X hZ hS hL (by omega) hlen (by omega) ⟨Nat.le_of_ble_eq_true rfl, Nat.le_of_ble_eq_true rfl⟩ hl.1 (Nat.le_of_ble_eq_true rfl) ⟨(by show _ ≤ 200; omega), (by show _ ≤ 1000000; omega)⟩ dL_program_146 (fun ws H locs hlen hS hL => ?_)
        refine va_ldcS hx hb hown (hZ.1.2.2.2.1 2 (by decide)) dL_program_149 ?_
        refine y_apS (i := 2) (rest := []) X hZ hS hL (by decide) hlen (by omega) ⟨Nat.le_of_ble_eq_true rfl, Nat.le_of_ble_eq_true rfl⟩ hl.1 (Nat.le_of_ble_eq_true rfl) ⟨(by show _ ≤ 200; omega), (by show _ ≤ 1000000; omega)⟩ dL_program_151 (fun ws H locs hlen hS hL => ?_)
        refine lv_bipush (v := (112 : Int32)) hx hb dL_program_154 (by decide) ?_
        refine lv_aload_n hx hb dL_program_156 rfl (lv_at hl 0 rfl) ?_
        refine lv_iload hx hb dL_program_157 (lv_at hl 4 rfl) ?_
        refine lv_iconst (v := (2 : Int32)) hx hb dL_program_159 (by decide) ?_
        refine lv_iadd hx hb dL_program_160 ?_
        rw [show nI (5 + (5 * i)) + (2 : Int32) = nI ((5 + (5 * i)) + 2) from nI_add (5 + (5 * i)) 2]
        refine lv_iconst (v := (4 : Int32)) hx hb dL_program_161 (by decide) ?_
        refine x_callLS (As := [.ref (g.2.2 1002), .int (nI ((5 + (5 * i)) + 2)), .int (4 : Int32)]) (rest := [.int (112 : Int32), .ref q]) X hZ ws [] (by rw [List.append_nil]; exact hL) (k_pick (k := ((5 + (5 * i)) + 2)) (n := 4) (by omega) hLx (by decide) (by decide)) tw_3_200 ms_L_pick tw_3_201 ⟨Nat.le_of_ble_eq_true rfl, Nat.le_of_ble_eq_true rfl⟩ rfl rfl hl.1 (Nat.le_of_ble_eq_true rfl) dL_program_162 ⟨(by show _ ≤ 200; omega), (by show _ ≤ 1000000; omega)⟩ (fun v nb H locs hB hL => ?_)
        obtain ⟨r12, hr12, rfl, rfl⟩ := hB
        rw [List.append_nil] at hL
        refine lv_iadd hx hb dL_program_165 ?_
        rw [show (112 : Int32) + nI r12 = nI (112 + r12) from nI_add 112 r12]
        refine lv_i2c (v := nI (112 + r12)) hx hb dL_program_166 (i2c_fit _ (by omega)) ?_
        refine y_apC (k := (112 + r12)) (rest := []) X hZ hS hL (by omega) hlen (by omega) ⟨Nat.le_of_ble_eq_true rfl, Nat.le_of_ble_eq_true rfl⟩ hl.1 (Nat.le_of_ble_eq_true rfl) ⟨(by show _ ≤ 200; omega), (by show _ ≤ 1000000; omega)⟩ dL_program_167 (fun ws H locs hlen hS hL => ?_)
        refine lv_pop hx hb dL_program_170 rfl ?_
        refine lv_goto (tgt := 367) hx hb dL_program_171 (by decide) ?_
        simp only [List.append_assoc] at hS
        refine W.widen (k := 20 + 8 * i + 7) (n := 100000 + 40000 * i + 35000) (by omega) (by omega) ?_
        refine J367 _ ws H locs ?_ ?_ hS hL
        · simp [lsN]
        · simp only [List.append_assoc]; exact Or.inl ⟨r11, r12, hr11, hr12, rfl⟩
      have J174 : W p l e { frames := 8, cells := 200, slots := 1000000, locals := 40 * 8 } s m args below meth c H locs (20 + 8 * i) (100000 + 40000 * i) (MQ below (LQc g [] s.heap.size (BPr g)) args s 200 1000000 (va_A [] s.heap.size)) (F0 m 174 ls []) := by
        refine lv_aload_n hx hb dL_program_174 rfl (lv_at hl 1 rfl) ?_
        refine va_ldcS hx hb hown (hZ.1.2.2.2.1 5 (by decide)) dL_program_175 ?_
        refine y_apS (i := 5) (rest := []) X hZ hS hL (by decide) hlen (by omega) ⟨Nat.le_of_ble_eq_true rfl, Nat.le_of_ble_eq_true rfl⟩ hl.1 (Nat.le_of_ble_eq_true rfl) ⟨(by show _ ≤ 200; omega), (by show _ ≤ 1000000; omega)⟩ dL_program_177 (fun ws H locs hlen hS hL => ?_)
        refine lv_aload_n hx hb dL_program_180 rfl (lv_at hl 0 rfl) ?_
        refine lv_iload hx hb dL_program_181 (lv_at hl 4 rfl) ?_
        refine lv_iconst (v := (1 : Int32)) hx hb dL_program_183 (by decide) ?_
        refine lv_iadd hx hb dL_program_184 ?_
        rw [show nI (5 + (5 * i)) + (1 : Int32) = nI ((5 + (5 * i)) + 1) from nI_add (5 + (5 * i)) 1]
        refine x_callLS (As := [.ref (g.2.2 1002), .int (nI ((5 + (5 * i)) + 1))]) (rest := [.ref q]) X hZ ws [] (by rw [List.append_nil]; exact hL) (k_variable (k := ((5 + (5 * i)) + 1)) (by omega) hLx) tw_4_67 ms_L_variable tw_4_68 ⟨Nat.le_of_ble_eq_true rfl, Nat.le_of_ble_eq_true rfl⟩ rfl rfl hl.1 (Nat.le_of_ble_eq_true rfl) dL_program_185 ⟨(by show _ ≤ 200; omega), (by show _ ≤ 1000000; omega)⟩ (fun v nb H locs hB hL => ?_)
        obtain ⟨r11, hr11, rfl, rfl⟩ := hB
        rw [List.append_nil] at hL
        refine y_apC (k := (97 + r11)) (rest := []) X hZ hS hL (by omega) hlen (by omega) ⟨Nat.le_of_ble_eq_true rfl, Nat.le_of_ble_eq_true rfl⟩ hl.1 (Nat.le_of_ble_eq_true rfl) ⟨(by show _ ≤ 200; omega), (by show _ ≤ 1000000; omega)⟩ dL_program_188 (fun ws H locs hlen hS hL => ?_)
        refine va_ldcS hx hb hown (hZ.1.2.2.2.1 2 (by decide)) dL_program_191 ?_
        refine y_apS (i := 2) (rest := []) X hZ hS hL (by decide) hlen (by omega) ⟨Nat.le_of_ble_eq_true rfl, Nat.le_of_ble_eq_true rfl⟩ hl.1 (Nat.le_of_ble_eq_true rfl) ⟨(by show _ ≤ 200; omega), (by show _ ≤ 1000000; omega)⟩ dL_program_193 (fun ws H locs hlen hS hL => ?_)
        refine lv_aload_n hx hb dL_program_196 rfl (lv_at hl 0 rfl) ?_
        refine lv_iload hx hb dL_program_197 (lv_at hl 4 rfl) ?_
        refine lv_iconst (v := (2 : Int32)) hx hb dL_program_199 (by decide) ?_
        refine lv_iadd hx hb dL_program_200 ?_
        rw [show nI (5 + (5 * i)) + (2 : Int32) = nI ((5 + (5 * i)) + 2) from nI_add (5 + (5 * i)) 2]
        refine x_callLS (As := [.ref (g.2.2 1002), .int (nI ((5 + (5 * i)) + 2))]) (rest := [.ref q]) X hZ ws [] (by rw [List.append_nil]; exact hL) (k_variable (k := ((5 + (5 * i)) + 2)) (by omega) hLx) tw_4_67 ms_L_variable tw_4_68 ⟨Nat.le_of_ble_eq_true rfl, Nat.le_of_ble_eq_true rfl⟩ rfl rfl hl.1 (Nat.le_of_ble_eq_true rfl) dL_program_201 ⟨(by show _ ≤ 200; omega), (by show _ ≤ 1000000; omega)⟩ (fun v nb H locs hB hL => ?_)
        obtain ⟨r12, hr12, rfl, rfl⟩ := hB
        rw [List.append_nil] at hL
        refine y_apC (k := (97 + r12)) (rest := []) X hZ hS hL (by omega) hlen (by omega) ⟨Nat.le_of_ble_eq_true rfl, Nat.le_of_ble_eq_true rfl⟩ hl.1 (Nat.le_of_ble_eq_true rfl) ⟨(by show _ ≤ 200; omega), (by show _ ≤ 1000000; omega)⟩ dL_program_204 (fun ws H locs hlen hS hL => ?_)
        refine lv_pop hx hb dL_program_207 rfl ?_
        refine lv_goto (tgt := 367) hx hb dL_program_208 (by decide) ?_
        simp only [List.append_assoc] at hS
        refine W.widen (k := 20 + 8 * i + 7) (n := 100000 + 40000 * i + 35000) (by omega) (by omega) ?_
        refine J367 _ ws H locs ?_ ?_ hS hL
        · simp [lsN]
        · simp only [List.append_assoc]; exact Or.inr (Or.inl ⟨r11, r12, hr11, hr12, rfl⟩)
      have J211 : W p l e { frames := 8, cells := 200, slots := 1000000, locals := 40 * 8 } s m args below meth c H locs (20 + 8 * i) (100000 + 40000 * i) (MQ below (LQc g [] s.heap.size (BPr g)) args s 200 1000000 (va_A [] s.heap.size)) (F0 m 211 ls []) := by
        refine lv_aload_n hx hb dL_program_211 rfl (lv_at hl 1 rfl) ?_
        refine va_ldcS hx hb hown (hZ.1.2.2.2.1 6 (by decide)) dL_program_212 ?_
        refine y_apS (i := 6) (rest := []) X hZ hS hL (by decide) hlen (by omega) ⟨Nat.le_of_ble_eq_true rfl, Nat.le_of_ble_eq_true rfl⟩ hl.1 (Nat.le_of_ble_eq_true rfl) ⟨(by show _ ≤ 200; omega), (by show _ ≤ 1000000; omega)⟩ dL_program_214 (fun ws H locs hlen hS hL => ?_)
        refine lv_aload_n hx hb dL_program_217 rfl (lv_at hl 0 rfl) ?_
        refine lv_iload hx hb dL_program_218 (lv_at hl 4 rfl) ?_
        refine lv_iconst (v := (1 : Int32)) hx hb dL_program_220 (by decide) ?_
        refine lv_iadd hx hb dL_program_221 ?_
        rw [show nI (5 + (5 * i)) + (1 : Int32) = nI ((5 + (5 * i)) + 1) from nI_add (5 + (5 * i)) 1]
        refine x_callLS (As := [.ref (g.2.2 1002), .int (nI ((5 + (5 * i)) + 1))]) (rest := [.ref q]) X hZ ws [] (by rw [List.append_nil]; exact hL) (k_variable (k := ((5 + (5 * i)) + 1)) (by omega) hLx) tw_4_67 ms_L_variable tw_4_68 ⟨Nat.le_of_ble_eq_true rfl, Nat.le_of_ble_eq_true rfl⟩ rfl rfl hl.1 (Nat.le_of_ble_eq_true rfl) dL_program_222 ⟨(by show _ ≤ 200; omega), (by show _ ≤ 1000000; omega)⟩ (fun v nb H locs hB hL => ?_)
        obtain ⟨r11, hr11, rfl, rfl⟩ := hB
        rw [List.append_nil] at hL
        refine y_apC (k := (97 + r11)) (rest := []) X hZ hS hL (by omega) hlen (by omega) ⟨Nat.le_of_ble_eq_true rfl, Nat.le_of_ble_eq_true rfl⟩ hl.1 (Nat.le_of_ble_eq_true rfl) ⟨(by show _ ≤ 200; omega), (by show _ ≤ 1000000; omega)⟩ dL_program_225 (fun ws H locs hlen hS hL => ?_)
        refine va_ldcS hx hb hown (hZ.1.2.2.2.1 2 (by decide)) dL_program_228 ?_
        refine y_apS (i := 2) (rest := []) X hZ hS hL (by decide) hlen (by omega) ⟨Nat.le_of_ble_eq_true rfl, Nat.le_of_ble_eq_true rfl⟩ hl.1 (Nat.le_of_ble_eq_true rfl) ⟨(by show _ ≤ 200; omega), (by show _ ≤ 1000000; omega)⟩ dL_program_230 (fun ws H locs hlen hS hL => ?_)
        refine lv_aload_n hx hb dL_program_233 rfl (lv_at hl 0 rfl) ?_
        refine lv_iload hx hb dL_program_234 (lv_at hl 4 rfl) ?_
        refine lv_iconst (v := (2 : Int32)) hx hb dL_program_236 (by decide) ?_
        refine lv_iadd hx hb dL_program_237 ?_
        rw [show nI (5 + (5 * i)) + (2 : Int32) = nI ((5 + (5 * i)) + 2) from nI_add (5 + (5 * i)) 2]
        refine x_callLS (As := [.ref (g.2.2 1002), .int (nI ((5 + (5 * i)) + 2))]) (rest := [.ref q]) X hZ ws [] (by rw [List.append_nil]; exact hL) (k_variable (k := ((5 + (5 * i)) + 2)) (by omega) hLx) tw_4_67 ms_L_variable tw_4_68 ⟨Nat.le_of_ble_eq_true rfl, Nat.le_of_ble_eq_true rfl⟩ rfl rfl hl.1 (Nat.le_of_ble_eq_true rfl) dL_program_238 ⟨(by show _ ≤ 200; omega), (by show _ ≤ 1000000; omega)⟩ (fun v nb H locs hB hL => ?_)
        obtain ⟨r12, hr12, rfl, rfl⟩ := hB
        rw [List.append_nil] at hL
        refine y_apC (k := (97 + r12)) (rest := []) X hZ hS hL (by omega) hlen (by omega) ⟨Nat.le_of_ble_eq_true rfl, Nat.le_of_ble_eq_true rfl⟩ hl.1 (Nat.le_of_ble_eq_true rfl) ⟨(by show _ ≤ 200; omega), (by show _ ≤ 1000000; omega)⟩ dL_program_241 (fun ws H locs hlen hS hL => ?_)
        refine va_ldcS hx hb hown (hZ.1.2.2.2.1 2 (by decide)) dL_program_244 ?_
        refine y_apS (i := 2) (rest := []) X hZ hS hL (by decide) hlen (by omega) ⟨Nat.le_of_ble_eq_true rfl, Nat.le_of_ble_eq_true rfl⟩ hl.1 (Nat.le_of_ble_eq_true rfl) ⟨(by show _ ≤ 200; omega), (by show _ ≤ 1000000; omega)⟩ dL_program_246 (fun ws H locs hlen hS hL => ?_)
        refine lv_aload_n hx hb dL_program_249 rfl (lv_at hl 0 rfl) ?_
        refine lv_iload hx hb dL_program_250 (lv_at hl 4 rfl) ?_
        refine lv_iconst (v := (3 : Int32)) hx hb dL_program_252 (by decide) ?_
        refine lv_iadd hx hb dL_program_253 ?_
        rw [show nI (5 + (5 * i)) + (3 : Int32) = nI ((5 + (5 * i)) + 3) from nI_add (5 + (5 * i)) 3]
        refine x_callLS (As := [.ref (g.2.2 1002), .int (nI ((5 + (5 * i)) + 3))]) (rest := [.ref q]) X hZ ws [] (by rw [List.append_nil]; exact hL) (k_field (k := ((5 + (5 * i)) + 3)) (by omega) hLx) tw_4_88 ms_L_field tw_4_89 ⟨Nat.le_of_ble_eq_true rfl, Nat.le_of_ble_eq_true rfl⟩ rfl rfl hl.1 (Nat.le_of_ble_eq_true rfl) dL_program_254 ⟨(by show _ ≤ 200; omega), (by show _ ≤ 1000000; omega)⟩ (fun v nb H locs hB hL => ?_)
        obtain ⟨r13, hr13, rfl, rfl⟩ := hB
        rw [List.append_nil] at hL
        refine y_apC (k := (120 + r13)) (rest := []) X hZ hS hL (by omega) hlen (by omega) ⟨Nat.le_of_ble_eq_true rfl, Nat.le_of_ble_eq_true rfl⟩ hl.1 (Nat.le_of_ble_eq_true rfl) ⟨(by show _ ≤ 200; omega), (by show _ ≤ 1000000; omega)⟩ dL_program_257 (fun ws H locs hlen hS hL => ?_)
        refine lv_pop hx hb dL_program_260 rfl ?_
        refine lv_goto (tgt := 367) hx hb dL_program_261 (by decide) ?_
        simp only [List.append_assoc] at hS
        refine W.widen (k := 20 + 8 * i + 7) (n := 100000 + 40000 * i + 35000) (by omega) (by omega) ?_
        refine J367 _ ws H locs ?_ ?_ hS hL
        · simp [lsN]
        · simp only [List.append_assoc]; exact Or.inr (Or.inr (Or.inl ⟨r11, r12, r13, hr11, hr12, hr13, rfl⟩))
      have J264 : W p l e { frames := 8, cells := 200, slots := 1000000, locals := 40 * 8 } s m args below meth c H locs (20 + 8 * i) (100000 + 40000 * i) (MQ below (LQc g [] s.heap.size (BPr g)) args s 200 1000000 (va_A [] s.heap.size)) (F0 m 264 ls []) := by
        refine lv_aload_n hx hb dL_program_264 rfl (lv_at hl 1 rfl) ?_
        refine va_ldcS hx hb hown (hZ.1.2.2.2.1 7 (by decide)) dL_program_265 ?_
        refine y_apS (i := 7) (rest := []) X hZ hS hL (by decide) hlen (by omega) ⟨Nat.le_of_ble_eq_true rfl, Nat.le_of_ble_eq_true rfl⟩ hl.1 (Nat.le_of_ble_eq_true rfl) ⟨(by show _ ≤ 200; omega), (by show _ ≤ 1000000; omega)⟩ dL_program_267 (fun ws H locs hlen hS hL => ?_)
        refine lv_aload_n hx hb dL_program_270 rfl (lv_at hl 0 rfl) ?_
        refine lv_iload hx hb dL_program_271 (lv_at hl 4 rfl) ?_
        refine lv_iconst (v := (1 : Int32)) hx hb dL_program_273 (by decide) ?_
        refine lv_iadd hx hb dL_program_274 ?_
        rw [show nI (5 + (5 * i)) + (1 : Int32) = nI ((5 + (5 * i)) + 1) from nI_add (5 + (5 * i)) 1]
        refine x_callLS (As := [.ref (g.2.2 1002), .int (nI ((5 + (5 * i)) + 1))]) (rest := [.ref q]) X hZ ws [] (by rw [List.append_nil]; exact hL) (k_variable (k := ((5 + (5 * i)) + 1)) (by omega) hLx) tw_4_67 ms_L_variable tw_4_68 ⟨Nat.le_of_ble_eq_true rfl, Nat.le_of_ble_eq_true rfl⟩ rfl rfl hl.1 (Nat.le_of_ble_eq_true rfl) dL_program_275 ⟨(by show _ ≤ 200; omega), (by show _ ≤ 1000000; omega)⟩ (fun v nb H locs hB hL => ?_)
        obtain ⟨r11, hr11, rfl, rfl⟩ := hB
        rw [List.append_nil] at hL
        refine y_apC (k := (97 + r11)) (rest := []) X hZ hS hL (by omega) hlen (by omega) ⟨Nat.le_of_ble_eq_true rfl, Nat.le_of_ble_eq_true rfl⟩ hl.1 (Nat.le_of_ble_eq_true rfl) ⟨(by show _ ≤ 200; omega), (by show _ ≤ 1000000; omega)⟩ dL_program_278 (fun ws H locs hlen hS hL => ?_)
        refine va_ldcS hx hb hown (hZ.1.2.2.2.1 2 (by decide)) dL_program_281 ?_
        refine y_apS (i := 2) (rest := []) X hZ hS hL (by decide) hlen (by omega) ⟨Nat.le_of_ble_eq_true rfl, Nat.le_of_ble_eq_true rfl⟩ hl.1 (Nat.le_of_ble_eq_true rfl) ⟨(by show _ ≤ 200; omega), (by show _ ≤ 1000000; omega)⟩ dL_program_283 (fun ws H locs hlen hS hL => ?_)
        refine lv_aload_n hx hb dL_program_286 rfl (lv_at hl 0 rfl) ?_
        refine lv_iload hx hb dL_program_287 (lv_at hl 4 rfl) ?_
        refine lv_iconst (v := (3 : Int32)) hx hb dL_program_289 (by decide) ?_
        refine lv_iadd hx hb dL_program_290 ?_
        rw [show nI (5 + (5 * i)) + (3 : Int32) = nI ((5 + (5 * i)) + 3) from nI_add (5 + (5 * i)) 3]
        refine x_callLS (As := [.ref (g.2.2 1002), .int (nI ((5 + (5 * i)) + 3))]) (rest := [.ref q]) X hZ ws [] (by rw [List.append_nil]; exact hL) (k_field (k := ((5 + (5 * i)) + 3)) (by omega) hLx) tw_4_88 ms_L_field tw_4_89 ⟨Nat.le_of_ble_eq_true rfl, Nat.le_of_ble_eq_true rfl⟩ rfl rfl hl.1 (Nat.le_of_ble_eq_true rfl) dL_program_291 ⟨(by show _ ≤ 200; omega), (by show _ ≤ 1000000; omega)⟩ (fun v nb H locs hB hL => ?_)
        obtain ⟨r12, hr12, rfl, rfl⟩ := hB
        rw [List.append_nil] at hL
        refine y_apC (k := (120 + r12)) (rest := []) X hZ hS hL (by omega) hlen (by omega) ⟨Nat.le_of_ble_eq_true rfl, Nat.le_of_ble_eq_true rfl⟩ hl.1 (Nat.le_of_ble_eq_true rfl) ⟨(by show _ ≤ 200; omega), (by show _ ≤ 1000000; omega)⟩ dL_program_294 (fun ws H locs hlen hS hL => ?_)
        refine va_ldcS hx hb hown (hZ.1.2.2.2.1 2 (by decide)) dL_program_297 ?_
        refine y_apS (i := 2) (rest := []) X hZ hS hL (by decide) hlen (by omega) ⟨Nat.le_of_ble_eq_true rfl, Nat.le_of_ble_eq_true rfl⟩ hl.1 (Nat.le_of_ble_eq_true rfl) ⟨(by show _ ≤ 200; omega), (by show _ ≤ 1000000; omega)⟩ dL_program_299 (fun ws H locs hlen hS hL => ?_)
        refine lv_aload_n hx hb dL_program_302 rfl (lv_at hl 0 rfl) ?_
        refine lv_iload hx hb dL_program_303 (lv_at hl 4 rfl) ?_
        refine lv_iconst (v := (2 : Int32)) hx hb dL_program_305 (by decide) ?_
        refine lv_iadd hx hb dL_program_306 ?_
        rw [show nI (5 + (5 * i)) + (2 : Int32) = nI ((5 + (5 * i)) + 2) from nI_add (5 + (5 * i)) 2]
        refine x_callLS (As := [.ref (g.2.2 1002), .int (nI ((5 + (5 * i)) + 2))]) (rest := [.ref q]) X hZ ws [] (by rw [List.append_nil]; exact hL) (k_variable (k := ((5 + (5 * i)) + 2)) (by omega) hLx) tw_4_67 ms_L_variable tw_4_68 ⟨Nat.le_of_ble_eq_true rfl, Nat.le_of_ble_eq_true rfl⟩ rfl rfl hl.1 (Nat.le_of_ble_eq_true rfl) dL_program_307 ⟨(by show _ ≤ 200; omega), (by show _ ≤ 1000000; omega)⟩ (fun v nb H locs hB hL => ?_)
        obtain ⟨r13, hr13, rfl, rfl⟩ := hB
        rw [List.append_nil] at hL
        refine y_apC (k := (97 + r13)) (rest := []) X hZ hS hL (by omega) hlen (by omega) ⟨Nat.le_of_ble_eq_true rfl, Nat.le_of_ble_eq_true rfl⟩ hl.1 (Nat.le_of_ble_eq_true rfl) ⟨(by show _ ≤ 200; omega), (by show _ ≤ 1000000; omega)⟩ dL_program_310 (fun ws H locs hlen hS hL => ?_)
        refine lv_pop hx hb dL_program_313 rfl ?_
        refine lv_goto (tgt := 367) hx hb dL_program_314 (by decide) ?_
        simp only [List.append_assoc] at hS
        refine W.widen (k := 20 + 8 * i + 7) (n := 100000 + 40000 * i + 35000) (by omega) (by omega) ?_
        refine J367 _ ws H locs ?_ ?_ hS hL
        · simp [lsN]
        · simp only [List.append_assoc]; exact Or.inr (Or.inr (Or.inr (Or.inl ⟨r11, r13, r12, hr11, hr13, hr12, rfl⟩)))
      have J317 : W p l e { frames := 8, cells := 200, slots := 1000000, locals := 40 * 8 } s m args below meth c H locs (20 + 8 * i) (100000 + 40000 * i) (MQ below (LQc g [] s.heap.size (BPr g)) args s 200 1000000 (va_A [] s.heap.size)) (F0 m 317 ls []) := by
        refine lv_aload_n hx hb dL_program_317 rfl (lv_at hl 1 rfl) ?_
        refine va_ldcS hx hb hown (hZ.1.2.2.2.1 8 (by decide)) dL_program_318 ?_
        refine y_apS (i := 8) (rest := []) X hZ hS hL (by decide) hlen (by omega) ⟨Nat.le_of_ble_eq_true rfl, Nat.le_of_ble_eq_true rfl⟩ hl.1 (Nat.le_of_ble_eq_true rfl) ⟨(by show _ ≤ 200; omega), (by show _ ≤ 1000000; omega)⟩ dL_program_320 (fun ws H locs hlen hS hL => ?_)
        refine lv_aload_n hx hb dL_program_323 rfl (lv_at hl 0 rfl) ?_
        refine lv_iload hx hb dL_program_324 (lv_at hl 4 rfl) ?_
        refine lv_iconst (v := (1 : Int32)) hx hb dL_program_326 (by decide) ?_
        refine lv_iadd hx hb dL_program_327 ?_
        rw [show nI (5 + (5 * i)) + (1 : Int32) = nI ((5 + (5 * i)) + 1) from nI_add (5 + (5 * i)) 1]
        refine x_callLS (As := [.ref (g.2.2 1002), .int (nI ((5 + (5 * i)) + 1))]) (rest := [.ref q]) X hZ ws [] (by rw [List.append_nil]; exact hL) (k_variable (k := ((5 + (5 * i)) + 1)) (by omega) hLx) tw_4_67 ms_L_variable tw_4_68 ⟨Nat.le_of_ble_eq_true rfl, Nat.le_of_ble_eq_true rfl⟩ rfl rfl hl.1 (Nat.le_of_ble_eq_true rfl) dL_program_328 ⟨(by show _ ≤ 200; omega), (by show _ ≤ 1000000; omega)⟩ (fun v nb H locs hB hL => ?_)
        obtain ⟨r11, hr11, rfl, rfl⟩ := hB
        rw [List.append_nil] at hL
        refine y_apC (k := (97 + r11)) (rest := []) X hZ hS hL (by omega) hlen (by omega) ⟨Nat.le_of_ble_eq_true rfl, Nat.le_of_ble_eq_true rfl⟩ hl.1 (Nat.le_of_ble_eq_true rfl) ⟨(by show _ ≤ 200; omega), (by show _ ≤ 1000000; omega)⟩ dL_program_331 (fun ws H locs hlen hS hL => ?_)
        refine va_ldcS hx hb hown (hZ.1.2.2.2.1 2 (by decide)) dL_program_334 ?_
        refine y_apS (i := 2) (rest := []) X hZ hS hL (by decide) hlen (by omega) ⟨Nat.le_of_ble_eq_true rfl, Nat.le_of_ble_eq_true rfl⟩ hl.1 (Nat.le_of_ble_eq_true rfl) ⟨(by show _ ≤ 200; omega), (by show _ ≤ 1000000; omega)⟩ dL_program_336 (fun ws H locs hlen hS hL => ?_)
        refine lv_aload_n hx hb dL_program_339 rfl (lv_at hl 0 rfl) ?_
        refine lv_iload hx hb dL_program_340 (lv_at hl 4 rfl) ?_
        refine lv_iconst (v := (2 : Int32)) hx hb dL_program_342 (by decide) ?_
        refine lv_iadd hx hb dL_program_343 ?_
        rw [show nI (5 + (5 * i)) + (2 : Int32) = nI ((5 + (5 * i)) + 2) from nI_add (5 + (5 * i)) 2]
        refine x_callLS (As := [.ref (g.2.2 1002), .int (nI ((5 + (5 * i)) + 2))]) (rest := [.ref q]) X hZ ws [] (by rw [List.append_nil]; exact hL) (k_variable (k := ((5 + (5 * i)) + 2)) (by omega) hLx) tw_4_67 ms_L_variable tw_4_68 ⟨Nat.le_of_ble_eq_true rfl, Nat.le_of_ble_eq_true rfl⟩ rfl rfl hl.1 (Nat.le_of_ble_eq_true rfl) dL_program_344 ⟨(by show _ ≤ 200; omega), (by show _ ≤ 1000000; omega)⟩ (fun v nb H locs hB hL => ?_)
        obtain ⟨r12, hr12, rfl, rfl⟩ := hB
        rw [List.append_nil] at hL
        refine y_apC (k := (97 + r12)) (rest := []) X hZ hS hL (by omega) hlen (by omega) ⟨Nat.le_of_ble_eq_true rfl, Nat.le_of_ble_eq_true rfl⟩ hl.1 (Nat.le_of_ble_eq_true rfl) ⟨(by show _ ≤ 200; omega), (by show _ ≤ 1000000; omega)⟩ dL_program_347 (fun ws H locs hlen hS hL => ?_)
        refine va_ldcS hx hb hown (hZ.1.2.2.2.1 2 (by decide)) dL_program_350 ?_
        refine y_apS (i := 2) (rest := []) X hZ hS hL (by decide) hlen (by omega) ⟨Nat.le_of_ble_eq_true rfl, Nat.le_of_ble_eq_true rfl⟩ hl.1 (Nat.le_of_ble_eq_true rfl) ⟨(by show _ ≤ 200; omega), (by show _ ≤ 1000000; omega)⟩ dL_program_352 (fun ws H locs hlen hS hL => ?_)
        refine lv_aload_n hx hb dL_program_355 rfl (lv_at hl 0 rfl) ?_
        refine lv_iload hx hb dL_program_356 (lv_at hl 4 rfl) ?_
        refine lv_iconst (v := (3 : Int32)) hx hb dL_program_358 (by decide) ?_
        refine lv_iadd hx hb dL_program_359 ?_
        rw [show nI (5 + (5 * i)) + (3 : Int32) = nI ((5 + (5 * i)) + 3) from nI_add (5 + (5 * i)) 3]
        refine x_callLS (As := [.ref (g.2.2 1002), .int (nI ((5 + (5 * i)) + 3))]) (rest := [.ref q]) X hZ ws [] (by rw [List.append_nil]; exact hL) (k_variable (k := ((5 + (5 * i)) + 3)) (by omega) hLx) tw_4_67 ms_L_variable tw_4_68 ⟨Nat.le_of_ble_eq_true rfl, Nat.le_of_ble_eq_true rfl⟩ rfl rfl hl.1 (Nat.le_of_ble_eq_true rfl) dL_program_360 ⟨(by show _ ≤ 200; omega), (by show _ ≤ 1000000; omega)⟩ (fun v nb H locs hB hL => ?_)
        obtain ⟨r13, hr13, rfl, rfl⟩ := hB
        rw [List.append_nil] at hL
        refine y_apC (k := (97 + r13)) (rest := []) X hZ hS hL (by omega) hlen (by omega) ⟨Nat.le_of_ble_eq_true rfl, Nat.le_of_ble_eq_true rfl⟩ hl.1 (Nat.le_of_ble_eq_true rfl) ⟨(by show _ ≤ 200; omega), (by show _ ≤ 1000000; omega)⟩ dL_program_363 (fun ws H locs hlen hS hL => ?_)
        refine lv_pop hx hb dL_program_366 rfl ?_
        simp only [List.append_assoc] at hS
        refine W.widen (k := 20 + 8 * i + 7) (n := 100000 + 40000 * i + 35000) (by omega) (by omega) ?_
        refine J367 _ ws H locs ?_ ?_ hS hL
        · simp [lsN]
        · simp only [List.append_assoc]; exact Or.inr (Or.inr (Or.inr (Or.inr ⟨r11, r12, r13, hr11, hr12, hr13, rfl⟩)))
      match r1, hr1 with
      | 0, _ => exact lv_tableIn (off := 34) (tgt := 132) hx hb dL_program_98 (by decide) (by decide) (by rfl) (by decide) J132
      | 1, _ => exact lv_tableIn (off := 34) (tgt := 132) hx hb dL_program_98 (by decide) (by decide) (by rfl) (by decide) J132
      | 2, _ => exact lv_tableIn (off := 76) (tgt := 174) hx hb dL_program_98 (by decide) (by decide) (by rfl) (by decide) J174
      | 3, _ => exact lv_tableIn (off := 113) (tgt := 211) hx hb dL_program_98 (by decide) (by decide) (by rfl) (by decide) J211
      | 4, _ => exact lv_tableIn (off := 166) (tgt := 264) hx hb dL_program_98 (by decide) (by decide) (by rfl) (by decide) J264
      | 5, _ => exact lv_tableOut (tgt := 317) hx hb dL_program_98 (Or.inr (by decide)) (by decide) J317
      | 6, _ => exact lv_tableOut (tgt := 317) hx hb dL_program_98 (Or.inr (by decide)) (by decide) J317
      | k + 7, h => exact absurd h (by omega)
  have J66 : ∀ (t : List Nat) (ws : va_W) (H : Heap) (locs : List Loc) (ls : Array Slot), HeadOK t → SBt g q t ws → LW g (va_A [] s.heap.size) ws s.heap H locs → lv_has ls 5 [(0, .ref (g.2.2 1002)), (1, .ref q)] → W p l e { frames := 8, cells := 200, slots := 1000000, locals := 40 * 8 } s m args below meth c H locs (20) (100000) (MQ below (LQc g [] s.heap.size (BPr g)) args s 200 1000000 (va_A [] s.heap.size)) (F0 m 66 ls []) := by
    intro t ws H locs ls hT hS hL hl
    refine lv_iconst (v := (3 : Int32)) hx hb dL_program_66 (by decide) ?_
    refine lv_aload_n hx hb dL_program_67 rfl (lv_at hl 0 rfl) ?_
    refine lv_iconst (v := (4 : Int32)) hx hb dL_program_68 (by decide) ?_
    refine lv_bipush (v := (8 : Int32)) hx hb dL_program_69 (by decide) ?_
    refine x_callLS (As := [.ref (g.2.2 1002), .int (4 : Int32), .int (8 : Int32)]) (rest := [.int (3 : Int32)]) X hZ ws [] (by rw [List.append_nil]; exact hL) (k_pick (k := 4) (n := 8) (by omega) hLx (by decide) (by decide)) tw_3_200 ms_L_pick tw_3_201 ⟨Nat.le_of_ble_eq_true rfl, Nat.le_of_ble_eq_true rfl⟩ rfl rfl hl.1 (Nat.le_of_ble_eq_true rfl) dL_program_71 ⟨(by show _ ≤ 200; omega), (by show _ ≤ 1000000; omega)⟩ (fun v nb H locs hB hL => ?_)
    obtain ⟨r1, hr1, rfl, rfl⟩ := hB
    rw [List.append_nil] at hL
    refine lv_iadd hx hb dL_program_74 ?_
    rw [show (3 : Int32) + nI r1 = nI (3 + r1) from nI_add 3 r1]
    refine lv_istore_n (lv' := [(2, .int (nI (3 + r1))), (0, .ref (g.2.2 1002)), (1, .ref q)]) hx hb dL_program_75 rfl hl (by decide) rfl (fun ls hl => ?_)
    refine lv_iconst (v := (0 : Int32)) hx hb dL_program_76 (by decide) ?_
    refine lv_istore_n (lv' := [(3, .int (0 : Int32)), (2, .int (nI (3 + r1))), (0, .ref (g.2.2 1002)), (1, .ref q)]) hx hb dL_program_77 rfl hl (by decide) rfl (fun ls hl => ?_)
    exact LP (3 + r1) 0 (3 + r1) (by omega) (by omega) (by omega) _ _ _ _ _ (ProgOK.nil hT) hS hL (lv_sub hl [2, 3, 1, 0] rfl)
  have J24 : ∀ (t : List Nat) (ws : va_W) (H : Heap) (locs : List Loc) (ls : Array Slot), (t = [] ∨ t = lsN 0) → SBt g q t ws → LW g (va_A [] s.heap.size) ws s.heap H locs → lv_has ls 5 [(0, .ref (g.2.2 1002)), (1, .ref q)] → W p l e { frames := 8, cells := 200, slots := 1000000, locals := 40 * 8 } s m args below meth c H locs (5) (20000) (MQ below (LQc g [] s.heap.size (BPr g)) args s 200 1000000 (va_A [] s.heap.size)) (F0 m 24 ls []) := by
    intro t ws H locs ls hT hS hL hl
    have hlen : t.length ≤ 10 := by rcases hT with rfl | rfl <;> simp [lsN]
    refine lv_aload_n hx hb dL_program_24 rfl (lv_at hl 0 rfl) ?_
    refine lv_iconst (v := (1 : Int32)) hx hb dL_program_25 (by decide) ?_
    refine lv_iconst (v := (3 : Int32)) hx hb dL_program_26 (by decide) ?_
    refine x_callLS (As := [.ref (g.2.2 1002), .int (1 : Int32), .int (3 : Int32)]) (rest := []) X hZ ws [] (by rw [List.append_nil]; exact hL) (k_pick (k := 1) (n := 3) (by omega) hLx (by decide) (by decide)) tw_3_200 ms_L_pick tw_3_201 ⟨Nat.le_of_ble_eq_true rfl, Nat.le_of_ble_eq_true rfl⟩ rfl rfl hl.1 (Nat.le_of_ble_eq_true rfl) dL_program_27 ⟨(by show _ ≤ 200; omega), (by show _ ≤ 1000000; omega)⟩ (fun v nb H locs hB hL => ?_)
    obtain ⟨r1, hr1, rfl, rfl⟩ := hB
    rw [List.append_nil] at hL
    refine lv_if_le (tgt := 66) hx hb dL_program_30 (by decide) (fun z => ?_) (fun z => ?_)
    · refine W.widen (k := 20) (n := 100000) (by omega) (by omega) ?_
      exact J66 _ _ _ _ _ ⟨t, [], by simp, hT, Or.inl rfl⟩ hS hL hl
    · refine lv_aload_n hx hb dL_program_33 rfl (lv_at hl 1 rfl) ?_
      refine va_ldcS hx hb hown (hZ.1.2.2.2.1 1 (by decide)) dL_program_34 ?_
      refine y_apS (i := 1) (rest := []) X hZ hS hL (by decide) hlen (by omega) ⟨Nat.le_of_ble_eq_true rfl, Nat.le_of_ble_eq_true rfl⟩ hl.1 (Nat.le_of_ble_eq_true rfl) ⟨(by show _ ≤ 200; omega), (by show _ ≤ 1000000; omega)⟩ dL_program_36 (fun ws H locs hlen hS hL => ?_)
      refine lv_aload_n hx hb dL_program_39 rfl (lv_at hl 0 rfl) ?_
      refine lv_iconst (v := (2 : Int32)) hx hb dL_program_40 (by decide) ?_
      refine x_callLS (As := [.ref (g.2.2 1002), .int (2 : Int32)]) (rest := [.ref q]) X hZ ws [] (by rw [List.append_nil]; exact hL) (k_variable (k := 2) (by omega) hLx) tw_4_67 ms_L_variable tw_4_68 ⟨Nat.le_of_ble_eq_true rfl, Nat.le_of_ble_eq_true rfl⟩ rfl rfl hl.1 (Nat.le_of_ble_eq_true rfl) dL_program_41 ⟨(by show _ ≤ 200; omega), (by show _ ≤ 1000000; omega)⟩ (fun v nb H locs hB hL => ?_)
      obtain ⟨r11, hr11, rfl, rfl⟩ := hB
      rw [List.append_nil] at hL
      refine y_apC (k := (97 + r11)) (rest := []) X hZ hS hL (by omega) hlen (by omega) ⟨Nat.le_of_ble_eq_true rfl, Nat.le_of_ble_eq_true rfl⟩ hl.1 (Nat.le_of_ble_eq_true rfl) ⟨(by show _ ≤ 200; omega), (by show _ ≤ 1000000; omega)⟩ dL_program_44 (fun ws H locs hlen hS hL => ?_)
      refine va_ldcS hx hb hown (hZ.1.2.2.2.1 2 (by decide)) dL_program_47 ?_
      refine y_apS (i := 2) (rest := []) X hZ hS hL (by decide) hlen (by omega) ⟨Nat.le_of_ble_eq_true rfl, Nat.le_of_ble_eq_true rfl⟩ hl.1 (Nat.le_of_ble_eq_true rfl) ⟨(by show _ ≤ 200; omega), (by show _ ≤ 1000000; omega)⟩ dL_program_49 (fun ws H locs hlen hS hL => ?_)
      refine lv_aload_n hx hb dL_program_52 rfl (lv_at hl 0 rfl) ?_
      refine lv_iconst (v := (3 : Int32)) hx hb dL_program_53 (by decide) ?_
      refine x_callLS (As := [.ref (g.2.2 1002), .int (3 : Int32)]) (rest := [.ref q]) X hZ ws [] (by rw [List.append_nil]; exact hL) (k_variable (k := 3) (by omega) hLx) tw_4_67 ms_L_variable tw_4_68 ⟨Nat.le_of_ble_eq_true rfl, Nat.le_of_ble_eq_true rfl⟩ rfl rfl hl.1 (Nat.le_of_ble_eq_true rfl) dL_program_54 ⟨(by show _ ≤ 200; omega), (by show _ ≤ 1000000; omega)⟩ (fun v nb H locs hB hL => ?_)
      obtain ⟨r12, hr12, rfl, rfl⟩ := hB
      rw [List.append_nil] at hL
      refine y_apC (k := (97 + r12)) (rest := []) X hZ hS hL (by omega) hlen (by omega) ⟨Nat.le_of_ble_eq_true rfl, Nat.le_of_ble_eq_true rfl⟩ hl.1 (Nat.le_of_ble_eq_true rfl) ⟨(by show _ ≤ 200; omega), (by show _ ≤ 1000000; omega)⟩ dL_program_57 (fun ws H locs hlen hS hL => ?_)
      refine va_ldcS hx hb hown (hZ.1.2.2.2.1 3 (by decide)) dL_program_60 ?_
      refine y_apS (i := 3) (rest := []) X hZ hS hL (by decide) hlen (by omega) ⟨Nat.le_of_ble_eq_true rfl, Nat.le_of_ble_eq_true rfl⟩ hl.1 (Nat.le_of_ble_eq_true rfl) ⟨(by show _ ≤ 200; omega), (by show _ ≤ 1000000; omega)⟩ dL_program_62 (fun ws H locs hlen hS hL => ?_)
      refine lv_pop hx hb dL_program_65 rfl ?_
      simp only [List.append_assoc] at hS
      refine W.widen (k := 20) (n := 100000) (by omega) (by omega) ?_
      exact J66 _ _ _ _ _ ⟨t, _, rfl, hT, Or.inr ⟨r11, r12, hr11, hr12, rfl⟩⟩ hS hL hl
  have hS := hS
  have hlen : ([] : List Nat).length ≤ 0 := Nat.le_refl _
  generalize hws : ([] ++ [(q, sbE v0 0), (v0, ba g 16 (fun _ => 0))] : va_W) = ws at hS hL
  refine lv_aload_n hx hb dL_program_8 rfl (lv_at hl 0 rfl) ?_
  refine lv_iconst (v := (0 : Int32)) hx hb dL_program_9 (by decide) ?_
  refine lv_iconst (v := (3 : Int32)) hx hb dL_program_10 (by decide) ?_
  refine x_callLS (As := [.ref (g.2.2 1002), .int (0 : Int32), .int (3 : Int32)]) (rest := []) X hZ ws [] (by rw [List.append_nil]; exact hL) (k_pick (k := 0) (n := 3) (by omega) hLx (by decide) (by decide)) tw_3_200 ms_L_pick tw_3_201 ⟨Nat.le_of_ble_eq_true rfl, Nat.le_of_ble_eq_true rfl⟩ rfl rfl hl.1 (Nat.le_of_ble_eq_true rfl) dL_program_11 ⟨(by show _ ≤ 200; omega), (by show _ ≤ 1000000; omega)⟩ (fun v nb H locs hB hL => ?_)
  obtain ⟨r1, hr1, rfl, rfl⟩ := hB
  rw [List.append_nil] at hL
  refine lv_if_le (tgt := 24) hx hb dL_program_14 (by decide) (fun z => ?_) (fun z => ?_)
  · refine W.widen (k := 5) (n := 20000) (by decide) (by decide) ?_
    exact J24 _ _ _ _ _ (Or.inl rfl) hS hL hl
  · refine lv_aload_n hx hb dL_program_17 rfl (lv_at hl 1 rfl) ?_
    refine va_ldcS hx hb hown (hZ.1.2.2.2.1 0 (by decide)) dL_program_18 ?_
    refine y_apS (i := 0) (rest := []) X hZ hS hL (by decide) hlen (by omega) ⟨Nat.le_of_ble_eq_true rfl, Nat.le_of_ble_eq_true rfl⟩ hl.1 (Nat.le_of_ble_eq_true rfl) ⟨(by show _ ≤ 200; omega), (by show _ ≤ 1000000; omega)⟩ dL_program_20 (fun ws H locs hlen hS hL => ?_)
    refine lv_pop hx hb dL_program_23 rfl ?_
    refine W.widen (k := 5) (n := 20000) (by decide) (by decide) ?_
    exact J24 _ _ _ _ _ (Or.inr rfl) hS hL hl
