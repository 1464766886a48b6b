/-! The law's loop. -/
theorem and63 (x : Int32) : ∃ j : Nat, j < 64 ∧ x &&& 63 = nI j := by
  refine ⟨(x &&& 63).toBitVec.toNat, ?_, ?_⟩
  · rw [Int32.toBitVec_and, BitVec.toNat_and]
    exact Nat.lt_of_le_of_lt Nat.and_le_right (by decide)
  · apply Int32.toBitVec_inj.mp
    show _ = BitVec.ofNat 32 _
    rw [BitVec.ofNat_toNat]
    simp
theorem lim6 {L i : Nat} (hL : L ≤ 3072) (hi : i ≤ L) (h : ¬ nI L - 6 < nI i) : i + 6 ≤ L := by
  rcases Nat.lt_or_ge L 6 with h1 | h1
  · have key : ∀ L : Fin 6, ∀ i : Fin 6, i.val ≤ L.val → nI L.val - 6 < nI i.val := by decide
    exact absurd (key ⟨L, h1⟩ ⟨i, by omega⟩ hi) h
  · obtain ⟨k, rfl⟩ : ∃ k, L = k + 6 := ⟨L - 6, by omega⟩
    rw [← nI_add k 6, show nI 6 = (6 : Int32) from rfl, Int32.add_sub_cancel] at h
    have h2 : ¬ k < i := fun z => h (nI_lt z (by omega))
    omega
section LL
variable {p : Program} {l : Launch} {e : Env} {s : State} {m : MethodId} {b : Nat} {below : List Frame} {meth : Method} {c : Code}
variable {L : Nat} {xs : Nat → Int32} {g : Gh} {aC aM : Nat → Nat} {qo : Nat}
set_option maxHeartbeats 8000000 in
theorem k_switch {H : Heap} {locs : List Loc} {cells slots i : Nat} {wC wM : Wd} {f : Nat → Int64} {ls : Array Slot} {Q : State → Prop} (X : LwX p l s m b meth c L xs g aC aM) (hR : RW wC wM) (hL : LW g (AS s) (LWo g aC aM qo wC wM f) s.heap H locs) (hl : lv_has ls 7 (lvB b aC aM qo i)) (hi : i + 6 ≤ L) (hf : cells + 1 ≤ 1114 ∧ slots + 6 ≤ 20432) (J : JEnd p l e s m b below meth c cells slots Q g aC aM qo i) :
    ∀ j : Nat, j < 64 → W p l e room_1 s m #[.ref b] below meth c H locs cells slots Q (F0 m 40 ls [.int (nI j)]) := by
  have hx := X.1.1
  have hb := X.1.2.1
  have hout : W p l e room_1 s m #[.ref b] below meth c H locs cells slots Q (F0 m 1632 ls []) := W.widen (k := cells + 1) (n := slots + 6) (by omega) (by omega) (J _ _ _ _ _ _ hR hL hl)
  intro j hj
  match j, hj with
  | 0, _ => exact lv_tableIn (off := 216) (tgt := 256) hx hb dL_40 (by decide) (by decide) (by rfl) (by decide) (k_0 X hR hL hl hi hf J)
  | 1, _ => exact lv_tableIn (off := 289) (tgt := 329) hx hb dL_40 (by decide) (by decide) (by rfl) (by decide) (k_1 X hR hL hl hi hf J)
  | 2, _ => exact lv_tableIn (off := 314) (tgt := 354) hx hb dL_40 (by decide) (by decide) (by rfl) (by decide) (k_2 X hR hL hl hi hf J)
  | 3, _ => exact lv_tableIn (off := 327) (tgt := 367) hx hb dL_40 (by decide) (by decide) (by rfl) (by decide) (k_3 X hR hL hl hi hf J)
  | 4, _ => exact lv_tableIn (off := 340) (tgt := 380) hx hb dL_40 (by decide) (by decide) (by rfl) (by decide) (k_4 X hR hL hl hi hf J)
  | 5, _ => exact lv_tableIn (off := 353) (tgt := 393) hx hb dL_40 (by decide) (by decide) (by rfl) (by decide) (k_5 X hR hL hl hi hf J)
  | 6, _ => exact lv_tableIn (off := 366) (tgt := 406) hx hb dL_40 (by decide) (by decide) (by rfl) (by decide) (k_6 X hR hL hl hi hf J)
  | 7, _ => exact lv_tableIn (off := 379) (tgt := 419) hx hb dL_40 (by decide) (by decide) (by rfl) (by decide) (k_7 X hR hL hl hi hf J)
  | 8, _ => exact lv_tableIn (off := 392) (tgt := 432) hx hb dL_40 (by decide) (by decide) (by rfl) (by decide) (k_8 X hR hL hl hi hf J)
  | 9, _ => exact lv_tableIn (off := 405) (tgt := 445) hx hb dL_40 (by decide) (by decide) (by rfl) (by decide) (k_9 X hR hL hl hi hf J)
  | 10, _ => exact lv_tableIn (off := 461) (tgt := 501) hx hb dL_40 (by decide) (by decide) (by rfl) (by decide) (k_10 X hR hL hl hi hf J)
  | 11, _ => exact lv_tableIn (off := 529) (tgt := 569) hx hb dL_40 (by decide) (by decide) (by rfl) (by decide) (k_11 X hR hL hl hi hf J)
  | 12, _ => exact lv_tableIn (off := 554) (tgt := 594) hx hb dL_40 (by decide) (by decide) (by rfl) (by decide) (k_12 X hR hL hl hi hf J)
  | 13, _ => exact lv_tableIn (off := 579) (tgt := 619) hx hb dL_40 (by decide) (by decide) (by rfl) (by decide) (k_13 X hR hL hl hi hf J)
  | 14, _ => exact lv_tableIn (off := 592) (tgt := 632) hx hb dL_40 (by decide) (by decide) (by rfl) (by decide) (k_14 X hR hL hl hi hf J)
  | 15, _ => exact lv_tableIn (off := 605) (tgt := 645) hx hb dL_40 (by decide) (by decide) (by rfl) (by decide) (k_15 X hR hL hl hi hf J)
  | 16, _ => exact lv_tableIn (off := 630) (tgt := 670) hx hb dL_40 (by decide) (by decide) (by rfl) (by decide) (k_16 X hR hL hl hi hf J)
  | 17, _ => exact lv_tableIn (off := 655) (tgt := 695) hx hb dL_40 (by decide) (by decide) (by rfl) (by decide) (k_17 X hR hL hl hi hf J)
  | 18, _ => exact lv_tableIn (off := 692) (tgt := 732) hx hb dL_40 (by decide) (by decide) (by rfl) (by decide) (k_18 X hR hL hl hi hf J)
  | 19, _ => exact lv_tableIn (off := 717) (tgt := 757) hx hb dL_40 (by decide) (by decide) (by rfl) (by decide) (k_19 X hR hL hl hi hf J)
  | 20, _ => exact lv_tableIn (off := 754) (tgt := 794) hx hb dL_40 (by decide) (by decide) (by rfl) (by decide) (k_20 X hR hL hl hi hf J)
  | 21, _ => exact lv_tableIn (off := 791) (tgt := 831) hx hb dL_40 (by decide) (by decide) (by rfl) (by decide) (k_21 X hR hL hl hi hf J)
  | 22, _ => exact lv_tableIn (off := 828) (tgt := 868) hx hb dL_40 (by decide) (by decide) (by rfl) (by decide) (k_22 X hR hL hl hi hf J)
  | 23, _ => exact lv_tableIn (off := 877) (tgt := 917) hx hb dL_40 (by decide) (by decide) (by rfl) (by decide) (k_23 X hR hL hl hi hf J)
  | 24, _ => exact lv_tableIn (off := 926) (tgt := 966) hx hb dL_40 (by decide) (by decide) (by rfl) (by decide) (k_24 X hR hL hl hi hf J)
  | 25, _ => exact lv_tableIn (off := 975) (tgt := 1015) hx hb dL_40 (by decide) (by decide) (by rfl) (by decide) (k_25 X hR hL hl hi hf J)
  | 26, _ => exact lv_tableIn (off := 1012) (tgt := 1052) hx hb dL_40 (by decide) (by decide) (by rfl) (by decide) (k_26 X hR hL hl hi hf J)
  | 27, _ => exact lv_tableIn (off := 1049) (tgt := 1089) hx hb dL_40 (by decide) (by decide) (by rfl) (by decide) (k_27 X hR hL hl hi hf J)
  | 28, _ => exact lv_tableIn (off := 1062) (tgt := 1102) hx hb dL_40 (by decide) (by decide) (by rfl) (by decide) (k_28 X hR hL hl hi hf J)
  | 29, _ => exact lv_tableIn (off := 1099) (tgt := 1139) hx hb dL_40 (by decide) (by decide) (by rfl) (by decide) (k_29 X hR hL hl hi hf J)
  | 30, _ => exact lv_tableIn (off := 1136) (tgt := 1176) hx hb dL_40 (by decide) (by decide) (by rfl) (by decide) (k_30 X hR hL hl hi hf J)
  | 31, _ => exact lv_tableIn (off := 1161) (tgt := 1201) hx hb dL_40 (by decide) (by decide) (by rfl) (by decide) (k_31 X hR hL hl hi hf J)
  | 32, _ => exact lv_tableIn (off := 1186) (tgt := 1226) hx hb dL_40 (by decide) (by decide) (by rfl) (by decide) (k_32 X hR hL hl hi hf J)
  | 33, _ => exact lv_tableIn (off := 1199) (tgt := 1239) hx hb dL_40 (by decide) (by decide) (by rfl) (by decide) (k_33 X hR hL hl hi hf J)
  | 34, _ => exact lv_tableIn (off := 1212) (tgt := 1252) hx hb dL_40 (by decide) (by decide) (by rfl) (by decide) (k_34 X hR hL hl hi hf J)
  | 35, _ => exact lv_tableIn (off := 1225) (tgt := 1265) hx hb dL_40 (by decide) (by decide) (by rfl) (by decide) (k_35 X hR hL hl hi hf J)
  | 36, _ => exact lv_tableIn (off := 1250) (tgt := 1290) hx hb dL_40 (by decide) (by decide) (by rfl) (by decide) (k_36 X hR hL hl hi hf J)
  | 37, _ => exact lv_tableIn (off := 1275) (tgt := 1315) hx hb dL_40 (by decide) (by decide) (by rfl) (by decide) (k_37 X hR hL hl hi hf J)
  | 38, _ => exact lv_tableIn (off := 1288) (tgt := 1328) hx hb dL_40 (by decide) (by decide) (by rfl) (by decide) (k_38 X hR hL hl hi hf J)
  | 39, _ => exact lv_tableIn (off := 1313) (tgt := 1353) hx hb dL_40 (by decide) (by decide) (by rfl) (by decide) (k_39 X hR hL hl hi hf J)
  | 40, _ => exact lv_tableIn (off := 1338) (tgt := 1378) hx hb dL_40 (by decide) (by decide) (by rfl) (by decide) (k_40 X hR hL hl hi hf J)
  | 41, _ => exact lv_tableIn (off := 1351) (tgt := 1391) hx hb dL_40 (by decide) (by decide) (by rfl) (by decide) (k_41 X hR hL hl hi hf J)
  | 42, _ => exact lv_tableIn (off := 1364) (tgt := 1404) hx hb dL_40 (by decide) (by decide) (by rfl) (by decide) (k_42 X hR hL hl hi hf J)
  | 43, _ => exact lv_tableIn (off := 1377) (tgt := 1417) hx hb dL_40 (by decide) (by decide) (by rfl) (by decide) (k_43 X hR hL hl hi hf J)
  | 44, _ => exact lv_tableIn (off := 1402) (tgt := 1442) hx hb dL_40 (by decide) (by decide) (by rfl) (by decide) (k_44 X hR hL hl hi hf J)
  | 45, _ => exact lv_tableIn (off := 1463) (tgt := 1503) hx hb dL_40 (by decide) (by decide) (by rfl) (by decide) (k_45 X hR hL hl hi hf J)
  | 46, _ => exact lv_tableIn (off := 1516) (tgt := 1556) hx hb dL_40 (by decide) (by decide) (by rfl) (by decide) (k_46 X hR hL hl hi hf J)
  | 47, _ => exact lv_tableIn (off := 1529) (tgt := 1569) hx hb dL_40 (by decide) (by decide) (by rfl) (by decide) (k_47 X hR hL hl hi hf J)
  | 48, _ => exact lv_tableIn (off := 1542) (tgt := 1582) hx hb dL_40 (by decide) (by decide) (by rfl) (by decide) (k_48 X hR hL hl hi hf J)
  | 49, _ => exact lv_tableIn (off := 1567) (tgt := 1607) hx hb dL_40 (by decide) (by decide) (by rfl) (by decide) (k_49 X hR hL hl hi hf J)
  | 50, _ => exact lv_tableOut (tgt := 1632) hx hb dL_40 (Or.inr (by decide)) (by decide) hout
  | 51, _ => exact lv_tableOut (tgt := 1632) hx hb dL_40 (Or.inr (by decide)) (by decide) hout
  | 52, _ => exact lv_tableOut (tgt := 1632) hx hb dL_40 (Or.inr (by decide)) (by decide) hout
  | 53, _ => exact lv_tableOut (tgt := 1632) hx hb dL_40 (Or.inr (by decide)) (by decide) hout
  | 54, _ => exact lv_tableOut (tgt := 1632) hx hb dL_40 (Or.inr (by decide)) (by decide) hout
  | 55, _ => exact lv_tableOut (tgt := 1632) hx hb dL_40 (Or.inr (by decide)) (by decide) hout
  | 56, _ => exact lv_tableOut (tgt := 1632) hx hb dL_40 (Or.inr (by decide)) (by decide) hout
  | 57, _ => exact lv_tableOut (tgt := 1632) hx hb dL_40 (Or.inr (by decide)) (by decide) hout
  | 58, _ => exact lv_tableOut (tgt := 1632) hx hb dL_40 (Or.inr (by decide)) (by decide) hout
  | 59, _ => exact lv_tableOut (tgt := 1632) hx hb dL_40 (Or.inr (by decide)) (by decide) hout
  | 60, _ => exact lv_tableOut (tgt := 1632) hx hb dL_40 (Or.inr (by decide)) (by decide) hout
  | 61, _ => exact lv_tableOut (tgt := 1632) hx hb dL_40 (Or.inr (by decide)) (by decide) hout
  | 62, _ => exact lv_tableOut (tgt := 1632) hx hb dL_40 (Or.inr (by decide)) (by decide) hout
  | 63, _ => exact lv_tableOut (tgt := 1632) hx hb dL_40 (Or.inr (by decide)) (by decide) hout
  | j + 64, hj => exact absurd hj (by omega)
set_option maxHeartbeats 4000000 in
theorem law_loop (X : LwX p l s m b meth c L xs g aC aM) (hr : meth.sig.returnType = ret) : ∀ (n it : Nat), 6 * it ≤ L → L < 6 * (it + n) → ∀ (wC wM : Wd) (f : Nat → Int64) (H : Heap) (locs : List Loc) (ls : Array Slot), RW wC wM → LW g (AS s) (LWo g aC aM qo wC wM f) s.heap H locs → lv_has ls 7 (lvB b aC aM qo (6 * it)) →
    W p l e room_1 s m #[.ref b] below meth c H locs (87 + it) (12222 + 6 * it) (lw_Z below #[.ref b] s) (F0 m 23 ls []) := by
  have hx := X.1.1
  have hb := X.1.2.1
  have hX := X.2.1.1
  have hbl := X.2.1.2.1
  have hL3 := X.2.1.2.2
  have hbA : ¬ AS s b := Nat.not_le.mpr hbl
  intro n
  induction n with
  | zero =>
    intro it h1 h2
    exact absurd h2 (by omega)
  | succ n ih =>
    intro it h1 h2 wC wM f H locs ls hR hL hl
    have hl0 : lv_has ls 7 [(0, .ref b), (1, .ref (aC 0)), (2, .ref (aM 0)), (3, .ref qo), (4, .int (nI (6 * it)))] := hl
    refine lv_iload hx hb dL_23 (lv_at hl0 4 rfl) ?_
    refine lv_aload_n hx hb dL_25 rfl (lv_at hl0 0 rfl) ?_
    refine va_slen hx hb hX hbl hbA hL.2.2.1 dL_26 ?_
    refine lv_bipush (v := (6 : Int32)) hx hb dL_27 (by decide) ?_
    refine lv_isub hx hb dL_29 ?_
    refine lv_icmp_gt (tgt := 1638) hx hb dL_30 (by decide) (fun c0 => ?_) (fun c0 => ?_)
    · refine lv_iconst (v := (1 : Int32)) hx hb dL_1638 (by decide) ?_
      refine va_forget (fun q hq => hL.2.2.1.2.2 q hq) ?_
      refine W.widen (k := 1114) (n := 20432) (by omega) (by omega) ?_
      exact lw_ret hx hb hr X.1.2.2.2.2.2.2.2 dL_1639
    · have hi : 6 * it + 6 ≤ L := lim6 hL3 h1 c0
      refine lv_aload_n hx hb dL_33 rfl (lv_at hl0 0 rfl) ?_
      refine lv_iload hx hb dL_34 (lv_at hl0 4 rfl) ?_
      refine va_sld hx hb hX hbl hbA hL.2.2.1 (vp_in_nI (by omega) (by omega)) dL_36 ?_
      refine lv_bipush (v := (63 : Int32)) hx hb dL_37 (by decide) ?_
      refine lv_iand hx hb dL_39 ?_
      obtain ⟨j, hj, ej⟩ := and63 (xs (nI (6 * it)).toNatClampNeg)
      rw [ej]
      refine k_switch X hR hL hl hi (by omega) (fun wC2 wM2 f2 H2 locs2 ls2 hR2 hL2 hl2 => ?_) j hj
      have hl3 : lv_has ls2 7 [(0, .ref b), (1, .ref (aC 0)), (2, .ref (aM 0)), (3, .ref qo), (4, .int (nI (6 * it)))] := hl2
      refine lv_iinc (v := nI (6 * (it + 1))) (lv' := [(4, .int (nI (6 * (it + 1)))), (0, .ref b), (1, .ref (aC 0)), (2, .ref (aM 0)), (3, .ref qo)]) hx hb dL_1632 hl3 (k := 4) rfl (by rw [show Int32.ofInt 6 = nI 6 from rfl, nI_add]; rfl) (by decide) rfl (fun ls3 hl4 => ?_)
      refine lv_goto (tgt := 23) hx hb dL_1635 (by decide) ?_
      exact ih (it + 1) (by omega) (by omega) wC2 wM2 f2 H2 locs2 ls3 hR2 hL2 (lv_sub hl4 [1, 2, 3, 4, 0] rfl)
end LL
