/-! TEXTS: what looks into a String constant, in the abstract machine -/
theorem sc_length : Cond.code yJ0_length_8abf5 cJ0_length_8abf5 1 (some FieldType.int) ∈ am_gw := List.mem_filter.mpr ⟨List.mem_of_getElem? (i := 619) (by decide +kernel), rfl⟩
theorem si_length : Cond.instanceMethod yJ0_length_8abf5 ∈ am_gw := List.mem_filter.mpr ⟨List.mem_of_getElem? (i := 617) (by decide +kernel), rfl⟩
theorem sl_length : Cond.selects "java/lang/String" yJ0_length_8abf5 yJ0_length_8abf5 ∈ am_gw := List.mem_filter.mpr ⟨List.mem_of_getElem? (i := 618) (by decide +kernel), rfl⟩
abbrev M_S_length : am_M := (yJ0_length_8abf5, cJ0_length_8abf5, 1, (some FieldType.int))
theorem pf_S_length : plainFor M_S_length.1 = true := by decide +kernel
theorem sc_coder : Cond.code yJ0_coder_7d493 cJ0_coder_7d493 1 (some FieldType.byte) ∈ am_gw := List.mem_filter.mpr ⟨List.mem_of_getElem? (i := 623) (by decide +kernel), rfl⟩
theorem si_coder : Cond.instanceMethod yJ0_coder_7d493 ∈ am_gw := List.mem_filter.mpr ⟨List.mem_of_getElem? (i := 621) (by decide +kernel), rfl⟩
theorem sl_coder : Cond.selects "java/lang/String" yJ0_coder_7d493 yJ0_coder_7d493 ∈ am_gw := List.mem_filter.mpr ⟨List.mem_of_getElem? (i := 622) (by decide +kernel), rfl⟩
abbrev M_S_coder : am_M := (yJ0_coder_7d493, cJ0_coder_7d493, 1, (some FieldType.byte))
theorem pf_S_coder : plainFor M_S_coder.1 = true := by decide +kernel
theorem sc_charAt : Cond.code yJ0_charAt_5068e cJ0_charAt_5068e 2 (some FieldType.char) ∈ am_gw := List.mem_filter.mpr ⟨List.mem_of_getElem? (i := 629) (by decide +kernel), rfl⟩
theorem si_charAt : Cond.instanceMethod yJ0_charAt_5068e ∈ am_gw := List.mem_filter.mpr ⟨List.mem_of_getElem? (i := 627) (by decide +kernel), rfl⟩
theorem sl_charAt : Cond.selects "java/lang/String" yJ0_charAt_5068e yJ0_charAt_5068e ∈ am_gw := List.mem_filter.mpr ⟨List.mem_of_getElem? (i := 628) (by decide +kernel), rfl⟩
abbrev M_S_charAt : am_M := (yJ0_charAt_5068e, cJ0_charAt_5068e, 2, (some FieldType.char))
theorem pf_S_charAt : plainFor M_S_charAt.1 = true := by decide +kernel
theorem sc_isLatin1 : Cond.code yJ0_isLatin1_aae02 cJ0_isLatin1_aae02 1 (some FieldType.boolean) ∈ am_gw := List.mem_filter.mpr ⟨List.mem_of_getElem? (i := 633) (by decide +kernel), rfl⟩
theorem si_isLatin1 : Cond.instanceMethod yJ0_isLatin1_aae02 ∈ am_gw := List.mem_filter.mpr ⟨List.mem_of_getElem? (i := 631) (by decide +kernel), rfl⟩
theorem sl_isLatin1 : Cond.selects "java/lang/String" yJ0_isLatin1_aae02 yJ0_isLatin1_aae02 ∈ am_gw := List.mem_filter.mpr ⟨List.mem_of_getElem? (i := 632) (by decide +kernel), rfl⟩
abbrev M_S_isLatin1 : am_M := (yJ0_isLatin1_aae02, cJ0_isLatin1_aae02, 1, (some FieldType.boolean))
theorem pf_S_isLatin1 : plainFor M_S_isLatin1.1 = true := by decide +kernel
theorem sc_lcharAt : Cond.code yJ1_charAt_3b067 cJ1_charAt_3b067 2 (some FieldType.char) ∈ am_gw := List.mem_filter.mpr ⟨List.mem_of_getElem? (i := 636) (by decide +kernel), rfl⟩
theorem ss_lcharAt : Cond.static yJ1_charAt_3b067 ∈ am_gw := List.mem_filter.mpr ⟨List.mem_of_getElem? (i := 635) (by decide +kernel), rfl⟩
abbrev M_S_lcharAt : am_M := (yJ1_charAt_3b067, cJ1_charAt_3b067, 2, (some FieldType.char))
theorem pf_S_lcharAt : plainFor M_S_lcharAt.1 = true := by decide +kernel
theorem sc_checkIndex : Cond.code yJ0_checkIndex_df160 cJ0_checkIndex_df160 2 none ∈ am_gw := List.mem_filter.mpr ⟨List.mem_of_getElem? (i := 639) (by decide +kernel), rfl⟩
theorem ss_checkIndex : Cond.static yJ0_checkIndex_df160 ∈ am_gw := List.mem_filter.mpr ⟨List.mem_of_getElem? (i := 638) (by decide +kernel), rfl⟩
abbrev M_S_checkIndex : am_M := (yJ0_checkIndex_df160, cJ0_checkIndex_df160, 2, none)
theorem pf_S_checkIndex : plainFor M_S_checkIndex.1 = true := by decide +kernel
theorem sc_pcheckIndex : Cond.code yJ3_checkIndex_8e157 cJ3_checkIndex_8e157 3 (some FieldType.int) ∈ am_gw := List.mem_filter.mpr ⟨List.mem_of_getElem? (i := 644) (by decide +kernel), rfl⟩
theorem ss_pcheckIndex : Cond.static yJ3_checkIndex_8e157 ∈ am_gw := List.mem_filter.mpr ⟨List.mem_of_getElem? (i := 643) (by decide +kernel), rfl⟩
abbrev M_S_pcheckIndex : am_M := (yJ3_checkIndex_8e157, cJ3_checkIndex_8e157, 3, (some FieldType.int))
theorem pf_S_pcheckIndex : plainFor M_S_pcheckIndex.1 = true := by decide +kernel
theorem sc_indexOf1 : Cond.code yJ0_indexOf_0f7a4 cJ0_indexOf_0f7a4 2 (some FieldType.int) ∈ am_gw := List.mem_filter.mpr ⟨List.mem_of_getElem? (i := 678) (by decide +kernel), rfl⟩
theorem si_indexOf1 : Cond.instanceMethod yJ0_indexOf_0f7a4 ∈ am_gw := List.mem_filter.mpr ⟨List.mem_of_getElem? (i := 676) (by decide +kernel), rfl⟩
theorem sl_indexOf1 : Cond.selects "java/lang/String" yJ0_indexOf_0f7a4 yJ0_indexOf_0f7a4 ∈ am_gw := List.mem_filter.mpr ⟨List.mem_of_getElem? (i := 677) (by decide +kernel), rfl⟩
abbrev M_S_indexOf1 : am_M := (yJ0_indexOf_0f7a4, cJ0_indexOf_0f7a4, 2, (some FieldType.int))
theorem pf_S_indexOf1 : plainFor M_S_indexOf1.1 = true := by decide +kernel
theorem sc_indexOf2 : Cond.code yJ0_indexOf_7cf53 cJ0_indexOf_7cf53 3 (some FieldType.int) ∈ am_gw := List.mem_filter.mpr ⟨List.mem_of_getElem? (i := 682) (by decide +kernel), rfl⟩
theorem si_indexOf2 : Cond.instanceMethod yJ0_indexOf_7cf53 ∈ am_gw := List.mem_filter.mpr ⟨List.mem_of_getElem? (i := 680) (by decide +kernel), rfl⟩
theorem sl_indexOf2 : Cond.selects "java/lang/String" yJ0_indexOf_7cf53 yJ0_indexOf_7cf53 ∈ am_gw := List.mem_filter.mpr ⟨List.mem_of_getElem? (i := 681) (by decide +kernel), rfl⟩
abbrev M_S_indexOf2 : am_M := (yJ0_indexOf_7cf53, cJ0_indexOf_7cf53, 3, (some FieldType.int))
theorem pf_S_indexOf2 : plainFor M_S_indexOf2.1 = true := by decide +kernel
theorem sc_lindexOf : Cond.code yJ1_indexOf_4cfef cJ1_indexOf_4cfef 4 (some FieldType.int) ∈ am_gw := List.mem_filter.mpr ⟨List.mem_of_getElem? (i := 686) (by decide +kernel), rfl⟩
theorem ss_lindexOf : Cond.static yJ1_indexOf_4cfef ∈ am_gw := List.mem_filter.mpr ⟨List.mem_of_getElem? (i := 685) (by decide +kernel), rfl⟩
abbrev M_S_lindexOf : am_M := (yJ1_indexOf_4cfef, cJ1_indexOf_4cfef, 4, (some FieldType.int))
theorem pf_S_lindexOf : plainFor M_S_lindexOf.1 = true := by decide +kernel
theorem sc_canEncode : Cond.code yJ1_canEncode_9a6ad cJ1_canEncode_9a6ad 1 (some FieldType.boolean) ∈ am_gw := List.mem_filter.mpr ⟨List.mem_of_getElem? (i := 689) (by decide +kernel), rfl⟩
theorem ss_canEncode : Cond.static yJ1_canEncode_9a6ad ∈ am_gw := List.mem_filter.mpr ⟨List.mem_of_getElem? (i := 688) (by decide +kernel), rfl⟩
abbrev M_S_canEncode : am_M := (yJ1_canEncode_9a6ad, cJ1_canEncode_9a6ad, 1, (some FieldType.boolean))
theorem pf_S_canEncode : plainFor M_S_canEncode.1 = true := by decide +kernel
theorem sc_indexOfChar : Cond.code yJ1_indexOfChar_4cfef cJ1_indexOfChar_4cfef 6 (some FieldType.int) ∈ am_gw := List.mem_filter.mpr ⟨List.mem_of_getElem? (i := 694) (by decide +kernel), rfl⟩
theorem ss_indexOfChar : Cond.static yJ1_indexOfChar_4cfef ∈ am_gw := List.mem_filter.mpr ⟨List.mem_of_getElem? (i := 693) (by decide +kernel), rfl⟩
abbrev M_S_indexOfChar : am_M := (yJ1_indexOfChar_4cfef, cJ1_indexOfChar_4cfef, 6, (some FieldType.int))
theorem pf_S_indexOfChar : plainFor M_S_indexOfChar.1 = true := by decide +kernel
theorem sn_S : Cond.initialized "java/lang/String" ∈ am_gw := List.mem_filter.mpr ⟨List.mem_of_getElem? (i := 179) (by decide +kernel), rfl⟩
theorem sn_L : Cond.initialized "java/lang/StringLatin1" ∈ am_gw := List.mem_filter.mpr ⟨List.mem_of_getElem? (i := 180) (by decide +kernel), rfl⟩
theorem sn_P : Cond.initialized "jdk/internal/util/Preconditions" ∈ am_gw := List.mem_filter.mpr ⟨List.mem_of_getElem? (i := 181) (by decide +kernel), rfl⟩
theorem sm_S335 : Cond.methodLink "java/lang/String" 335 yJ0_coder_7d493 ∈ am_gw := List.mem_filter.mpr ⟨List.mem_of_getElem? (i := 620) (by decide +kernel), rfl⟩
theorem sm_S492 : Cond.methodLink "java/lang/String" 492 yJ0_isLatin1_aae02 ∈ am_gw := List.mem_filter.mpr ⟨List.mem_of_getElem? (i := 630) (by decide +kernel), rfl⟩
theorem sm_S495 : Cond.methodLink "java/lang/String" 495 yJ1_charAt_3b067 ∈ am_gw := List.mem_filter.mpr ⟨List.mem_of_getElem? (i := 634) (by decide +kernel), rfl⟩
theorem sm_L9 : Cond.methodLink "java/lang/StringLatin1" 9 yJ0_checkIndex_df160 ∈ am_gw := List.mem_filter.mpr ⟨List.mem_of_getElem? (i := 637) (by decide +kernel), rfl⟩
theorem sm_S1059 : Cond.methodLink "java/lang/String" 1059 yJ3_checkIndex_8e157 ∈ am_gw := List.mem_filter.mpr ⟨List.mem_of_getElem? (i := 642) (by decide +kernel), rfl⟩
theorem sm_S633 : Cond.methodLink "java/lang/String" 633 yJ0_indexOf_7cf53 ∈ am_gw := List.mem_filter.mpr ⟨List.mem_of_getElem? (i := 679) (by decide +kernel), rfl⟩
theorem sm_S505 : Cond.methodLink "java/lang/String" 505 yJ0_length_8abf5 ∈ am_gw := List.mem_filter.mpr ⟨List.mem_of_getElem? (i := 683) (by decide +kernel), rfl⟩
theorem sm_S637 : Cond.methodLink "java/lang/String" 637 yJ1_indexOf_4cfef ∈ am_gw := List.mem_filter.mpr ⟨List.mem_of_getElem? (i := 684) (by decide +kernel), rfl⟩
theorem sm_L88 : Cond.methodLink "java/lang/StringLatin1" 88 yJ1_canEncode_9a6ad ∈ am_gw := List.mem_filter.mpr ⟨List.mem_of_getElem? (i := 687) (by decide +kernel), rfl⟩
theorem sm_L92 : Cond.methodLink "java/lang/StringLatin1" 92 yJ9_max_7cf53 ∈ am_gw := List.mem_filter.mpr ⟨List.mem_of_getElem? (i := 690) (by decide +kernel), rfl⟩
theorem sm_L38 : Cond.methodLink "java/lang/StringLatin1" 38 yJ9_min_7cf53 ∈ am_gw := List.mem_filter.mpr ⟨List.mem_of_getElem? (i := 691) (by decide +kernel), rfl⟩
theorem sm_L95 : Cond.methodLink "java/lang/StringLatin1" 95 yJ1_indexOfChar_4cfef ∈ am_gw := List.mem_filter.mpr ⟨List.mem_of_getElem? (i := 692) (by decide +kernel), rfl⟩
theorem sm_P113 : Cond.methodLink "ByteIntervals$Parser" 113 yJ0_length_8abf5 ∈ am_gw := List.mem_filter.mpr ⟨List.mem_of_getElem? (i := 616) (by decide +kernel), rfl⟩
theorem sm_P117 : Cond.methodLink "ByteIntervals$Parser" 117 yJ0_charAt_5068e ∈ am_gw := List.mem_filter.mpr ⟨List.mem_of_getElem? (i := 626) (by decide +kernel), rfl⟩
theorem sm_P103 : Cond.methodLink "ByteIntervals$Parser" 103 yJ0_indexOf_0f7a4 ∈ am_gw := List.mem_filter.mpr ⟨List.mem_of_getElem? (i := 675) (by decide +kernel), rfl⟩
theorem sf_38 : Cond.fieldLink "java/lang/String" 38 "java/lang/String" "COMPACT_STRINGS" "Z" ∈ am_gw := List.mem_filter.mpr ⟨List.mem_of_getElem? (i := 624) (by decide +kernel), rfl⟩
theorem sf_1053 : Cond.fieldLink "java/lang/String" 1053 "jdk/internal/util/Preconditions" "SIOOBE_FORMATTER" "Ljava/util/function/BiFunction;" ∈ am_gw := List.mem_filter.mpr ⟨List.mem_of_getElem? (i := 640) (by decide +kernel), rfl⟩
theorem sf_9 : Cond.fieldLink "java/lang/String" 9 "java/lang/String" "value" "[B" ∈ am_gw := List.mem_filter.mpr ⟨List.mem_of_getElem? (i := 2042) (by decide +kernel), rfl⟩
theorem sf_15 : Cond.fieldLink "java/lang/String" 15 "java/lang/String" "coder" "B" ∈ am_gw := List.mem_filter.mpr ⟨List.mem_of_getElem? (i := 2043) (by decide +kernel), rfl⟩
/-- how long the k-th text is, its bytes -/
def stN (k : Nat) : Int := (([am_bW.length, am_bS.length].getD k 0 : Nat) : Int)
def stB (k : Nat) (i : Int) : Int := ((([am_bW, am_bS].getD k []).getD i.toNat 0 : Int32)).toInt
theorem am_rf_neg {ρ : Int → Nat} {a : Int} (h : a < 0) (h9 : a ≠ -9) : am_rf ρ a = some (ρ a) := by
  unfold am_rf
  rw [if_neg (by omega)]
section AM_STR
variable {fin : Bool} {d : Nat} {M : am_M} {n0 n1 : Nat} {h0 : am_H} {Q : Int → am_H → Prop} {pc : Nat} {ls : List (Option am_V)} {st st0 : List am_V} {n : Nat} {h : am_H}
theorem ar_ldcS {idx k : Nat} (hd : decode M.2.1 pc = .ok (.ldc idx, 2)) (hc : M.1.cls = "ByteIntervals$Parser") (hk : (idx = 111 ∧ k = 0) ∨ (idx = 101 ∧ k = 1)) (kk : am_Wp fin d M n0 n1 h0 Q (pc + 2) ls (.inr (.inr (-1 - 2 * (k : Int))) :: st) n h) : am_Wp fin d M n0 n1 h0 Q pc ls st n h := by
  intro p l e s m args below meth c H locs ρ ρ0 cA cA0 D A lm X hg hl hs ho
  have hown : s.vm.findClass "ByteIntervals$Parser" = some m.cls := by rw [← hc]; exact X.1.2.2.2.2.1
  have K := kk p l e s m args below meth c H locs ρ ρ0 cA cA0 D A lm X hg hl (am_ok_cons (show am_okV n (.inr (.inr (-1 - 2 * (k : Int)))) from by show (-1 - 2 * (k : Int)) ≤ (n : Int); omega) hs) ho
  simp only [List.map_cons, am_cv] at K
  rw [am_rf_neg (by omega) (by omega)] at K
  rcases hk with ⟨rfl, rfl⟩ | ⟨rfl, rfl⟩
  · exact va_ldcS X.1.1 X.1.2.1 hown X.2.2.2.2.1.2.1 hd K
  · exact va_ldcS X.1.1 X.1.2.1 hown X.2.2.2.2.1.2.2.1 hd K
theorem ar_svalue {idx k : Nat} (hd : decode M.2.1 pc = .ok (.getfield idx, 3)) (hk : k < 2) (hw : Cond.fieldLink M.1.cls idx "java/lang/String" "value" "[B" ∈ am_gw) (kk : am_Wp fin d M n0 n1 h0 Q (pc + 3) ls (.inr (.inr (-2 - 2 * (k : Int))) :: st) n h) : am_Wp fin d M n0 n1 h0 Q pc ls (.inr (.inr (-1 - 2 * (k : Int))) :: st) n h := by
  intro p l e s m args below meth c H locs ρ ρ0 cA cA0 D A lm X hg hl hs ho
  have K := kk p l e s m args below meth c H locs ρ ρ0 cA cA0 D A lm X hg hl (am_ok_cons (show am_okV n (.inr (.inr (-2 - 2 * (k : Int)))) from by show (-2 - 2 * (k : Int)) ≤ (n : Int); omega) (am_ok_tl hs)) ho
  simp only [List.map_cons, am_cv] at K ⊢
  rw [am_rf_neg (by omega) (by omega)] at K ⊢
  exact vk_getf X.1.1 X.1.2.1 (X.2.2.2.2.1.1.1 k hk).2.2.1 X.2.2.1 X.1.2.2.2.2.1 (X.1.2.2.2.2.2.1 _ hw) (fun _ q => q) hd K
theorem ar_scoder {idx k : Nat} (hd : decode M.2.1 pc = .ok (.getfield idx, 3)) (hk : k < 2) (hw : Cond.fieldLink M.1.cls idx "java/lang/String" "coder" "B" ∈ am_gw) (kk : am_Wp fin d M n0 n1 h0 Q (pc + 3) ls (.inl 0 :: st) n h) : am_Wp fin d M n0 n1 h0 Q pc ls (.inr (.inr (-1 - 2 * (k : Int))) :: st) n h := by
  intro p l e s m args below meth c H locs ρ ρ0 cA cA0 D A lm X hg hl hs ho
  have K := kk p l e s m args below meth c H locs ρ ρ0 cA cA0 D A lm X hg hl (am_ok_cons (show am_okV n (.inl 0) from by show am_i32 0; unfold am_i32; omega) (am_ok_tl hs)) ho
  simp only [List.map_cons, am_cv] at K ⊢
  rw [am_rf_neg (by omega) (by omega)]
  exact vk_getf X.1.1 X.1.2.1 (X.2.2.2.2.1.1.1 k hk).2.1 X.2.2.1 X.1.2.2.2.2.1 (X.1.2.2.2.2.2.1 _ hw) (fun _ q => q) hd K
theorem stN_v : stN 0 = 98 ∧ stN 1 = 11 := by decide +kernel
theorem stN_le (k : Nat) (hk : k < 2) : 11 ≤ stN k ∧ stN k ≤ 98 := by
  have := stN_v
  rcases (show k = 0 ∨ k = 1 by omega) with rfl | rfl <;> omega
theorem ar_slen {k : Nat} (hd : decode M.2.1 pc = .ok (.arraylength, 1)) (hk : k < 2) (kk : am_Wp fin d M n0 n1 h0 Q (pc + 1) ls (.inl (stN k) :: st) n h) : am_Wp fin d M n0 n1 h0 Q pc ls (.inr (.inr (-2 - 2 * (k : Int))) :: st) n h := by
  intro p l e s m args below meth c H locs ρ ρ0 cA cA0 D A lm X hg hl hs ho
  have K := kk p l e s m args below meth c H locs ρ ρ0 cA cA0 D A lm X hg hl (am_ok_cons (show am_okV n (.inl (stN k)) from by show am_i32 (stN k); unfold am_i32; have := stN_le k hk; omega) (am_ok_tl hs)) ho
  simp only [List.map_cons, am_cv] at K ⊢
  rw [am_rf_neg (by omega) (by omega)]
  exact va_tlen X.1.1 X.1.2.1 (X.2.2.2.2.1.1.1 k hk).2.2.2 X.2.2.1 (by rw [← Int32.ofInt_eq_ofNat]; rfl) hd K
theorem ar_sbald {k : Nat} {i : Int} (hd : decode M.2.1 pc = .ok (.baload, 1)) (hk : k < 2) (hi0 : 0 ≤ i) (hi1 : i < stN k) (kk : am_Wp fin d M n0 n1 h0 Q (pc + 1) ls (.inl (stB k i) :: st) n h) : am_Wp fin d M n0 n1 h0 Q pc ls (.inl i :: .inr (.inr (-2 - 2 * (k : Int))) :: st) n h := by
  intro p l e s m args below meth c H locs ρ ρ0 cA cA0 D A lm X hg hl hs ho
  have hok : am_i32 i := am_ok_hd hs
  have hb : am_okV n (.inl (stB k i)) := am_ok32 _
  have K := kk p l e s m args below meth c H locs ρ ρ0 cA cA0 D A lm X hg hl (am_ok_cons hb (am_ok_tl (am_ok_tl hs))) ho
  simp only [List.map_cons, am_cv] at K ⊢
  rw [am_rf_neg (by omega) (by omega)]
  have hin : vp_in (Int32.ofInt i) ([am_bW.length, am_bS.length].getD k 0) := am_vin hi0 hi1 hok
  refine va_tb (v := .int (Int32.ofInt (stB k i))) X.1.1 X.1.2.1 (X.2.2.2.2.1.1.1 k hk).2.2.2 X.2.2.1 hin ?_ hd K
  rw [am_nat hok]
  unfold stB
  rw [Int32.ofInt_toInt]
theorem ar_compact {idx : Nat} (hd : decode M.2.1 pc = .ok (.getstatic idx, 3)) (hw : Cond.fieldLink M.1.cls idx "java/lang/String" "COMPACT_STRINGS" "Z" ∈ am_gw) (kk : am_Wp fin d M n0 n1 h0 Q (pc + 3) ls (.inl 1 :: st) n h) : am_Wp fin d M n0 n1 h0 Q pc ls st n h := by
  intro p l e s m args below meth c H locs ρ ρ0 cA cA0 D A lm X hg hl hs ho
  have K := kk p l e s m args below meth c H locs ρ ρ0 cA cA0 D A lm X hg hl (am_ok_cons (show am_okV n (.inl 1) from by show am_i32 1; unfold am_i32; omega) hs) ho
  exact va_gets X.1.1 X.1.2.1 X.2.2.2.2.1.2.2.2.1 X.2.2.1 X.1.2.2.2.2.1 (X.1.2.2.2.2.2.1 _ hw) (fun _ q => q) hd K
theorem ar_formatter {idx : Nat} (hd : decode M.2.1 pc = .ok (.getstatic idx, 3)) (hw : Cond.fieldLink M.1.cls idx "jdk/internal/util/Preconditions" "SIOOBE_FORMATTER" "Ljava/util/function/BiFunction;" ∈ am_gw) (kk : am_Wp fin d M n0 n1 h0 Q (pc + 3) ls (.inr (.inr (-9)) :: st) n h) : am_Wp fin d M n0 n1 h0 Q pc ls st n h := by
  intro p l e s m args below meth c H locs ρ ρ0 cA cA0 D A lm X hg hl hs ho
  have K := kk p l e s m args below meth c H locs ρ ρ0 cA cA0 D A lm X hg hl (am_ok_cons (show am_okV n (.inr (.inr (-9))) from by show (-9 : Int) ≤ (n : Int); omega) hs) ho
  exact va_gets X.1.1 X.1.2.1 X.2.2.2.2.1.2.2.2.2.1 X.2.2.1 X.1.2.2.2.2.1 (X.1.2.2.2.2.2.1 _ hw) (fun _ q => q) hd K
theorem ar_bret {x : Int} (hd : decode M.2.1 pc = .ok (.ireturn, 1)) (hr : M.2.2.2 = some .byte) (hn : n = n1) (hz : x = 0) (hq : Q x h) : am_Wp fin d M n0 n1 h0 Q pc ls [.inl x] n h := by
  intro p l e s m args below meth c H locs ρ ρ0 cA cA0 D A lm X hg hl hs ho
  subst hn
  have K := am_done X hg (r := x) (Q := Q) (by rw [hr]; exact am_ok_hd hs) hq
  rw [hr] at K ⊢
  exact W.zret X.1.1 X.1.2.1 (X.1.2.2.2.1.trans hr) (by rw [hz]; decide) K X.2.2.1.2.2 hd X.1.2.2.2.2.2.2.1
theorem ar_i2b {x : Int} (hd : decode M.2.1 pc = .ok (.i2b, 1)) (hx : 0 ≤ x ∧ x < 128) (k : am_Wp fin d M n0 n1 h0 Q (pc + 1) ls (.inl x :: st) n h) : am_Wp fin d M n0 n1 h0 Q pc ls (.inl x :: st) n h := by
  intro p l e s m args below meth c H locs ρ ρ0 cA cA0 D A lm X hg hl hs ho
  have e1 : (Int32.ofInt x).toInt8.toInt32 = Int32.ofInt x := by
    have : ∀ k : Fin 128, (Int32.ofInt ((k : Nat) : Int)).toInt8.toInt32 = Int32.ofInt ((k : Nat) : Int) := by decide +kernel
    have z := this ⟨x.toNat, by omega⟩
    simp only at z
    rw [show ((x.toNat : Nat) : Int) = x by omega] at z
    exact z
  exact lv_i2b X.1.1 X.1.2.1 hd (v := Int32.ofInt x) e1 (k p l e s m args below meth c H locs ρ ρ0 cA cA0 D A lm X hg hl hs ho)
theorem am_i2c_small {x : Int} (hx : 0 ≤ x ∧ x < 256) : am_i2c x = x := by
  have : ∀ k : Fin 256, am_i2c ((k : Nat) : Int) = ((k : Nat) : Int) := by decide +kernel
  have z := this ⟨x.toNat, by omega⟩
  simp only at z
  rw [show ((x.toNat : Nat) : Int) = x by omega] at z
  exact z
theorem ar_callVS {M2 : am_M} {as : List am_V} {idx n2 : Nat} {k : Nat} (hd : decode M.2.1 pc = .ok (.invokevirtual idx, 3)) (he : st0 = as.reverse ++ .inr (.inr (-1 - 2 * (k : Int))) :: st) (w1 : Cond.methodLink M.1.cls idx M2.1 ∈ am_gw) (w2 : Cond.instanceMethod M2.1 ∈ am_gw) (w3 : Cond.selects "java/lang/String" M2.1 M2.1 ∈ am_gw) (hk : k < 2) (w4 : Cond.initialized M2.1.cls ∈ am_gw) (w5 : Cond.code M2.1 M2.2.1 M2.2.2.1 M2.2.2.2 ∈ am_gw) (hm : M2.1.cls ≠ "java/lang/invoke/MethodHandle" ∧ M2.1.cls ≠ "java/lang/invoke/VarHandle" ∧ (parseMethodDescriptor M2.1.desc).map (fun d => d.parameters.length) = some as.length) (hL : M2.2.2.1 ≤ 60) (hst : am_cw st ≤ 8) (hn : n ≤ n2) (hn2 : n2 ≤ n1) (kk : am_Cl fin d M2 n n2 (.inr (.inr (-1 - 2 * (k : Int))) :: as) h (fun r h' => am_Wp fin (d + 1) M n0 n1 h0 Q (pc + 3) ls (am_pv M2.2.2.2 r ++ st) n2 h')) : am_Wp fin (d + 1) M n0 n1 h0 Q pc ls st0 n h := by
  intro p l e s m args below meth c H locs ρ ρ0 cA cA0 D A lm X hg hl hs ho
  subst he
  have hsa : ∀ v ∈ (.inr (.inr (-1 - 2 * (k : Int))) :: as : List am_V), am_okV n v := fun v hv => hs v (by simp at hv ⊢; rcases hv with hv | hv <;> simp [hv])
  have hss : ∀ v ∈ st, am_okV n v := fun v hv => hs v (by simp [hv])
  have g1 : am_rf ρ (-1 - 2 * (k : Int)) = some (ρ (-1 - 2 * (k : Int))) := am_rf_neg (by omega) (by omega)
  have hM := kk hsa l ρ cA D H.size
  have hP := am_pre X ((.inr (.inr (-1 - 2 * (k : Int))) :: as : List am_V).map (am_cv ρ))
  refine am_behind X hg hl hss ho hn hn2 (am_sz_mono hn) (am_sz_mono X.2.2.2.2.2.2.2.1) (a := (((.inr (.inr (-1 - 2 * (k : Int))) :: as : List am_V).map (am_cv ρ)).toArray)) (ret := M2.2.2.2) ?_
  simp only [List.map_cons, am_cv, g1] at hM hP ⊢
  refine va_runV (C := "java/lang/String") (As := as.map (am_cv ρ)) (rest := st.map (am_cv ρ)) ⟨X.1.1, X.1.2.1, X.1.2.2.1, X.1.2.2.2.2.1, X.1.2.2.2.2.2.1⟩ hM ⟨callB_of as.length X.1.2.2.2.2.2.1 (am_good X.1.2.2.2.2.2.1 w5) rfl rfl rfl (X.1.2.2.2.2.2.1 _ w4) (X.1.2.2.2.2.2.1 _ w1) hm ⟨by show 4 * (d + 1) + 1 ≤ 4 * (d + 1 + 1); omega, by show 8 + (M2.2.2.1 + 11) + 100 * (d + 1) ≤ 100 * (d + 1 + 1); omega⟩, X.1.2.2.2.2.2.1 _ w2, X.1.2.2.2.2.2.1 _ w3⟩ ?_ rfl (by simp) hl.1 (by simp [am_cv, g1, va_rf]) (lv_room (by rw [am_cw_ok]; exact hst)) hd ⟨?_, ?_⟩
  · exact ⟨hP.1, vk_recv X.2.2.2.2.1.1 hk X.2.2.1, hP.2⟩
  · show n - n0 + (n2 - n) ≤ n1 - n0
    have := X.2.2.2.2.2.2.2.1
    omega
  · show am_sz n - am_sz n0 + (am_sz n2 - am_sz n) ≤ am_sz n1 - am_sz n0
    have := am_sz_mono hn
    have := am_sz_mono hn2
    have := am_sz_mono X.2.2.2.2.2.2.2.1
    omega
end AM_STR
