/-! THE LAW: one call of a script on both sides -/
abbrev M_L : am_M := (yL_law, cL_law, 4, some .boolean)
theorem am_fin_on {d : Nat} {M : am_M} {n0 n1 : Nat} {h0 : am_H} {Q : Int → am_H → Prop} {pc : Nat} {ls : List (Option am_V)} {st : List am_V} {n : Nat} {h : am_H} (F : am_Fin n h) (K : am_Wp true d M n0 n1 h0 Q pc ls st n h) : am_Wp false d M n0 n1 h0 Q pc ls st n h := by
  intro p l e s m args below meth c H locs ρ ρ0 cA cA0 D A lm X hg hl hs ho
  obtain ⟨x1, x2, x3⟩ := X
  have K2 := K p l e s m args below meth c H locs ρ ρ0 cA cA0 D A lm ⟨x1, ⟨x2.1, x2.2.1, x2.2.2.1, x2.2.2.2.1, x2.2.2.2.2.1, fun _ => F⟩, x3⟩ hg hl hs ho
  intro T hT Y
  obtain ⟨t, a, o, g1, g2, ⟨⟨r, h2, ρ2, cA2, q1, q2, q3, q4, q5, q6, q7⟩, g5⟩, g6⟩ := K2 T hT Y
  exact ⟨t, a, o, g1, g2, ⟨⟨r, h2, ρ2, cA2, q1, q2, q3, q4, q5, q6, ⟨q7.1, q7.2.1, q7.2.2.1, q7.2.2.2.1, q7.2.2.2.2.1, fun q => by cases q⟩⟩, g5⟩, g6⟩
section AM_SCR
variable {fin : Bool} {d : Nat} {M : am_M} {n0 n1 : Nat} {h0 : am_H} {Q : Int → am_H → Prop} {pc : Nat} {ls : List (Option am_V)} {st : List am_V} {n : Nat} {h : am_H}
theorem am_scr_lt {ρ : Int → Nat} {L : Nat} {xs : Nat → Int32} {s : State} {H : Heap} (hX : va_X (ρ (-5)) L xs s H) : ρ (-5) < H.size := by
  obtain ⟨scr, g1, -⟩ := hX
  exact (Array.getElem?_eq_some_iff.mp g1).1
theorem ar_sald {i : Int} (hd : decode M.2.1 pc = .ok (.iaload, 1)) (hi0 : 0 ≤ i) (hi1 : i < h0 (-6) 0) (kk : am_Wp fin d M n0 n1 h0 Q (pc + 1) ls (.inl (h0 (-5) i) :: st) n h) : am_Wp fin d M n0 n1 h0 Q pc ls (.inl i :: .inr (.inr (-5)) :: st) n h := by
  intro p l e s m args below meth c H locs ρ ρ0 cA cA0 D A lm X hg hl hs ho
  have S := X.2.2.2.2.1
  have hok : am_i32 i := am_ok_hd hs
  have e5 : ∀ j : Int, h (-5) j = h0 (-5) j := fun j => hg _ _ (by omega)
  have e6 : h (-6) 0 = h0 (-6) 0 := hg _ _ (by omega)
  have K := kk p l e s m args below meth c H locs ρ ρ0 cA cA0 D A lm X hg hl (am_ok_cons (show am_okV n (.inl (h0 (-5) i)) from by rw [← e5]; exact S.2.2.2.2.2.2.2.2.2.2 i) (am_ok_tl (am_ok_tl hs))) ho
  simp only [List.map_cons, am_cv] at K ⊢
  rw [am_rf_neg (by omega) (by omega)]
  have hin : vp_in (Int32.ofInt i) (h (-6) 0).toNat := am_vin hi0 (by omega) hok
  refine va_sld X.1.1 X.1.2.1 S.2.2.2.2.2.2.1 (am_scr_lt S.2.2.2.2.2.2.1) S.2.2.2.2.2.2.2.1 X.2.2.1 hin hd ?_
  rw [am_nat hok, show ((i.toNat : Nat) : Int) = i by omega, e5]
  exact K
theorem ar_slen0 (hd : decode M.2.1 pc = .ok (.arraylength, 1)) (kk : 0 ≤ h0 (-6) 0 → h0 (-6) 0 ≤ 3072 → am_Wp fin d M n0 n1 h0 Q (pc + 1) ls (.inl (h0 (-6) 0) :: st) n h) : am_Wp fin d M n0 n1 h0 Q pc ls (.inr (.inr (-5)) :: st) n h := by
  intro p l e s m args below meth c H locs ρ ρ0 cA cA0 D A lm X hg hl hs ho
  have S := X.2.2.2.2.1
  have e6 : h (-6) 0 = h0 (-6) 0 := hg _ _ (by omega)
  have b0 := S.2.2.2.2.2.2.2.2.1
  have b1 := S.2.2.2.2.2.2.2.2.2.1
  rw [e6] at b0 b1
  have K := kk b0 b1 p l e s m args below meth c H locs ρ ρ0 cA cA0 D A lm X hg hl (am_ok_cons (show am_okV n (.inl (h0 (-6) 0)) from by show am_i32 _; unfold am_i32; omega) (am_ok_tl hs)) ho
  simp only [List.map_cons, am_cv] at K ⊢
  rw [am_rf_neg (by omega) (by omega)]
  refine va_slen X.1.1 X.1.2.1 S.2.2.2.2.2.2.1 (am_scr_lt S.2.2.2.2.2.2.1) S.2.2.2.2.2.2.2.1 X.2.2.1 hd ?_
  have e7 : Int32.ofNat (h (-6) 0).toNat = Int32.ofInt (h0 (-6) 0) := by
    rw [← Int32.ofInt_eq_ofNat, e6, show (((h0 (-6) 0).toNat : Nat) : Int) = h0 (-6) 0 by omega]
  rw [e7]
  exact K
theorem lw_arg {i a1 a2 : Int} {k : Nat} (d0 : decode cL_law pc = .ok (.aload_n 0, 1)) (d1 : decode cL_law (pc + 1) = .ok (.iload_n 3, 1)) (d2 : decode cL_law (pc + 1 + 1) = .ok (.iconst (k : Int), 1)) (d3 : decode cL_law (pc + 1 + 1 + 1) = .ok (.iadd, 1)) (d4 : decode cL_law (pc + 1 + 1 + 1 + 1) = .ok (.iaload, 1)) (i0 : 0 ≤ i) (k6 : k < 6) (i1 : i + 6 ≤ h0 (-6) 0) (i2 : h0 (-6) 0 ≤ 3072) (_ : 0 ≤ k) (kk : am_Wp fin d M_L n0 n1 h0 Q (pc + 1 + 1 + 1 + 1 + 1) [some (.inr (.inr (-5))), some (.inr (.inr a1)), some (.inr (.inr a2)), some (.inl i)] (.inl (h0 (-5) (i + (k : Int))) :: st) n h) : am_Wp fin d M_L n0 n1 h0 Q pc [some (.inr (.inr (-5))), some (.inr (.inr a1)), some (.inr (.inr a2)), some (.inl i)] st n h := by
  refine ar_aload_n (i := 0) (k0 := 0) d0 rfl rfl ?_
  refine ar_iload_n (i := 3) (k0 := 3) d1 rfl rfl ?_
  refine ar_iconst d2 (by unfold am_i32; omega) ?_
  refine ar_iadd d3 ?_
  rw [w32e (z := i + (k : Int)) (by omega) (by omega)]
  exact ar_sald d4 (by omega) (by omega) kk
end AM_SCR
theorem wL_13 : Cond.methodLink "ByteIntervalsLaw" 13 yX6_feed ∈ am_gw := List.mem_filter.mpr ⟨List.mem_of_getElem? (i := 576) (by decide +kernel), rfl⟩
theorem wiL_yX6_feed : Cond.instanceMethod yX6_feed ∈ am_gw := List.mem_filter.mpr ⟨List.mem_of_getElem? (i := 577) (by decide +kernel), rfl⟩
theorem wcL_yX6_feed : Cond.code M_X6_feed.1 M_X6_feed.2.1 M_X6_feed.2.2.1 M_X6_feed.2.2.2 ∈ am_gw := List.mem_filter.mpr ⟨List.mem_of_getElem? (i := 579) (by decide +kernel), rfl⟩
theorem wlL_yX6_feed : Cond.selects "ByteIntervals" yX6_feed yX6_feed ∈ am_gw := List.mem_filter.mpr ⟨List.mem_of_getElem? (i := 578) (by decide +kernel), rfl⟩
theorem wL_17 : Cond.methodLink "ByteIntervalsLaw" 17 yX7_feed ∈ am_gw := List.mem_filter.mpr ⟨List.mem_of_getElem? (i := 1456) (by decide +kernel), rfl⟩
theorem wiL_yX7_feed : Cond.instanceMethod yX7_feed ∈ am_gw := List.mem_filter.mpr ⟨List.mem_of_getElem? (i := 1457) (by decide +kernel), rfl⟩
theorem wcL_yX7_feed : Cond.code M_X7_feed.1 M_X7_feed.2.1 M_X7_feed.2.2.1 M_X7_feed.2.2.2 ∈ am_gw := List.mem_filter.mpr ⟨List.mem_of_getElem? (i := 1459) (by decide +kernel), rfl⟩
theorem wlL_yX7_feed : Cond.selects "ByteIntervalsModel" yX7_feed yX7_feed ∈ am_gw := List.mem_filter.mpr ⟨List.mem_of_getElem? (i := 1458) (by decide +kernel), rfl⟩
theorem wL_18 : Cond.methodLink "ByteIntervalsLaw" 18 yX6_end ∈ am_gw := List.mem_filter.mpr ⟨List.mem_of_getElem? (i := 584) (by decide +kernel), rfl⟩
theorem wiL_yX6_end : Cond.instanceMethod yX6_end ∈ am_gw := List.mem_filter.mpr ⟨List.mem_of_getElem? (i := 585) (by decide +kernel), rfl⟩
theorem wcL_yX6_end : Cond.code M_X6_end.1 M_X6_end.2.1 M_X6_end.2.2.1 M_X6_end.2.2.2 ∈ am_gw := List.mem_filter.mpr ⟨List.mem_of_getElem? (i := 587) (by decide +kernel), rfl⟩
theorem wlL_yX6_end : Cond.selects "ByteIntervals" yX6_end yX6_end ∈ am_gw := List.mem_filter.mpr ⟨List.mem_of_getElem? (i := 586) (by decide +kernel), rfl⟩
theorem wL_22 : Cond.methodLink "ByteIntervalsLaw" 22 yX7_end ∈ am_gw := List.mem_filter.mpr ⟨List.mem_of_getElem? (i := 1464) (by decide +kernel), rfl⟩
theorem wiL_yX7_end : Cond.instanceMethod yX7_end ∈ am_gw := List.mem_filter.mpr ⟨List.mem_of_getElem? (i := 1465) (by decide +kernel), rfl⟩
theorem wcL_yX7_end : Cond.code M_X7_end.1 M_X7_end.2.1 M_X7_end.2.2.1 M_X7_end.2.2.2 ∈ am_gw := List.mem_filter.mpr ⟨List.mem_of_getElem? (i := 1467) (by decide +kernel), rfl⟩
theorem wlL_yX7_end : Cond.selects "ByteIntervalsModel" yX7_end yX7_end ∈ am_gw := List.mem_filter.mpr ⟨List.mem_of_getElem? (i := 1466) (by decide +kernel), rfl⟩
theorem wL_23 : Cond.methodLink "ByteIntervalsLaw" 23 yX6_text ∈ am_gw := List.mem_filter.mpr ⟨List.mem_of_getElem? (i := 588) (by decide +kernel), rfl⟩
theorem wiL_yX6_text : Cond.instanceMethod yX6_text ∈ am_gw := List.mem_filter.mpr ⟨List.mem_of_getElem? (i := 589) (by decide +kernel), rfl⟩
theorem wcL_yX6_text : Cond.code M_X6_text.1 M_X6_text.2.1 M_X6_text.2.2.1 M_X6_text.2.2.2 ∈ am_gw := List.mem_filter.mpr ⟨List.mem_of_getElem? (i := 591) (by decide +kernel), rfl⟩
theorem wlL_yX6_text : Cond.selects "ByteIntervals" yX6_text yX6_text ∈ am_gw := List.mem_filter.mpr ⟨List.mem_of_getElem? (i := 590) (by decide +kernel), rfl⟩
theorem wL_27 : Cond.methodLink "ByteIntervalsLaw" 27 yX7_text ∈ am_gw := List.mem_filter.mpr ⟨List.mem_of_getElem? (i := 1471) (by decide +kernel), rfl⟩
theorem wiL_yX7_text : Cond.instanceMethod yX7_text ∈ am_gw := List.mem_filter.mpr ⟨List.mem_of_getElem? (i := 1472) (by decide +kernel), rfl⟩
theorem wcL_yX7_text : Cond.code M_X7_text.1 M_X7_text.2.1 M_X7_text.2.2.1 M_X7_text.2.2.2 ∈ am_gw := List.mem_filter.mpr ⟨List.mem_of_getElem? (i := 1474) (by decide +kernel), rfl⟩
theorem wlL_yX7_text : Cond.selects "ByteIntervalsModel" yX7_text yX7_text ∈ am_gw := List.mem_filter.mpr ⟨List.mem_of_getElem? (i := 1473) (by decide +kernel), rfl⟩
theorem wL_28 : Cond.methodLink "ByteIntervalsLaw" 28 yX6_fault ∈ am_gw := List.mem_filter.mpr ⟨List.mem_of_getElem? (i := 844) (by decide +kernel), rfl⟩
theorem wiL_yX6_fault : Cond.instanceMethod yX6_fault ∈ am_gw := List.mem_filter.mpr ⟨List.mem_of_getElem? (i := 845) (by decide +kernel), rfl⟩
theorem wcL_yX6_fault : Cond.code M_X6_fault.1 M_X6_fault.2.1 M_X6_fault.2.2.1 M_X6_fault.2.2.2 ∈ am_gw := List.mem_filter.mpr ⟨List.mem_of_getElem? (i := 847) (by decide +kernel), rfl⟩
theorem wlL_yX6_fault : Cond.selects "ByteIntervals" yX6_fault yX6_fault ∈ am_gw := List.mem_filter.mpr ⟨List.mem_of_getElem? (i := 846) (by decide +kernel), rfl⟩
theorem wL_31 : Cond.methodLink "ByteIntervalsLaw" 31 yX7_fault ∈ am_gw := List.mem_filter.mpr ⟨List.mem_of_getElem? (i := 1627) (by decide +kernel), rfl⟩
theorem wiL_yX7_fault : Cond.instanceMethod yX7_fault ∈ am_gw := List.mem_filter.mpr ⟨List.mem_of_getElem? (i := 1628) (by decide +kernel), rfl⟩
theorem wcL_yX7_fault : Cond.code M_X7_fault.1 M_X7_fault.2.1 M_X7_fault.2.2.1 M_X7_fault.2.2.2 ∈ am_gw := List.mem_filter.mpr ⟨List.mem_of_getElem? (i := 1630) (by decide +kernel), rfl⟩
theorem wlL_yX7_fault : Cond.selects "ByteIntervalsModel" yX7_fault yX7_fault ∈ am_gw := List.mem_filter.mpr ⟨List.mem_of_getElem? (i := 1629) (by decide +kernel), rfl⟩
theorem wL_32 : Cond.methodLink "ByteIntervalsLaw" 32 yX6_by ∈ am_gw := List.mem_filter.mpr ⟨List.mem_of_getElem? (i := 848) (by decide +kernel), rfl⟩
theorem wiL_yX6_by : Cond.instanceMethod yX6_by ∈ am_gw := List.mem_filter.mpr ⟨List.mem_of_getElem? (i := 849) (by decide +kernel), rfl⟩
theorem wcL_yX6_by : Cond.code M_X6_by.1 M_X6_by.2.1 M_X6_by.2.2.1 M_X6_by.2.2.2 ∈ am_gw := List.mem_filter.mpr ⟨List.mem_of_getElem? (i := 851) (by decide +kernel), rfl⟩
theorem wlL_yX6_by : Cond.selects "ByteIntervals" yX6_by yX6_by ∈ am_gw := List.mem_filter.mpr ⟨List.mem_of_getElem? (i := 850) (by decide +kernel), rfl⟩
theorem wL_36 : Cond.methodLink "ByteIntervalsLaw" 36 yX7_by ∈ am_gw := List.mem_filter.mpr ⟨List.mem_of_getElem? (i := 1631) (by decide +kernel), rfl⟩
theorem wiL_yX7_by : Cond.instanceMethod yX7_by ∈ am_gw := List.mem_filter.mpr ⟨List.mem_of_getElem? (i := 1632) (by decide +kernel), rfl⟩
theorem wcL_yX7_by : Cond.code M_X7_by.1 M_X7_by.2.1 M_X7_by.2.2.1 M_X7_by.2.2.2 ∈ am_gw := List.mem_filter.mpr ⟨List.mem_of_getElem? (i := 1634) (by decide +kernel), rfl⟩
theorem wlL_yX7_by : Cond.selects "ByteIntervalsModel" yX7_by yX7_by ∈ am_gw := List.mem_filter.mpr ⟨List.mem_of_getElem? (i := 1633) (by decide +kernel), rfl⟩
theorem wL_37 : Cond.methodLink "ByteIntervalsLaw" 37 yX6_set ∈ am_gw := List.mem_filter.mpr ⟨List.mem_of_getElem? (i := 856) (by decide +kernel), rfl⟩
theorem wL_41 : Cond.methodLink "ByteIntervalsLaw" 41 yX7_set ∈ am_gw := List.mem_filter.mpr ⟨List.mem_of_getElem? (i := 1639) (by decide +kernel), rfl⟩
theorem wL_42 : Cond.methodLink "ByteIntervalsLaw" 42 yX6_size ∈ am_gw := List.mem_filter.mpr ⟨List.mem_of_getElem? (i := 893) (by decide +kernel), rfl⟩
theorem wL_45 : Cond.methodLink "ByteIntervalsLaw" 45 yX7_size ∈ am_gw := List.mem_filter.mpr ⟨List.mem_of_getElem? (i := 1663) (by decide +kernel), rfl⟩
theorem wL_46 : Cond.methodLink "ByteIntervalsLaw" 46 yX6_mend ∈ am_gw := List.mem_filter.mpr ⟨List.mem_of_getElem? (i := 906) (by decide +kernel), rfl⟩
theorem wL_49 : Cond.methodLink "ByteIntervalsLaw" 49 yX7_mend ∈ am_gw := List.mem_filter.mpr ⟨List.mem_of_getElem? (i := 1679) (by decide +kernel), rfl⟩
theorem wL_50 : Cond.methodLink "ByteIntervalsLaw" 50 yX6_day ∈ am_gw := List.mem_filter.mpr ⟨List.mem_of_getElem? (i := 1019) (by decide +kernel), rfl⟩
theorem wiL_yX6_day : Cond.instanceMethod yX6_day ∈ am_gw := List.mem_filter.mpr ⟨List.mem_of_getElem? (i := 1020) (by decide +kernel), rfl⟩
theorem wcL_yX6_day : Cond.code M_X6_day.1 M_X6_day.2.1 M_X6_day.2.2.1 M_X6_day.2.2.2 ∈ am_gw := List.mem_filter.mpr ⟨List.mem_of_getElem? (i := 1022) (by decide +kernel), rfl⟩
theorem wlL_yX6_day : Cond.selects "ByteIntervals" yX6_day yX6_day ∈ am_gw := List.mem_filter.mpr ⟨List.mem_of_getElem? (i := 1021) (by decide +kernel), rfl⟩
theorem wL_53 : Cond.methodLink "ByteIntervalsLaw" 53 yX7_day ∈ am_gw := List.mem_filter.mpr ⟨List.mem_of_getElem? (i := 1814) (by decide +kernel), rfl⟩
theorem wiL_yX7_day : Cond.instanceMethod yX7_day ∈ am_gw := List.mem_filter.mpr ⟨List.mem_of_getElem? (i := 1815) (by decide +kernel), rfl⟩
theorem wcL_yX7_day : Cond.code M_X7_day.1 M_X7_day.2.1 M_X7_day.2.2.1 M_X7_day.2.2.2 ∈ am_gw := List.mem_filter.mpr ⟨List.mem_of_getElem? (i := 1817) (by decide +kernel), rfl⟩
theorem wlL_yX7_day : Cond.selects "ByteIntervalsModel" yX7_day yX7_day ∈ am_gw := List.mem_filter.mpr ⟨List.mem_of_getElem? (i := 1816) (by decide +kernel), rfl⟩
theorem wL_54 : Cond.methodLink "ByteIntervalsLaw" 54 yX6_played ∈ am_gw := List.mem_filter.mpr ⟨List.mem_of_getElem? (i := 1048) (by decide +kernel), rfl⟩
theorem wiL_yX6_played : Cond.instanceMethod yX6_played ∈ am_gw := List.mem_filter.mpr ⟨List.mem_of_getElem? (i := 1049) (by decide +kernel), rfl⟩
theorem wcL_yX6_played : Cond.code M_X6_played.1 M_X6_played.2.1 M_X6_played.2.2.1 M_X6_played.2.2.2 ∈ am_gw := List.mem_filter.mpr ⟨List.mem_of_getElem? (i := 1051) (by decide +kernel), rfl⟩
theorem wlL_yX6_played : Cond.selects "ByteIntervals" yX6_played yX6_played ∈ am_gw := List.mem_filter.mpr ⟨List.mem_of_getElem? (i := 1050) (by decide +kernel), rfl⟩
theorem wL_57 : Cond.methodLink "ByteIntervalsLaw" 57 yX7_played ∈ am_gw := List.mem_filter.mpr ⟨List.mem_of_getElem? (i := 1844) (by decide +kernel), rfl⟩
theorem wiL_yX7_played : Cond.instanceMethod yX7_played ∈ am_gw := List.mem_filter.mpr ⟨List.mem_of_getElem? (i := 1845) (by decide +kernel), rfl⟩
theorem wcL_yX7_played : Cond.code M_X7_played.1 M_X7_played.2.1 M_X7_played.2.2.1 M_X7_played.2.2.2 ∈ am_gw := List.mem_filter.mpr ⟨List.mem_of_getElem? (i := 1847) (by decide +kernel), rfl⟩
theorem wlL_yX7_played : Cond.selects "ByteIntervalsModel" yX7_played yX7_played ∈ am_gw := List.mem_filter.mpr ⟨List.mem_of_getElem? (i := 1846) (by decide +kernel), rfl⟩
theorem wL_58 : Cond.methodLink "ByteIntervalsLaw" 58 yX6_years ∈ am_gw := List.mem_filter.mpr ⟨List.mem_of_getElem? (i := 1056) (by decide +kernel), rfl⟩
theorem wiL_yX6_years : Cond.instanceMethod yX6_years ∈ am_gw := List.mem_filter.mpr ⟨List.mem_of_getElem? (i := 1057) (by decide +kernel), rfl⟩
theorem wcL_yX6_years : Cond.code M_X6_years.1 M_X6_years.2.1 M_X6_years.2.2.1 M_X6_years.2.2.2 ∈ am_gw := List.mem_filter.mpr ⟨List.mem_of_getElem? (i := 1059) (by decide +kernel), rfl⟩
theorem wlL_yX6_years : Cond.selects "ByteIntervals" yX6_years yX6_years ∈ am_gw := List.mem_filter.mpr ⟨List.mem_of_getElem? (i := 1058) (by decide +kernel), rfl⟩
theorem wL_62 : Cond.methodLink "ByteIntervalsLaw" 62 yX7_years ∈ am_gw := List.mem_filter.mpr ⟨List.mem_of_getElem? (i := 1859) (by decide +kernel), rfl⟩
theorem wiL_yX7_years : Cond.instanceMethod yX7_years ∈ am_gw := List.mem_filter.mpr ⟨List.mem_of_getElem? (i := 1860) (by decide +kernel), rfl⟩
theorem wcL_yX7_years : Cond.code M_X7_years.1 M_X7_years.2.1 M_X7_years.2.2.1 M_X7_years.2.2.2 ∈ am_gw := List.mem_filter.mpr ⟨List.mem_of_getElem? (i := 1862) (by decide +kernel), rfl⟩
theorem wlL_yX7_years : Cond.selects "ByteIntervalsModel" yX7_years yX7_years ∈ am_gw := List.mem_filter.mpr ⟨List.mem_of_getElem? (i := 1861) (by decide +kernel), rfl⟩
theorem wL_63 : Cond.methodLink "ByteIntervalsLaw" 63 yX6_undo ∈ am_gw := List.mem_filter.mpr ⟨List.mem_of_getElem? (i := 1065) (by decide +kernel), rfl⟩
theorem wiL_yX6_undo : Cond.instanceMethod yX6_undo ∈ am_gw := List.mem_filter.mpr ⟨List.mem_of_getElem? (i := 1066) (by decide +kernel), rfl⟩
theorem wcL_yX6_undo : Cond.code M_X6_undo.1 M_X6_undo.2.1 M_X6_undo.2.2.1 M_X6_undo.2.2.2 ∈ am_gw := List.mem_filter.mpr ⟨List.mem_of_getElem? (i := 1068) (by decide +kernel), rfl⟩
theorem wlL_yX6_undo : Cond.selects "ByteIntervals" yX6_undo yX6_undo ∈ am_gw := List.mem_filter.mpr ⟨List.mem_of_getElem? (i := 1067) (by decide +kernel), rfl⟩
theorem wL_66 : Cond.methodLink "ByteIntervalsLaw" 66 yX7_undo ∈ am_gw := List.mem_filter.mpr ⟨List.mem_of_getElem? (i := 1635) (by decide +kernel), rfl⟩
theorem wiL_yX7_undo : Cond.instanceMethod yX7_undo ∈ am_gw := List.mem_filter.mpr ⟨List.mem_of_getElem? (i := 1636) (by decide +kernel), rfl⟩
theorem wcL_yX7_undo : Cond.code M_X7_undo.1 M_X7_undo.2.1 M_X7_undo.2.2.1 M_X7_undo.2.2.2 ∈ am_gw := List.mem_filter.mpr ⟨List.mem_of_getElem? (i := 1638) (by decide +kernel), rfl⟩
theorem wlL_yX7_undo : Cond.selects "ByteIntervalsModel" yX7_undo yX7_undo ∈ am_gw := List.mem_filter.mpr ⟨List.mem_of_getElem? (i := 1637) (by decide +kernel), rfl⟩
theorem wL_67 : Cond.methodLink "ByteIntervalsLaw" 67 yX6_at ∈ am_gw := List.mem_filter.mpr ⟨List.mem_of_getElem? (i := 1073) (by decide +kernel), rfl⟩
theorem wiL_yX6_at : Cond.instanceMethod yX6_at ∈ am_gw := List.mem_filter.mpr ⟨List.mem_of_getElem? (i := 1074) (by decide +kernel), rfl⟩
theorem wcL_yX6_at : Cond.code M_X6_at.1 M_X6_at.2.1 M_X6_at.2.2.1 M_X6_at.2.2.2 ∈ am_gw := List.mem_filter.mpr ⟨List.mem_of_getElem? (i := 1076) (by decide +kernel), rfl⟩
theorem wlL_yX6_at : Cond.selects "ByteIntervals" yX6_at yX6_at ∈ am_gw := List.mem_filter.mpr ⟨List.mem_of_getElem? (i := 1075) (by decide +kernel), rfl⟩
theorem wL_70 : Cond.methodLink "ByteIntervalsLaw" 70 yX7_at ∈ am_gw := List.mem_filter.mpr ⟨List.mem_of_getElem? (i := 1867) (by decide +kernel), rfl⟩
theorem wiL_yX7_at : Cond.instanceMethod yX7_at ∈ am_gw := List.mem_filter.mpr ⟨List.mem_of_getElem? (i := 1868) (by decide +kernel), rfl⟩
theorem wcL_yX7_at : Cond.code M_X7_at.1 M_X7_at.2.1 M_X7_at.2.2.1 M_X7_at.2.2.2 ∈ am_gw := List.mem_filter.mpr ⟨List.mem_of_getElem? (i := 1870) (by decide +kernel), rfl⟩
theorem wlL_yX7_at : Cond.selects "ByteIntervalsModel" yX7_at yX7_at ∈ am_gw := List.mem_filter.mpr ⟨List.mem_of_getElem? (i := 1869) (by decide +kernel), rfl⟩
theorem wL_71 : Cond.methodLink "ByteIntervalsLaw" 71 yX6_is ∈ am_gw := List.mem_filter.mpr ⟨List.mem_of_getElem? (i := 1077) (by decide +kernel), rfl⟩
theorem wiL_yX6_is : Cond.instanceMethod yX6_is ∈ am_gw := List.mem_filter.mpr ⟨List.mem_of_getElem? (i := 1078) (by decide +kernel), rfl⟩
theorem wcL_yX6_is : Cond.code M_X6_is.1 M_X6_is.2.1 M_X6_is.2.2.1 M_X6_is.2.2.2 ∈ am_gw := List.mem_filter.mpr ⟨List.mem_of_getElem? (i := 1080) (by decide +kernel), rfl⟩
theorem wlL_yX6_is : Cond.selects "ByteIntervals" yX6_is yX6_is ∈ am_gw := List.mem_filter.mpr ⟨List.mem_of_getElem? (i := 1079) (by decide +kernel), rfl⟩
theorem wL_74 : Cond.methodLink "ByteIntervalsLaw" 74 yX7_is ∈ am_gw := List.mem_filter.mpr ⟨List.mem_of_getElem? (i := 1871) (by decide +kernel), rfl⟩
theorem wiL_yX7_is : Cond.instanceMethod yX7_is ∈ am_gw := List.mem_filter.mpr ⟨List.mem_of_getElem? (i := 1872) (by decide +kernel), rfl⟩
theorem wcL_yX7_is : Cond.code M_X7_is.1 M_X7_is.2.1 M_X7_is.2.2.1 M_X7_is.2.2.2 ∈ am_gw := List.mem_filter.mpr ⟨List.mem_of_getElem? (i := 1874) (by decide +kernel), rfl⟩
theorem wlL_yX7_is : Cond.selects "ByteIntervalsModel" yX7_is yX7_is ∈ am_gw := List.mem_filter.mpr ⟨List.mem_of_getElem? (i := 1873) (by decide +kernel), rfl⟩
theorem wL_75 : Cond.methodLink "ByteIntervalsLaw" 75 yX6_book ∈ am_gw := List.mem_filter.mpr ⟨List.mem_of_getElem? (i := 1085) (by decide +kernel), rfl⟩
theorem wiL_yX6_book : Cond.instanceMethod yX6_book ∈ am_gw := List.mem_filter.mpr ⟨List.mem_of_getElem? (i := 1086) (by decide +kernel), rfl⟩
theorem wcL_yX6_book : Cond.code M_X6_book.1 M_X6_book.2.1 M_X6_book.2.2.1 M_X6_book.2.2.2 ∈ am_gw := List.mem_filter.mpr ⟨List.mem_of_getElem? (i := 1088) (by decide +kernel), rfl⟩
theorem wlL_yX6_book : Cond.selects "ByteIntervals" yX6_book yX6_book ∈ am_gw := List.mem_filter.mpr ⟨List.mem_of_getElem? (i := 1087) (by decide +kernel), rfl⟩
theorem wL_78 : Cond.methodLink "ByteIntervalsLaw" 78 yX7_book ∈ am_gw := List.mem_filter.mpr ⟨List.mem_of_getElem? (i := 1875) (by decide +kernel), rfl⟩
theorem wiL_yX7_book : Cond.instanceMethod yX7_book ∈ am_gw := List.mem_filter.mpr ⟨List.mem_of_getElem? (i := 1876) (by decide +kernel), rfl⟩
theorem wcL_yX7_book : Cond.code M_X7_book.1 M_X7_book.2.1 M_X7_book.2.2.1 M_X7_book.2.2.2 ∈ am_gw := List.mem_filter.mpr ⟨List.mem_of_getElem? (i := 1878) (by decide +kernel), rfl⟩
theorem wlL_yX7_book : Cond.selects "ByteIntervalsModel" yX7_book yX7_book ∈ am_gw := List.mem_filter.mpr ⟨List.mem_of_getElem? (i := 1877) (by decide +kernel), rfl⟩
theorem wL_79 : Cond.methodLink "ByteIntervalsLaw" 79 yX6_foretold ∈ am_gw := List.mem_filter.mpr ⟨List.mem_of_getElem? (i := 1092) (by decide +kernel), rfl⟩
theorem wiL_yX6_foretold : Cond.instanceMethod yX6_foretold ∈ am_gw := List.mem_filter.mpr ⟨List.mem_of_getElem? (i := 1093) (by decide +kernel), rfl⟩
theorem wcL_yX6_foretold : Cond.code M_X6_foretold.1 M_X6_foretold.2.1 M_X6_foretold.2.2.1 M_X6_foretold.2.2.2 ∈ am_gw := List.mem_filter.mpr ⟨List.mem_of_getElem? (i := 1095) (by decide +kernel), rfl⟩
theorem wlL_yX6_foretold : Cond.selects "ByteIntervals" yX6_foretold yX6_foretold ∈ am_gw := List.mem_filter.mpr ⟨List.mem_of_getElem? (i := 1094) (by decide +kernel), rfl⟩
theorem wL_82 : Cond.methodLink "ByteIntervalsLaw" 82 yX7_foretold ∈ am_gw := List.mem_filter.mpr ⟨List.mem_of_getElem? (i := 1888) (by decide +kernel), rfl⟩
theorem wiL_yX7_foretold : Cond.instanceMethod yX7_foretold ∈ am_gw := List.mem_filter.mpr ⟨List.mem_of_getElem? (i := 1889) (by decide +kernel), rfl⟩
theorem wcL_yX7_foretold : Cond.code M_X7_foretold.1 M_X7_foretold.2.1 M_X7_foretold.2.2.1 M_X7_foretold.2.2.2 ∈ am_gw := List.mem_filter.mpr ⟨List.mem_of_getElem? (i := 1891) (by decide +kernel), rfl⟩
theorem wlL_yX7_foretold : Cond.selects "ByteIntervalsModel" yX7_foretold yX7_foretold ∈ am_gw := List.mem_filter.mpr ⟨List.mem_of_getElem? (i := 1890) (by decide +kernel), rfl⟩
theorem wL_83 : Cond.methodLink "ByteIntervalsLaw" 83 yX6_valid ∈ am_gw := List.mem_filter.mpr ⟨List.mem_of_getElem? (i := 1122) (by decide +kernel), rfl⟩
theorem wiL_yX6_valid : Cond.instanceMethod yX6_valid ∈ am_gw := List.mem_filter.mpr ⟨List.mem_of_getElem? (i := 1123) (by decide +kernel), rfl⟩
theorem wcL_yX6_valid : Cond.code M_X6_valid.1 M_X6_valid.2.1 M_X6_valid.2.2.1 M_X6_valid.2.2.2 ∈ am_gw := List.mem_filter.mpr ⟨List.mem_of_getElem? (i := 1125) (by decide +kernel), rfl⟩
theorem wlL_yX6_valid : Cond.selects "ByteIntervals" yX6_valid yX6_valid ∈ am_gw := List.mem_filter.mpr ⟨List.mem_of_getElem? (i := 1124) (by decide +kernel), rfl⟩
theorem wL_86 : Cond.methodLink "ByteIntervalsLaw" 86 yX7_valid ∈ am_gw := List.mem_filter.mpr ⟨List.mem_of_getElem? (i := 1892) (by decide +kernel), rfl⟩
theorem wiL_yX7_valid : Cond.instanceMethod yX7_valid ∈ am_gw := List.mem_filter.mpr ⟨List.mem_of_getElem? (i := 1893) (by decide +kernel), rfl⟩
theorem wcL_yX7_valid : Cond.code M_X7_valid.1 M_X7_valid.2.1 M_X7_valid.2.2.1 M_X7_valid.2.2.2 ∈ am_gw := List.mem_filter.mpr ⟨List.mem_of_getElem? (i := 1895) (by decide +kernel), rfl⟩
theorem wlL_yX7_valid : Cond.selects "ByteIntervalsModel" yX7_valid yX7_valid ∈ am_gw := List.mem_filter.mpr ⟨List.mem_of_getElem? (i := 1894) (by decide +kernel), rfl⟩
theorem wL_87 : Cond.methodLink "ByteIntervalsLaw" 87 yX6_field ∈ am_gw := List.mem_filter.mpr ⟨List.mem_of_getElem? (i := 1130) (by decide +kernel), rfl⟩
theorem wiL_yX6_field : Cond.instanceMethod yX6_field ∈ am_gw := List.mem_filter.mpr ⟨List.mem_of_getElem? (i := 1131) (by decide +kernel), rfl⟩
theorem wcL_yX6_field : Cond.code M_X6_field.1 M_X6_field.2.1 M_X6_field.2.2.1 M_X6_field.2.2.2 ∈ am_gw := List.mem_filter.mpr ⟨List.mem_of_getElem? (i := 1133) (by decide +kernel), rfl⟩
theorem wlL_yX6_field : Cond.selects "ByteIntervals" yX6_field yX6_field ∈ am_gw := List.mem_filter.mpr ⟨List.mem_of_getElem? (i := 1132) (by decide +kernel), rfl⟩
theorem wL_91 : Cond.methodLink "ByteIntervalsLaw" 91 yX7_field ∈ am_gw := List.mem_filter.mpr ⟨List.mem_of_getElem? (i := 1904) (by decide +kernel), rfl⟩
theorem wiL_yX7_field : Cond.instanceMethod yX7_field ∈ am_gw := List.mem_filter.mpr ⟨List.mem_of_getElem? (i := 1905) (by decide +kernel), rfl⟩
theorem wcL_yX7_field : Cond.code M_X7_field.1 M_X7_field.2.1 M_X7_field.2.2.1 M_X7_field.2.2.2 ∈ am_gw := List.mem_filter.mpr ⟨List.mem_of_getElem? (i := 1907) (by decide +kernel), rfl⟩
theorem wlL_yX7_field : Cond.selects "ByteIntervalsModel" yX7_field yX7_field ∈ am_gw := List.mem_filter.mpr ⟨List.mem_of_getElem? (i := 1906) (by decide +kernel), rfl⟩
theorem wL_92 : Cond.methodLink "ByteIntervalsLaw" 92 yX6_inside ∈ am_gw := List.mem_filter.mpr ⟨List.mem_of_getElem? (i := 1148) (by decide +kernel), rfl⟩
theorem wiL_yX6_inside : Cond.instanceMethod yX6_inside ∈ am_gw := List.mem_filter.mpr ⟨List.mem_of_getElem? (i := 1149) (by decide +kernel), rfl⟩
theorem wcL_yX6_inside : Cond.code M_X6_inside.1 M_X6_inside.2.1 M_X6_inside.2.2.1 M_X6_inside.2.2.2 ∈ am_gw := List.mem_filter.mpr ⟨List.mem_of_getElem? (i := 1151) (by decide +kernel), rfl⟩
theorem wlL_yX6_inside : Cond.selects "ByteIntervals" yX6_inside yX6_inside ∈ am_gw := List.mem_filter.mpr ⟨List.mem_of_getElem? (i := 1150) (by decide +kernel), rfl⟩
theorem wL_96 : Cond.methodLink "ByteIntervalsLaw" 96 yX7_inside ∈ am_gw := List.mem_filter.mpr ⟨List.mem_of_getElem? (i := 1915) (by decide +kernel), rfl⟩
theorem wiL_yX7_inside : Cond.instanceMethod yX7_inside ∈ am_gw := List.mem_filter.mpr ⟨List.mem_of_getElem? (i := 1916) (by decide +kernel), rfl⟩
theorem wcL_yX7_inside : Cond.code M_X7_inside.1 M_X7_inside.2.1 M_X7_inside.2.2.1 M_X7_inside.2.2.2 ∈ am_gw := List.mem_filter.mpr ⟨List.mem_of_getElem? (i := 1918) (by decide +kernel), rfl⟩
theorem wlL_yX7_inside : Cond.selects "ByteIntervalsModel" yX7_inside yX7_inside ∈ am_gw := List.mem_filter.mpr ⟨List.mem_of_getElem? (i := 1917) (by decide +kernel), rfl⟩
theorem wL_97 : Cond.methodLink "ByteIntervalsLaw" 97 yX6_order ∈ am_gw := List.mem_filter.mpr ⟨List.mem_of_getElem? (i := 1157) (by decide +kernel), rfl⟩
theorem wiL_yX6_order : Cond.instanceMethod yX6_order ∈ am_gw := List.mem_filter.mpr ⟨List.mem_of_getElem? (i := 1158) (by decide +kernel), rfl⟩
theorem wcL_yX6_order : Cond.code M_X6_order.1 M_X6_order.2.1 M_X6_order.2.2.1 M_X6_order.2.2.2 ∈ am_gw := List.mem_filter.mpr ⟨List.mem_of_getElem? (i := 1160) (by decide +kernel), rfl⟩
theorem wlL_yX6_order : Cond.selects "ByteIntervals" yX6_order yX6_order ∈ am_gw := List.mem_filter.mpr ⟨List.mem_of_getElem? (i := 1159) (by decide +kernel), rfl⟩
theorem wL_100 : Cond.methodLink "ByteIntervalsLaw" 100 yX7_order ∈ am_gw := List.mem_filter.mpr ⟨List.mem_of_getElem? (i := 1927) (by decide +kernel), rfl⟩
theorem wiL_yX7_order : Cond.instanceMethod yX7_order ∈ am_gw := List.mem_filter.mpr ⟨List.mem_of_getElem? (i := 1928) (by decide +kernel), rfl⟩
theorem wcL_yX7_order : Cond.code M_X7_order.1 M_X7_order.2.1 M_X7_order.2.2.1 M_X7_order.2.2.2 ∈ am_gw := List.mem_filter.mpr ⟨List.mem_of_getElem? (i := 1930) (by decide +kernel), rfl⟩
theorem wlL_yX7_order : Cond.selects "ByteIntervalsModel" yX7_order yX7_order ∈ am_gw := List.mem_filter.mpr ⟨List.mem_of_getElem? (i := 1929) (by decide +kernel), rfl⟩
theorem wL_101 : Cond.methodLink "ByteIntervalsLaw" 101 yX6_ring ∈ am_gw := List.mem_filter.mpr ⟨List.mem_of_getElem? (i := 1161) (by decide +kernel), rfl⟩
theorem wiL_yX6_ring : Cond.instanceMethod yX6_ring ∈ am_gw := List.mem_filter.mpr ⟨List.mem_of_getElem? (i := 1162) (by decide +kernel), rfl⟩
theorem wcL_yX6_ring : Cond.code M_X6_ring.1 M_X6_ring.2.1 M_X6_ring.2.2.1 M_X6_ring.2.2.2 ∈ am_gw := List.mem_filter.mpr ⟨List.mem_of_getElem? (i := 1164) (by decide +kernel), rfl⟩
theorem wlL_yX6_ring : Cond.selects "ByteIntervals" yX6_ring yX6_ring ∈ am_gw := List.mem_filter.mpr ⟨List.mem_of_getElem? (i := 1163) (by decide +kernel), rfl⟩
theorem wL_104 : Cond.methodLink "ByteIntervalsLaw" 104 yX7_ring ∈ am_gw := List.mem_filter.mpr ⟨List.mem_of_getElem? (i := 1931) (by decide +kernel), rfl⟩
theorem wiL_yX7_ring : Cond.instanceMethod yX7_ring ∈ am_gw := List.mem_filter.mpr ⟨List.mem_of_getElem? (i := 1932) (by decide +kernel), rfl⟩
theorem wcL_yX7_ring : Cond.code M_X7_ring.1 M_X7_ring.2.1 M_X7_ring.2.2.1 M_X7_ring.2.2.2 ∈ am_gw := List.mem_filter.mpr ⟨List.mem_of_getElem? (i := 1934) (by decide +kernel), rfl⟩
theorem wlL_yX7_ring : Cond.selects "ByteIntervalsModel" yX7_ring yX7_ring ∈ am_gw := List.mem_filter.mpr ⟨List.mem_of_getElem? (i := 1933) (by decide +kernel), rfl⟩
theorem wL_105 : Cond.methodLink "ByteIntervalsLaw" 105 yX6_overlap ∈ am_gw := List.mem_filter.mpr ⟨List.mem_of_getElem? (i := 1165) (by decide +kernel), rfl⟩
theorem wiL_yX6_overlap : Cond.instanceMethod yX6_overlap ∈ am_gw := List.mem_filter.mpr ⟨List.mem_of_getElem? (i := 1166) (by decide +kernel), rfl⟩
theorem wcL_yX6_overlap : Cond.code M_X6_overlap.1 M_X6_overlap.2.1 M_X6_overlap.2.2.1 M_X6_overlap.2.2.2 ∈ am_gw := List.mem_filter.mpr ⟨List.mem_of_getElem? (i := 1168) (by decide +kernel), rfl⟩
theorem wlL_yX6_overlap : Cond.selects "ByteIntervals" yX6_overlap yX6_overlap ∈ am_gw := List.mem_filter.mpr ⟨List.mem_of_getElem? (i := 1167) (by decide +kernel), rfl⟩
theorem wL_108 : Cond.methodLink "ByteIntervalsLaw" 108 yX7_overlap ∈ am_gw := List.mem_filter.mpr ⟨List.mem_of_getElem? (i := 1935) (by decide +kernel), rfl⟩
theorem wiL_yX7_overlap : Cond.instanceMethod yX7_overlap ∈ am_gw := List.mem_filter.mpr ⟨List.mem_of_getElem? (i := 1936) (by decide +kernel), rfl⟩
theorem wcL_yX7_overlap : Cond.code M_X7_overlap.1 M_X7_overlap.2.1 M_X7_overlap.2.2.1 M_X7_overlap.2.2.2 ∈ am_gw := List.mem_filter.mpr ⟨List.mem_of_getElem? (i := 1938) (by decide +kernel), rfl⟩
theorem wlL_yX7_overlap : Cond.selects "ByteIntervalsModel" yX7_overlap yX7_overlap ∈ am_gw := List.mem_filter.mpr ⟨List.mem_of_getElem? (i := 1937) (by decide +kernel), rfl⟩
theorem wL_109 : Cond.methodLink "ByteIntervalsLaw" 109 yX6_loose ∈ am_gw := List.mem_filter.mpr ⟨List.mem_of_getElem? (i := 1176) (by decide +kernel), rfl⟩
theorem wiL_yX6_loose : Cond.instanceMethod yX6_loose ∈ am_gw := List.mem_filter.mpr ⟨List.mem_of_getElem? (i := 1177) (by decide +kernel), rfl⟩
theorem wcL_yX6_loose : Cond.code M_X6_loose.1 M_X6_loose.2.1 M_X6_loose.2.2.1 M_X6_loose.2.2.2 ∈ am_gw := List.mem_filter.mpr ⟨List.mem_of_getElem? (i := 1179) (by decide +kernel), rfl⟩
theorem wlL_yX6_loose : Cond.selects "ByteIntervals" yX6_loose yX6_loose ∈ am_gw := List.mem_filter.mpr ⟨List.mem_of_getElem? (i := 1178) (by decide +kernel), rfl⟩
theorem wL_113 : Cond.methodLink "ByteIntervalsLaw" 113 yX7_loose ∈ am_gw := List.mem_filter.mpr ⟨List.mem_of_getElem? (i := 1943) (by decide +kernel), rfl⟩
theorem wiL_yX7_loose : Cond.instanceMethod yX7_loose ∈ am_gw := List.mem_filter.mpr ⟨List.mem_of_getElem? (i := 1944) (by decide +kernel), rfl⟩
theorem wcL_yX7_loose : Cond.code M_X7_loose.1 M_X7_loose.2.1 M_X7_loose.2.2.1 M_X7_loose.2.2.2 ∈ am_gw := List.mem_filter.mpr ⟨List.mem_of_getElem? (i := 1946) (by decide +kernel), rfl⟩
theorem wlL_yX7_loose : Cond.selects "ByteIntervalsModel" yX7_loose yX7_loose ∈ am_gw := List.mem_filter.mpr ⟨List.mem_of_getElem? (i := 1945) (by decide +kernel), rfl⟩
theorem wL_114 : Cond.methodLink "ByteIntervalsLaw" 114 yX6_needs ∈ am_gw := List.mem_filter.mpr ⟨List.mem_of_getElem? (i := 1182) (by decide +kernel), rfl⟩
theorem wiL_yX6_needs : Cond.instanceMethod yX6_needs ∈ am_gw := List.mem_filter.mpr ⟨List.mem_of_getElem? (i := 1183) (by decide +kernel), rfl⟩
theorem wcL_yX6_needs : Cond.code M_X6_needs.1 M_X6_needs.2.1 M_X6_needs.2.2.1 M_X6_needs.2.2.2 ∈ am_gw := List.mem_filter.mpr ⟨List.mem_of_getElem? (i := 1185) (by decide +kernel), rfl⟩
theorem wlL_yX6_needs : Cond.selects "ByteIntervals" yX6_needs yX6_needs ∈ am_gw := List.mem_filter.mpr ⟨List.mem_of_getElem? (i := 1184) (by decide +kernel), rfl⟩
theorem wL_118 : Cond.methodLink "ByteIntervalsLaw" 118 yX7_needs ∈ am_gw := List.mem_filter.mpr ⟨List.mem_of_getElem? (i := 1948) (by decide +kernel), rfl⟩
theorem wL_119 : Cond.methodLink "ByteIntervalsLaw" 119 yX6_flips ∈ am_gw := List.mem_filter.mpr ⟨List.mem_of_getElem? (i := 1188) (by decide +kernel), rfl⟩
theorem wiL_yX6_flips : Cond.instanceMethod yX6_flips ∈ am_gw := List.mem_filter.mpr ⟨List.mem_of_getElem? (i := 1189) (by decide +kernel), rfl⟩
theorem wcL_yX6_flips : Cond.code M_X6_flips.1 M_X6_flips.2.1 M_X6_flips.2.2.1 M_X6_flips.2.2.2 ∈ am_gw := List.mem_filter.mpr ⟨List.mem_of_getElem? (i := 1191) (by decide +kernel), rfl⟩
theorem wlL_yX6_flips : Cond.selects "ByteIntervals" yX6_flips yX6_flips ∈ am_gw := List.mem_filter.mpr ⟨List.mem_of_getElem? (i := 1190) (by decide +kernel), rfl⟩
theorem wL_122 : Cond.methodLink "ByteIntervalsLaw" 122 yX7_flips ∈ am_gw := List.mem_filter.mpr ⟨List.mem_of_getElem? (i := 1956) (by decide +kernel), rfl⟩
theorem wiL_yX7_flips : Cond.instanceMethod yX7_flips ∈ am_gw := List.mem_filter.mpr ⟨List.mem_of_getElem? (i := 1957) (by decide +kernel), rfl⟩
theorem wcL_yX7_flips : Cond.code M_X7_flips.1 M_X7_flips.2.1 M_X7_flips.2.2.1 M_X7_flips.2.2.2 ∈ am_gw := List.mem_filter.mpr ⟨List.mem_of_getElem? (i := 1959) (by decide +kernel), rfl⟩
theorem wlL_yX7_flips : Cond.selects "ByteIntervalsModel" yX7_flips yX7_flips ∈ am_gw := List.mem_filter.mpr ⟨List.mem_of_getElem? (i := 1958) (by decide +kernel), rfl⟩
theorem wL_123 : Cond.methodLink "ByteIntervalsLaw" 123 yX6_sure ∈ am_gw := List.mem_filter.mpr ⟨List.mem_of_getElem? (i := 1201) (by decide +kernel), rfl⟩
theorem wiL_yX6_sure : Cond.instanceMethod yX6_sure ∈ am_gw := List.mem_filter.mpr ⟨List.mem_of_getElem? (i := 1202) (by decide +kernel), rfl⟩
theorem wcL_yX6_sure : Cond.code M_X6_sure.1 M_X6_sure.2.1 M_X6_sure.2.2.1 M_X6_sure.2.2.2 ∈ am_gw := List.mem_filter.mpr ⟨List.mem_of_getElem? (i := 1204) (by decide +kernel), rfl⟩
theorem wlL_yX6_sure : Cond.selects "ByteIntervals" yX6_sure yX6_sure ∈ am_gw := List.mem_filter.mpr ⟨List.mem_of_getElem? (i := 1203) (by decide +kernel), rfl⟩
theorem wL_126 : Cond.methodLink "ByteIntervalsLaw" 126 yX7_sure ∈ am_gw := List.mem_filter.mpr ⟨List.mem_of_getElem? (i := 1960) (by decide +kernel), rfl⟩
theorem wiL_yX7_sure : Cond.instanceMethod yX7_sure ∈ am_gw := List.mem_filter.mpr ⟨List.mem_of_getElem? (i := 1961) (by decide +kernel), rfl⟩
theorem wcL_yX7_sure : Cond.code M_X7_sure.1 M_X7_sure.2.1 M_X7_sure.2.2.1 M_X7_sure.2.2.2 ∈ am_gw := List.mem_filter.mpr ⟨List.mem_of_getElem? (i := 1963) (by decide +kernel), rfl⟩
theorem wlL_yX7_sure : Cond.selects "ByteIntervalsModel" yX7_sure yX7_sure ∈ am_gw := List.mem_filter.mpr ⟨List.mem_of_getElem? (i := 1962) (by decide +kernel), rfl⟩
theorem wL_127 : Cond.methodLink "ByteIntervalsLaw" 127 yX6_least ∈ am_gw := List.mem_filter.mpr ⟨List.mem_of_getElem? (i := 1209) (by decide +kernel), rfl⟩
theorem wiL_yX6_least : Cond.instanceMethod yX6_least ∈ am_gw := List.mem_filter.mpr ⟨List.mem_of_getElem? (i := 1210) (by decide +kernel), rfl⟩
theorem wcL_yX6_least : Cond.code M_X6_least.1 M_X6_least.2.1 M_X6_least.2.2.1 M_X6_least.2.2.2 ∈ am_gw := List.mem_filter.mpr ⟨List.mem_of_getElem? (i := 1212) (by decide +kernel), rfl⟩
theorem wlL_yX6_least : Cond.selects "ByteIntervals" yX6_least yX6_least ∈ am_gw := List.mem_filter.mpr ⟨List.mem_of_getElem? (i := 1211) (by decide +kernel), rfl⟩
theorem wL_130 : Cond.methodLink "ByteIntervalsLaw" 130 yX7_least ∈ am_gw := List.mem_filter.mpr ⟨List.mem_of_getElem? (i := 1968) (by decide +kernel), rfl⟩
theorem wiL_yX7_least : Cond.instanceMethod yX7_least ∈ am_gw := List.mem_filter.mpr ⟨List.mem_of_getElem? (i := 1969) (by decide +kernel), rfl⟩
theorem wcL_yX7_least : Cond.code M_X7_least.1 M_X7_least.2.1 M_X7_least.2.2.1 M_X7_least.2.2.2 ∈ am_gw := List.mem_filter.mpr ⟨List.mem_of_getElem? (i := 1971) (by decide +kernel), rfl⟩
theorem wlL_yX7_least : Cond.selects "ByteIntervalsModel" yX7_least yX7_least ∈ am_gw := List.mem_filter.mpr ⟨List.mem_of_getElem? (i := 1970) (by decide +kernel), rfl⟩
theorem wL_131 : Cond.methodLink "ByteIntervalsLaw" 131 yX6_make ∈ am_gw := List.mem_filter.mpr ⟨List.mem_of_getElem? (i := 1213) (by decide +kernel), rfl⟩
theorem wiL_yX6_make : Cond.instanceMethod yX6_make ∈ am_gw := List.mem_filter.mpr ⟨List.mem_of_getElem? (i := 1214) (by decide +kernel), rfl⟩
theorem wcL_yX6_make : Cond.code M_X6_make.1 M_X6_make.2.1 M_X6_make.2.2.1 M_X6_make.2.2.2 ∈ am_gw := List.mem_filter.mpr ⟨List.mem_of_getElem? (i := 1216) (by decide +kernel), rfl⟩
theorem wlL_yX6_make : Cond.selects "ByteIntervals" yX6_make yX6_make ∈ am_gw := List.mem_filter.mpr ⟨List.mem_of_getElem? (i := 1215) (by decide +kernel), rfl⟩
theorem wL_134 : Cond.methodLink "ByteIntervalsLaw" 134 yX7_make ∈ am_gw := List.mem_filter.mpr ⟨List.mem_of_getElem? (i := 1972) (by decide +kernel), rfl⟩
theorem wiL_yX7_make : Cond.instanceMethod yX7_make ∈ am_gw := List.mem_filter.mpr ⟨List.mem_of_getElem? (i := 1973) (by decide +kernel), rfl⟩
theorem wcL_yX7_make : Cond.code M_X7_make.1 M_X7_make.2.1 M_X7_make.2.2.1 M_X7_make.2.2.2 ∈ am_gw := List.mem_filter.mpr ⟨List.mem_of_getElem? (i := 1975) (by decide +kernel), rfl⟩
theorem wlL_yX7_make : Cond.selects "ByteIntervalsModel" yX7_make yX7_make ∈ am_gw := List.mem_filter.mpr ⟨List.mem_of_getElem? (i := 1974) (by decide +kernel), rfl⟩
theorem wL_135 : Cond.methodLink "ByteIntervalsLaw" 135 yX6_alike ∈ am_gw := List.mem_filter.mpr ⟨List.mem_of_getElem? (i := 1234) (by decide +kernel), rfl⟩
theorem wiL_yX6_alike : Cond.instanceMethod yX6_alike ∈ am_gw := List.mem_filter.mpr ⟨List.mem_of_getElem? (i := 1235) (by decide +kernel), rfl⟩
theorem wcL_yX6_alike : Cond.code M_X6_alike.1 M_X6_alike.2.1 M_X6_alike.2.2.1 M_X6_alike.2.2.2 ∈ am_gw := List.mem_filter.mpr ⟨List.mem_of_getElem? (i := 1237) (by decide +kernel), rfl⟩
theorem wlL_yX6_alike : Cond.selects "ByteIntervals" yX6_alike yX6_alike ∈ am_gw := List.mem_filter.mpr ⟨List.mem_of_getElem? (i := 1236) (by decide +kernel), rfl⟩
theorem wL_138 : Cond.methodLink "ByteIntervalsLaw" 138 yX7_alike ∈ am_gw := List.mem_filter.mpr ⟨List.mem_of_getElem? (i := 1986) (by decide +kernel), rfl⟩
theorem wiL_yX7_alike : Cond.instanceMethod yX7_alike ∈ am_gw := List.mem_filter.mpr ⟨List.mem_of_getElem? (i := 1987) (by decide +kernel), rfl⟩
theorem wcL_yX7_alike : Cond.code M_X7_alike.1 M_X7_alike.2.1 M_X7_alike.2.2.1 M_X7_alike.2.2.2 ∈ am_gw := List.mem_filter.mpr ⟨List.mem_of_getElem? (i := 1989) (by decide +kernel), rfl⟩
theorem wlL_yX7_alike : Cond.selects "ByteIntervalsModel" yX7_alike yX7_alike ∈ am_gw := List.mem_filter.mpr ⟨List.mem_of_getElem? (i := 1988) (by decide +kernel), rfl⟩
theorem wL_139 : Cond.methodLink "ByteIntervalsLaw" 139 yX6_must ∈ am_gw := List.mem_filter.mpr ⟨List.mem_of_getElem? (i := 1238) (by decide +kernel), rfl⟩
theorem wiL_yX6_must : Cond.instanceMethod yX6_must ∈ am_gw := List.mem_filter.mpr ⟨List.mem_of_getElem? (i := 1239) (by decide +kernel), rfl⟩
theorem wcL_yX6_must : Cond.code M_X6_must.1 M_X6_must.2.1 M_X6_must.2.2.1 M_X6_must.2.2.2 ∈ am_gw := List.mem_filter.mpr ⟨List.mem_of_getElem? (i := 1241) (by decide +kernel), rfl⟩
theorem wlL_yX6_must : Cond.selects "ByteIntervals" yX6_must yX6_must ∈ am_gw := List.mem_filter.mpr ⟨List.mem_of_getElem? (i := 1240) (by decide +kernel), rfl⟩
theorem wL_142 : Cond.methodLink "ByteIntervalsLaw" 142 yX7_must ∈ am_gw := List.mem_filter.mpr ⟨List.mem_of_getElem? (i := 1990) (by decide +kernel), rfl⟩
theorem wiL_yX7_must : Cond.instanceMethod yX7_must ∈ am_gw := List.mem_filter.mpr ⟨List.mem_of_getElem? (i := 1991) (by decide +kernel), rfl⟩
theorem wcL_yX7_must : Cond.code M_X7_must.1 M_X7_must.2.1 M_X7_must.2.2.1 M_X7_must.2.2.2 ∈ am_gw := List.mem_filter.mpr ⟨List.mem_of_getElem? (i := 1993) (by decide +kernel), rfl⟩
theorem wlL_yX7_must : Cond.selects "ByteIntervalsModel" yX7_must yX7_must ∈ am_gw := List.mem_filter.mpr ⟨List.mem_of_getElem? (i := 1992) (by decide +kernel), rfl⟩
theorem wL_143 : Cond.methodLink "ByteIntervalsLaw" 143 yX6_deep ∈ am_gw := List.mem_filter.mpr ⟨List.mem_of_getElem? (i := 1242) (by decide +kernel), rfl⟩
theorem wiL_yX6_deep : Cond.instanceMethod yX6_deep ∈ am_gw := List.mem_filter.mpr ⟨List.mem_of_getElem? (i := 1243) (by decide +kernel), rfl⟩
theorem wcL_yX6_deep : Cond.code M_X6_deep.1 M_X6_deep.2.1 M_X6_deep.2.2.1 M_X6_deep.2.2.2 ∈ am_gw := List.mem_filter.mpr ⟨List.mem_of_getElem? (i := 1245) (by decide +kernel), rfl⟩
theorem wlL_yX6_deep : Cond.selects "ByteIntervals" yX6_deep yX6_deep ∈ am_gw := List.mem_filter.mpr ⟨List.mem_of_getElem? (i := 1244) (by decide +kernel), rfl⟩
theorem wL_146 : Cond.methodLink "ByteIntervalsLaw" 146 yX7_deep ∈ am_gw := List.mem_filter.mpr ⟨List.mem_of_getElem? (i := 1994) (by decide +kernel), rfl⟩
theorem wiL_yX7_deep : Cond.instanceMethod yX7_deep ∈ am_gw := List.mem_filter.mpr ⟨List.mem_of_getElem? (i := 1995) (by decide +kernel), rfl⟩
theorem wcL_yX7_deep : Cond.code M_X7_deep.1 M_X7_deep.2.1 M_X7_deep.2.2.1 M_X7_deep.2.2.2 ∈ am_gw := List.mem_filter.mpr ⟨List.mem_of_getElem? (i := 1997) (by decide +kernel), rfl⟩
theorem wlL_yX7_deep : Cond.selects "ByteIntervalsModel" yX7_deep yX7_deep ∈ am_gw := List.mem_filter.mpr ⟨List.mem_of_getElem? (i := 1996) (by decide +kernel), rfl⟩
theorem wL_147 : Cond.methodLink "ByteIntervalsLaw" 147 yX6_kind ∈ am_gw := List.mem_filter.mpr ⟨List.mem_of_getElem? (i := 1246) (by decide +kernel), rfl⟩
theorem wiL_yX6_kind : Cond.instanceMethod yX6_kind ∈ am_gw := List.mem_filter.mpr ⟨List.mem_of_getElem? (i := 1247) (by decide +kernel), rfl⟩
theorem wcL_yX6_kind : Cond.code M_X6_kind.1 M_X6_kind.2.1 M_X6_kind.2.2.1 M_X6_kind.2.2.2 ∈ am_gw := List.mem_filter.mpr ⟨List.mem_of_getElem? (i := 1249) (by decide +kernel), rfl⟩
theorem wlL_yX6_kind : Cond.selects "ByteIntervals" yX6_kind yX6_kind ∈ am_gw := List.mem_filter.mpr ⟨List.mem_of_getElem? (i := 1248) (by decide +kernel), rfl⟩
theorem wL_150 : Cond.methodLink "ByteIntervalsLaw" 150 yX7_kind ∈ am_gw := List.mem_filter.mpr ⟨List.mem_of_getElem? (i := 1998) (by decide +kernel), rfl⟩
theorem wiL_yX7_kind : Cond.instanceMethod yX7_kind ∈ am_gw := List.mem_filter.mpr ⟨List.mem_of_getElem? (i := 1999) (by decide +kernel), rfl⟩
theorem wcL_yX7_kind : Cond.code M_X7_kind.1 M_X7_kind.2.1 M_X7_kind.2.2.1 M_X7_kind.2.2.2 ∈ am_gw := List.mem_filter.mpr ⟨List.mem_of_getElem? (i := 2001) (by decide +kernel), rfl⟩
theorem wlL_yX7_kind : Cond.selects "ByteIntervalsModel" yX7_kind yX7_kind ∈ am_gw := List.mem_filter.mpr ⟨List.mem_of_getElem? (i := 2000) (by decide +kernel), rfl⟩
theorem wL_151 : Cond.methodLink "ByteIntervalsLaw" 151 yX6_number ∈ am_gw := List.mem_filter.mpr ⟨List.mem_of_getElem? (i := 1097) (by decide +kernel), rfl⟩
theorem wiL_yX6_number : Cond.instanceMethod yX6_number ∈ am_gw := List.mem_filter.mpr ⟨List.mem_of_getElem? (i := 1098) (by decide +kernel), rfl⟩
theorem wcL_yX6_number : Cond.code M_X6_number.1 M_X6_number.2.1 M_X6_number.2.2.1 M_X6_number.2.2.2 ∈ am_gw := List.mem_filter.mpr ⟨List.mem_of_getElem? (i := 1100) (by decide +kernel), rfl⟩
theorem wlL_yX6_number : Cond.selects "ByteIntervals" yX6_number yX6_number ∈ am_gw := List.mem_filter.mpr ⟨List.mem_of_getElem? (i := 1099) (by decide +kernel), rfl⟩
theorem wL_154 : Cond.methodLink "ByteIntervalsLaw" 154 yX7_number ∈ am_gw := List.mem_filter.mpr ⟨List.mem_of_getElem? (i := 2002) (by decide +kernel), rfl⟩
theorem wiL_yX7_number : Cond.instanceMethod yX7_number ∈ am_gw := List.mem_filter.mpr ⟨List.mem_of_getElem? (i := 2003) (by decide +kernel), rfl⟩
theorem wcL_yX7_number : Cond.code M_X7_number.1 M_X7_number.2.1 M_X7_number.2.2.1 M_X7_number.2.2.2 ∈ am_gw := List.mem_filter.mpr ⟨List.mem_of_getElem? (i := 2005) (by decide +kernel), rfl⟩
theorem wlL_yX7_number : Cond.selects "ByteIntervalsModel" yX7_number yX7_number ∈ am_gw := List.mem_filter.mpr ⟨List.mem_of_getElem? (i := 2004) (by decide +kernel), rfl⟩
theorem wL_155 : Cond.methodLink "ByteIntervalsLaw" 155 yX6_sum ∈ am_gw := List.mem_filter.mpr ⟨List.mem_of_getElem? (i := 1106) (by decide +kernel), rfl⟩
theorem wiL_yX6_sum : Cond.instanceMethod yX6_sum ∈ am_gw := List.mem_filter.mpr ⟨List.mem_of_getElem? (i := 1107) (by decide +kernel), rfl⟩
theorem wcL_yX6_sum : Cond.code M_X6_sum.1 M_X6_sum.2.1 M_X6_sum.2.2.1 M_X6_sum.2.2.2 ∈ am_gw := List.mem_filter.mpr ⟨List.mem_of_getElem? (i := 1109) (by decide +kernel), rfl⟩
theorem wlL_yX6_sum : Cond.selects "ByteIntervals" yX6_sum yX6_sum ∈ am_gw := List.mem_filter.mpr ⟨List.mem_of_getElem? (i := 1108) (by decide +kernel), rfl⟩
theorem wL_158 : Cond.methodLink "ByteIntervalsLaw" 158 yX7_sum ∈ am_gw := List.mem_filter.mpr ⟨List.mem_of_getElem? (i := 2010) (by decide +kernel), rfl⟩
theorem wiL_yX7_sum : Cond.instanceMethod yX7_sum ∈ am_gw := List.mem_filter.mpr ⟨List.mem_of_getElem? (i := 2011) (by decide +kernel), rfl⟩
theorem wcL_yX7_sum : Cond.code M_X7_sum.1 M_X7_sum.2.1 M_X7_sum.2.2.1 M_X7_sum.2.2.2 ∈ am_gw := List.mem_filter.mpr ⟨List.mem_of_getElem? (i := 2013) (by decide +kernel), rfl⟩
theorem wlL_yX7_sum : Cond.selects "ByteIntervalsModel" yX7_sum yX7_sum ∈ am_gw := List.mem_filter.mpr ⟨List.mem_of_getElem? (i := 2012) (by decide +kernel), rfl⟩
theorem wL_159 : Cond.methodLink "ByteIntervalsLaw" 159 yX6_find ∈ am_gw := List.mem_filter.mpr ⟨List.mem_of_getElem? (i := 1110) (by decide +kernel), rfl⟩
theorem wiL_yX6_find : Cond.instanceMethod yX6_find ∈ am_gw := List.mem_filter.mpr ⟨List.mem_of_getElem? (i := 1111) (by decide +kernel), rfl⟩
theorem wcL_yX6_find : Cond.code M_X6_find.1 M_X6_find.2.1 M_X6_find.2.2.1 M_X6_find.2.2.2 ∈ am_gw := List.mem_filter.mpr ⟨List.mem_of_getElem? (i := 1113) (by decide +kernel), rfl⟩
theorem wlL_yX6_find : Cond.selects "ByteIntervals" yX6_find yX6_find ∈ am_gw := List.mem_filter.mpr ⟨List.mem_of_getElem? (i := 1112) (by decide +kernel), rfl⟩
theorem wL_162 : Cond.methodLink "ByteIntervalsLaw" 162 yX7_find ∈ am_gw := List.mem_filter.mpr ⟨List.mem_of_getElem? (i := 2014) (by decide +kernel), rfl⟩
theorem wiL_yX7_find : Cond.instanceMethod yX7_find ∈ am_gw := List.mem_filter.mpr ⟨List.mem_of_getElem? (i := 2015) (by decide +kernel), rfl⟩
theorem wcL_yX7_find : Cond.code M_X7_find.1 M_X7_find.2.1 M_X7_find.2.2.1 M_X7_find.2.2.2 ∈ am_gw := List.mem_filter.mpr ⟨List.mem_of_getElem? (i := 2017) (by decide +kernel), rfl⟩
theorem wlL_yX7_find : Cond.selects "ByteIntervalsModel" yX7_find yX7_find ∈ am_gw := List.mem_filter.mpr ⟨List.mem_of_getElem? (i := 2016) (by decide +kernel), rfl⟩
theorem wL_163 : Cond.methodLink "ByteIntervalsLaw" 163 yX6_run ∈ am_gw := List.mem_filter.mpr ⟨List.mem_of_getElem? (i := 1114) (by decide +kernel), rfl⟩
theorem wiL_yX6_run : Cond.instanceMethod yX6_run ∈ am_gw := List.mem_filter.mpr ⟨List.mem_of_getElem? (i := 1115) (by decide +kernel), rfl⟩
theorem wcL_yX6_run : Cond.code M_X6_run.1 M_X6_run.2.1 M_X6_run.2.2.1 M_X6_run.2.2.2 ∈ am_gw := List.mem_filter.mpr ⟨List.mem_of_getElem? (i := 1117) (by decide +kernel), rfl⟩
theorem wlL_yX6_run : Cond.selects "ByteIntervals" yX6_run yX6_run ∈ am_gw := List.mem_filter.mpr ⟨List.mem_of_getElem? (i := 1116) (by decide +kernel), rfl⟩
theorem wL_166 : Cond.methodLink "ByteIntervalsLaw" 166 yX7_run ∈ am_gw := List.mem_filter.mpr ⟨List.mem_of_getElem? (i := 2018) (by decide +kernel), rfl⟩
theorem wiL_yX7_run : Cond.instanceMethod yX7_run ∈ am_gw := List.mem_filter.mpr ⟨List.mem_of_getElem? (i := 2019) (by decide +kernel), rfl⟩
theorem wcL_yX7_run : Cond.code M_X7_run.1 M_X7_run.2.1 M_X7_run.2.2.1 M_X7_run.2.2.2 ∈ am_gw := List.mem_filter.mpr ⟨List.mem_of_getElem? (i := 2021) (by decide +kernel), rfl⟩
theorem wlL_yX7_run : Cond.selects "ByteIntervalsModel" yX7_run yX7_run ∈ am_gw := List.mem_filter.mpr ⟨List.mem_of_getElem? (i := 2020) (by decide +kernel), rfl⟩
theorem wL_167 : Cond.methodLink "ByteIntervalsLaw" 167 yX6_said ∈ am_gw := List.mem_filter.mpr ⟨List.mem_of_getElem? (i := 1250) (by decide +kernel), rfl⟩
theorem wiL_yX6_said : Cond.instanceMethod yX6_said ∈ am_gw := List.mem_filter.mpr ⟨List.mem_of_getElem? (i := 1251) (by decide +kernel), rfl⟩
theorem wcL_yX6_said : Cond.code M_X6_said.1 M_X6_said.2.1 M_X6_said.2.2.1 M_X6_said.2.2.2 ∈ am_gw := List.mem_filter.mpr ⟨List.mem_of_getElem? (i := 1253) (by decide +kernel), rfl⟩
theorem wlL_yX6_said : Cond.selects "ByteIntervals" yX6_said yX6_said ∈ am_gw := List.mem_filter.mpr ⟨List.mem_of_getElem? (i := 1252) (by decide +kernel), rfl⟩
theorem wL_170 : Cond.methodLink "ByteIntervalsLaw" 170 yX7_said ∈ am_gw := List.mem_filter.mpr ⟨List.mem_of_getElem? (i := 2022) (by decide +kernel), rfl⟩
theorem wiL_yX7_said : Cond.instanceMethod yX7_said ∈ am_gw := List.mem_filter.mpr ⟨List.mem_of_getElem? (i := 2023) (by decide +kernel), rfl⟩
theorem wcL_yX7_said : Cond.code M_X7_said.1 M_X7_said.2.1 M_X7_said.2.2.1 M_X7_said.2.2.2 ∈ am_gw := List.mem_filter.mpr ⟨List.mem_of_getElem? (i := 2025) (by decide +kernel), rfl⟩
theorem wlL_yX7_said : Cond.selects "ByteIntervalsModel" yX7_said yX7_said ∈ am_gw := List.mem_filter.mpr ⟨List.mem_of_getElem? (i := 2024) (by decide +kernel), rfl⟩
theorem wL_171 : Cond.methodLink "ByteIntervalsLaw" 171 yX6_whose ∈ am_gw := List.mem_filter.mpr ⟨List.mem_of_getElem? (i := 1255) (by decide +kernel), rfl⟩
theorem wiL_yX6_whose : Cond.instanceMethod yX6_whose ∈ am_gw := List.mem_filter.mpr ⟨List.mem_of_getElem? (i := 1256) (by decide +kernel), rfl⟩
theorem wcL_yX6_whose : Cond.code M_X6_whose.1 M_X6_whose.2.1 M_X6_whose.2.2.1 M_X6_whose.2.2.2 ∈ am_gw := List.mem_filter.mpr ⟨List.mem_of_getElem? (i := 1258) (by decide +kernel), rfl⟩
theorem wlL_yX6_whose : Cond.selects "ByteIntervals" yX6_whose yX6_whose ∈ am_gw := List.mem_filter.mpr ⟨List.mem_of_getElem? (i := 1257) (by decide +kernel), rfl⟩
theorem wL_174 : Cond.methodLink "ByteIntervalsLaw" 174 yX7_whose ∈ am_gw := List.mem_filter.mpr ⟨List.mem_of_getElem? (i := 2026) (by decide +kernel), rfl⟩
theorem wiL_yX7_whose : Cond.instanceMethod yX7_whose ∈ am_gw := List.mem_filter.mpr ⟨List.mem_of_getElem? (i := 2027) (by decide +kernel), rfl⟩
theorem wcL_yX7_whose : Cond.code M_X7_whose.1 M_X7_whose.2.1 M_X7_whose.2.2.1 M_X7_whose.2.2.2 ∈ am_gw := List.mem_filter.mpr ⟨List.mem_of_getElem? (i := 2029) (by decide +kernel), rfl⟩
theorem wlL_yX7_whose : Cond.selects "ByteIntervalsModel" yX7_whose yX7_whose ∈ am_gw := List.mem_filter.mpr ⟨List.mem_of_getElem? (i := 2028) (by decide +kernel), rfl⟩
theorem wL_175 : Cond.methodLink "ByteIntervalsLaw" 175 yX6_ledger ∈ am_gw := List.mem_filter.mpr ⟨List.mem_of_getElem? (i := 1118) (by decide +kernel), rfl⟩
theorem wiL_yX6_ledger : Cond.instanceMethod yX6_ledger ∈ am_gw := List.mem_filter.mpr ⟨List.mem_of_getElem? (i := 1119) (by decide +kernel), rfl⟩
theorem wcL_yX6_ledger : Cond.code M_X6_ledger.1 M_X6_ledger.2.1 M_X6_ledger.2.2.1 M_X6_ledger.2.2.2 ∈ am_gw := List.mem_filter.mpr ⟨List.mem_of_getElem? (i := 1121) (by decide +kernel), rfl⟩
theorem wlL_yX6_ledger : Cond.selects "ByteIntervals" yX6_ledger yX6_ledger ∈ am_gw := List.mem_filter.mpr ⟨List.mem_of_getElem? (i := 1120) (by decide +kernel), rfl⟩
theorem wL_178 : Cond.methodLink "ByteIntervalsLaw" 178 yX7_ledger ∈ am_gw := List.mem_filter.mpr ⟨List.mem_of_getElem? (i := 1884) (by decide +kernel), rfl⟩
theorem wiL_yX7_ledger : Cond.instanceMethod yX7_ledger ∈ am_gw := List.mem_filter.mpr ⟨List.mem_of_getElem? (i := 1885) (by decide +kernel), rfl⟩
theorem wcL_yX7_ledger : Cond.code M_X7_ledger.1 M_X7_ledger.2.1 M_X7_ledger.2.2.1 M_X7_ledger.2.2.2 ∈ am_gw := List.mem_filter.mpr ⟨List.mem_of_getElem? (i := 1887) (by decide +kernel), rfl⟩
theorem wlL_yX7_ledger : Cond.selects "ByteIntervalsModel" yX7_ledger yX7_ledger ∈ am_gw := List.mem_filter.mpr ⟨List.mem_of_getElem? (i := 1886) (by decide +kernel), rfl⟩
theorem wL_179 : Cond.methodLink "ByteIntervalsLaw" 179 yX6_image ∈ am_gw := List.mem_filter.mpr ⟨List.mem_of_getElem? (i := 1263) (by decide +kernel), rfl⟩
theorem wiL_yX6_image : Cond.instanceMethod yX6_image ∈ am_gw := List.mem_filter.mpr ⟨List.mem_of_getElem? (i := 1264) (by decide +kernel), rfl⟩
theorem wcL_yX6_image : Cond.code M_X6_image.1 M_X6_image.2.1 M_X6_image.2.2.1 M_X6_image.2.2.2 ∈ am_gw := List.mem_filter.mpr ⟨List.mem_of_getElem? (i := 1266) (by decide +kernel), rfl⟩
theorem wlL_yX6_image : Cond.selects "ByteIntervals" yX6_image yX6_image ∈ am_gw := List.mem_filter.mpr ⟨List.mem_of_getElem? (i := 1265) (by decide +kernel), rfl⟩
theorem wL_182 : Cond.methodLink "ByteIntervalsLaw" 182 yX7_image ∈ am_gw := List.mem_filter.mpr ⟨List.mem_of_getElem? (i := 2030) (by decide +kernel), rfl⟩
theorem wiL_yX7_image : Cond.instanceMethod yX7_image ∈ am_gw := List.mem_filter.mpr ⟨List.mem_of_getElem? (i := 2031) (by decide +kernel), rfl⟩
theorem wcL_yX7_image : Cond.code M_X7_image.1 M_X7_image.2.1 M_X7_image.2.2.1 M_X7_image.2.2.2 ∈ am_gw := List.mem_filter.mpr ⟨List.mem_of_getElem? (i := 2033) (by decide +kernel), rfl⟩
theorem wlL_yX7_image : Cond.selects "ByteIntervalsModel" yX7_image yX7_image ∈ am_gw := List.mem_filter.mpr ⟨List.mem_of_getElem? (i := 2032) (by decide +kernel), rfl⟩
theorem wL_183 : Cond.methodLink "ByteIntervalsLaw" 183 yX6_back ∈ am_gw := List.mem_filter.mpr ⟨List.mem_of_getElem? (i := 1272) (by decide +kernel), rfl⟩
theorem wiL_yX6_back : Cond.instanceMethod yX6_back ∈ am_gw := List.mem_filter.mpr ⟨List.mem_of_getElem? (i := 1273) (by decide +kernel), rfl⟩
theorem wcL_yX6_back : Cond.code M_X6_back.1 M_X6_back.2.1 M_X6_back.2.2.1 M_X6_back.2.2.2 ∈ am_gw := List.mem_filter.mpr ⟨List.mem_of_getElem? (i := 1275) (by decide +kernel), rfl⟩
theorem wlL_yX6_back : Cond.selects "ByteIntervals" yX6_back yX6_back ∈ am_gw := List.mem_filter.mpr ⟨List.mem_of_getElem? (i := 1274) (by decide +kernel), rfl⟩
theorem wL_186 : Cond.methodLink "ByteIntervalsLaw" 186 yX7_back ∈ am_gw := List.mem_filter.mpr ⟨List.mem_of_getElem? (i := 2034) (by decide +kernel), rfl⟩
theorem wiL_yX7_back : Cond.instanceMethod yX7_back ∈ am_gw := List.mem_filter.mpr ⟨List.mem_of_getElem? (i := 2035) (by decide +kernel), rfl⟩
theorem wcL_yX7_back : Cond.code M_X7_back.1 M_X7_back.2.1 M_X7_back.2.2.1 M_X7_back.2.2.2 ∈ am_gw := List.mem_filter.mpr ⟨List.mem_of_getElem? (i := 2037) (by decide +kernel), rfl⟩
theorem wlL_yX7_back : Cond.selects "ByteIntervalsModel" yX7_back yX7_back ∈ am_gw := List.mem_filter.mpr ⟨List.mem_of_getElem? (i := 2036) (by decide +kernel), rfl⟩
theorem wL_187 : Cond.methodLink "ByteIntervalsLaw" 187 yX6_about ∈ am_gw := List.mem_filter.mpr ⟨List.mem_of_getElem? (i := 1276) (by decide +kernel), rfl⟩
theorem wiL_yX6_about : Cond.instanceMethod yX6_about ∈ am_gw := List.mem_filter.mpr ⟨List.mem_of_getElem? (i := 1277) (by decide +kernel), rfl⟩
theorem wcL_yX6_about : Cond.code M_X6_about.1 M_X6_about.2.1 M_X6_about.2.2.1 M_X6_about.2.2.2 ∈ am_gw := List.mem_filter.mpr ⟨List.mem_of_getElem? (i := 1279) (by decide +kernel), rfl⟩
theorem wlL_yX6_about : Cond.selects "ByteIntervals" yX6_about yX6_about ∈ am_gw := List.mem_filter.mpr ⟨List.mem_of_getElem? (i := 1278) (by decide +kernel), rfl⟩
theorem wL_190 : Cond.methodLink "ByteIntervalsLaw" 190 yX7_about ∈ am_gw := List.mem_filter.mpr ⟨List.mem_of_getElem? (i := 2038) (by decide +kernel), rfl⟩
theorem wiL_yX7_about : Cond.instanceMethod yX7_about ∈ am_gw := List.mem_filter.mpr ⟨List.mem_of_getElem? (i := 2039) (by decide +kernel), rfl⟩
theorem wcL_yX7_about : Cond.code M_X7_about.1 M_X7_about.2.1 M_X7_about.2.2.1 M_X7_about.2.2.2 ∈ am_gw := List.mem_filter.mpr ⟨List.mem_of_getElem? (i := 2041) (by decide +kernel), rfl⟩
theorem wlL_yX7_about : Cond.selects "ByteIntervalsModel" yX7_about yX7_about ∈ am_gw := List.mem_filter.mpr ⟨List.mem_of_getElem? (i := 2040) (by decide +kernel), rfl⟩
theorem lc_216 {i : Int} {h h0 : am_H} {Q : Int → am_H → Prop} {tx : Nat → List Cl} (I : INV h tx) (i0 : 0 ≤ i) (i1 : i + 6 ≤ h0 (-6) 0) (i2 : h0 (-6) 0 ≤ 3072) (k : ∀ g tx2, INV g tx2 → am_Wp true 69 M_L 0 321 h0 Q 1374 [some (.inr (.inr (-5))), some (.inr (.inr 1)), some (.inr (.inr 294)), some (.inl i)] [] 321 g) : am_Wp true 69 M_L 0 321 h0 Q 216 [some (.inr (.inr (-5))), some (.inr (.inr 1)), some (.inr (.inr 294)), some (.inl i)] [] 321 h := by
  refine ar_aload_n (pc := 216) (i := 1) (k0 := 1) (by decide +kernel) rfl rfl ?_
  refine lw_arg (pc := 217) (k := 1) (by decide +kernel) (by decide +kernel) (by decide +kernel) (by decide +kernel) (by decide +kernel) i0 (by omega) (by omega) (by omega) (by omega) ?_
  refine lw_arg (pc := 222) (k := 2) (by decide +kernel) (by decide +kernel) (by decide +kernel) (by decide +kernel) (by decide +kernel) i0 (by omega) (by omega) (by omega) (by omega) ?_
  refine lw_arg (pc := 227) (k := 3) (by decide +kernel) (by decide +kernel) (by decide +kernel) (by decide +kernel) (by decide +kernel) i0 (by omega) (by omega) (by omega) (by omega) ?_
  refine lw_arg (pc := 232) (k := 4) (by decide +kernel) (by decide +kernel) (by decide +kernel) (by decide +kernel) (by decide +kernel) i0 (by omega) (by omega) (by omega) (by omega) ?_
  refine lw_arg (pc := 237) (k := 5) (by decide +kernel) (by decide +kernel) (by decide +kernel) (by decide +kernel) (by decide +kernel) i0 (by omega) (by omega) (by omega) (by omega) ?_
  refine ar_callV (d := 68) (pc := 242) (M2 := M_X6_feed) (a := 1) (ci := 6) (as := [.inl (h0 (-5) (i + 1)), .inl (h0 (-5) (i + 2)), .inl (h0 (-5) (i + 3)), .inl (h0 (-5) (i + 4)), .inl (h0 (-5) (i + 5))]) (n := 321) (n2 := 321) (st := []) (by decide +kernel) rfl wL_13 wiL_yX6_feed wlL_yX6_feed k_1 rfl wz_RX6 wcL_yX6_feed ⟨by decide, by decide, rfl⟩ (by decide) (Nat.le_of_ble_eq_true rfl) (Nat.le_refl _) (Nat.le_refl _) (am_Cl_mono (p_feed (D := 54) I (K := fun r6 r7 g => r6 = r7 ∧ ∃ tx2, INV g tx2) (fun g r I2 => ⟨rfl, _, I2⟩)) (fun r6 g6 H => ?_))
  show am_Wp true 69 M_L 0 321 h0 Q 245 [some (.inr (.inr (-5))), some (.inr (.inr 1)), some (.inr (.inr 294)), some (.inl i)] [.inl r6] 321 g6
  refine ar_aload_n (pc := 245) (i := 2) (k0 := 2) (by decide +kernel) rfl rfl ?_
  refine lw_arg (pc := 246) (k := 1) (by decide +kernel) (by decide +kernel) (by decide +kernel) (by decide +kernel) (by decide +kernel) i0 (by omega) (by omega) (by omega) (by omega) ?_
  refine lw_arg (pc := 251) (k := 2) (by decide +kernel) (by decide +kernel) (by decide +kernel) (by decide +kernel) (by decide +kernel) i0 (by omega) (by omega) (by omega) (by omega) ?_
  refine lw_arg (pc := 256) (k := 3) (by decide +kernel) (by decide +kernel) (by decide +kernel) (by decide +kernel) (by decide +kernel) i0 (by omega) (by omega) (by omega) (by omega) ?_
  refine lw_arg (pc := 261) (k := 4) (by decide +kernel) (by decide +kernel) (by decide +kernel) (by decide +kernel) (by decide +kernel) i0 (by omega) (by omega) (by omega) (by omega) ?_
  refine lw_arg (pc := 266) (k := 5) (by decide +kernel) (by decide +kernel) (by decide +kernel) (by decide +kernel) (by decide +kernel) i0 (by omega) (by omega) (by omega) (by omega) ?_
  refine ar_callV (d := 68) (pc := 271) (M2 := M_X7_feed) (a := 294) (ci := 7) (as := [.inl (h0 (-5) (i + 1)), .inl (h0 (-5) (i + 2)), .inl (h0 (-5) (i + 3)), .inl (h0 (-5) (i + 4)), .inl (h0 (-5) (i + 5))]) (n := 321) (n2 := 321) (st := [.inl r6]) (by decide +kernel) rfl wL_17 wiL_yX7_feed wlL_yX7_feed k_294 rfl wz_RX7 wcL_yX7_feed ⟨by decide, by decide, rfl⟩ (by decide) (Nat.le_of_ble_eq_true rfl) (Nat.le_refl _) (Nat.le_refl _) (am_Cl_mono H (fun r7 g7 H2 => ?_))
  show am_Wp true 69 M_L 0 321 h0 Q 274 [some (.inr (.inr (-5))), some (.inr (.inr 1)), some (.inr (.inr 294)), some (.inl i)] [.inl r7, .inl r6] 321 g7
  obtain ⟨e, tx2, I2⟩ := H2
  exact ar_icmp_eq (pc := 274) (x := r6) (y := r7) (tgt := 1374) (off := 1100) (by decide +kernel) (by decide) (fun _ => k g7 tx2 I2) (fun q => absurd e q)
theorem lc_279 {i : Int} {h h0 : am_H} {Q : Int → am_H → Prop} {tx : Nat → List Cl} (I : INV h tx) (i0 : 0 ≤ i) (i1 : i + 6 ≤ h0 (-6) 0) (i2 : h0 (-6) 0 ≤ 3072) (k : ∀ g tx2, INV g tx2 → am_Wp true 69 M_L 0 321 h0 Q 1374 [some (.inr (.inr (-5))), some (.inr (.inr 1)), some (.inr (.inr 294)), some (.inl i)] [] 321 g) : am_Wp true 69 M_L 0 321 h0 Q 279 [some (.inr (.inr (-5))), some (.inr (.inr 1)), some (.inr (.inr 294)), some (.inl i)] [] 321 h := by
  refine ar_aload_n (pc := 279) (i := 1) (k0 := 1) (by decide +kernel) rfl rfl ?_
  refine lw_arg (pc := 280) (k := 1) (by decide +kernel) (by decide +kernel) (by decide +kernel) (by decide +kernel) (by decide +kernel) i0 (by omega) (by omega) (by omega) (by omega) ?_
  refine ar_callV (d := 68) (pc := 285) (M2 := M_X6_end) (a := 1) (ci := 6) (as := [.inl (h0 (-5) (i + 1))]) (n := 321) (n2 := 321) (st := []) (by decide +kernel) rfl wL_18 wiL_yX6_end wlL_yX6_end k_1 rfl wz_RX6 wcL_yX6_end ⟨by decide, by decide, rfl⟩ (by decide) (Nat.le_of_ble_eq_true rfl) (Nat.le_refl _) (Nat.le_refl _) (am_Cl_mono (p_end (D := 54) I (K := fun r6 r7 g => r6 = r7 ∧ ∃ tx2, INV g tx2) (fun g r I2 => ⟨rfl, _, I2⟩)) (fun r6 g6 H => ?_))
  show am_Wp true 69 M_L 0 321 h0 Q 288 [some (.inr (.inr (-5))), some (.inr (.inr 1)), some (.inr (.inr 294)), some (.inl i)] [.inl r6] 321 g6
  refine ar_aload_n (pc := 288) (i := 2) (k0 := 2) (by decide +kernel) rfl rfl ?_
  refine lw_arg (pc := 289) (k := 1) (by decide +kernel) (by decide +kernel) (by decide +kernel) (by decide +kernel) (by decide +kernel) i0 (by omega) (by omega) (by omega) (by omega) ?_
  refine ar_callV (d := 68) (pc := 294) (M2 := M_X7_end) (a := 294) (ci := 7) (as := [.inl (h0 (-5) (i + 1))]) (n := 321) (n2 := 321) (st := [.inl r6]) (by decide +kernel) rfl wL_22 wiL_yX7_end wlL_yX7_end k_294 rfl wz_RX7 wcL_yX7_end ⟨by decide, by decide, rfl⟩ (by decide) (Nat.le_of_ble_eq_true rfl) (Nat.le_refl _) (Nat.le_refl _) (am_Cl_mono H (fun r7 g7 H2 => ?_))
  show am_Wp true 69 M_L 0 321 h0 Q 297 [some (.inr (.inr (-5))), some (.inr (.inr 1)), some (.inr (.inr 294)), some (.inl i)] [.inl r7, .inl r6] 321 g7
  obtain ⟨e, tx2, I2⟩ := H2
  exact ar_icmp_eq (pc := 297) (x := r6) (y := r7) (tgt := 1374) (off := 1077) (by decide +kernel) (by decide) (fun _ => k g7 tx2 I2) (fun q => absurd e q)
theorem lc_302 {i : Int} {h h0 : am_H} {Q : Int → am_H → Prop} {tx : Nat → List Cl} (I : INV h tx) (i0 : 0 ≤ i) (i1 : i + 6 ≤ h0 (-6) 0) (i2 : h0 (-6) 0 ≤ 3072) (k : ∀ g tx2, INV g tx2 → am_Wp true 69 M_L 0 321 h0 Q 1374 [some (.inr (.inr (-5))), some (.inr (.inr 1)), some (.inr (.inr 294)), some (.inl i)] [] 321 g) : am_Wp true 69 M_L 0 321 h0 Q 302 [some (.inr (.inr (-5))), some (.inr (.inr 1)), some (.inr (.inr 294)), some (.inl i)] [] 321 h := by
  refine ar_aload_n (pc := 302) (i := 1) (k0 := 1) (by decide +kernel) rfl rfl ?_
  refine ar_callV (d := 68) (pc := 303) (M2 := M_X6_text) (a := 1) (ci := 6) (as := []) (n := 321) (n2 := 321) (st := []) (by decide +kernel) rfl wL_23 wiL_yX6_text wlL_yX6_text k_1 rfl wz_RX6 wcL_yX6_text ⟨by decide, by decide, rfl⟩ (by decide) (Nat.le_of_ble_eq_true rfl) (Nat.le_refl _) (Nat.le_refl _) (am_Cl_mono (p_text (D := 0) o_word o_sign I (K := fun r6 r7 g => r6 = r7 ∧ ∃ tx2, INV g tx2) (fun g r tx2 I2 => ⟨rfl, _, I2⟩)) (fun r6 g6 H => ?_))
  show am_Wp true 69 M_L 0 321 h0 Q 306 [some (.inr (.inr (-5))), some (.inr (.inr 1)), some (.inr (.inr 294)), some (.inl i)] [.inl r6] 321 g6
  refine ar_aload_n (pc := 306) (i := 2) (k0 := 2) (by decide +kernel) rfl rfl ?_
  refine ar_callV (d := 68) (pc := 307) (M2 := M_X7_text) (a := 294) (ci := 7) (as := []) (n := 321) (n2 := 321) (st := [.inl r6]) (by decide +kernel) rfl wL_27 wiL_yX7_text wlL_yX7_text k_294 rfl wz_RX7 wcL_yX7_text ⟨by decide, by decide, rfl⟩ (by decide) (Nat.le_of_ble_eq_true rfl) (Nat.le_refl _) (Nat.le_refl _) (am_Cl_mono H (fun r7 g7 H2 => ?_))
  show am_Wp true 69 M_L 0 321 h0 Q 310 [some (.inr (.inr (-5))), some (.inr (.inr 1)), some (.inr (.inr 294)), some (.inl i)] [.inl r7, .inl r6] 321 g7
  obtain ⟨e, tx2, I2⟩ := H2
  exact ar_icmp_eq (pc := 310) (x := r6) (y := r7) (tgt := 1374) (off := 1064) (by decide +kernel) (by decide) (fun _ => k g7 tx2 I2) (fun q => absurd e q)
theorem lc_315 {i : Int} {h h0 : am_H} {Q : Int → am_H → Prop} {tx : Nat → List Cl} (I : INV h tx) (i0 : 0 ≤ i) (i1 : i + 6 ≤ h0 (-6) 0) (i2 : h0 (-6) 0 ≤ 3072) (k : ∀ g tx2, INV g tx2 → am_Wp true 69 M_L 0 321 h0 Q 1374 [some (.inr (.inr (-5))), some (.inr (.inr 1)), some (.inr (.inr 294)), some (.inl i)] [] 321 g) : am_Wp true 69 M_L 0 321 h0 Q 315 [some (.inr (.inr (-5))), some (.inr (.inr 1)), some (.inr (.inr 294)), some (.inl i)] [] 321 h := by
  refine ar_aload_n (pc := 315) (i := 1) (k0 := 1) (by decide +kernel) rfl rfl ?_
  refine lw_arg (pc := 316) (k := 1) (by decide +kernel) (by decide +kernel) (by decide +kernel) (by decide +kernel) (by decide +kernel) i0 (by omega) (by omega) (by omega) (by omega) ?_
  refine ar_callV (d := 68) (pc := 321) (M2 := M_X6_fault) (a := 1) (ci := 6) (as := [.inl (h0 (-5) (i + 1))]) (n := 321) (n2 := 321) (st := []) (by decide +kernel) rfl wL_28 wiL_yX6_fault wlL_yX6_fault k_1 rfl wz_RX6 wcL_yX6_fault ⟨by decide, by decide, rfl⟩ (by decide) (Nat.le_of_ble_eq_true rfl) (Nat.le_refl _) (Nat.le_refl _) (am_Cl_mono (p_fault (D := 54) I (K := fun r6 r7 g => r6 = r7 ∧ ∃ tx2, INV g tx2) (fun g r I2 => ⟨rfl, _, I2⟩)) (fun r6 g6 H => ?_))
  show am_Wp true 69 M_L 0 321 h0 Q 324 [some (.inr (.inr (-5))), some (.inr (.inr 1)), some (.inr (.inr 294)), some (.inl i)] [.inl r6] 321 g6
  refine ar_aload_n (pc := 324) (i := 2) (k0 := 2) (by decide +kernel) rfl rfl ?_
  refine lw_arg (pc := 325) (k := 1) (by decide +kernel) (by decide +kernel) (by decide +kernel) (by decide +kernel) (by decide +kernel) i0 (by omega) (by omega) (by omega) (by omega) ?_
  refine ar_callV (d := 68) (pc := 330) (M2 := M_X7_fault) (a := 294) (ci := 7) (as := [.inl (h0 (-5) (i + 1))]) (n := 321) (n2 := 321) (st := [.inl r6]) (by decide +kernel) rfl wL_31 wiL_yX7_fault wlL_yX7_fault k_294 rfl wz_RX7 wcL_yX7_fault ⟨by decide, by decide, rfl⟩ (by decide) (Nat.le_of_ble_eq_true rfl) (Nat.le_refl _) (Nat.le_refl _) (am_Cl_mono H (fun r7 g7 H2 => ?_))
  show am_Wp true 69 M_L 0 321 h0 Q 333 [some (.inr (.inr (-5))), some (.inr (.inr 1)), some (.inr (.inr 294)), some (.inl i)] [.inl r7, .inl r6] 321 g7
  obtain ⟨e, tx2, I2⟩ := H2
  exact ar_icmp_eq (pc := 333) (x := r6) (y := r7) (tgt := 1374) (off := 1041) (by decide +kernel) (by decide) (fun _ => k g7 tx2 I2) (fun q => absurd e q)
theorem lc_338 {i : Int} {h h0 : am_H} {Q : Int → am_H → Prop} {tx : Nat → List Cl} (I : INV h tx) (i0 : 0 ≤ i) (i1 : i + 6 ≤ h0 (-6) 0) (i2 : h0 (-6) 0 ≤ 3072) (k : ∀ g tx2, INV g tx2 → am_Wp true 69 M_L 0 321 h0 Q 1374 [some (.inr (.inr (-5))), some (.inr (.inr 1)), some (.inr (.inr 294)), some (.inl i)] [] 321 g) : am_Wp true 69 M_L 0 321 h0 Q 338 [some (.inr (.inr (-5))), some (.inr (.inr 1)), some (.inr (.inr 294)), some (.inl i)] [] 321 h := by
  refine ar_aload_n (pc := 338) (i := 1) (k0 := 1) (by decide +kernel) rfl rfl ?_
  refine lw_arg (pc := 339) (k := 1) (by decide +kernel) (by decide +kernel) (by decide +kernel) (by decide +kernel) (by decide +kernel) i0 (by omega) (by omega) (by omega) (by omega) ?_
  refine ar_callV (d := 68) (pc := 344) (M2 := M_X6_by) (a := 1) (ci := 6) (as := [.inl (h0 (-5) (i + 1))]) (n := 321) (n2 := 321) (st := []) (by decide +kernel) rfl wL_32 wiL_yX6_by wlL_yX6_by k_1 rfl wz_RX6 wcL_yX6_by ⟨by decide, by decide, rfl⟩ (by decide) (Nat.le_of_ble_eq_true rfl) (Nat.le_refl _) (Nat.le_refl _) (am_Cl_mono (p_by (D := 54) I (K := fun r6 r7 g => r6 = r7 ∧ ∃ tx2, INV g tx2) (fun g r I2 => ⟨rfl, _, I2⟩)) (fun r6 g6 H => ?_))
  show am_Wp true 69 M_L 0 321 h0 Q 347 [some (.inr (.inr (-5))), some (.inr (.inr 1)), some (.inr (.inr 294)), some (.inl i)] [.inl r6] 321 g6
  refine ar_aload_n (pc := 347) (i := 2) (k0 := 2) (by decide +kernel) rfl rfl ?_
  refine lw_arg (pc := 348) (k := 1) (by decide +kernel) (by decide +kernel) (by decide +kernel) (by decide +kernel) (by decide +kernel) i0 (by omega) (by omega) (by omega) (by omega) ?_
  refine ar_callV (d := 68) (pc := 353) (M2 := M_X7_by) (a := 294) (ci := 7) (as := [.inl (h0 (-5) (i + 1))]) (n := 321) (n2 := 321) (st := [.inl r6]) (by decide +kernel) rfl wL_36 wiL_yX7_by wlL_yX7_by k_294 rfl wz_RX7 wcL_yX7_by ⟨by decide, by decide, rfl⟩ (by decide) (Nat.le_of_ble_eq_true rfl) (Nat.le_refl _) (Nat.le_refl _) (am_Cl_mono H (fun r7 g7 H2 => ?_))
  show am_Wp true 69 M_L 0 321 h0 Q 356 [some (.inr (.inr (-5))), some (.inr (.inr 1)), some (.inr (.inr 294)), some (.inl i)] [.inl r7, .inl r6] 321 g7
  obtain ⟨e, tx2, I2⟩ := H2
  exact ar_icmp_eq (pc := 356) (x := r6) (y := r7) (tgt := 1374) (off := 1018) (by decide +kernel) (by decide) (fun _ => k g7 tx2 I2) (fun q => absurd e q)
theorem lc_361 {i : Int} {h h0 : am_H} {Q : Int → am_H → Prop} {tx : Nat → List Cl} (I : INV h tx) (i0 : 0 ≤ i) (i1 : i + 6 ≤ h0 (-6) 0) (i2 : h0 (-6) 0 ≤ 3072) (k : ∀ g tx2, INV g tx2 → am_Wp true 69 M_L 0 321 h0 Q 1374 [some (.inr (.inr (-5))), some (.inr (.inr 1)), some (.inr (.inr 294)), some (.inl i)] [] 321 g) : am_Wp true 69 M_L 0 321 h0 Q 361 [some (.inr (.inr (-5))), some (.inr (.inr 1)), some (.inr (.inr 294)), some (.inl i)] [] 321 h := by
  refine ar_aload_n (pc := 361) (i := 1) (k0 := 1) (by decide +kernel) rfl rfl ?_
  refine lw_arg (pc := 362) (k := 1) (by decide +kernel) (by decide +kernel) (by decide +kernel) (by decide +kernel) (by decide +kernel) i0 (by omega) (by omega) (by omega) (by omega) ?_
  refine lw_arg (pc := 367) (k := 2) (by decide +kernel) (by decide +kernel) (by decide +kernel) (by decide +kernel) (by decide +kernel) i0 (by omega) (by omega) (by omega) (by omega) ?_
  refine ar_callV (d := 68) (pc := 372) (M2 := M_X6_set) (a := 1) (ci := 6) (as := [.inl (h0 (-5) (i + 1)), .inl (h0 (-5) (i + 2))]) (n := 321) (n2 := 321) (st := []) (by decide +kernel) rfl wL_37 wi_yX6_set wl_yX6_set k_1 rfl wz_RX6 wc_yX6_set ⟨by decide, by decide, rfl⟩ (by decide) (Nat.le_of_ble_eq_true rfl) (Nat.le_refl _) (Nat.le_refl _) (am_Cl_mono (p_set (D := 54) I (K := fun r6 r7 g => r6 = r7 ∧ ∃ tx2, INV g tx2) (fun g r I2 => ⟨rfl, _, I2⟩)) (fun r6 g6 H => ?_))
  show am_Wp true 69 M_L 0 321 h0 Q 375 [some (.inr (.inr (-5))), some (.inr (.inr 1)), some (.inr (.inr 294)), some (.inl i)] [.inl r6] 321 g6
  refine ar_aload_n (pc := 375) (i := 2) (k0 := 2) (by decide +kernel) rfl rfl ?_
  refine lw_arg (pc := 376) (k := 1) (by decide +kernel) (by decide +kernel) (by decide +kernel) (by decide +kernel) (by decide +kernel) i0 (by omega) (by omega) (by omega) (by omega) ?_
  refine lw_arg (pc := 381) (k := 2) (by decide +kernel) (by decide +kernel) (by decide +kernel) (by decide +kernel) (by decide +kernel) i0 (by omega) (by omega) (by omega) (by omega) ?_
  refine ar_callV (d := 68) (pc := 386) (M2 := M_X7_set) (a := 294) (ci := 7) (as := [.inl (h0 (-5) (i + 1)), .inl (h0 (-5) (i + 2))]) (n := 321) (n2 := 321) (st := [.inl r6]) (by decide +kernel) rfl wL_41 wi_yX7_set wl_yX7_set k_294 rfl wz_RX7 wc_yX7_set ⟨by decide, by decide, rfl⟩ (by decide) (Nat.le_of_ble_eq_true rfl) (Nat.le_refl _) (Nat.le_refl _) (am_Cl_mono H (fun r7 g7 H2 => ?_))
  show am_Wp true 69 M_L 0 321 h0 Q 389 [some (.inr (.inr (-5))), some (.inr (.inr 1)), some (.inr (.inr 294)), some (.inl i)] [.inl r7, .inl r6] 321 g7
  obtain ⟨e, tx2, I2⟩ := H2
  exact ar_icmp_eq (pc := 389) (x := r6) (y := r7) (tgt := 1374) (off := 985) (by decide +kernel) (by decide) (fun _ => k g7 tx2 I2) (fun q => absurd e q)
theorem lc_394 {i : Int} {h h0 : am_H} {Q : Int → am_H → Prop} {tx : Nat → List Cl} (I : INV h tx) (i0 : 0 ≤ i) (i1 : i + 6 ≤ h0 (-6) 0) (i2 : h0 (-6) 0 ≤ 3072) (k : ∀ g tx2, INV g tx2 → am_Wp true 69 M_L 0 321 h0 Q 1374 [some (.inr (.inr (-5))), some (.inr (.inr 1)), some (.inr (.inr 294)), some (.inl i)] [] 321 g) : am_Wp true 69 M_L 0 321 h0 Q 394 [some (.inr (.inr (-5))), some (.inr (.inr 1)), some (.inr (.inr 294)), some (.inl i)] [] 321 h := by
  refine ar_aload_n (pc := 394) (i := 1) (k0 := 1) (by decide +kernel) rfl rfl ?_
  refine lw_arg (pc := 395) (k := 1) (by decide +kernel) (by decide +kernel) (by decide +kernel) (by decide +kernel) (by decide +kernel) i0 (by omega) (by omega) (by omega) (by omega) ?_
  refine ar_callV (d := 68) (pc := 400) (M2 := M_X6_size) (a := 1) (ci := 6) (as := [.inl (h0 (-5) (i + 1))]) (n := 321) (n2 := 321) (st := []) (by decide +kernel) rfl wL_42 wi_yX6_size wl_yX6_size k_1 rfl wz_RX6 wc_yX6_size ⟨by decide, by decide, rfl⟩ (by decide) (Nat.le_of_ble_eq_true rfl) (Nat.le_refl _) (Nat.le_refl _) (am_Cl_mono (p_size (D := 54) I (K := fun r6 r7 g => r6 = r7 ∧ ∃ tx2, INV g tx2) (fun g r I2 => ⟨rfl, _, I2⟩)) (fun r6 g6 H => ?_))
  show am_Wp true 69 M_L 0 321 h0 Q 403 [some (.inr (.inr (-5))), some (.inr (.inr 1)), some (.inr (.inr 294)), some (.inl i)] [.inl r6] 321 g6
  refine ar_aload_n (pc := 403) (i := 2) (k0 := 2) (by decide +kernel) rfl rfl ?_
  refine lw_arg (pc := 404) (k := 1) (by decide +kernel) (by decide +kernel) (by decide +kernel) (by decide +kernel) (by decide +kernel) i0 (by omega) (by omega) (by omega) (by omega) ?_
  refine ar_callV (d := 68) (pc := 409) (M2 := M_X7_size) (a := 294) (ci := 7) (as := [.inl (h0 (-5) (i + 1))]) (n := 321) (n2 := 321) (st := [.inl r6]) (by decide +kernel) rfl wL_45 wi_yX7_size wl_yX7_size k_294 rfl wz_RX7 wc_yX7_size ⟨by decide, by decide, rfl⟩ (by decide) (Nat.le_of_ble_eq_true rfl) (Nat.le_refl _) (Nat.le_refl _) (am_Cl_mono H (fun r7 g7 H2 => ?_))
  show am_Wp true 69 M_L 0 321 h0 Q 412 [some (.inr (.inr (-5))), some (.inr (.inr 1)), some (.inr (.inr 294)), some (.inl i)] [.inl r7, .inl r6] 321 g7
  obtain ⟨e, tx2, I2⟩ := H2
  exact ar_icmp_eq (pc := 412) (x := r6) (y := r7) (tgt := 1374) (off := 962) (by decide +kernel) (by decide) (fun _ => k g7 tx2 I2) (fun q => absurd e q)
theorem lc_417 {i : Int} {h h0 : am_H} {Q : Int → am_H → Prop} {tx : Nat → List Cl} (I : INV h tx) (i0 : 0 ≤ i) (i1 : i + 6 ≤ h0 (-6) 0) (i2 : h0 (-6) 0 ≤ 3072) (k : ∀ g tx2, INV g tx2 → am_Wp true 69 M_L 0 321 h0 Q 1374 [some (.inr (.inr (-5))), some (.inr (.inr 1)), some (.inr (.inr 294)), some (.inl i)] [] 321 g) : am_Wp true 69 M_L 0 321 h0 Q 417 [some (.inr (.inr (-5))), some (.inr (.inr 1)), some (.inr (.inr 294)), some (.inl i)] [] 321 h := by
  refine ar_aload_n (pc := 417) (i := 1) (k0 := 1) (by decide +kernel) rfl rfl ?_
  refine ar_callV (d := 68) (pc := 418) (M2 := M_X6_mend) (a := 1) (ci := 6) (as := []) (n := 321) (n2 := 321) (st := []) (by decide +kernel) rfl wL_46 wi_yX6_mend wl_yX6_mend k_1 rfl wz_RX6 wc_yX6_mend ⟨by decide, by decide, rfl⟩ (by decide) (Nat.le_of_ble_eq_true rfl) (Nat.le_refl _) (Nat.le_refl _) (am_Cl_mono (p_mend (D := 54) I (K := fun r6 r7 g => r6 = r7 ∧ ∃ tx2, INV g tx2) (fun g r I2 => ⟨rfl, _, I2⟩)) (fun r6 g6 H => ?_))
  show am_Wp true 69 M_L 0 321 h0 Q 421 [some (.inr (.inr (-5))), some (.inr (.inr 1)), some (.inr (.inr 294)), some (.inl i)] [.inl r6] 321 g6
  refine ar_aload_n (pc := 421) (i := 2) (k0 := 2) (by decide +kernel) rfl rfl ?_
  refine ar_callV (d := 68) (pc := 422) (M2 := M_X7_mend) (a := 294) (ci := 7) (as := []) (n := 321) (n2 := 321) (st := [.inl r6]) (by decide +kernel) rfl wL_49 wi_yX7_mend wl_yX7_mend k_294 rfl wz_RX7 wc_yX7_mend ⟨by decide, by decide, rfl⟩ (by decide) (Nat.le_of_ble_eq_true rfl) (Nat.le_refl _) (Nat.le_refl _) (am_Cl_mono H (fun r7 g7 H2 => ?_))
  show am_Wp true 69 M_L 0 321 h0 Q 425 [some (.inr (.inr (-5))), some (.inr (.inr 1)), some (.inr (.inr 294)), some (.inl i)] [.inl r7, .inl r6] 321 g7
  obtain ⟨e, tx2, I2⟩ := H2
  exact ar_icmp_eq (pc := 425) (x := r6) (y := r7) (tgt := 1374) (off := 949) (by decide +kernel) (by decide) (fun _ => k g7 tx2 I2) (fun q => absurd e q)
theorem lc_430 {i : Int} {h h0 : am_H} {Q : Int → am_H → Prop} {tx : Nat → List Cl} (I : INV h tx) (i0 : 0 ≤ i) (i1 : i + 6 ≤ h0 (-6) 0) (i2 : h0 (-6) 0 ≤ 3072) (k : ∀ g tx2, INV g tx2 → am_Wp true 69 M_L 0 321 h0 Q 1374 [some (.inr (.inr (-5))), some (.inr (.inr 1)), some (.inr (.inr 294)), some (.inl i)] [] 321 g) : am_Wp true 69 M_L 0 321 h0 Q 430 [some (.inr (.inr (-5))), some (.inr (.inr 1)), some (.inr (.inr 294)), some (.inl i)] [] 321 h := by
  refine ar_aload_n (pc := 430) (i := 1) (k0 := 1) (by decide +kernel) rfl rfl ?_
  refine lw_arg (pc := 431) (k := 1) (by decide +kernel) (by decide +kernel) (by decide +kernel) (by decide +kernel) (by decide +kernel) i0 (by omega) (by omega) (by omega) (by omega) ?_
  refine ar_callV (d := 68) (pc := 436) (M2 := M_X6_day) (a := 1) (ci := 6) (as := [.inl (h0 (-5) (i + 1))]) (n := 321) (n2 := 321) (st := []) (by decide +kernel) rfl wL_50 wiL_yX6_day wlL_yX6_day k_1 rfl wz_RX6 wcL_yX6_day ⟨by decide, by decide, rfl⟩ (by decide) (Nat.le_of_ble_eq_true rfl) (Nat.le_refl _) (Nat.le_refl _) (am_Cl_mono (p_day (D := 54) I (K := fun r6 r7 g => r6 = r7 ∧ ∃ tx2, INV g tx2) (fun g r I2 => ⟨rfl, _, I2⟩)) (fun r6 g6 H => ?_))
  show am_Wp true 69 M_L 0 321 h0 Q 439 [some (.inr (.inr (-5))), some (.inr (.inr 1)), some (.inr (.inr 294)), some (.inl i)] [.inl r6] 321 g6
  refine ar_aload_n (pc := 439) (i := 2) (k0 := 2) (by decide +kernel) rfl rfl ?_
  refine lw_arg (pc := 440) (k := 1) (by decide +kernel) (by decide +kernel) (by decide +kernel) (by decide +kernel) (by decide +kernel) i0 (by omega) (by omega) (by omega) (by omega) ?_
  refine ar_callV (d := 68) (pc := 445) (M2 := M_X7_day) (a := 294) (ci := 7) (as := [.inl (h0 (-5) (i + 1))]) (n := 321) (n2 := 321) (st := [.inl r6]) (by decide +kernel) rfl wL_53 wiL_yX7_day wlL_yX7_day k_294 rfl wz_RX7 wcL_yX7_day ⟨by decide, by decide, rfl⟩ (by decide) (Nat.le_of_ble_eq_true rfl) (Nat.le_refl _) (Nat.le_refl _) (am_Cl_mono H (fun r7 g7 H2 => ?_))
  show am_Wp true 69 M_L 0 321 h0 Q 448 [some (.inr (.inr (-5))), some (.inr (.inr 1)), some (.inr (.inr 294)), some (.inl i)] [.inl r7, .inl r6] 321 g7
  obtain ⟨e, tx2, I2⟩ := H2
  exact ar_icmp_eq (pc := 448) (x := r6) (y := r7) (tgt := 1374) (off := 926) (by decide +kernel) (by decide) (fun _ => k g7 tx2 I2) (fun q => absurd e q)
theorem lc_453 {i : Int} {h h0 : am_H} {Q : Int → am_H → Prop} {tx : Nat → List Cl} (I : INV h tx) (i0 : 0 ≤ i) (i1 : i + 6 ≤ h0 (-6) 0) (i2 : h0 (-6) 0 ≤ 3072) (k : ∀ g tx2, INV g tx2 → am_Wp true 69 M_L 0 321 h0 Q 1374 [some (.inr (.inr (-5))), some (.inr (.inr 1)), some (.inr (.inr 294)), some (.inl i)] [] 321 g) : am_Wp true 69 M_L 0 321 h0 Q 453 [some (.inr (.inr (-5))), some (.inr (.inr 1)), some (.inr (.inr 294)), some (.inl i)] [] 321 h := by
  refine ar_aload_n (pc := 453) (i := 1) (k0 := 1) (by decide +kernel) rfl rfl ?_
  refine lw_arg (pc := 454) (k := 1) (by decide +kernel) (by decide +kernel) (by decide +kernel) (by decide +kernel) (by decide +kernel) i0 (by omega) (by omega) (by omega) (by omega) ?_
  refine ar_callV (d := 68) (pc := 459) (M2 := M_X6_played) (a := 1) (ci := 6) (as := [.inl (h0 (-5) (i + 1))]) (n := 321) (n2 := 321) (st := []) (by decide +kernel) rfl wL_54 wiL_yX6_played wlL_yX6_played k_1 rfl wz_RX6 wcL_yX6_played ⟨by decide, by decide, rfl⟩ (by decide) (Nat.le_of_ble_eq_true rfl) (Nat.le_refl _) (Nat.le_refl _) (am_Cl_mono (p_played (D := 54) I (K := fun r6 r7 g => r6 = r7 ∧ ∃ tx2, INV g tx2) (fun g r I2 => ⟨rfl, _, I2⟩)) (fun r6 g6 H => ?_))
  show am_Wp true 69 M_L 0 321 h0 Q 462 [some (.inr (.inr (-5))), some (.inr (.inr 1)), some (.inr (.inr 294)), some (.inl i)] [.inl r6] 321 g6
  refine ar_aload_n (pc := 462) (i := 2) (k0 := 2) (by decide +kernel) rfl rfl ?_
  refine lw_arg (pc := 463) (k := 1) (by decide +kernel) (by decide +kernel) (by decide +kernel) (by decide +kernel) (by decide +kernel) i0 (by omega) (by omega) (by omega) (by omega) ?_
  refine ar_callV (d := 68) (pc := 468) (M2 := M_X7_played) (a := 294) (ci := 7) (as := [.inl (h0 (-5) (i + 1))]) (n := 321) (n2 := 321) (st := [.inl r6]) (by decide +kernel) rfl wL_57 wiL_yX7_played wlL_yX7_played k_294 rfl wz_RX7 wcL_yX7_played ⟨by decide, by decide, rfl⟩ (by decide) (Nat.le_of_ble_eq_true rfl) (Nat.le_refl _) (Nat.le_refl _) (am_Cl_mono H (fun r7 g7 H2 => ?_))
  show am_Wp true 69 M_L 0 321 h0 Q 471 [some (.inr (.inr (-5))), some (.inr (.inr 1)), some (.inr (.inr 294)), some (.inl i)] [.inl r7, .inl r6] 321 g7
  obtain ⟨e, tx2, I2⟩ := H2
  exact ar_icmp_eq (pc := 471) (x := r6) (y := r7) (tgt := 1374) (off := 903) (by decide +kernel) (by decide) (fun _ => k g7 tx2 I2) (fun q => absurd e q)
theorem lc_476 {i : Int} {h h0 : am_H} {Q : Int → am_H → Prop} {tx : Nat → List Cl} (I : INV h tx) (i0 : 0 ≤ i) (i1 : i + 6 ≤ h0 (-6) 0) (i2 : h0 (-6) 0 ≤ 3072) (k : ∀ g tx2, INV g tx2 → am_Wp true 69 M_L 0 321 h0 Q 1374 [some (.inr (.inr (-5))), some (.inr (.inr 1)), some (.inr (.inr 294)), some (.inl i)] [] 321 g) : am_Wp true 69 M_L 0 321 h0 Q 476 [some (.inr (.inr (-5))), some (.inr (.inr 1)), some (.inr (.inr 294)), some (.inl i)] [] 321 h := by
  refine ar_aload_n (pc := 476) (i := 1) (k0 := 1) (by decide +kernel) rfl rfl ?_
  refine lw_arg (pc := 477) (k := 1) (by decide +kernel) (by decide +kernel) (by decide +kernel) (by decide +kernel) (by decide +kernel) i0 (by omega) (by omega) (by omega) (by omega) ?_
  refine lw_arg (pc := 482) (k := 2) (by decide +kernel) (by decide +kernel) (by decide +kernel) (by decide +kernel) (by decide +kernel) i0 (by omega) (by omega) (by omega) (by omega) ?_
  refine ar_callV (d := 68) (pc := 487) (M2 := M_X6_years) (a := 1) (ci := 6) (as := [.inl (h0 (-5) (i + 1)), .inl (h0 (-5) (i + 2))]) (n := 321) (n2 := 321) (st := []) (by decide +kernel) rfl wL_58 wiL_yX6_years wlL_yX6_years k_1 rfl wz_RX6 wcL_yX6_years ⟨by decide, by decide, rfl⟩ (by decide) (Nat.le_of_ble_eq_true rfl) (Nat.le_refl _) (Nat.le_refl _) (am_Cl_mono (p_years (D := 54) I (K := fun r6 r7 g => r6 = r7 ∧ ∃ tx2, INV g tx2) (fun g r I2 => ⟨rfl, _, I2⟩)) (fun r6 g6 H => ?_))
  show am_Wp true 69 M_L 0 321 h0 Q 490 [some (.inr (.inr (-5))), some (.inr (.inr 1)), some (.inr (.inr 294)), some (.inl i)] [.inl r6] 321 g6
  refine ar_aload_n (pc := 490) (i := 2) (k0 := 2) (by decide +kernel) rfl rfl ?_
  refine lw_arg (pc := 491) (k := 1) (by decide +kernel) (by decide +kernel) (by decide +kernel) (by decide +kernel) (by decide +kernel) i0 (by omega) (by omega) (by omega) (by omega) ?_
  refine lw_arg (pc := 496) (k := 2) (by decide +kernel) (by decide +kernel) (by decide +kernel) (by decide +kernel) (by decide +kernel) i0 (by omega) (by omega) (by omega) (by omega) ?_
  refine ar_callV (d := 68) (pc := 501) (M2 := M_X7_years) (a := 294) (ci := 7) (as := [.inl (h0 (-5) (i + 1)), .inl (h0 (-5) (i + 2))]) (n := 321) (n2 := 321) (st := [.inl r6]) (by decide +kernel) rfl wL_62 wiL_yX7_years wlL_yX7_years k_294 rfl wz_RX7 wcL_yX7_years ⟨by decide, by decide, rfl⟩ (by decide) (Nat.le_of_ble_eq_true rfl) (Nat.le_refl _) (Nat.le_refl _) (am_Cl_mono H (fun r7 g7 H2 => ?_))
  show am_Wp true 69 M_L 0 321 h0 Q 504 [some (.inr (.inr (-5))), some (.inr (.inr 1)), some (.inr (.inr 294)), some (.inl i)] [.inl r7, .inl r6] 321 g7
  obtain ⟨e, tx2, I2⟩ := H2
  exact ar_icmp_eq (pc := 504) (x := r6) (y := r7) (tgt := 1374) (off := 870) (by decide +kernel) (by decide) (fun _ => k g7 tx2 I2) (fun q => absurd e q)
theorem lc_509 {i : Int} {h h0 : am_H} {Q : Int → am_H → Prop} {tx : Nat → List Cl} (I : INV h tx) (i0 : 0 ≤ i) (i1 : i + 6 ≤ h0 (-6) 0) (i2 : h0 (-6) 0 ≤ 3072) (k : ∀ g tx2, INV g tx2 → am_Wp true 69 M_L 0 321 h0 Q 1374 [some (.inr (.inr (-5))), some (.inr (.inr 1)), some (.inr (.inr 294)), some (.inl i)] [] 321 g) : am_Wp true 69 M_L 0 321 h0 Q 509 [some (.inr (.inr (-5))), some (.inr (.inr 1)), some (.inr (.inr 294)), some (.inl i)] [] 321 h := by
  refine ar_aload_n (pc := 509) (i := 1) (k0 := 1) (by decide +kernel) rfl rfl ?_
  refine ar_callV (d := 68) (pc := 510) (M2 := M_X6_undo) (a := 1) (ci := 6) (as := []) (n := 321) (n2 := 321) (st := []) (by decide +kernel) rfl wL_63 wiL_yX6_undo wlL_yX6_undo k_1 rfl wz_RX6 wcL_yX6_undo ⟨by decide, by decide, rfl⟩ (by decide) (Nat.le_of_ble_eq_true rfl) (Nat.le_refl _) (Nat.le_refl _) (am_Cl_mono (p_undo (D := 54) I (K := fun r6 r7 g => r6 = r7 ∧ ∃ tx2, INV g tx2) (fun g r I2 => ⟨rfl, _, I2⟩)) (fun r6 g6 H => ?_))
  show am_Wp true 69 M_L 0 321 h0 Q 513 [some (.inr (.inr (-5))), some (.inr (.inr 1)), some (.inr (.inr 294)), some (.inl i)] [.inl r6] 321 g6
  refine ar_aload_n (pc := 513) (i := 2) (k0 := 2) (by decide +kernel) rfl rfl ?_
  refine ar_callV (d := 68) (pc := 514) (M2 := M_X7_undo) (a := 294) (ci := 7) (as := []) (n := 321) (n2 := 321) (st := [.inl r6]) (by decide +kernel) rfl wL_66 wiL_yX7_undo wlL_yX7_undo k_294 rfl wz_RX7 wcL_yX7_undo ⟨by decide, by decide, rfl⟩ (by decide) (Nat.le_of_ble_eq_true rfl) (Nat.le_refl _) (Nat.le_refl _) (am_Cl_mono H (fun r7 g7 H2 => ?_))
  show am_Wp true 69 M_L 0 321 h0 Q 517 [some (.inr (.inr (-5))), some (.inr (.inr 1)), some (.inr (.inr 294)), some (.inl i)] [.inl r7, .inl r6] 321 g7
  obtain ⟨e, tx2, I2⟩ := H2
  exact ar_icmp_eq (pc := 517) (x := r6) (y := r7) (tgt := 1374) (off := 857) (by decide +kernel) (by decide) (fun _ => k g7 tx2 I2) (fun q => absurd e q)
theorem lc_522 {i : Int} {h h0 : am_H} {Q : Int → am_H → Prop} {tx : Nat → List Cl} (I : INV h tx) (i0 : 0 ≤ i) (i1 : i + 6 ≤ h0 (-6) 0) (i2 : h0 (-6) 0 ≤ 3072) (k : ∀ g tx2, INV g tx2 → am_Wp true 69 M_L 0 321 h0 Q 1374 [some (.inr (.inr (-5))), some (.inr (.inr 1)), some (.inr (.inr 294)), some (.inl i)] [] 321 g) : am_Wp true 69 M_L 0 321 h0 Q 522 [some (.inr (.inr (-5))), some (.inr (.inr 1)), some (.inr (.inr 294)), some (.inl i)] [] 321 h := by
  refine ar_aload_n (pc := 522) (i := 1) (k0 := 1) (by decide +kernel) rfl rfl ?_
  refine lw_arg (pc := 523) (k := 1) (by decide +kernel) (by decide +kernel) (by decide +kernel) (by decide +kernel) (by decide +kernel) i0 (by omega) (by omega) (by omega) (by omega) ?_
  refine ar_callV (d := 68) (pc := 528) (M2 := M_X6_at) (a := 1) (ci := 6) (as := [.inl (h0 (-5) (i + 1))]) (n := 321) (n2 := 321) (st := []) (by decide +kernel) rfl wL_67 wiL_yX6_at wlL_yX6_at k_1 rfl wz_RX6 wcL_yX6_at ⟨by decide, by decide, rfl⟩ (by decide) (Nat.le_of_ble_eq_true rfl) (Nat.le_refl _) (Nat.le_refl _) (am_Cl_mono (p_at (D := 54) I (K := fun r6 r7 g => r6 = r7 ∧ ∃ tx2, INV g tx2) (fun g r I2 => ⟨rfl, _, I2⟩)) (fun r6 g6 H => ?_))
  show am_Wp true 69 M_L 0 321 h0 Q 531 [some (.inr (.inr (-5))), some (.inr (.inr 1)), some (.inr (.inr 294)), some (.inl i)] [.inl r6] 321 g6
  refine ar_aload_n (pc := 531) (i := 2) (k0 := 2) (by decide +kernel) rfl rfl ?_
  refine lw_arg (pc := 532) (k := 1) (by decide +kernel) (by decide +kernel) (by decide +kernel) (by decide +kernel) (by decide +kernel) i0 (by omega) (by omega) (by omega) (by omega) ?_
  refine ar_callV (d := 68) (pc := 537) (M2 := M_X7_at) (a := 294) (ci := 7) (as := [.inl (h0 (-5) (i + 1))]) (n := 321) (n2 := 321) (st := [.inl r6]) (by decide +kernel) rfl wL_70 wiL_yX7_at wlL_yX7_at k_294 rfl wz_RX7 wcL_yX7_at ⟨by decide, by decide, rfl⟩ (by decide) (Nat.le_of_ble_eq_true rfl) (Nat.le_refl _) (Nat.le_refl _) (am_Cl_mono H (fun r7 g7 H2 => ?_))
  show am_Wp true 69 M_L 0 321 h0 Q 540 [some (.inr (.inr (-5))), some (.inr (.inr 1)), some (.inr (.inr 294)), some (.inl i)] [.inl r7, .inl r6] 321 g7
  obtain ⟨e, tx2, I2⟩ := H2
  exact ar_icmp_eq (pc := 540) (x := r6) (y := r7) (tgt := 1374) (off := 834) (by decide +kernel) (by decide) (fun _ => k g7 tx2 I2) (fun q => absurd e q)
theorem lc_545 {i : Int} {h h0 : am_H} {Q : Int → am_H → Prop} {tx : Nat → List Cl} (I : INV h tx) (i0 : 0 ≤ i) (i1 : i + 6 ≤ h0 (-6) 0) (i2 : h0 (-6) 0 ≤ 3072) (k : ∀ g tx2, INV g tx2 → am_Wp true 69 M_L 0 321 h0 Q 1374 [some (.inr (.inr (-5))), some (.inr (.inr 1)), some (.inr (.inr 294)), some (.inl i)] [] 321 g) : am_Wp true 69 M_L 0 321 h0 Q 545 [some (.inr (.inr (-5))), some (.inr (.inr 1)), some (.inr (.inr 294)), some (.inl i)] [] 321 h := by
  refine ar_aload_n (pc := 545) (i := 1) (k0 := 1) (by decide +kernel) rfl rfl ?_
  refine lw_arg (pc := 546) (k := 1) (by decide +kernel) (by decide +kernel) (by decide +kernel) (by decide +kernel) (by decide +kernel) i0 (by omega) (by omega) (by omega) (by omega) ?_
  refine ar_callV (d := 68) (pc := 551) (M2 := M_X6_is) (a := 1) (ci := 6) (as := [.inl (h0 (-5) (i + 1))]) (n := 321) (n2 := 321) (st := []) (by decide +kernel) rfl wL_71 wiL_yX6_is wlL_yX6_is k_1 rfl wz_RX6 wcL_yX6_is ⟨by decide, by decide, rfl⟩ (by decide) (Nat.le_of_ble_eq_true rfl) (Nat.le_refl _) (Nat.le_refl _) (am_Cl_mono (p_is (D := 54) I (K := fun r6 r7 g => r6 = r7 ∧ ∃ tx2, INV g tx2) (fun g r I2 => ⟨rfl, _, I2⟩)) (fun r6 g6 H => ?_))
  show am_Wp true 69 M_L 0 321 h0 Q 554 [some (.inr (.inr (-5))), some (.inr (.inr 1)), some (.inr (.inr 294)), some (.inl i)] [.inl r6] 321 g6
  refine ar_aload_n (pc := 554) (i := 2) (k0 := 2) (by decide +kernel) rfl rfl ?_
  refine lw_arg (pc := 555) (k := 1) (by decide +kernel) (by decide +kernel) (by decide +kernel) (by decide +kernel) (by decide +kernel) i0 (by omega) (by omega) (by omega) (by omega) ?_
  refine ar_callV (d := 68) (pc := 560) (M2 := M_X7_is) (a := 294) (ci := 7) (as := [.inl (h0 (-5) (i + 1))]) (n := 321) (n2 := 321) (st := [.inl r6]) (by decide +kernel) rfl wL_74 wiL_yX7_is wlL_yX7_is k_294 rfl wz_RX7 wcL_yX7_is ⟨by decide, by decide, rfl⟩ (by decide) (Nat.le_of_ble_eq_true rfl) (Nat.le_refl _) (Nat.le_refl _) (am_Cl_mono H (fun r7 g7 H2 => ?_))
  show am_Wp true 69 M_L 0 321 h0 Q 563 [some (.inr (.inr (-5))), some (.inr (.inr 1)), some (.inr (.inr 294)), some (.inl i)] [.inl r7, .inl r6] 321 g7
  obtain ⟨e, tx2, I2⟩ := H2
  exact ar_icmp_eq (pc := 563) (x := r6) (y := r7) (tgt := 1374) (off := 811) (by decide +kernel) (by decide) (fun _ => k g7 tx2 I2) (fun q => absurd e q)
theorem lc_568 {i : Int} {h h0 : am_H} {Q : Int → am_H → Prop} {tx : Nat → List Cl} (I : INV h tx) (i0 : 0 ≤ i) (i1 : i + 6 ≤ h0 (-6) 0) (i2 : h0 (-6) 0 ≤ 3072) (k : ∀ g tx2, INV g tx2 → am_Wp true 69 M_L 0 321 h0 Q 1374 [some (.inr (.inr (-5))), some (.inr (.inr 1)), some (.inr (.inr 294)), some (.inl i)] [] 321 g) : am_Wp true 69 M_L 0 321 h0 Q 568 [some (.inr (.inr (-5))), some (.inr (.inr 1)), some (.inr (.inr 294)), some (.inl i)] [] 321 h := by
  refine ar_aload_n (pc := 568) (i := 1) (k0 := 1) (by decide +kernel) rfl rfl ?_
  refine lw_arg (pc := 569) (k := 1) (by decide +kernel) (by decide +kernel) (by decide +kernel) (by decide +kernel) (by decide +kernel) i0 (by omega) (by omega) (by omega) (by omega) ?_
  refine lw_arg (pc := 574) (k := 2) (by decide +kernel) (by decide +kernel) (by decide +kernel) (by decide +kernel) (by decide +kernel) i0 (by omega) (by omega) (by omega) (by omega) ?_
  refine ar_callV (d := 68) (pc := 579) (M2 := M_X6_book) (a := 1) (ci := 6) (as := [.inl (h0 (-5) (i + 1)), .inl (h0 (-5) (i + 2))]) (n := 321) (n2 := 321) (st := []) (by decide +kernel) rfl wL_75 wiL_yX6_book wlL_yX6_book k_1 rfl wz_RX6 wcL_yX6_book ⟨by decide, by decide, rfl⟩ (by decide) (Nat.le_of_ble_eq_true rfl) (Nat.le_refl _) (Nat.le_refl _) (am_Cl_mono (p_book (D := 54) I (K := fun r6 r7 g => r6 = r7 ∧ ∃ tx2, INV g tx2) (fun g r I2 => ⟨rfl, _, I2⟩)) (fun r6 g6 H => ?_))
  show am_Wp true 69 M_L 0 321 h0 Q 582 [some (.inr (.inr (-5))), some (.inr (.inr 1)), some (.inr (.inr 294)), some (.inl i)] [.inl r6] 321 g6
  refine ar_aload_n (pc := 582) (i := 2) (k0 := 2) (by decide +kernel) rfl rfl ?_
  refine lw_arg (pc := 583) (k := 1) (by decide +kernel) (by decide +kernel) (by decide +kernel) (by decide +kernel) (by decide +kernel) i0 (by omega) (by omega) (by omega) (by omega) ?_
  refine lw_arg (pc := 588) (k := 2) (by decide +kernel) (by decide +kernel) (by decide +kernel) (by decide +kernel) (by decide +kernel) i0 (by omega) (by omega) (by omega) (by omega) ?_
  refine ar_callV (d := 68) (pc := 593) (M2 := M_X7_book) (a := 294) (ci := 7) (as := [.inl (h0 (-5) (i + 1)), .inl (h0 (-5) (i + 2))]) (n := 321) (n2 := 321) (st := [.inl r6]) (by decide +kernel) rfl wL_78 wiL_yX7_book wlL_yX7_book k_294 rfl wz_RX7 wcL_yX7_book ⟨by decide, by decide, rfl⟩ (by decide) (Nat.le_of_ble_eq_true rfl) (Nat.le_refl _) (Nat.le_refl _) (am_Cl_mono H (fun r7 g7 H2 => ?_))
  show am_Wp true 69 M_L 0 321 h0 Q 596 [some (.inr (.inr (-5))), some (.inr (.inr 1)), some (.inr (.inr 294)), some (.inl i)] [.inl r7, .inl r6] 321 g7
  obtain ⟨e, tx2, I2⟩ := H2
  exact ar_icmp_eq (pc := 596) (x := r6) (y := r7) (tgt := 1374) (off := 778) (by decide +kernel) (by decide) (fun _ => k g7 tx2 I2) (fun q => absurd e q)
theorem lc_601 {i : Int} {h h0 : am_H} {Q : Int → am_H → Prop} {tx : Nat → List Cl} (I : INV h tx) (i0 : 0 ≤ i) (i1 : i + 6 ≤ h0 (-6) 0) (i2 : h0 (-6) 0 ≤ 3072) (k : ∀ g tx2, INV g tx2 → am_Wp true 69 M_L 0 321 h0 Q 1374 [some (.inr (.inr (-5))), some (.inr (.inr 1)), some (.inr (.inr 294)), some (.inl i)] [] 321 g) : am_Wp true 69 M_L 0 321 h0 Q 601 [some (.inr (.inr (-5))), some (.inr (.inr 1)), some (.inr (.inr 294)), some (.inl i)] [] 321 h := by
  refine ar_aload_n (pc := 601) (i := 1) (k0 := 1) (by decide +kernel) rfl rfl ?_
  refine lw_arg (pc := 602) (k := 1) (by decide +kernel) (by decide +kernel) (by decide +kernel) (by decide +kernel) (by decide +kernel) i0 (by omega) (by omega) (by omega) (by omega) ?_
  refine lw_arg (pc := 607) (k := 2) (by decide +kernel) (by decide +kernel) (by decide +kernel) (by decide +kernel) (by decide +kernel) i0 (by omega) (by omega) (by omega) (by omega) ?_
  refine ar_callV (d := 68) (pc := 612) (M2 := M_X6_foretold) (a := 1) (ci := 6) (as := [.inl (h0 (-5) (i + 1)), .inl (h0 (-5) (i + 2))]) (n := 321) (n2 := 321) (st := []) (by decide +kernel) rfl wL_79 wiL_yX6_foretold wlL_yX6_foretold k_1 rfl wz_RX6 wcL_yX6_foretold ⟨by decide, by decide, rfl⟩ (by decide) (Nat.le_of_ble_eq_true rfl) (Nat.le_refl _) (Nat.le_refl _) (am_Cl_mono (p_foretold (D := 54) I (K := fun r6 r7 g => r6 = r7 ∧ ∃ tx2, INV g tx2) (fun g r I2 => ⟨rfl, _, I2⟩)) (fun r6 g6 H => ?_))
  show am_Wp true 69 M_L 0 321 h0 Q 615 [some (.inr (.inr (-5))), some (.inr (.inr 1)), some (.inr (.inr 294)), some (.inl i)] [.inl r6] 321 g6
  refine ar_aload_n (pc := 615) (i := 2) (k0 := 2) (by decide +kernel) rfl rfl ?_
  refine lw_arg (pc := 616) (k := 1) (by decide +kernel) (by decide +kernel) (by decide +kernel) (by decide +kernel) (by decide +kernel) i0 (by omega) (by omega) (by omega) (by omega) ?_
  refine lw_arg (pc := 621) (k := 2) (by decide +kernel) (by decide +kernel) (by decide +kernel) (by decide +kernel) (by decide +kernel) i0 (by omega) (by omega) (by omega) (by omega) ?_
  refine ar_callV (d := 68) (pc := 626) (M2 := M_X7_foretold) (a := 294) (ci := 7) (as := [.inl (h0 (-5) (i + 1)), .inl (h0 (-5) (i + 2))]) (n := 321) (n2 := 321) (st := [.inl r6]) (by decide +kernel) rfl wL_82 wiL_yX7_foretold wlL_yX7_foretold k_294 rfl wz_RX7 wcL_yX7_foretold ⟨by decide, by decide, rfl⟩ (by decide) (Nat.le_of_ble_eq_true rfl) (Nat.le_refl _) (Nat.le_refl _) (am_Cl_mono H (fun r7 g7 H2 => ?_))
  show am_Wp true 69 M_L 0 321 h0 Q 629 [some (.inr (.inr (-5))), some (.inr (.inr 1)), some (.inr (.inr 294)), some (.inl i)] [.inl r7, .inl r6] 321 g7
  obtain ⟨e, tx2, I2⟩ := H2
  exact ar_icmp_eq (pc := 629) (x := r6) (y := r7) (tgt := 1374) (off := 745) (by decide +kernel) (by decide) (fun _ => k g7 tx2 I2) (fun q => absurd e q)
theorem lc_634 {i : Int} {h h0 : am_H} {Q : Int → am_H → Prop} {tx : Nat → List Cl} (I : INV h tx) (i0 : 0 ≤ i) (i1 : i + 6 ≤ h0 (-6) 0) (i2 : h0 (-6) 0 ≤ 3072) (k : ∀ g tx2, INV g tx2 → am_Wp true 69 M_L 0 321 h0 Q 1374 [some (.inr (.inr (-5))), some (.inr (.inr 1)), some (.inr (.inr 294)), some (.inl i)] [] 321 g) : am_Wp true 69 M_L 0 321 h0 Q 634 [some (.inr (.inr (-5))), some (.inr (.inr 1)), some (.inr (.inr 294)), some (.inl i)] [] 321 h := by
  refine ar_aload_n (pc := 634) (i := 1) (k0 := 1) (by decide +kernel) rfl rfl ?_
  refine lw_arg (pc := 635) (k := 1) (by decide +kernel) (by decide +kernel) (by decide +kernel) (by decide +kernel) (by decide +kernel) i0 (by omega) (by omega) (by omega) (by omega) ?_
  refine ar_callV (d := 68) (pc := 640) (M2 := M_X6_valid) (a := 1) (ci := 6) (as := [.inl (h0 (-5) (i + 1))]) (n := 321) (n2 := 321) (st := []) (by decide +kernel) rfl wL_83 wiL_yX6_valid wlL_yX6_valid k_1 rfl wz_RX6 wcL_yX6_valid ⟨by decide, by decide, rfl⟩ (by decide) (Nat.le_of_ble_eq_true rfl) (Nat.le_refl _) (Nat.le_refl _) (am_Cl_mono (p_valid (D := 54) I (K := fun r6 r7 g => r6 = r7 ∧ ∃ tx2, INV g tx2) (fun g r I2 => ⟨rfl, _, I2⟩)) (fun r6 g6 H => ?_))
  show am_Wp true 69 M_L 0 321 h0 Q 643 [some (.inr (.inr (-5))), some (.inr (.inr 1)), some (.inr (.inr 294)), some (.inl i)] [.inl r6] 321 g6
  refine ar_aload_n (pc := 643) (i := 2) (k0 := 2) (by decide +kernel) rfl rfl ?_
  refine lw_arg (pc := 644) (k := 1) (by decide +kernel) (by decide +kernel) (by decide +kernel) (by decide +kernel) (by decide +kernel) i0 (by omega) (by omega) (by omega) (by omega) ?_
  refine ar_callV (d := 68) (pc := 649) (M2 := M_X7_valid) (a := 294) (ci := 7) (as := [.inl (h0 (-5) (i + 1))]) (n := 321) (n2 := 321) (st := [.inl r6]) (by decide +kernel) rfl wL_86 wiL_yX7_valid wlL_yX7_valid k_294 rfl wz_RX7 wcL_yX7_valid ⟨by decide, by decide, rfl⟩ (by decide) (Nat.le_of_ble_eq_true rfl) (Nat.le_refl _) (Nat.le_refl _) (am_Cl_mono H (fun r7 g7 H2 => ?_))
  show am_Wp true 69 M_L 0 321 h0 Q 652 [some (.inr (.inr (-5))), some (.inr (.inr 1)), some (.inr (.inr 294)), some (.inl i)] [.inl r7, .inl r6] 321 g7
  obtain ⟨e, tx2, I2⟩ := H2
  exact ar_icmp_eq (pc := 652) (x := r6) (y := r7) (tgt := 1374) (off := 722) (by decide +kernel) (by decide) (fun _ => k g7 tx2 I2) (fun q => absurd e q)
theorem lc_657 {i : Int} {h h0 : am_H} {Q : Int → am_H → Prop} {tx : Nat → List Cl} (I : INV h tx) (i0 : 0 ≤ i) (i1 : i + 6 ≤ h0 (-6) 0) (i2 : h0 (-6) 0 ≤ 3072) (k : ∀ g tx2, INV g tx2 → am_Wp true 69 M_L 0 321 h0 Q 1374 [some (.inr (.inr (-5))), some (.inr (.inr 1)), some (.inr (.inr 294)), some (.inl i)] [] 321 g) : am_Wp true 69 M_L 0 321 h0 Q 657 [some (.inr (.inr (-5))), some (.inr (.inr 1)), some (.inr (.inr 294)), some (.inl i)] [] 321 h := by
  refine ar_aload_n (pc := 657) (i := 1) (k0 := 1) (by decide +kernel) rfl rfl ?_
  refine lw_arg (pc := 658) (k := 1) (by decide +kernel) (by decide +kernel) (by decide +kernel) (by decide +kernel) (by decide +kernel) i0 (by omega) (by omega) (by omega) (by omega) ?_
  refine lw_arg (pc := 663) (k := 2) (by decide +kernel) (by decide +kernel) (by decide +kernel) (by decide +kernel) (by decide +kernel) i0 (by omega) (by omega) (by omega) (by omega) ?_
  refine lw_arg (pc := 668) (k := 3) (by decide +kernel) (by decide +kernel) (by decide +kernel) (by decide +kernel) (by decide +kernel) i0 (by omega) (by omega) (by omega) (by omega) ?_
  refine ar_callV (d := 68) (pc := 673) (M2 := M_X6_field) (a := 1) (ci := 6) (as := [.inl (h0 (-5) (i + 1)), .inl (h0 (-5) (i + 2)), .inl (h0 (-5) (i + 3))]) (n := 321) (n2 := 321) (st := []) (by decide +kernel) rfl wL_87 wiL_yX6_field wlL_yX6_field k_1 rfl wz_RX6 wcL_yX6_field ⟨by decide, by decide, rfl⟩ (by decide) (Nat.le_of_ble_eq_true rfl) (Nat.le_refl _) (Nat.le_refl _) (am_Cl_mono (p_field (D := 54) I (K := fun r6 r7 g => r6 = r7 ∧ ∃ tx2, INV g tx2) (fun g r I2 => ⟨rfl, _, I2⟩)) (fun r6 g6 H => ?_))
  show am_Wp true 69 M_L 0 321 h0 Q 676 [some (.inr (.inr (-5))), some (.inr (.inr 1)), some (.inr (.inr 294)), some (.inl i)] [.inl r6] 321 g6
  refine ar_aload_n (pc := 676) (i := 2) (k0 := 2) (by decide +kernel) rfl rfl ?_
  refine lw_arg (pc := 677) (k := 1) (by decide +kernel) (by decide +kernel) (by decide +kernel) (by decide +kernel) (by decide +kernel) i0 (by omega) (by omega) (by omega) (by omega) ?_
  refine lw_arg (pc := 682) (k := 2) (by decide +kernel) (by decide +kernel) (by decide +kernel) (by decide +kernel) (by decide +kernel) i0 (by omega) (by omega) (by omega) (by omega) ?_
  refine lw_arg (pc := 687) (k := 3) (by decide +kernel) (by decide +kernel) (by decide +kernel) (by decide +kernel) (by decide +kernel) i0 (by omega) (by omega) (by omega) (by omega) ?_
  refine ar_callV (d := 68) (pc := 692) (M2 := M_X7_field) (a := 294) (ci := 7) (as := [.inl (h0 (-5) (i + 1)), .inl (h0 (-5) (i + 2)), .inl (h0 (-5) (i + 3))]) (n := 321) (n2 := 321) (st := [.inl r6]) (by decide +kernel) rfl wL_91 wiL_yX7_field wlL_yX7_field k_294 rfl wz_RX7 wcL_yX7_field ⟨by decide, by decide, rfl⟩ (by decide) (Nat.le_of_ble_eq_true rfl) (Nat.le_refl _) (Nat.le_refl _) (am_Cl_mono H (fun r7 g7 H2 => ?_))
  show am_Wp true 69 M_L 0 321 h0 Q 695 [some (.inr (.inr (-5))), some (.inr (.inr 1)), some (.inr (.inr 294)), some (.inl i)] [.inl r7, .inl r6] 321 g7
  obtain ⟨e, tx2, I2⟩ := H2
  exact ar_icmp_eq (pc := 695) (x := r6) (y := r7) (tgt := 1374) (off := 679) (by decide +kernel) (by decide) (fun _ => k g7 tx2 I2) (fun q => absurd e q)
theorem lc_700 {i : Int} {h h0 : am_H} {Q : Int → am_H → Prop} {tx : Nat → List Cl} (I : INV h tx) (i0 : 0 ≤ i) (i1 : i + 6 ≤ h0 (-6) 0) (i2 : h0 (-6) 0 ≤ 3072) (k : ∀ g tx2, INV g tx2 → am_Wp true 69 M_L 0 321 h0 Q 1374 [some (.inr (.inr (-5))), some (.inr (.inr 1)), some (.inr (.inr 294)), some (.inl i)] [] 321 g) : am_Wp true 69 M_L 0 321 h0 Q 700 [some (.inr (.inr (-5))), some (.inr (.inr 1)), some (.inr (.inr 294)), some (.inl i)] [] 321 h := by
  refine ar_aload_n (pc := 700) (i := 1) (k0 := 1) (by decide +kernel) rfl rfl ?_
  refine lw_arg (pc := 701) (k := 1) (by decide +kernel) (by decide +kernel) (by decide +kernel) (by decide +kernel) (by decide +kernel) i0 (by omega) (by omega) (by omega) (by omega) ?_
  refine lw_arg (pc := 706) (k := 2) (by decide +kernel) (by decide +kernel) (by decide +kernel) (by decide +kernel) (by decide +kernel) i0 (by omega) (by omega) (by omega) (by omega) ?_
  refine lw_arg (pc := 711) (k := 3) (by decide +kernel) (by decide +kernel) (by decide +kernel) (by decide +kernel) (by decide +kernel) i0 (by omega) (by omega) (by omega) (by omega) ?_
  refine lw_arg (pc := 716) (k := 4) (by decide +kernel) (by decide +kernel) (by decide +kernel) (by decide +kernel) (by decide +kernel) i0 (by omega) (by omega) (by omega) (by omega) ?_
  refine ar_callV (d := 68) (pc := 721) (M2 := M_X6_inside) (a := 1) (ci := 6) (as := [.inl (h0 (-5) (i + 1)), .inl (h0 (-5) (i + 2)), .inl (h0 (-5) (i + 3)), .inl (h0 (-5) (i + 4))]) (n := 321) (n2 := 321) (st := []) (by decide +kernel) rfl wL_92 wiL_yX6_inside wlL_yX6_inside k_1 rfl wz_RX6 wcL_yX6_inside ⟨by decide, by decide, rfl⟩ (by decide) (Nat.le_of_ble_eq_true rfl) (Nat.le_refl _) (Nat.le_refl _) (am_Cl_mono (p_inside (D := 54) I (K := fun r6 r7 g => r6 = r7 ∧ ∃ tx2, INV g tx2) (fun g r I2 => ⟨rfl, _, I2⟩)) (fun r6 g6 H => ?_))
  show am_Wp true 69 M_L 0 321 h0 Q 724 [some (.inr (.inr (-5))), some (.inr (.inr 1)), some (.inr (.inr 294)), some (.inl i)] [.inl r6] 321 g6
  refine ar_aload_n (pc := 724) (i := 2) (k0 := 2) (by decide +kernel) rfl rfl ?_
  refine lw_arg (pc := 725) (k := 1) (by decide +kernel) (by decide +kernel) (by decide +kernel) (by decide +kernel) (by decide +kernel) i0 (by omega) (by omega) (by omega) (by omega) ?_
  refine lw_arg (pc := 730) (k := 2) (by decide +kernel) (by decide +kernel) (by decide +kernel) (by decide +kernel) (by decide +kernel) i0 (by omega) (by omega) (by omega) (by omega) ?_
  refine lw_arg (pc := 735) (k := 3) (by decide +kernel) (by decide +kernel) (by decide +kernel) (by decide +kernel) (by decide +kernel) i0 (by omega) (by omega) (by omega) (by omega) ?_
  refine lw_arg (pc := 740) (k := 4) (by decide +kernel) (by decide +kernel) (by decide +kernel) (by decide +kernel) (by decide +kernel) i0 (by omega) (by omega) (by omega) (by omega) ?_
  refine ar_callV (d := 68) (pc := 745) (M2 := M_X7_inside) (a := 294) (ci := 7) (as := [.inl (h0 (-5) (i + 1)), .inl (h0 (-5) (i + 2)), .inl (h0 (-5) (i + 3)), .inl (h0 (-5) (i + 4))]) (n := 321) (n2 := 321) (st := [.inl r6]) (by decide +kernel) rfl wL_96 wiL_yX7_inside wlL_yX7_inside k_294 rfl wz_RX7 wcL_yX7_inside ⟨by decide, by decide, rfl⟩ (by decide) (Nat.le_of_ble_eq_true rfl) (Nat.le_refl _) (Nat.le_refl _) (am_Cl_mono H (fun r7 g7 H2 => ?_))
  show am_Wp true 69 M_L 0 321 h0 Q 748 [some (.inr (.inr (-5))), some (.inr (.inr 1)), some (.inr (.inr 294)), some (.inl i)] [.inl r7, .inl r6] 321 g7
  obtain ⟨e, tx2, I2⟩ := H2
  exact ar_icmp_eq (pc := 748) (x := r6) (y := r7) (tgt := 1374) (off := 626) (by decide +kernel) (by decide) (fun _ => k g7 tx2 I2) (fun q => absurd e q)
theorem lc_753 {i : Int} {h h0 : am_H} {Q : Int → am_H → Prop} {tx : Nat → List Cl} (I : INV h tx) (i0 : 0 ≤ i) (i1 : i + 6 ≤ h0 (-6) 0) (i2 : h0 (-6) 0 ≤ 3072) (k : ∀ g tx2, INV g tx2 → am_Wp true 69 M_L 0 321 h0 Q 1374 [some (.inr (.inr (-5))), some (.inr (.inr 1)), some (.inr (.inr 294)), some (.inl i)] [] 321 g) : am_Wp true 69 M_L 0 321 h0 Q 753 [some (.inr (.inr (-5))), some (.inr (.inr 1)), some (.inr (.inr 294)), some (.inl i)] [] 321 h := by
  refine ar_aload_n (pc := 753) (i := 1) (k0 := 1) (by decide +kernel) rfl rfl ?_
  refine lw_arg (pc := 754) (k := 1) (by decide +kernel) (by decide +kernel) (by decide +kernel) (by decide +kernel) (by decide +kernel) i0 (by omega) (by omega) (by omega) (by omega) ?_
  refine lw_arg (pc := 759) (k := 2) (by decide +kernel) (by decide +kernel) (by decide +kernel) (by decide +kernel) (by decide +kernel) i0 (by omega) (by omega) (by omega) (by omega) ?_
  refine ar_callV (d := 68) (pc := 764) (M2 := M_X6_order) (a := 1) (ci := 6) (as := [.inl (h0 (-5) (i + 1)), .inl (h0 (-5) (i + 2))]) (n := 321) (n2 := 321) (st := []) (by decide +kernel) rfl wL_97 wiL_yX6_order wlL_yX6_order k_1 rfl wz_RX6 wcL_yX6_order ⟨by decide, by decide, rfl⟩ (by decide) (Nat.le_of_ble_eq_true rfl) (Nat.le_refl _) (Nat.le_refl _) (am_Cl_mono (p_order (D := 54) I (K := fun r6 r7 g => r6 = r7 ∧ ∃ tx2, INV g tx2) (fun g r I2 => ⟨rfl, _, I2⟩)) (fun r6 g6 H => ?_))
  show am_Wp true 69 M_L 0 321 h0 Q 767 [some (.inr (.inr (-5))), some (.inr (.inr 1)), some (.inr (.inr 294)), some (.inl i)] [.inl r6] 321 g6
  refine ar_aload_n (pc := 767) (i := 2) (k0 := 2) (by decide +kernel) rfl rfl ?_
  refine lw_arg (pc := 768) (k := 1) (by decide +kernel) (by decide +kernel) (by decide +kernel) (by decide +kernel) (by decide +kernel) i0 (by omega) (by omega) (by omega) (by omega) ?_
  refine lw_arg (pc := 773) (k := 2) (by decide +kernel) (by decide +kernel) (by decide +kernel) (by decide +kernel) (by decide +kernel) i0 (by omega) (by omega) (by omega) (by omega) ?_
  refine ar_callV (d := 68) (pc := 778) (M2 := M_X7_order) (a := 294) (ci := 7) (as := [.inl (h0 (-5) (i + 1)), .inl (h0 (-5) (i + 2))]) (n := 321) (n2 := 321) (st := [.inl r6]) (by decide +kernel) rfl wL_100 wiL_yX7_order wlL_yX7_order k_294 rfl wz_RX7 wcL_yX7_order ⟨by decide, by decide, rfl⟩ (by decide) (Nat.le_of_ble_eq_true rfl) (Nat.le_refl _) (Nat.le_refl _) (am_Cl_mono H (fun r7 g7 H2 => ?_))
  show am_Wp true 69 M_L 0 321 h0 Q 781 [some (.inr (.inr (-5))), some (.inr (.inr 1)), some (.inr (.inr 294)), some (.inl i)] [.inl r7, .inl r6] 321 g7
  obtain ⟨e, tx2, I2⟩ := H2
  exact ar_icmp_eq (pc := 781) (x := r6) (y := r7) (tgt := 1374) (off := 593) (by decide +kernel) (by decide) (fun _ => k g7 tx2 I2) (fun q => absurd e q)
theorem lc_786 {i : Int} {h h0 : am_H} {Q : Int → am_H → Prop} {tx : Nat → List Cl} (I : INV h tx) (i0 : 0 ≤ i) (i1 : i + 6 ≤ h0 (-6) 0) (i2 : h0 (-6) 0 ≤ 3072) (k : ∀ g tx2, INV g tx2 → am_Wp true 69 M_L 0 321 h0 Q 1374 [some (.inr (.inr (-5))), some (.inr (.inr 1)), some (.inr (.inr 294)), some (.inl i)] [] 321 g) : am_Wp true 69 M_L 0 321 h0 Q 786 [some (.inr (.inr (-5))), some (.inr (.inr 1)), some (.inr (.inr 294)), some (.inl i)] [] 321 h := by
  refine ar_aload_n (pc := 786) (i := 1) (k0 := 1) (by decide +kernel) rfl rfl ?_
  refine lw_arg (pc := 787) (k := 1) (by decide +kernel) (by decide +kernel) (by decide +kernel) (by decide +kernel) (by decide +kernel) i0 (by omega) (by omega) (by omega) (by omega) ?_
  refine ar_callV (d := 68) (pc := 792) (M2 := M_X6_ring) (a := 1) (ci := 6) (as := [.inl (h0 (-5) (i + 1))]) (n := 321) (n2 := 321) (st := []) (by decide +kernel) rfl wL_101 wiL_yX6_ring wlL_yX6_ring k_1 rfl wz_RX6 wcL_yX6_ring ⟨by decide, by decide, rfl⟩ (by decide) (Nat.le_of_ble_eq_true rfl) (Nat.le_refl _) (Nat.le_refl _) (am_Cl_mono (p_ring (D := 54) I (K := fun r6 r7 g => r6 = r7 ∧ ∃ tx2, INV g tx2) (fun g r I2 => ⟨rfl, _, I2⟩)) (fun r6 g6 H => ?_))
  show am_Wp true 69 M_L 0 321 h0 Q 795 [some (.inr (.inr (-5))), some (.inr (.inr 1)), some (.inr (.inr 294)), some (.inl i)] [.inl r6] 321 g6
  refine ar_aload_n (pc := 795) (i := 2) (k0 := 2) (by decide +kernel) rfl rfl ?_
  refine lw_arg (pc := 796) (k := 1) (by decide +kernel) (by decide +kernel) (by decide +kernel) (by decide +kernel) (by decide +kernel) i0 (by omega) (by omega) (by omega) (by omega) ?_
  refine ar_callV (d := 68) (pc := 801) (M2 := M_X7_ring) (a := 294) (ci := 7) (as := [.inl (h0 (-5) (i + 1))]) (n := 321) (n2 := 321) (st := [.inl r6]) (by decide +kernel) rfl wL_104 wiL_yX7_ring wlL_yX7_ring k_294 rfl wz_RX7 wcL_yX7_ring ⟨by decide, by decide, rfl⟩ (by decide) (Nat.le_of_ble_eq_true rfl) (Nat.le_refl _) (Nat.le_refl _) (am_Cl_mono H (fun r7 g7 H2 => ?_))
  show am_Wp true 69 M_L 0 321 h0 Q 804 [some (.inr (.inr (-5))), some (.inr (.inr 1)), some (.inr (.inr 294)), some (.inl i)] [.inl r7, .inl r6] 321 g7
  obtain ⟨e, tx2, I2⟩ := H2
  exact ar_icmp_eq (pc := 804) (x := r6) (y := r7) (tgt := 1374) (off := 570) (by decide +kernel) (by decide) (fun _ => k g7 tx2 I2) (fun q => absurd e q)
theorem lc_809 {i : Int} {h h0 : am_H} {Q : Int → am_H → Prop} {tx : Nat → List Cl} (I : INV h tx) (i0 : 0 ≤ i) (i1 : i + 6 ≤ h0 (-6) 0) (i2 : h0 (-6) 0 ≤ 3072) (k : ∀ g tx2, INV g tx2 → am_Wp true 69 M_L 0 321 h0 Q 1374 [some (.inr (.inr (-5))), some (.inr (.inr 1)), some (.inr (.inr 294)), some (.inl i)] [] 321 g) : am_Wp true 69 M_L 0 321 h0 Q 809 [some (.inr (.inr (-5))), some (.inr (.inr 1)), some (.inr (.inr 294)), some (.inl i)] [] 321 h := by
  refine ar_aload_n (pc := 809) (i := 1) (k0 := 1) (by decide +kernel) rfl rfl ?_
  refine lw_arg (pc := 810) (k := 1) (by decide +kernel) (by decide +kernel) (by decide +kernel) (by decide +kernel) (by decide +kernel) i0 (by omega) (by omega) (by omega) (by omega) ?_
  refine lw_arg (pc := 815) (k := 2) (by decide +kernel) (by decide +kernel) (by decide +kernel) (by decide +kernel) (by decide +kernel) i0 (by omega) (by omega) (by omega) (by omega) ?_
  refine ar_callV (d := 68) (pc := 820) (M2 := M_X6_overlap) (a := 1) (ci := 6) (as := [.inl (h0 (-5) (i + 1)), .inl (h0 (-5) (i + 2))]) (n := 321) (n2 := 321) (st := []) (by decide +kernel) rfl wL_105 wiL_yX6_overlap wlL_yX6_overlap k_1 rfl wz_RX6 wcL_yX6_overlap ⟨by decide, by decide, rfl⟩ (by decide) (Nat.le_of_ble_eq_true rfl) (Nat.le_refl _) (Nat.le_refl _) (am_Cl_mono (p_overlap (D := 54) I (K := fun r6 r7 g => r6 = r7 ∧ ∃ tx2, INV g tx2) (fun g r I2 => ⟨rfl, _, I2⟩)) (fun r6 g6 H => ?_))
  show am_Wp true 69 M_L 0 321 h0 Q 823 [some (.inr (.inr (-5))), some (.inr (.inr 1)), some (.inr (.inr 294)), some (.inl i)] [.inl r6] 321 g6
  refine ar_aload_n (pc := 823) (i := 2) (k0 := 2) (by decide +kernel) rfl rfl ?_
  refine lw_arg (pc := 824) (k := 1) (by decide +kernel) (by decide +kernel) (by decide +kernel) (by decide +kernel) (by decide +kernel) i0 (by omega) (by omega) (by omega) (by omega) ?_
  refine lw_arg (pc := 829) (k := 2) (by decide +kernel) (by decide +kernel) (by decide +kernel) (by decide +kernel) (by decide +kernel) i0 (by omega) (by omega) (by omega) (by omega) ?_
  refine ar_callV (d := 68) (pc := 834) (M2 := M_X7_overlap) (a := 294) (ci := 7) (as := [.inl (h0 (-5) (i + 1)), .inl (h0 (-5) (i + 2))]) (n := 321) (n2 := 321) (st := [.inl r6]) (by decide +kernel) rfl wL_108 wiL_yX7_overlap wlL_yX7_overlap k_294 rfl wz_RX7 wcL_yX7_overlap ⟨by decide, by decide, rfl⟩ (by decide) (Nat.le_of_ble_eq_true rfl) (Nat.le_refl _) (Nat.le_refl _) (am_Cl_mono H (fun r7 g7 H2 => ?_))
  show am_Wp true 69 M_L 0 321 h0 Q 837 [some (.inr (.inr (-5))), some (.inr (.inr 1)), some (.inr (.inr 294)), some (.inl i)] [.inl r7, .inl r6] 321 g7
  obtain ⟨e, tx2, I2⟩ := H2
  exact ar_icmp_eq (pc := 837) (x := r6) (y := r7) (tgt := 1374) (off := 537) (by decide +kernel) (by decide) (fun _ => k g7 tx2 I2) (fun q => absurd e q)
theorem lc_842 {i : Int} {h h0 : am_H} {Q : Int → am_H → Prop} {tx : Nat → List Cl} (I : INV h tx) (i0 : 0 ≤ i) (i1 : i + 6 ≤ h0 (-6) 0) (i2 : h0 (-6) 0 ≤ 3072) (k : ∀ g tx2, INV g tx2 → am_Wp true 69 M_L 0 321 h0 Q 1374 [some (.inr (.inr (-5))), some (.inr (.inr 1)), some (.inr (.inr 294)), some (.inl i)] [] 321 g) : am_Wp true 69 M_L 0 321 h0 Q 842 [some (.inr (.inr (-5))), some (.inr (.inr 1)), some (.inr (.inr 294)), some (.inl i)] [] 321 h := by
  refine ar_aload_n (pc := 842) (i := 1) (k0 := 1) (by decide +kernel) rfl rfl ?_
  refine lw_arg (pc := 843) (k := 1) (by decide +kernel) (by decide +kernel) (by decide +kernel) (by decide +kernel) (by decide +kernel) i0 (by omega) (by omega) (by omega) (by omega) ?_
  refine ar_callV (d := 68) (pc := 848) (M2 := M_X6_loose) (a := 1) (ci := 6) (as := [.inl (h0 (-5) (i + 1))]) (n := 321) (n2 := 321) (st := []) (by decide +kernel) rfl wL_109 wiL_yX6_loose wlL_yX6_loose k_1 rfl wz_RX6 wcL_yX6_loose ⟨by decide, by decide, rfl⟩ (by decide) (Nat.le_of_ble_eq_true rfl) (Nat.le_refl _) (Nat.le_refl _) (am_Cl_mono (p_loose (D := 54) I (K := fun r6 r7 g => r6 = r7 ∧ ∃ tx2, INV g tx2) (fun g r I2 => ⟨rfl, _, I2⟩)) (fun r6 g6 H => ?_))
  show am_Wp true 69 M_L 0 321 h0 Q 851 [some (.inr (.inr (-5))), some (.inr (.inr 1)), some (.inr (.inr 294)), some (.inl i)] [.inr (.inl r6)] 321 g6
  refine ar_aload_n (pc := 851) (i := 2) (k0 := 2) (by decide +kernel) rfl rfl ?_
  refine lw_arg (pc := 852) (k := 1) (by decide +kernel) (by decide +kernel) (by decide +kernel) (by decide +kernel) (by decide +kernel) i0 (by omega) (by omega) (by omega) (by omega) ?_
  refine ar_callV (d := 68) (pc := 857) (M2 := M_X7_loose) (a := 294) (ci := 7) (as := [.inl (h0 (-5) (i + 1))]) (n := 321) (n2 := 321) (st := [.inr (.inl r6)]) (by decide +kernel) rfl wL_113 wiL_yX7_loose wlL_yX7_loose k_294 rfl wz_RX7 wcL_yX7_loose ⟨by decide, by decide, rfl⟩ (by decide) (Nat.le_of_ble_eq_true rfl) (Nat.le_refl _) (Nat.le_refl _) (am_Cl_mono H (fun r7 g7 H2 => ?_))
  show am_Wp true 69 M_L 0 321 h0 Q 860 [some (.inr (.inr (-5))), some (.inr (.inr 1)), some (.inr (.inr 294)), some (.inl i)] [.inr (.inl r7), .inr (.inl r6)] 321 g7
  refine ar_lcmp (pc := 860) (x := r6) (y := r7) (by decide +kernel) ?_
  obtain ⟨e, tx2, I2⟩ := H2
  refine ar_if_eq (pc := 861) (x := am_lcmp r6 r7) (tgt := 1374) (off := 513) (by decide +kernel) (by decide) (fun _ => k g7 tx2 I2) (fun q => absurd ?_ q)
  rw [e]
  unfold am_lcmp
  rw [if_neg (by omega), if_pos rfl]
theorem lc_866 {i : Int} {h h0 : am_H} {Q : Int → am_H → Prop} {tx : Nat → List Cl} (I : INV h tx) (i0 : 0 ≤ i) (i1 : i + 6 ≤ h0 (-6) 0) (i2 : h0 (-6) 0 ≤ 3072) (k : ∀ g tx2, INV g tx2 → am_Wp true 69 M_L 0 321 h0 Q 1374 [some (.inr (.inr (-5))), some (.inr (.inr 1)), some (.inr (.inr 294)), some (.inl i)] [] 321 g) : am_Wp true 69 M_L 0 321 h0 Q 866 [some (.inr (.inr (-5))), some (.inr (.inr 1)), some (.inr (.inr 294)), some (.inl i)] [] 321 h := by
  refine ar_aload_n (pc := 866) (i := 1) (k0 := 1) (by decide +kernel) rfl rfl ?_
  refine lw_arg (pc := 867) (k := 1) (by decide +kernel) (by decide +kernel) (by decide +kernel) (by decide +kernel) (by decide +kernel) i0 (by omega) (by omega) (by omega) (by omega) ?_
  refine lw_arg (pc := 872) (k := 2) (by decide +kernel) (by decide +kernel) (by decide +kernel) (by decide +kernel) (by decide +kernel) i0 (by omega) (by omega) (by omega) (by omega) ?_
  refine ar_callV (d := 68) (pc := 877) (M2 := M_X6_needs) (a := 1) (ci := 6) (as := [.inl (h0 (-5) (i + 1)), .inl (h0 (-5) (i + 2))]) (n := 321) (n2 := 321) (st := []) (by decide +kernel) rfl wL_114 wiL_yX6_needs wlL_yX6_needs k_1 rfl wz_RX6 wcL_yX6_needs ⟨by decide, by decide, rfl⟩ (by decide) (Nat.le_of_ble_eq_true rfl) (Nat.le_refl _) (Nat.le_refl _) (am_Cl_mono (p_needs (D := 54) I (K := fun r6 r7 g => r6 = r7 ∧ ∃ tx2, INV g tx2) (fun g r I2 => ⟨rfl, _, I2⟩)) (fun r6 g6 H => ?_))
  show am_Wp true 69 M_L 0 321 h0 Q 880 [some (.inr (.inr (-5))), some (.inr (.inr 1)), some (.inr (.inr 294)), some (.inl i)] [.inr (.inl r6)] 321 g6
  refine ar_aload_n (pc := 880) (i := 2) (k0 := 2) (by decide +kernel) rfl rfl ?_
  refine lw_arg (pc := 881) (k := 1) (by decide +kernel) (by decide +kernel) (by decide +kernel) (by decide +kernel) (by decide +kernel) i0 (by omega) (by omega) (by omega) (by omega) ?_
  refine lw_arg (pc := 886) (k := 2) (by decide +kernel) (by decide +kernel) (by decide +kernel) (by decide +kernel) (by decide +kernel) i0 (by omega) (by omega) (by omega) (by omega) ?_
  refine ar_callV (d := 68) (pc := 891) (M2 := M_X7_needs) (a := 294) (ci := 7) (as := [.inl (h0 (-5) (i + 1)), .inl (h0 (-5) (i + 2))]) (n := 321) (n2 := 321) (st := [.inr (.inl r6)]) (by decide +kernel) rfl wL_118 wi_yX7_needs wl_yX7_needs k_294 rfl wz_RX7 wc_yX7_needs ⟨by decide, by decide, rfl⟩ (by decide) (Nat.le_of_ble_eq_true rfl) (Nat.le_refl _) (Nat.le_refl _) (am_Cl_mono H (fun r7 g7 H2 => ?_))
  show am_Wp true 69 M_L 0 321 h0 Q 894 [some (.inr (.inr (-5))), some (.inr (.inr 1)), some (.inr (.inr 294)), some (.inl i)] [.inr (.inl r7), .inr (.inl r6)] 321 g7
  refine ar_lcmp (pc := 894) (x := r6) (y := r7) (by decide +kernel) ?_
  obtain ⟨e, tx2, I2⟩ := H2
  refine ar_if_eq (pc := 895) (x := am_lcmp r6 r7) (tgt := 1374) (off := 479) (by decide +kernel) (by decide) (fun _ => k g7 tx2 I2) (fun q => absurd ?_ q)
  rw [e]
  unfold am_lcmp
  rw [if_neg (by omega), if_pos rfl]
theorem lc_900 {i : Int} {h h0 : am_H} {Q : Int → am_H → Prop} {tx : Nat → List Cl} (I : INV h tx) (i0 : 0 ≤ i) (i1 : i + 6 ≤ h0 (-6) 0) (i2 : h0 (-6) 0 ≤ 3072) (k : ∀ g tx2, INV g tx2 → am_Wp true 69 M_L 0 321 h0 Q 1374 [some (.inr (.inr (-5))), some (.inr (.inr 1)), some (.inr (.inr 294)), some (.inl i)] [] 321 g) : am_Wp true 69 M_L 0 321 h0 Q 900 [some (.inr (.inr (-5))), some (.inr (.inr 1)), some (.inr (.inr 294)), some (.inl i)] [] 321 h := by
  refine ar_aload_n (pc := 900) (i := 1) (k0 := 1) (by decide +kernel) rfl rfl ?_
  refine lw_arg (pc := 901) (k := 1) (by decide +kernel) (by decide +kernel) (by decide +kernel) (by decide +kernel) (by decide +kernel) i0 (by omega) (by omega) (by omega) (by omega) ?_
  refine lw_arg (pc := 906) (k := 2) (by decide +kernel) (by decide +kernel) (by decide +kernel) (by decide +kernel) (by decide +kernel) i0 (by omega) (by omega) (by omega) (by omega) ?_
  refine ar_callV (d := 68) (pc := 911) (M2 := M_X6_flips) (a := 1) (ci := 6) (as := [.inl (h0 (-5) (i + 1)), .inl (h0 (-5) (i + 2))]) (n := 321) (n2 := 321) (st := []) (by decide +kernel) rfl wL_119 wiL_yX6_flips wlL_yX6_flips k_1 rfl wz_RX6 wcL_yX6_flips ⟨by decide, by decide, rfl⟩ (by decide) (Nat.le_of_ble_eq_true rfl) (Nat.le_refl _) (Nat.le_refl _) (am_Cl_mono (p_flips (D := 54) I (K := fun r6 r7 g => r6 = r7 ∧ ∃ tx2, INV g tx2) (fun g r I2 => ⟨rfl, _, I2⟩)) (fun r6 g6 H => ?_))
  show am_Wp true 69 M_L 0 321 h0 Q 914 [some (.inr (.inr (-5))), some (.inr (.inr 1)), some (.inr (.inr 294)), some (.inl i)] [.inl r6] 321 g6
  refine ar_aload_n (pc := 914) (i := 2) (k0 := 2) (by decide +kernel) rfl rfl ?_
  refine lw_arg (pc := 915) (k := 1) (by decide +kernel) (by decide +kernel) (by decide +kernel) (by decide +kernel) (by decide +kernel) i0 (by omega) (by omega) (by omega) (by omega) ?_
  refine lw_arg (pc := 920) (k := 2) (by decide +kernel) (by decide +kernel) (by decide +kernel) (by decide +kernel) (by decide +kernel) i0 (by omega) (by omega) (by omega) (by omega) ?_
  refine ar_callV (d := 68) (pc := 925) (M2 := M_X7_flips) (a := 294) (ci := 7) (as := [.inl (h0 (-5) (i + 1)), .inl (h0 (-5) (i + 2))]) (n := 321) (n2 := 321) (st := [.inl r6]) (by decide +kernel) rfl wL_122 wiL_yX7_flips wlL_yX7_flips k_294 rfl wz_RX7 wcL_yX7_flips ⟨by decide, by decide, rfl⟩ (by decide) (Nat.le_of_ble_eq_true rfl) (Nat.le_refl _) (Nat.le_refl _) (am_Cl_mono H (fun r7 g7 H2 => ?_))
  show am_Wp true 69 M_L 0 321 h0 Q 928 [some (.inr (.inr (-5))), some (.inr (.inr 1)), some (.inr (.inr 294)), some (.inl i)] [.inl r7, .inl r6] 321 g7
  obtain ⟨e, tx2, I2⟩ := H2
  exact ar_icmp_eq (pc := 928) (x := r6) (y := r7) (tgt := 1374) (off := 446) (by decide +kernel) (by decide) (fun _ => k g7 tx2 I2) (fun q => absurd e q)
theorem lc_933 {i : Int} {h h0 : am_H} {Q : Int → am_H → Prop} {tx : Nat → List Cl} (I : INV h tx) (i0 : 0 ≤ i) (i1 : i + 6 ≤ h0 (-6) 0) (i2 : h0 (-6) 0 ≤ 3072) (k : ∀ g tx2, INV g tx2 → am_Wp true 69 M_L 0 321 h0 Q 1374 [some (.inr (.inr (-5))), some (.inr (.inr 1)), some (.inr (.inr 294)), some (.inl i)] [] 321 g) : am_Wp true 69 M_L 0 321 h0 Q 933 [some (.inr (.inr (-5))), some (.inr (.inr 1)), some (.inr (.inr 294)), some (.inl i)] [] 321 h := by
  refine ar_aload_n (pc := 933) (i := 1) (k0 := 1) (by decide +kernel) rfl rfl ?_
  refine lw_arg (pc := 934) (k := 1) (by decide +kernel) (by decide +kernel) (by decide +kernel) (by decide +kernel) (by decide +kernel) i0 (by omega) (by omega) (by omega) (by omega) ?_
  refine lw_arg (pc := 939) (k := 2) (by decide +kernel) (by decide +kernel) (by decide +kernel) (by decide +kernel) (by decide +kernel) i0 (by omega) (by omega) (by omega) (by omega) ?_
  refine ar_callV (d := 68) (pc := 944) (M2 := M_X6_sure) (a := 1) (ci := 6) (as := [.inl (h0 (-5) (i + 1)), .inl (h0 (-5) (i + 2))]) (n := 321) (n2 := 321) (st := []) (by decide +kernel) rfl wL_123 wiL_yX6_sure wlL_yX6_sure k_1 rfl wz_RX6 wcL_yX6_sure ⟨by decide, by decide, rfl⟩ (by decide) (Nat.le_of_ble_eq_true rfl) (Nat.le_refl _) (Nat.le_refl _) (am_Cl_mono (p_sure (D := 54) I (K := fun r6 r7 g => r6 = r7 ∧ ∃ tx2, INV g tx2) (fun g r I2 => ⟨rfl, _, I2⟩)) (fun r6 g6 H => ?_))
  show am_Wp true 69 M_L 0 321 h0 Q 947 [some (.inr (.inr (-5))), some (.inr (.inr 1)), some (.inr (.inr 294)), some (.inl i)] [.inl r6] 321 g6
  refine ar_aload_n (pc := 947) (i := 2) (k0 := 2) (by decide +kernel) rfl rfl ?_
  refine lw_arg (pc := 948) (k := 1) (by decide +kernel) (by decide +kernel) (by decide +kernel) (by decide +kernel) (by decide +kernel) i0 (by omega) (by omega) (by omega) (by omega) ?_
  refine lw_arg (pc := 953) (k := 2) (by decide +kernel) (by decide +kernel) (by decide +kernel) (by decide +kernel) (by decide +kernel) i0 (by omega) (by omega) (by omega) (by omega) ?_
  refine ar_callV (d := 68) (pc := 958) (M2 := M_X7_sure) (a := 294) (ci := 7) (as := [.inl (h0 (-5) (i + 1)), .inl (h0 (-5) (i + 2))]) (n := 321) (n2 := 321) (st := [.inl r6]) (by decide +kernel) rfl wL_126 wiL_yX7_sure wlL_yX7_sure k_294 rfl wz_RX7 wcL_yX7_sure ⟨by decide, by decide, rfl⟩ (by decide) (Nat.le_of_ble_eq_true rfl) (Nat.le_refl _) (Nat.le_refl _) (am_Cl_mono H (fun r7 g7 H2 => ?_))
  show am_Wp true 69 M_L 0 321 h0 Q 961 [some (.inr (.inr (-5))), some (.inr (.inr 1)), some (.inr (.inr 294)), some (.inl i)] [.inl r7, .inl r6] 321 g7
  obtain ⟨e, tx2, I2⟩ := H2
  exact ar_icmp_eq (pc := 961) (x := r6) (y := r7) (tgt := 1374) (off := 413) (by decide +kernel) (by decide) (fun _ => k g7 tx2 I2) (fun q => absurd e q)
theorem lc_966 {i : Int} {h h0 : am_H} {Q : Int → am_H → Prop} {tx : Nat → List Cl} (I : INV h tx) (i0 : 0 ≤ i) (i1 : i + 6 ≤ h0 (-6) 0) (i2 : h0 (-6) 0 ≤ 3072) (k : ∀ g tx2, INV g tx2 → am_Wp true 69 M_L 0 321 h0 Q 1374 [some (.inr (.inr (-5))), some (.inr (.inr 1)), some (.inr (.inr 294)), some (.inl i)] [] 321 g) : am_Wp true 69 M_L 0 321 h0 Q 966 [some (.inr (.inr (-5))), some (.inr (.inr 1)), some (.inr (.inr 294)), some (.inl i)] [] 321 h := by
  refine ar_aload_n (pc := 966) (i := 1) (k0 := 1) (by decide +kernel) rfl rfl ?_
  refine lw_arg (pc := 967) (k := 1) (by decide +kernel) (by decide +kernel) (by decide +kernel) (by decide +kernel) (by decide +kernel) i0 (by omega) (by omega) (by omega) (by omega) ?_
  refine ar_callV (d := 68) (pc := 972) (M2 := M_X6_least) (a := 1) (ci := 6) (as := [.inl (h0 (-5) (i + 1))]) (n := 321) (n2 := 321) (st := []) (by decide +kernel) rfl wL_127 wiL_yX6_least wlL_yX6_least k_1 rfl wz_RX6 wcL_yX6_least ⟨by decide, by decide, rfl⟩ (by decide) (Nat.le_of_ble_eq_true rfl) (Nat.le_refl _) (Nat.le_refl _) (am_Cl_mono (p_least (D := 54) I (K := fun r6 r7 g => r6 = r7 ∧ ∃ tx2, INV g tx2) (fun g r I2 => ⟨rfl, _, I2⟩)) (fun r6 g6 H => ?_))
  show am_Wp true 69 M_L 0 321 h0 Q 975 [some (.inr (.inr (-5))), some (.inr (.inr 1)), some (.inr (.inr 294)), some (.inl i)] [.inl r6] 321 g6
  refine ar_aload_n (pc := 975) (i := 2) (k0 := 2) (by decide +kernel) rfl rfl ?_
  refine lw_arg (pc := 976) (k := 1) (by decide +kernel) (by decide +kernel) (by decide +kernel) (by decide +kernel) (by decide +kernel) i0 (by omega) (by omega) (by omega) (by omega) ?_
  refine ar_callV (d := 68) (pc := 981) (M2 := M_X7_least) (a := 294) (ci := 7) (as := [.inl (h0 (-5) (i + 1))]) (n := 321) (n2 := 321) (st := [.inl r6]) (by decide +kernel) rfl wL_130 wiL_yX7_least wlL_yX7_least k_294 rfl wz_RX7 wcL_yX7_least ⟨by decide, by decide, rfl⟩ (by decide) (Nat.le_of_ble_eq_true rfl) (Nat.le_refl _) (Nat.le_refl _) (am_Cl_mono H (fun r7 g7 H2 => ?_))
  show am_Wp true 69 M_L 0 321 h0 Q 984 [some (.inr (.inr (-5))), some (.inr (.inr 1)), some (.inr (.inr 294)), some (.inl i)] [.inl r7, .inl r6] 321 g7
  obtain ⟨e, tx2, I2⟩ := H2
  exact ar_icmp_eq (pc := 984) (x := r6) (y := r7) (tgt := 1374) (off := 390) (by decide +kernel) (by decide) (fun _ => k g7 tx2 I2) (fun q => absurd e q)
theorem lc_989 {i : Int} {h h0 : am_H} {Q : Int → am_H → Prop} {tx : Nat → List Cl} (I : INV h tx) (i0 : 0 ≤ i) (i1 : i + 6 ≤ h0 (-6) 0) (i2 : h0 (-6) 0 ≤ 3072) (k : ∀ g tx2, INV g tx2 → am_Wp true 69 M_L 0 321 h0 Q 1374 [some (.inr (.inr (-5))), some (.inr (.inr 1)), some (.inr (.inr 294)), some (.inl i)] [] 321 g) : am_Wp true 69 M_L 0 321 h0 Q 989 [some (.inr (.inr (-5))), some (.inr (.inr 1)), some (.inr (.inr 294)), some (.inl i)] [] 321 h := by
  refine ar_aload_n (pc := 989) (i := 1) (k0 := 1) (by decide +kernel) rfl rfl ?_
  refine lw_arg (pc := 990) (k := 1) (by decide +kernel) (by decide +kernel) (by decide +kernel) (by decide +kernel) (by decide +kernel) i0 (by omega) (by omega) (by omega) (by omega) ?_
  refine lw_arg (pc := 995) (k := 2) (by decide +kernel) (by decide +kernel) (by decide +kernel) (by decide +kernel) (by decide +kernel) i0 (by omega) (by omega) (by omega) (by omega) ?_
  refine lw_arg (pc := 1000) (k := 3) (by decide +kernel) (by decide +kernel) (by decide +kernel) (by decide +kernel) (by decide +kernel) i0 (by omega) (by omega) (by omega) (by omega) ?_
  refine ar_callV (d := 68) (pc := 1005) (M2 := M_X6_make) (a := 1) (ci := 6) (as := [.inl (h0 (-5) (i + 1)), .inl (h0 (-5) (i + 2)), .inl (h0 (-5) (i + 3))]) (n := 321) (n2 := 321) (st := []) (by decide +kernel) rfl wL_131 wiL_yX6_make wlL_yX6_make k_1 rfl wz_RX6 wcL_yX6_make ⟨by decide, by decide, rfl⟩ (by decide) (Nat.le_of_ble_eq_true rfl) (Nat.le_refl _) (Nat.le_refl _) (am_Cl_mono (p_make (D := 54) I (K := fun r6 r7 g => r6 = r7 ∧ ∃ tx2, INV g tx2) (fun g r I2 => ⟨rfl, _, I2⟩)) (fun r6 g6 H => ?_))
  show am_Wp true 69 M_L 0 321 h0 Q 1008 [some (.inr (.inr (-5))), some (.inr (.inr 1)), some (.inr (.inr 294)), some (.inl i)] [.inl r6] 321 g6
  refine ar_aload_n (pc := 1008) (i := 2) (k0 := 2) (by decide +kernel) rfl rfl ?_
  refine lw_arg (pc := 1009) (k := 1) (by decide +kernel) (by decide +kernel) (by decide +kernel) (by decide +kernel) (by decide +kernel) i0 (by omega) (by omega) (by omega) (by omega) ?_
  refine lw_arg (pc := 1014) (k := 2) (by decide +kernel) (by decide +kernel) (by decide +kernel) (by decide +kernel) (by decide +kernel) i0 (by omega) (by omega) (by omega) (by omega) ?_
  refine lw_arg (pc := 1019) (k := 3) (by decide +kernel) (by decide +kernel) (by decide +kernel) (by decide +kernel) (by decide +kernel) i0 (by omega) (by omega) (by omega) (by omega) ?_
  refine ar_callV (d := 68) (pc := 1024) (M2 := M_X7_make) (a := 294) (ci := 7) (as := [.inl (h0 (-5) (i + 1)), .inl (h0 (-5) (i + 2)), .inl (h0 (-5) (i + 3))]) (n := 321) (n2 := 321) (st := [.inl r6]) (by decide +kernel) rfl wL_134 wiL_yX7_make wlL_yX7_make k_294 rfl wz_RX7 wcL_yX7_make ⟨by decide, by decide, rfl⟩ (by decide) (Nat.le_of_ble_eq_true rfl) (Nat.le_refl _) (Nat.le_refl _) (am_Cl_mono H (fun r7 g7 H2 => ?_))
  show am_Wp true 69 M_L 0 321 h0 Q 1027 [some (.inr (.inr (-5))), some (.inr (.inr 1)), some (.inr (.inr 294)), some (.inl i)] [.inl r7, .inl r6] 321 g7
  obtain ⟨e, tx2, I2⟩ := H2
  exact ar_icmp_eq (pc := 1027) (x := r6) (y := r7) (tgt := 1374) (off := 347) (by decide +kernel) (by decide) (fun _ => k g7 tx2 I2) (fun q => absurd e q)
theorem lc_1032 {i : Int} {h h0 : am_H} {Q : Int → am_H → Prop} {tx : Nat → List Cl} (I : INV h tx) (i0 : 0 ≤ i) (i1 : i + 6 ≤ h0 (-6) 0) (i2 : h0 (-6) 0 ≤ 3072) (k : ∀ g tx2, INV g tx2 → am_Wp true 69 M_L 0 321 h0 Q 1374 [some (.inr (.inr (-5))), some (.inr (.inr 1)), some (.inr (.inr 294)), some (.inl i)] [] 321 g) : am_Wp true 69 M_L 0 321 h0 Q 1032 [some (.inr (.inr (-5))), some (.inr (.inr 1)), some (.inr (.inr 294)), some (.inl i)] [] 321 h := by
  refine ar_aload_n (pc := 1032) (i := 1) (k0 := 1) (by decide +kernel) rfl rfl ?_
  refine lw_arg (pc := 1033) (k := 1) (by decide +kernel) (by decide +kernel) (by decide +kernel) (by decide +kernel) (by decide +kernel) i0 (by omega) (by omega) (by omega) (by omega) ?_
  refine lw_arg (pc := 1038) (k := 2) (by decide +kernel) (by decide +kernel) (by decide +kernel) (by decide +kernel) (by decide +kernel) i0 (by omega) (by omega) (by omega) (by omega) ?_
  refine ar_callV (d := 68) (pc := 1043) (M2 := M_X6_alike) (a := 1) (ci := 6) (as := [.inl (h0 (-5) (i + 1)), .inl (h0 (-5) (i + 2))]) (n := 321) (n2 := 321) (st := []) (by decide +kernel) rfl wL_135 wiL_yX6_alike wlL_yX6_alike k_1 rfl wz_RX6 wcL_yX6_alike ⟨by decide, by decide, rfl⟩ (by decide) (Nat.le_of_ble_eq_true rfl) (Nat.le_refl _) (Nat.le_refl _) (am_Cl_mono (p_alike (D := 54) I (K := fun r6 r7 g => r6 = r7 ∧ ∃ tx2, INV g tx2) (fun g r I2 => ⟨rfl, _, I2⟩)) (fun r6 g6 H => ?_))
  show am_Wp true 69 M_L 0 321 h0 Q 1046 [some (.inr (.inr (-5))), some (.inr (.inr 1)), some (.inr (.inr 294)), some (.inl i)] [.inl r6] 321 g6
  refine ar_aload_n (pc := 1046) (i := 2) (k0 := 2) (by decide +kernel) rfl rfl ?_
  refine lw_arg (pc := 1047) (k := 1) (by decide +kernel) (by decide +kernel) (by decide +kernel) (by decide +kernel) (by decide +kernel) i0 (by omega) (by omega) (by omega) (by omega) ?_
  refine lw_arg (pc := 1052) (k := 2) (by decide +kernel) (by decide +kernel) (by decide +kernel) (by decide +kernel) (by decide +kernel) i0 (by omega) (by omega) (by omega) (by omega) ?_
  refine ar_callV (d := 68) (pc := 1057) (M2 := M_X7_alike) (a := 294) (ci := 7) (as := [.inl (h0 (-5) (i + 1)), .inl (h0 (-5) (i + 2))]) (n := 321) (n2 := 321) (st := [.inl r6]) (by decide +kernel) rfl wL_138 wiL_yX7_alike wlL_yX7_alike k_294 rfl wz_RX7 wcL_yX7_alike ⟨by decide, by decide, rfl⟩ (by decide) (Nat.le_of_ble_eq_true rfl) (Nat.le_refl _) (Nat.le_refl _) (am_Cl_mono H (fun r7 g7 H2 => ?_))
  show am_Wp true 69 M_L 0 321 h0 Q 1060 [some (.inr (.inr (-5))), some (.inr (.inr 1)), some (.inr (.inr 294)), some (.inl i)] [.inl r7, .inl r6] 321 g7
  obtain ⟨e, tx2, I2⟩ := H2
  exact ar_icmp_eq (pc := 1060) (x := r6) (y := r7) (tgt := 1374) (off := 314) (by decide +kernel) (by decide) (fun _ => k g7 tx2 I2) (fun q => absurd e q)
theorem lc_1065 {i : Int} {h h0 : am_H} {Q : Int → am_H → Prop} {tx : Nat → List Cl} (I : INV h tx) (i0 : 0 ≤ i) (i1 : i + 6 ≤ h0 (-6) 0) (i2 : h0 (-6) 0 ≤ 3072) (k : ∀ g tx2, INV g tx2 → am_Wp true 69 M_L 0 321 h0 Q 1374 [some (.inr (.inr (-5))), some (.inr (.inr 1)), some (.inr (.inr 294)), some (.inl i)] [] 321 g) : am_Wp true 69 M_L 0 321 h0 Q 1065 [some (.inr (.inr (-5))), some (.inr (.inr 1)), some (.inr (.inr 294)), some (.inl i)] [] 321 h := by
  refine ar_aload_n (pc := 1065) (i := 1) (k0 := 1) (by decide +kernel) rfl rfl ?_
  refine lw_arg (pc := 1066) (k := 1) (by decide +kernel) (by decide +kernel) (by decide +kernel) (by decide +kernel) (by decide +kernel) i0 (by omega) (by omega) (by omega) (by omega) ?_
  refine ar_callV (d := 68) (pc := 1071) (M2 := M_X6_must) (a := 1) (ci := 6) (as := [.inl (h0 (-5) (i + 1))]) (n := 321) (n2 := 321) (st := []) (by decide +kernel) rfl wL_139 wiL_yX6_must wlL_yX6_must k_1 rfl wz_RX6 wcL_yX6_must ⟨by decide, by decide, rfl⟩ (by decide) (Nat.le_of_ble_eq_true rfl) (Nat.le_refl _) (Nat.le_refl _) (am_Cl_mono (p_must (D := 54) I (K := fun r6 r7 g => r6 = r7 ∧ ∃ tx2, INV g tx2) (fun g r I2 => ⟨rfl, _, I2⟩)) (fun r6 g6 H => ?_))
  show am_Wp true 69 M_L 0 321 h0 Q 1074 [some (.inr (.inr (-5))), some (.inr (.inr 1)), some (.inr (.inr 294)), some (.inl i)] [.inl r6] 321 g6
  refine ar_aload_n (pc := 1074) (i := 2) (k0 := 2) (by decide +kernel) rfl rfl ?_
  refine lw_arg (pc := 1075) (k := 1) (by decide +kernel) (by decide +kernel) (by decide +kernel) (by decide +kernel) (by decide +kernel) i0 (by omega) (by omega) (by omega) (by omega) ?_
  refine ar_callV (d := 68) (pc := 1080) (M2 := M_X7_must) (a := 294) (ci := 7) (as := [.inl (h0 (-5) (i + 1))]) (n := 321) (n2 := 321) (st := [.inl r6]) (by decide +kernel) rfl wL_142 wiL_yX7_must wlL_yX7_must k_294 rfl wz_RX7 wcL_yX7_must ⟨by decide, by decide, rfl⟩ (by decide) (Nat.le_of_ble_eq_true rfl) (Nat.le_refl _) (Nat.le_refl _) (am_Cl_mono H (fun r7 g7 H2 => ?_))
  show am_Wp true 69 M_L 0 321 h0 Q 1083 [some (.inr (.inr (-5))), some (.inr (.inr 1)), some (.inr (.inr 294)), some (.inl i)] [.inl r7, .inl r6] 321 g7
  obtain ⟨e, tx2, I2⟩ := H2
  exact ar_icmp_eq (pc := 1083) (x := r6) (y := r7) (tgt := 1374) (off := 291) (by decide +kernel) (by decide) (fun _ => k g7 tx2 I2) (fun q => absurd e q)
theorem lc_1088 {i : Int} {h h0 : am_H} {Q : Int → am_H → Prop} {tx : Nat → List Cl} (I : INV h tx) (i0 : 0 ≤ i) (i1 : i + 6 ≤ h0 (-6) 0) (i2 : h0 (-6) 0 ≤ 3072) (k : ∀ g tx2, INV g tx2 → am_Wp true 69 M_L 0 321 h0 Q 1374 [some (.inr (.inr (-5))), some (.inr (.inr 1)), some (.inr (.inr 294)), some (.inl i)] [] 321 g) : am_Wp true 69 M_L 0 321 h0 Q 1088 [some (.inr (.inr (-5))), some (.inr (.inr 1)), some (.inr (.inr 294)), some (.inl i)] [] 321 h := by
  refine ar_aload_n (pc := 1088) (i := 1) (k0 := 1) (by decide +kernel) rfl rfl ?_
  refine lw_arg (pc := 1089) (k := 1) (by decide +kernel) (by decide +kernel) (by decide +kernel) (by decide +kernel) (by decide +kernel) i0 (by omega) (by omega) (by omega) (by omega) ?_
  refine ar_callV (d := 68) (pc := 1094) (M2 := M_X6_deep) (a := 1) (ci := 6) (as := [.inl (h0 (-5) (i + 1))]) (n := 321) (n2 := 321) (st := []) (by decide +kernel) rfl wL_143 wiL_yX6_deep wlL_yX6_deep k_1 rfl wz_RX6 wcL_yX6_deep ⟨by decide, by decide, rfl⟩ (by decide) (Nat.le_of_ble_eq_true rfl) (Nat.le_refl _) (Nat.le_refl _) (am_Cl_mono (p_deep (D := 54) I (K := fun r6 r7 g => r6 = r7 ∧ ∃ tx2, INV g tx2) (fun g r I2 => ⟨rfl, _, I2⟩)) (fun r6 g6 H => ?_))
  show am_Wp true 69 M_L 0 321 h0 Q 1097 [some (.inr (.inr (-5))), some (.inr (.inr 1)), some (.inr (.inr 294)), some (.inl i)] [.inl r6] 321 g6
  refine ar_aload_n (pc := 1097) (i := 2) (k0 := 2) (by decide +kernel) rfl rfl ?_
  refine lw_arg (pc := 1098) (k := 1) (by decide +kernel) (by decide +kernel) (by decide +kernel) (by decide +kernel) (by decide +kernel) i0 (by omega) (by omega) (by omega) (by omega) ?_
  refine ar_callV (d := 68) (pc := 1103) (M2 := M_X7_deep) (a := 294) (ci := 7) (as := [.inl (h0 (-5) (i + 1))]) (n := 321) (n2 := 321) (st := [.inl r6]) (by decide +kernel) rfl wL_146 wiL_yX7_deep wlL_yX7_deep k_294 rfl wz_RX7 wcL_yX7_deep ⟨by decide, by decide, rfl⟩ (by decide) (Nat.le_of_ble_eq_true rfl) (Nat.le_refl _) (Nat.le_refl _) (am_Cl_mono H (fun r7 g7 H2 => ?_))
  show am_Wp true 69 M_L 0 321 h0 Q 1106 [some (.inr (.inr (-5))), some (.inr (.inr 1)), some (.inr (.inr 294)), some (.inl i)] [.inl r7, .inl r6] 321 g7
  obtain ⟨e, tx2, I2⟩ := H2
  exact ar_icmp_eq (pc := 1106) (x := r6) (y := r7) (tgt := 1374) (off := 268) (by decide +kernel) (by decide) (fun _ => k g7 tx2 I2) (fun q => absurd e q)
theorem lc_1111 {i : Int} {h h0 : am_H} {Q : Int → am_H → Prop} {tx : Nat → List Cl} (I : INV h tx) (i0 : 0 ≤ i) (i1 : i + 6 ≤ h0 (-6) 0) (i2 : h0 (-6) 0 ≤ 3072) (k : ∀ g tx2, INV g tx2 → am_Wp true 69 M_L 0 321 h0 Q 1374 [some (.inr (.inr (-5))), some (.inr (.inr 1)), some (.inr (.inr 294)), some (.inl i)] [] 321 g) : am_Wp true 69 M_L 0 321 h0 Q 1111 [some (.inr (.inr (-5))), some (.inr (.inr 1)), some (.inr (.inr 294)), some (.inl i)] [] 321 h := by
  refine ar_aload_n (pc := 1111) (i := 1) (k0 := 1) (by decide +kernel) rfl rfl ?_
  refine lw_arg (pc := 1112) (k := 1) (by decide +kernel) (by decide +kernel) (by decide +kernel) (by decide +kernel) (by decide +kernel) i0 (by omega) (by omega) (by omega) (by omega) ?_
  refine lw_arg (pc := 1117) (k := 2) (by decide +kernel) (by decide +kernel) (by decide +kernel) (by decide +kernel) (by decide +kernel) i0 (by omega) (by omega) (by omega) (by omega) ?_
  refine ar_callV (d := 68) (pc := 1122) (M2 := M_X6_kind) (a := 1) (ci := 6) (as := [.inl (h0 (-5) (i + 1)), .inl (h0 (-5) (i + 2))]) (n := 321) (n2 := 321) (st := []) (by decide +kernel) rfl wL_147 wiL_yX6_kind wlL_yX6_kind k_1 rfl wz_RX6 wcL_yX6_kind ⟨by decide, by decide, rfl⟩ (by decide) (Nat.le_of_ble_eq_true rfl) (Nat.le_refl _) (Nat.le_refl _) (am_Cl_mono (p_kind (D := 54) I (K := fun r6 r7 g => r6 = r7 ∧ ∃ tx2, INV g tx2) (fun g r I2 => ⟨rfl, _, I2⟩)) (fun r6 g6 H => ?_))
  show am_Wp true 69 M_L 0 321 h0 Q 1125 [some (.inr (.inr (-5))), some (.inr (.inr 1)), some (.inr (.inr 294)), some (.inl i)] [.inl r6] 321 g6
  refine ar_aload_n (pc := 1125) (i := 2) (k0 := 2) (by decide +kernel) rfl rfl ?_
  refine lw_arg (pc := 1126) (k := 1) (by decide +kernel) (by decide +kernel) (by decide +kernel) (by decide +kernel) (by decide +kernel) i0 (by omega) (by omega) (by omega) (by omega) ?_
  refine lw_arg (pc := 1131) (k := 2) (by decide +kernel) (by decide +kernel) (by decide +kernel) (by decide +kernel) (by decide +kernel) i0 (by omega) (by omega) (by omega) (by omega) ?_
  refine ar_callV (d := 68) (pc := 1136) (M2 := M_X7_kind) (a := 294) (ci := 7) (as := [.inl (h0 (-5) (i + 1)), .inl (h0 (-5) (i + 2))]) (n := 321) (n2 := 321) (st := [.inl r6]) (by decide +kernel) rfl wL_150 wiL_yX7_kind wlL_yX7_kind k_294 rfl wz_RX7 wcL_yX7_kind ⟨by decide, by decide, rfl⟩ (by decide) (Nat.le_of_ble_eq_true rfl) (Nat.le_refl _) (Nat.le_refl _) (am_Cl_mono H (fun r7 g7 H2 => ?_))
  show am_Wp true 69 M_L 0 321 h0 Q 1139 [some (.inr (.inr (-5))), some (.inr (.inr 1)), some (.inr (.inr 294)), some (.inl i)] [.inl r7, .inl r6] 321 g7
  obtain ⟨e, tx2, I2⟩ := H2
  exact ar_icmp_eq (pc := 1139) (x := r6) (y := r7) (tgt := 1374) (off := 235) (by decide +kernel) (by decide) (fun _ => k g7 tx2 I2) (fun q => absurd e q)
theorem lc_1144 {i : Int} {h h0 : am_H} {Q : Int → am_H → Prop} {tx : Nat → List Cl} (I : INV h tx) (i0 : 0 ≤ i) (i1 : i + 6 ≤ h0 (-6) 0) (i2 : h0 (-6) 0 ≤ 3072) (k : ∀ g tx2, INV g tx2 → am_Wp true 69 M_L 0 321 h0 Q 1374 [some (.inr (.inr (-5))), some (.inr (.inr 1)), some (.inr (.inr 294)), some (.inl i)] [] 321 g) : am_Wp true 69 M_L 0 321 h0 Q 1144 [some (.inr (.inr (-5))), some (.inr (.inr 1)), some (.inr (.inr 294)), some (.inl i)] [] 321 h := by
  refine ar_aload_n (pc := 1144) (i := 1) (k0 := 1) (by decide +kernel) rfl rfl ?_
  refine lw_arg (pc := 1145) (k := 1) (by decide +kernel) (by decide +kernel) (by decide +kernel) (by decide +kernel) (by decide +kernel) i0 (by omega) (by omega) (by omega) (by omega) ?_
  refine lw_arg (pc := 1150) (k := 2) (by decide +kernel) (by decide +kernel) (by decide +kernel) (by decide +kernel) (by decide +kernel) i0 (by omega) (by omega) (by omega) (by omega) ?_
  refine ar_callV (d := 68) (pc := 1155) (M2 := M_X6_number) (a := 1) (ci := 6) (as := [.inl (h0 (-5) (i + 1)), .inl (h0 (-5) (i + 2))]) (n := 321) (n2 := 321) (st := []) (by decide +kernel) rfl wL_151 wiL_yX6_number wlL_yX6_number k_1 rfl wz_RX6 wcL_yX6_number ⟨by decide, by decide, rfl⟩ (by decide) (Nat.le_of_ble_eq_true rfl) (Nat.le_refl _) (Nat.le_refl _) (am_Cl_mono (p_number (D := 54) I (K := fun r6 r7 g => r6 = r7 ∧ ∃ tx2, INV g tx2) (fun g r I2 => ⟨rfl, _, I2⟩)) (fun r6 g6 H => ?_))
  show am_Wp true 69 M_L 0 321 h0 Q 1158 [some (.inr (.inr (-5))), some (.inr (.inr 1)), some (.inr (.inr 294)), some (.inl i)] [.inl r6] 321 g6
  refine ar_aload_n (pc := 1158) (i := 2) (k0 := 2) (by decide +kernel) rfl rfl ?_
  refine lw_arg (pc := 1159) (k := 1) (by decide +kernel) (by decide +kernel) (by decide +kernel) (by decide +kernel) (by decide +kernel) i0 (by omega) (by omega) (by omega) (by omega) ?_
  refine lw_arg (pc := 1164) (k := 2) (by decide +kernel) (by decide +kernel) (by decide +kernel) (by decide +kernel) (by decide +kernel) i0 (by omega) (by omega) (by omega) (by omega) ?_
  refine ar_callV (d := 68) (pc := 1169) (M2 := M_X7_number) (a := 294) (ci := 7) (as := [.inl (h0 (-5) (i + 1)), .inl (h0 (-5) (i + 2))]) (n := 321) (n2 := 321) (st := [.inl r6]) (by decide +kernel) rfl wL_154 wiL_yX7_number wlL_yX7_number k_294 rfl wz_RX7 wcL_yX7_number ⟨by decide, by decide, rfl⟩ (by decide) (Nat.le_of_ble_eq_true rfl) (Nat.le_refl _) (Nat.le_refl _) (am_Cl_mono H (fun r7 g7 H2 => ?_))
  show am_Wp true 69 M_L 0 321 h0 Q 1172 [some (.inr (.inr (-5))), some (.inr (.inr 1)), some (.inr (.inr 294)), some (.inl i)] [.inl r7, .inl r6] 321 g7
  obtain ⟨e, tx2, I2⟩ := H2
  exact ar_icmp_eq (pc := 1172) (x := r6) (y := r7) (tgt := 1374) (off := 202) (by decide +kernel) (by decide) (fun _ => k g7 tx2 I2) (fun q => absurd e q)
theorem lc_1177 {i : Int} {h h0 : am_H} {Q : Int → am_H → Prop} {tx : Nat → List Cl} (I : INV h tx) (i0 : 0 ≤ i) (i1 : i + 6 ≤ h0 (-6) 0) (i2 : h0 (-6) 0 ≤ 3072) (k : ∀ g tx2, INV g tx2 → am_Wp true 69 M_L 0 321 h0 Q 1374 [some (.inr (.inr (-5))), some (.inr (.inr 1)), some (.inr (.inr 294)), some (.inl i)] [] 321 g) : am_Wp true 69 M_L 0 321 h0 Q 1177 [some (.inr (.inr (-5))), some (.inr (.inr 1)), some (.inr (.inr 294)), some (.inl i)] [] 321 h := by
  refine ar_aload_n (pc := 1177) (i := 1) (k0 := 1) (by decide +kernel) rfl rfl ?_
  refine lw_arg (pc := 1178) (k := 1) (by decide +kernel) (by decide +kernel) (by decide +kernel) (by decide +kernel) (by decide +kernel) i0 (by omega) (by omega) (by omega) (by omega) ?_
  refine lw_arg (pc := 1183) (k := 2) (by decide +kernel) (by decide +kernel) (by decide +kernel) (by decide +kernel) (by decide +kernel) i0 (by omega) (by omega) (by omega) (by omega) ?_
  refine ar_callV (d := 68) (pc := 1188) (M2 := M_X6_sum) (a := 1) (ci := 6) (as := [.inl (h0 (-5) (i + 1)), .inl (h0 (-5) (i + 2))]) (n := 321) (n2 := 321) (st := []) (by decide +kernel) rfl wL_155 wiL_yX6_sum wlL_yX6_sum k_1 rfl wz_RX6 wcL_yX6_sum ⟨by decide, by decide, rfl⟩ (by decide) (Nat.le_of_ble_eq_true rfl) (Nat.le_refl _) (Nat.le_refl _) (am_Cl_mono (p_sum (D := 54) I (K := fun r6 r7 g => r6 = r7 ∧ ∃ tx2, INV g tx2) (fun g r I2 => ⟨rfl, _, I2⟩)) (fun r6 g6 H => ?_))
  show am_Wp true 69 M_L 0 321 h0 Q 1191 [some (.inr (.inr (-5))), some (.inr (.inr 1)), some (.inr (.inr 294)), some (.inl i)] [.inl r6] 321 g6
  refine ar_aload_n (pc := 1191) (i := 2) (k0 := 2) (by decide +kernel) rfl rfl ?_
  refine lw_arg (pc := 1192) (k := 1) (by decide +kernel) (by decide +kernel) (by decide +kernel) (by decide +kernel) (by decide +kernel) i0 (by omega) (by omega) (by omega) (by omega) ?_
  refine lw_arg (pc := 1197) (k := 2) (by decide +kernel) (by decide +kernel) (by decide +kernel) (by decide +kernel) (by decide +kernel) i0 (by omega) (by omega) (by omega) (by omega) ?_
  refine ar_callV (d := 68) (pc := 1202) (M2 := M_X7_sum) (a := 294) (ci := 7) (as := [.inl (h0 (-5) (i + 1)), .inl (h0 (-5) (i + 2))]) (n := 321) (n2 := 321) (st := [.inl r6]) (by decide +kernel) rfl wL_158 wiL_yX7_sum wlL_yX7_sum k_294 rfl wz_RX7 wcL_yX7_sum ⟨by decide, by decide, rfl⟩ (by decide) (Nat.le_of_ble_eq_true rfl) (Nat.le_refl _) (Nat.le_refl _) (am_Cl_mono H (fun r7 g7 H2 => ?_))
  show am_Wp true 69 M_L 0 321 h0 Q 1205 [some (.inr (.inr (-5))), some (.inr (.inr 1)), some (.inr (.inr 294)), some (.inl i)] [.inl r7, .inl r6] 321 g7
  obtain ⟨e, tx2, I2⟩ := H2
  exact ar_icmp_eq (pc := 1205) (x := r6) (y := r7) (tgt := 1374) (off := 169) (by decide +kernel) (by decide) (fun _ => k g7 tx2 I2) (fun q => absurd e q)
theorem lc_1210 {i : Int} {h h0 : am_H} {Q : Int → am_H → Prop} {tx : Nat → List Cl} (I : INV h tx) (i0 : 0 ≤ i) (i1 : i + 6 ≤ h0 (-6) 0) (i2 : h0 (-6) 0 ≤ 3072) (k : ∀ g tx2, INV g tx2 → am_Wp true 69 M_L 0 321 h0 Q 1374 [some (.inr (.inr (-5))), some (.inr (.inr 1)), some (.inr (.inr 294)), some (.inl i)] [] 321 g) : am_Wp true 69 M_L 0 321 h0 Q 1210 [some (.inr (.inr (-5))), some (.inr (.inr 1)), some (.inr (.inr 294)), some (.inl i)] [] 321 h := by
  refine ar_aload_n (pc := 1210) (i := 1) (k0 := 1) (by decide +kernel) rfl rfl ?_
  refine lw_arg (pc := 1211) (k := 1) (by decide +kernel) (by decide +kernel) (by decide +kernel) (by decide +kernel) (by decide +kernel) i0 (by omega) (by omega) (by omega) (by omega) ?_
  refine lw_arg (pc := 1216) (k := 2) (by decide +kernel) (by decide +kernel) (by decide +kernel) (by decide +kernel) (by decide +kernel) i0 (by omega) (by omega) (by omega) (by omega) ?_
  refine ar_callV (d := 68) (pc := 1221) (M2 := M_X6_find) (a := 1) (ci := 6) (as := [.inl (h0 (-5) (i + 1)), .inl (h0 (-5) (i + 2))]) (n := 321) (n2 := 321) (st := []) (by decide +kernel) rfl wL_159 wiL_yX6_find wlL_yX6_find k_1 rfl wz_RX6 wcL_yX6_find ⟨by decide, by decide, rfl⟩ (by decide) (Nat.le_of_ble_eq_true rfl) (Nat.le_refl _) (Nat.le_refl _) (am_Cl_mono (p_find (D := 54) I (K := fun r6 r7 g => r6 = r7 ∧ ∃ tx2, INV g tx2) (fun g r I2 => ⟨rfl, _, I2⟩)) (fun r6 g6 H => ?_))
  show am_Wp true 69 M_L 0 321 h0 Q 1224 [some (.inr (.inr (-5))), some (.inr (.inr 1)), some (.inr (.inr 294)), some (.inl i)] [.inl r6] 321 g6
  refine ar_aload_n (pc := 1224) (i := 2) (k0 := 2) (by decide +kernel) rfl rfl ?_
  refine lw_arg (pc := 1225) (k := 1) (by decide +kernel) (by decide +kernel) (by decide +kernel) (by decide +kernel) (by decide +kernel) i0 (by omega) (by omega) (by omega) (by omega) ?_
  refine lw_arg (pc := 1230) (k := 2) (by decide +kernel) (by decide +kernel) (by decide +kernel) (by decide +kernel) (by decide +kernel) i0 (by omega) (by omega) (by omega) (by omega) ?_
  refine ar_callV (d := 68) (pc := 1235) (M2 := M_X7_find) (a := 294) (ci := 7) (as := [.inl (h0 (-5) (i + 1)), .inl (h0 (-5) (i + 2))]) (n := 321) (n2 := 321) (st := [.inl r6]) (by decide +kernel) rfl wL_162 wiL_yX7_find wlL_yX7_find k_294 rfl wz_RX7 wcL_yX7_find ⟨by decide, by decide, rfl⟩ (by decide) (Nat.le_of_ble_eq_true rfl) (Nat.le_refl _) (Nat.le_refl _) (am_Cl_mono H (fun r7 g7 H2 => ?_))
  show am_Wp true 69 M_L 0 321 h0 Q 1238 [some (.inr (.inr (-5))), some (.inr (.inr 1)), some (.inr (.inr 294)), some (.inl i)] [.inl r7, .inl r6] 321 g7
  obtain ⟨e, tx2, I2⟩ := H2
  exact ar_icmp_eq (pc := 1238) (x := r6) (y := r7) (tgt := 1374) (off := 136) (by decide +kernel) (by decide) (fun _ => k g7 tx2 I2) (fun q => absurd e q)
theorem lc_1243 {i : Int} {h h0 : am_H} {Q : Int → am_H → Prop} {tx : Nat → List Cl} (I : INV h tx) (i0 : 0 ≤ i) (i1 : i + 6 ≤ h0 (-6) 0) (i2 : h0 (-6) 0 ≤ 3072) (k : ∀ g tx2, INV g tx2 → am_Wp true 69 M_L 0 321 h0 Q 1374 [some (.inr (.inr (-5))), some (.inr (.inr 1)), some (.inr (.inr 294)), some (.inl i)] [] 321 g) : am_Wp true 69 M_L 0 321 h0 Q 1243 [some (.inr (.inr (-5))), some (.inr (.inr 1)), some (.inr (.inr 294)), some (.inl i)] [] 321 h := by
  refine ar_aload_n (pc := 1243) (i := 1) (k0 := 1) (by decide +kernel) rfl rfl ?_
  refine ar_callV (d := 68) (pc := 1244) (M2 := M_X6_run) (a := 1) (ci := 6) (as := []) (n := 321) (n2 := 321) (st := []) (by decide +kernel) rfl wL_163 wiL_yX6_run wlL_yX6_run k_1 rfl wz_RX6 wcL_yX6_run ⟨by decide, by decide, rfl⟩ (by decide) (Nat.le_of_ble_eq_true rfl) (Nat.le_refl _) (Nat.le_refl _) (am_Cl_mono (p_run (D := 54) I (K := fun r6 r7 g => r6 = r7 ∧ ∃ tx2, INV g tx2) (fun g r I2 => ⟨rfl, _, I2⟩)) (fun r6 g6 H => ?_))
  show am_Wp true 69 M_L 0 321 h0 Q 1247 [some (.inr (.inr (-5))), some (.inr (.inr 1)), some (.inr (.inr 294)), some (.inl i)] [.inl r6] 321 g6
  refine ar_aload_n (pc := 1247) (i := 2) (k0 := 2) (by decide +kernel) rfl rfl ?_
  refine ar_callV (d := 68) (pc := 1248) (M2 := M_X7_run) (a := 294) (ci := 7) (as := []) (n := 321) (n2 := 321) (st := [.inl r6]) (by decide +kernel) rfl wL_166 wiL_yX7_run wlL_yX7_run k_294 rfl wz_RX7 wcL_yX7_run ⟨by decide, by decide, rfl⟩ (by decide) (Nat.le_of_ble_eq_true rfl) (Nat.le_refl _) (Nat.le_refl _) (am_Cl_mono H (fun r7 g7 H2 => ?_))
  show am_Wp true 69 M_L 0 321 h0 Q 1251 [some (.inr (.inr (-5))), some (.inr (.inr 1)), some (.inr (.inr 294)), some (.inl i)] [.inl r7, .inl r6] 321 g7
  obtain ⟨e, tx2, I2⟩ := H2
  exact ar_icmp_eq (pc := 1251) (x := r6) (y := r7) (tgt := 1374) (off := 123) (by decide +kernel) (by decide) (fun _ => k g7 tx2 I2) (fun q => absurd e q)
theorem lc_1256 {i : Int} {h h0 : am_H} {Q : Int → am_H → Prop} {tx : Nat → List Cl} (I : INV h tx) (i0 : 0 ≤ i) (i1 : i + 6 ≤ h0 (-6) 0) (i2 : h0 (-6) 0 ≤ 3072) (k : ∀ g tx2, INV g tx2 → am_Wp true 69 M_L 0 321 h0 Q 1374 [some (.inr (.inr (-5))), some (.inr (.inr 1)), some (.inr (.inr 294)), some (.inl i)] [] 321 g) : am_Wp true 69 M_L 0 321 h0 Q 1256 [some (.inr (.inr (-5))), some (.inr (.inr 1)), some (.inr (.inr 294)), some (.inl i)] [] 321 h := by
  refine ar_aload_n (pc := 1256) (i := 1) (k0 := 1) (by decide +kernel) rfl rfl ?_
  refine lw_arg (pc := 1257) (k := 1) (by decide +kernel) (by decide +kernel) (by decide +kernel) (by decide +kernel) (by decide +kernel) i0 (by omega) (by omega) (by omega) (by omega) ?_
  refine lw_arg (pc := 1262) (k := 2) (by decide +kernel) (by decide +kernel) (by decide +kernel) (by decide +kernel) (by decide +kernel) i0 (by omega) (by omega) (by omega) (by omega) ?_
  refine ar_callV (d := 68) (pc := 1267) (M2 := M_X6_said) (a := 1) (ci := 6) (as := [.inl (h0 (-5) (i + 1)), .inl (h0 (-5) (i + 2))]) (n := 321) (n2 := 321) (st := []) (by decide +kernel) rfl wL_167 wiL_yX6_said wlL_yX6_said k_1 rfl wz_RX6 wcL_yX6_said ⟨by decide, by decide, rfl⟩ (by decide) (Nat.le_of_ble_eq_true rfl) (Nat.le_refl _) (Nat.le_refl _) (am_Cl_mono (p_said (D := 54) I (K := fun r6 r7 g => r6 = r7 ∧ ∃ tx2, INV g tx2) (fun g r I2 => ⟨rfl, _, I2⟩)) (fun r6 g6 H => ?_))
  show am_Wp true 69 M_L 0 321 h0 Q 1270 [some (.inr (.inr (-5))), some (.inr (.inr 1)), some (.inr (.inr 294)), some (.inl i)] [.inl r6] 321 g6
  refine ar_aload_n (pc := 1270) (i := 2) (k0 := 2) (by decide +kernel) rfl rfl ?_
  refine lw_arg (pc := 1271) (k := 1) (by decide +kernel) (by decide +kernel) (by decide +kernel) (by decide +kernel) (by decide +kernel) i0 (by omega) (by omega) (by omega) (by omega) ?_
  refine lw_arg (pc := 1276) (k := 2) (by decide +kernel) (by decide +kernel) (by decide +kernel) (by decide +kernel) (by decide +kernel) i0 (by omega) (by omega) (by omega) (by omega) ?_
  refine ar_callV (d := 68) (pc := 1281) (M2 := M_X7_said) (a := 294) (ci := 7) (as := [.inl (h0 (-5) (i + 1)), .inl (h0 (-5) (i + 2))]) (n := 321) (n2 := 321) (st := [.inl r6]) (by decide +kernel) rfl wL_170 wiL_yX7_said wlL_yX7_said k_294 rfl wz_RX7 wcL_yX7_said ⟨by decide, by decide, rfl⟩ (by decide) (Nat.le_of_ble_eq_true rfl) (Nat.le_refl _) (Nat.le_refl _) (am_Cl_mono H (fun r7 g7 H2 => ?_))
  show am_Wp true 69 M_L 0 321 h0 Q 1284 [some (.inr (.inr (-5))), some (.inr (.inr 1)), some (.inr (.inr 294)), some (.inl i)] [.inl r7, .inl r6] 321 g7
  obtain ⟨e, tx2, I2⟩ := H2
  exact ar_icmp_eq (pc := 1284) (x := r6) (y := r7) (tgt := 1374) (off := 90) (by decide +kernel) (by decide) (fun _ => k g7 tx2 I2) (fun q => absurd e q)
theorem lc_1289 {i : Int} {h h0 : am_H} {Q : Int → am_H → Prop} {tx : Nat → List Cl} (I : INV h tx) (i0 : 0 ≤ i) (i1 : i + 6 ≤ h0 (-6) 0) (i2 : h0 (-6) 0 ≤ 3072) (k : ∀ g tx2, INV g tx2 → am_Wp true 69 M_L 0 321 h0 Q 1374 [some (.inr (.inr (-5))), some (.inr (.inr 1)), some (.inr (.inr 294)), some (.inl i)] [] 321 g) : am_Wp true 69 M_L 0 321 h0 Q 1289 [some (.inr (.inr (-5))), some (.inr (.inr 1)), some (.inr (.inr 294)), some (.inl i)] [] 321 h := by
  refine ar_aload_n (pc := 1289) (i := 1) (k0 := 1) (by decide +kernel) rfl rfl ?_
  refine ar_callV (d := 68) (pc := 1290) (M2 := M_X6_whose) (a := 1) (ci := 6) (as := []) (n := 321) (n2 := 321) (st := []) (by decide +kernel) rfl wL_171 wiL_yX6_whose wlL_yX6_whose k_1 rfl wz_RX6 wcL_yX6_whose ⟨by decide, by decide, rfl⟩ (by decide) (Nat.le_of_ble_eq_true rfl) (Nat.le_refl _) (Nat.le_refl _) (am_Cl_mono (p_whose (D := 54) I (K := fun r6 r7 g => r6 = r7 ∧ ∃ tx2, INV g tx2) (fun g r I2 => ⟨rfl, _, I2⟩)) (fun r6 g6 H => ?_))
  show am_Wp true 69 M_L 0 321 h0 Q 1293 [some (.inr (.inr (-5))), some (.inr (.inr 1)), some (.inr (.inr 294)), some (.inl i)] [.inl r6] 321 g6
  refine ar_aload_n (pc := 1293) (i := 2) (k0 := 2) (by decide +kernel) rfl rfl ?_
  refine ar_callV (d := 68) (pc := 1294) (M2 := M_X7_whose) (a := 294) (ci := 7) (as := []) (n := 321) (n2 := 321) (st := [.inl r6]) (by decide +kernel) rfl wL_174 wiL_yX7_whose wlL_yX7_whose k_294 rfl wz_RX7 wcL_yX7_whose ⟨by decide, by decide, rfl⟩ (by decide) (Nat.le_of_ble_eq_true rfl) (Nat.le_refl _) (Nat.le_refl _) (am_Cl_mono H (fun r7 g7 H2 => ?_))
  show am_Wp true 69 M_L 0 321 h0 Q 1297 [some (.inr (.inr (-5))), some (.inr (.inr 1)), some (.inr (.inr 294)), some (.inl i)] [.inl r7, .inl r6] 321 g7
  obtain ⟨e, tx2, I2⟩ := H2
  exact ar_icmp_eq (pc := 1297) (x := r6) (y := r7) (tgt := 1374) (off := 77) (by decide +kernel) (by decide) (fun _ => k g7 tx2 I2) (fun q => absurd e q)
theorem lc_1302 {i : Int} {h h0 : am_H} {Q : Int → am_H → Prop} {tx : Nat → List Cl} (I : INV h tx) (i0 : 0 ≤ i) (i1 : i + 6 ≤ h0 (-6) 0) (i2 : h0 (-6) 0 ≤ 3072) (k : ∀ g tx2, INV g tx2 → am_Wp true 69 M_L 0 321 h0 Q 1374 [some (.inr (.inr (-5))), some (.inr (.inr 1)), some (.inr (.inr 294)), some (.inl i)] [] 321 g) : am_Wp true 69 M_L 0 321 h0 Q 1302 [some (.inr (.inr (-5))), some (.inr (.inr 1)), some (.inr (.inr 294)), some (.inl i)] [] 321 h := by
  refine ar_aload_n (pc := 1302) (i := 1) (k0 := 1) (by decide +kernel) rfl rfl ?_
  refine lw_arg (pc := 1303) (k := 1) (by decide +kernel) (by decide +kernel) (by decide +kernel) (by decide +kernel) (by decide +kernel) i0 (by omega) (by omega) (by omega) (by omega) ?_
  refine ar_callV (d := 68) (pc := 1308) (M2 := M_X6_ledger) (a := 1) (ci := 6) (as := [.inl (h0 (-5) (i + 1))]) (n := 321) (n2 := 321) (st := []) (by decide +kernel) rfl wL_175 wiL_yX6_ledger wlL_yX6_ledger k_1 rfl wz_RX6 wcL_yX6_ledger ⟨by decide, by decide, rfl⟩ (by decide) (Nat.le_of_ble_eq_true rfl) (Nat.le_refl _) (Nat.le_refl _) (am_Cl_mono (p_ledger (D := 54) I (K := fun r6 r7 g => r6 = r7 ∧ ∃ tx2, INV g tx2) (fun g r I2 => ⟨rfl, _, I2⟩)) (fun r6 g6 H => ?_))
  show am_Wp true 69 M_L 0 321 h0 Q 1311 [some (.inr (.inr (-5))), some (.inr (.inr 1)), some (.inr (.inr 294)), some (.inl i)] [.inl r6] 321 g6
  refine ar_aload_n (pc := 1311) (i := 2) (k0 := 2) (by decide +kernel) rfl rfl ?_
  refine lw_arg (pc := 1312) (k := 1) (by decide +kernel) (by decide +kernel) (by decide +kernel) (by decide +kernel) (by decide +kernel) i0 (by omega) (by omega) (by omega) (by omega) ?_
  refine ar_callV (d := 68) (pc := 1317) (M2 := M_X7_ledger) (a := 294) (ci := 7) (as := [.inl (h0 (-5) (i + 1))]) (n := 321) (n2 := 321) (st := [.inl r6]) (by decide +kernel) rfl wL_178 wiL_yX7_ledger wlL_yX7_ledger k_294 rfl wz_RX7 wcL_yX7_ledger ⟨by decide, by decide, rfl⟩ (by decide) (Nat.le_of_ble_eq_true rfl) (Nat.le_refl _) (Nat.le_refl _) (am_Cl_mono H (fun r7 g7 H2 => ?_))
  show am_Wp true 69 M_L 0 321 h0 Q 1320 [some (.inr (.inr (-5))), some (.inr (.inr 1)), some (.inr (.inr 294)), some (.inl i)] [.inl r7, .inl r6] 321 g7
  obtain ⟨e, tx2, I2⟩ := H2
  exact ar_icmp_eq (pc := 1320) (x := r6) (y := r7) (tgt := 1374) (off := 54) (by decide +kernel) (by decide) (fun _ => k g7 tx2 I2) (fun q => absurd e q)
theorem lc_1325 {i : Int} {h h0 : am_H} {Q : Int → am_H → Prop} {tx : Nat → List Cl} (I : INV h tx) (i0 : 0 ≤ i) (i1 : i + 6 ≤ h0 (-6) 0) (i2 : h0 (-6) 0 ≤ 3072) (k : ∀ g tx2, INV g tx2 → am_Wp true 69 M_L 0 321 h0 Q 1374 [some (.inr (.inr (-5))), some (.inr (.inr 1)), some (.inr (.inr 294)), some (.inl i)] [] 321 g) : am_Wp true 69 M_L 0 321 h0 Q 1325 [some (.inr (.inr (-5))), some (.inr (.inr 1)), some (.inr (.inr 294)), some (.inl i)] [] 321 h := by
  refine ar_aload_n (pc := 1325) (i := 1) (k0 := 1) (by decide +kernel) rfl rfl ?_
  refine ar_callV (d := 68) (pc := 1326) (M2 := M_X6_image) (a := 1) (ci := 6) (as := []) (n := 321) (n2 := 321) (st := []) (by decide +kernel) rfl wL_179 wiL_yX6_image wlL_yX6_image k_1 rfl wz_RX6 wcL_yX6_image ⟨by decide, by decide, rfl⟩ (by decide) (Nat.le_of_ble_eq_true rfl) (Nat.le_refl _) (Nat.le_refl _) (am_Cl_mono (p_image (D := 54) I (K := fun r6 r7 g => r6 = r7 ∧ ∃ tx2, INV g tx2) (fun g r I2 => ⟨rfl, _, I2⟩)) (fun r6 g6 H => ?_))
  show am_Wp true 69 M_L 0 321 h0 Q 1329 [some (.inr (.inr (-5))), some (.inr (.inr 1)), some (.inr (.inr 294)), some (.inl i)] [.inl r6] 321 g6
  refine ar_aload_n (pc := 1329) (i := 2) (k0 := 2) (by decide +kernel) rfl rfl ?_
  refine ar_callV (d := 68) (pc := 1330) (M2 := M_X7_image) (a := 294) (ci := 7) (as := []) (n := 321) (n2 := 321) (st := [.inl r6]) (by decide +kernel) rfl wL_182 wiL_yX7_image wlL_yX7_image k_294 rfl wz_RX7 wcL_yX7_image ⟨by decide, by decide, rfl⟩ (by decide) (Nat.le_of_ble_eq_true rfl) (Nat.le_refl _) (Nat.le_refl _) (am_Cl_mono H (fun r7 g7 H2 => ?_))
  show am_Wp true 69 M_L 0 321 h0 Q 1333 [some (.inr (.inr (-5))), some (.inr (.inr 1)), some (.inr (.inr 294)), some (.inl i)] [.inl r7, .inl r6] 321 g7
  obtain ⟨e, tx2, I2⟩ := H2
  exact ar_icmp_eq (pc := 1333) (x := r6) (y := r7) (tgt := 1374) (off := 41) (by decide +kernel) (by decide) (fun _ => k g7 tx2 I2) (fun q => absurd e q)
theorem lc_1338 {i : Int} {h h0 : am_H} {Q : Int → am_H → Prop} {tx : Nat → List Cl} (I : INV h tx) (i0 : 0 ≤ i) (i1 : i + 6 ≤ h0 (-6) 0) (i2 : h0 (-6) 0 ≤ 3072) (k : ∀ g tx2, INV g tx2 → am_Wp true 69 M_L 0 321 h0 Q 1374 [some (.inr (.inr (-5))), some (.inr (.inr 1)), some (.inr (.inr 294)), some (.inl i)] [] 321 g) : am_Wp true 69 M_L 0 321 h0 Q 1338 [some (.inr (.inr (-5))), some (.inr (.inr 1)), some (.inr (.inr 294)), some (.inl i)] [] 321 h := by
  refine ar_aload_n (pc := 1338) (i := 1) (k0 := 1) (by decide +kernel) rfl rfl ?_
  refine ar_callV (d := 68) (pc := 1339) (M2 := M_X6_back) (a := 1) (ci := 6) (as := []) (n := 321) (n2 := 321) (st := []) (by decide +kernel) rfl wL_183 wiL_yX6_back wlL_yX6_back k_1 rfl wz_RX6 wcL_yX6_back ⟨by decide, by decide, rfl⟩ (by decide) (Nat.le_of_ble_eq_true rfl) (Nat.le_refl _) (Nat.le_refl _) (am_Cl_mono (p_back (D := 54) I (K := fun r6 r7 g => r6 = r7 ∧ ∃ tx2, INV g tx2) (fun g r I2 => ⟨rfl, _, I2⟩)) (fun r6 g6 H => ?_))
  show am_Wp true 69 M_L 0 321 h0 Q 1342 [some (.inr (.inr (-5))), some (.inr (.inr 1)), some (.inr (.inr 294)), some (.inl i)] [.inl r6] 321 g6
  refine ar_aload_n (pc := 1342) (i := 2) (k0 := 2) (by decide +kernel) rfl rfl ?_
  refine ar_callV (d := 68) (pc := 1343) (M2 := M_X7_back) (a := 294) (ci := 7) (as := []) (n := 321) (n2 := 321) (st := [.inl r6]) (by decide +kernel) rfl wL_186 wiL_yX7_back wlL_yX7_back k_294 rfl wz_RX7 wcL_yX7_back ⟨by decide, by decide, rfl⟩ (by decide) (Nat.le_of_ble_eq_true rfl) (Nat.le_refl _) (Nat.le_refl _) (am_Cl_mono H (fun r7 g7 H2 => ?_))
  show am_Wp true 69 M_L 0 321 h0 Q 1346 [some (.inr (.inr (-5))), some (.inr (.inr 1)), some (.inr (.inr 294)), some (.inl i)] [.inl r7, .inl r6] 321 g7
  obtain ⟨e, tx2, I2⟩ := H2
  exact ar_icmp_eq (pc := 1346) (x := r6) (y := r7) (tgt := 1374) (off := 28) (by decide +kernel) (by decide) (fun _ => k g7 tx2 I2) (fun q => absurd e q)
theorem lc_1351 {i : Int} {h h0 : am_H} {Q : Int → am_H → Prop} {tx : Nat → List Cl} (I : INV h tx) (i0 : 0 ≤ i) (i1 : i + 6 ≤ h0 (-6) 0) (i2 : h0 (-6) 0 ≤ 3072) (k : ∀ g tx2, INV g tx2 → am_Wp true 69 M_L 0 321 h0 Q 1374 [some (.inr (.inr (-5))), some (.inr (.inr 1)), some (.inr (.inr 294)), some (.inl i)] [] 321 g) : am_Wp true 69 M_L 0 321 h0 Q 1351 [some (.inr (.inr (-5))), some (.inr (.inr 1)), some (.inr (.inr 294)), some (.inl i)] [] 321 h := by
  refine ar_aload_n (pc := 1351) (i := 1) (k0 := 1) (by decide +kernel) rfl rfl ?_
  refine lw_arg (pc := 1352) (k := 1) (by decide +kernel) (by decide +kernel) (by decide +kernel) (by decide +kernel) (by decide +kernel) i0 (by omega) (by omega) (by omega) (by omega) ?_
  refine ar_callV (d := 68) (pc := 1357) (M2 := M_X6_about) (a := 1) (ci := 6) (as := [.inl (h0 (-5) (i + 1))]) (n := 321) (n2 := 321) (st := []) (by decide +kernel) rfl wL_187 wiL_yX6_about wlL_yX6_about k_1 rfl wz_RX6 wcL_yX6_about ⟨by decide, by decide, rfl⟩ (by decide) (Nat.le_of_ble_eq_true rfl) (Nat.le_refl _) (Nat.le_refl _) (am_Cl_mono (p_about (D := 54) I (K := fun r6 r7 g => r6 = r7 ∧ ∃ tx2, INV g tx2) (fun g r I2 => ⟨rfl, _, I2⟩)) (fun r6 g6 H => ?_))
  show am_Wp true 69 M_L 0 321 h0 Q 1360 [some (.inr (.inr (-5))), some (.inr (.inr 1)), some (.inr (.inr 294)), some (.inl i)] [.inl r6] 321 g6
  refine ar_aload_n (pc := 1360) (i := 2) (k0 := 2) (by decide +kernel) rfl rfl ?_
  refine lw_arg (pc := 1361) (k := 1) (by decide +kernel) (by decide +kernel) (by decide +kernel) (by decide +kernel) (by decide +kernel) i0 (by omega) (by omega) (by omega) (by omega) ?_
  refine ar_callV (d := 68) (pc := 1366) (M2 := M_X7_about) (a := 294) (ci := 7) (as := [.inl (h0 (-5) (i + 1))]) (n := 321) (n2 := 321) (st := [.inl r6]) (by decide +kernel) rfl wL_190 wiL_yX7_about wlL_yX7_about k_294 rfl wz_RX7 wcL_yX7_about ⟨by decide, by decide, rfl⟩ (by decide) (Nat.le_of_ble_eq_true rfl) (Nat.le_refl _) (Nat.le_refl _) (am_Cl_mono H (fun r7 g7 H2 => ?_))
  show am_Wp true 69 M_L 0 321 h0 Q 1369 [some (.inr (.inr (-5))), some (.inr (.inr 1)), some (.inr (.inr 294)), some (.inl i)] [.inl r7, .inl r6] 321 g7
  obtain ⟨e, tx2, I2⟩ := H2
  exact ar_icmp_eq (pc := 1369) (x := r6) (y := r7) (tgt := 1374) (off := 5) (by decide +kernel) (by decide) (fun _ => k g7 tx2 I2) (fun q => absurd e q)
