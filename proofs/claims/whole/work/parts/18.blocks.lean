/-! ByteIntervalsModel.copy([I[I)V -/
theorem B_X7_copy_0 {d : Nat} {Q : Int → am_H → Prop} {h : am_H} {a0 a1 : Int} (H : wf d M_X7_copy Q 2 [some (.inr (.inr a0)), some (.inr (.inr a1)), some (.inl 0)] [] h) : wf d M_X7_copy Q 0 [some (.inr (.inr a0)), some (.inr (.inr a1)), none] [] h := by
  intro h0
  refine ar_iconst (pc := 0) (z := 0) (by decide +kernel) (by unfold am_i32; omega) ?_
  refine ar_istore_n (pc := 1) (i := 2) (k0 := 2) (ls2 := [some (.inr (.inr a0)), some (.inr (.inr a1)), some (.inl 0)]) (by decide +kernel) rfl (by decide) rfl ?_
  exact H h0
theorem B_X7_copy_2 {d : Nat} {Q : Int → am_H → Prop} {h : am_H} {a0 a1 v2 : Int} (H : (2159 ≤ v2 → Q 0 h) ∧ (v2 < 2159 → (am_kd 321 a0 = 0) ∧ ((0 ≤ v2) ∧ ((v2 < am_ln a0) ∧ ((am_kd 321 a1 = 0) ∧ ((v2 < am_ln a1) ∧ (wf d M_X7_copy Q 2 [some (.inr (.inr a0)), some (.inr (.inr a1)), some (.inl (am_w32 (v2 + 1)))] [] (am_up h a1 v2 (h a0 v2))))))))) : wf d M_X7_copy Q 2 [some (.inr (.inr a0)), some (.inr (.inr a1)), some (.inl v2)] [] h := by
  intro h0
  refine ar_iload_n (pc := 2) (i := 2) (k0 := 2) (by decide +kernel) rfl rfl ?_
  refine ar_sipush (pc := 3) (z := 2159) (by decide +kernel) (by omega) ?_
  refine ar_icmp_ge (pc := 6) (x := v2) (y := 2159) (tgt := 21) (off := 15) (by decide +kernel) (by decide) (fun c1 => ?_) (fun c1 => ?_)
  · replace H := H.1 c1
    exact ar_vret (pc := 21) (by decide +kernel) rfl rfl H
  · replace H := H.2 c1
    refine ar_aload_n (pc := 9) (i := 1) (k0 := 1) (by decide +kernel) rfl rfl ?_
    refine ar_iload_n (pc := 10) (i := 2) (k0 := 2) (by decide +kernel) rfl rfl ?_
    refine ar_aload_n (pc := 11) (i := 0) (k0 := 0) (by decide +kernel) rfl rfl ?_
    refine ar_iload_n (pc := 12) (i := 2) (k0 := 2) (by decide +kernel) rfl rfl ?_
    obtain ⟨g2, H⟩ := H
    obtain ⟨g3, H⟩ := H
    obtain ⟨g4, H⟩ := H
    refine ar_iald (pc := 13) (a := a0) (i := v2) (by decide +kernel) g2 g3 g4 ?_
    obtain ⟨g5, H⟩ := H
    obtain ⟨g6, H⟩ := H
    refine ar_iast (pc := 14) (a := a1) (i := v2) (z := (h a0 v2)) (by decide +kernel) g5 g3 g6 ?_
    refine ar_iinc (pc := 15) (i := 2) (z := 1) (x := v2) (ls2 := [some (.inr (.inr a0)), some (.inr (.inr a1)), some (.inl (am_w32 (v2 + 1)))]) (by decide +kernel) rfl (by decide) rfl ?_
    refine ar_goto (pc := 18) (tgt := 2) (off := -16) (by decide +kernel) (by decide) ?_
    exact H h0

/-! ByteIntervalsModel.isIn(III)Z -/
theorem B_X7_isIn_0 {d : Nat} {Q : Int → am_H → Prop} {h : am_H} {v0 v1 v2 : Int} (H : (v0 < v1 → Q 0 h) ∧ (v1 ≤ v0 → (v2 < v0 → Q 0 h) ∧ (v0 ≤ v2 → Q 1 h))) : wf d M_X7_isIn Q 0 [some (.inl v0), some (.inl v1), some (.inl v2)] [] h := by
  intro h0
  refine ar_iload_n (pc := 0) (i := 0) (k0 := 0) (by decide +kernel) rfl rfl ?_
  refine ar_iload_n (pc := 1) (i := 1) (k0 := 1) (by decide +kernel) rfl rfl ?_
  refine ar_icmp_lt (pc := 2) (x := v0) (y := v1) (tgt := 14) (off := 12) (by decide +kernel) (by decide) (fun c1 => ?_) (fun c1 => ?_)
  · replace H := H.1 c1
    refine ar_iconst (pc := 14) (z := 0) (by decide +kernel) (by unfold am_i32; omega) ?_
    exact ar_zret (pc := 15) (x := 0) (by decide +kernel) rfl rfl (by decide) H
  · replace H := H.2 c1
    refine ar_iload_n (pc := 5) (i := 0) (k0 := 0) (by decide +kernel) rfl rfl ?_
    refine ar_iload_n (pc := 6) (i := 2) (k0 := 2) (by decide +kernel) rfl rfl ?_
    refine ar_icmp_gt (pc := 7) (x := v0) (y := v2) (tgt := 14) (off := 7) (by decide +kernel) (by decide) (fun c2 => ?_) (fun c2 => ?_)
    · replace H := H.1 c2
      refine ar_iconst (pc := 14) (z := 0) (by decide +kernel) (by unfold am_i32; omega) ?_
      exact ar_zret (pc := 15) (x := 0) (by decide +kernel) rfl rfl (by decide) H
    · replace H := H.2 c2
      refine ar_iconst (pc := 10) (z := 1) (by decide +kernel) (by unfold am_i32; omega) ?_
      refine ar_goto (pc := 11) (tgt := 15) (off := 4) (by decide +kernel) (by decide) ?_
      exact ar_zret (pc := 15) (x := 1) (by decide +kernel) rfl rfl (by decide) H

/-! ByteIntervalsModel.held(JII)I -/
theorem B_X7_held_0 {d : Nat} {Q : Int → am_H → Prop} {h : am_H} {v0 v2 v3 : Int} (H : (0 ≤ (am_lcmp v0 v2) → ((am_lcmp v0 v3) ≤ 0 → Q (am_l2i v0) h) ∧ (0 < (am_lcmp v0 v3) → Q v3 h)) ∧ ((am_lcmp v0 v2) < 0 → Q v2 h)) : wf d M_X7_held Q 0 [some (.inr (.inl v0)), none, some (.inl v2), some (.inl v3)] [] h := by
  intro h0
  refine ar_lload_n (pc := 0) (i := 0) (k0 := 0) (by decide +kernel) rfl rfl ?_
  refine ar_iload_n (pc := 1) (i := 2) (k0 := 2) (by decide +kernel) rfl rfl ?_
  refine ar_i2l (pc := 2) (x := v2) (by decide +kernel) ?_
  refine ar_lcmp (pc := 3) (x := v0) (y := v2) (by decide +kernel) ?_
  refine ar_if_ge (pc := 4) (x := (am_lcmp v0 v2)) (tgt := 11) (off := 7) (by decide +kernel) (by decide) (fun c1 => ?_) (fun c1 => ?_)
  · replace H := H.1 c1
    refine ar_lload_n (pc := 11) (i := 0) (k0 := 0) (by decide +kernel) rfl rfl ?_
    refine ar_iload_n (pc := 12) (i := 3) (k0 := 3) (by decide +kernel) rfl rfl ?_
    refine ar_i2l (pc := 13) (x := v3) (by decide +kernel) ?_
    refine ar_lcmp (pc := 14) (x := v0) (y := v3) (by decide +kernel) ?_
    refine ar_if_le (pc := 15) (x := (am_lcmp v0 v3)) (tgt := 22) (off := 7) (by decide +kernel) (by decide) (fun c2 => ?_) (fun c2 => ?_)
    · replace H := H.1 c2
      refine ar_lload_n (pc := 22) (i := 0) (k0 := 0) (by decide +kernel) rfl rfl ?_
      refine ar_l2i (pc := 23) (x := v0) (by decide +kernel) ?_
      exact ar_iret (pc := 24) (x := (am_l2i v0)) (by decide +kernel) rfl rfl H
    · replace H := H.2 c2
      refine ar_iload_n (pc := 18) (i := 3) (k0 := 3) (by decide +kernel) rfl rfl ?_
      refine ar_goto (pc := 19) (tgt := 24) (off := 5) (by decide +kernel) (by decide) ?_
      exact ar_iret (pc := 24) (x := v3) (by decide +kernel) rfl rfl H
  · replace H := H.2 c1
    refine ar_iload_n (pc := 7) (i := 2) (k0 := 2) (by decide +kernel) rfl rfl ?_
    refine ar_goto (pc := 8) (tgt := 24) (off := 16) (by decide +kernel) (by decide) ?_
    exact ar_iret (pc := 24) (x := v2) (by decide +kernel) rfl rfl H

/-! ByteIntervalsModel.has(II)Z -/
theorem B_X7_has_0 {d : Nat} {Q : Int → am_H → Prop} {h : am_H} {v0 v1 : Int} (H : (¬ (am_iand (am_ishr v0 v1) 1) = 1 → Q 0 h) ∧ ((am_iand (am_ishr v0 v1) 1) = 1 → Q 1 h)) : wf d M_X7_has Q 0 [some (.inl v0), some (.inl v1)] [] h := by
  intro h0
  refine ar_iload_n (pc := 0) (i := 0) (k0 := 0) (by decide +kernel) rfl rfl ?_
  refine ar_iload_n (pc := 1) (i := 1) (k0 := 1) (by decide +kernel) rfl rfl ?_
  refine ar_ishr (pc := 2) (x := v0) (y := v1) (by decide +kernel) ?_
  refine ar_iconst (pc := 3) (z := 1) (by decide +kernel) (by unfold am_i32; omega) ?_
  refine ar_iand (pc := 4) (x := (am_ishr v0 v1)) (y := 1) (by decide +kernel) ?_
  refine ar_iconst (pc := 5) (z := 1) (by decide +kernel) (by unfold am_i32; omega) ?_
  refine ar_icmp_ne (pc := 6) (x := (am_iand (am_ishr v0 v1) 1)) (y := 1) (tgt := 13) (off := 7) (by decide +kernel) (by decide) (fun c1 => ?_) (fun c1 => ?_)
  · replace H := H.1 c1
    refine ar_iconst (pc := 13) (z := 0) (by decide +kernel) (by unfold am_i32; omega) ?_
    exact ar_zret (pc := 14) (x := 0) (by decide +kernel) rfl rfl (by decide) H
  · replace H := H.2 c1
    refine ar_iconst (pc := 9) (z := 1) (by decide +kernel) (by unfold am_i32; omega) ?_
    refine ar_goto (pc := 10) (tgt := 14) (off := 4) (by decide +kernel) (by decide) ?_
    exact ar_zret (pc := 14) (x := 1) (by decide +kernel) rfl rfl (by decide) H

/-! ByteIntervalsModel.isField(I)Z -/
theorem B_X7_isField_0 {d : Nat} {Q : Int → am_H → Prop} {h : am_H} {v0 : Int} (H : cf d M_X7_isIn [.inl v0, .inl 0, .inl 7] h (fun r1 h2 => (r1 = 0 ∨ r1 = 1) ∧ (Q r1 h2))) : wf (d + 1) M_X7_isField Q 0 [some (.inl v0)] [] h := by
  intro h0
  refine ar_iload_n (pc := 0) (i := 0) (k0 := 0) (by decide +kernel) rfl rfl ?_
  refine ar_iconst (pc := 1) (z := 0) (by decide +kernel) (by unfold am_i32; omega) ?_
  refine ar_bipush (pc := 2) (z := 7) (by decide +kernel) (by omega) ?_
  refine ar_callS (pc := 4) (M2 := M_X7_isIn) (as := [.inl v0, .inl 0, .inl 7]) (n2 := 321) (st := []) (by decide +kernel) rfl wm_RX7_108 ws_yX7_isIn wz_RX7 wc_yX7_isIn ⟨by decide, by decide, rfl⟩ (by decide) (Nat.le_of_ble_eq_true rfl) (Nat.le_refl _) (Nat.le_refl _) (am_Cl_mono H (fun r1 h2 H => ?_))
  show am_Wp true (d + 1) M_X7_isField 321 321 h0 Q 7 [some (.inl v0)] [.inl r1] 321 h2
  obtain ⟨g3, H⟩ := H
  exact ar_zret (pc := 7) (x := r1) (by decide +kernel) rfl rfl g3 H

/-! ByteIntervalsModel.isPlace(I)Z -/
theorem B_X7_isPlace_0 {d : Nat} {Q : Int → am_H → Prop} {h : am_H} {v1 : Int} (H : cf d M_X7_isIn [.inl v1, .inl 0, .inl (am_w32 ((h 295 6) - 1))] h (fun r1 h2 => (r1 = 0 ∨ r1 = 1) ∧ (Q r1 h2))) : wf (d + 1) M_X7_isPlace Q 0 [some (.inr (.inr 294)), some (.inl v1)] [] h := by
  intro h0
  refine ar_iload_n (pc := 0) (i := 1) (k0 := 1) (by decide +kernel) rfl rfl ?_
  refine ar_iconst (pc := 1) (z := 0) (by decide +kernel) (by unfold am_i32; omega) ?_
  refine ar_aload_n (pc := 2) (i := 0) (k0 := 0) (by decide +kernel) rfl rfl ?_
  refine ar_getFV (pc := 3) (a := 294) (b := 295) 7 0 (by decide +kernel) k_294 rfl (by decide) wf_RX7_7 rfl (fun _ => rfl) rfl ?_
  refine ar_bipush (pc := 6) (z := 6) (by decide +kernel) (by omega) ?_
  refine ar_iald (pc := 8) (a := 295) (i := 6) (by decide +kernel) k_295 (by decide) (am_lt_eq (b := 2159) (by decide) (l_295).symm) ?_
  refine ar_iconst (pc := 9) (z := 1) (by decide +kernel) (by unfold am_i32; omega) ?_
  refine ar_isub (pc := 10) (x := (h 295 6)) (y := 1) (by decide +kernel) ?_
  refine ar_callS (pc := 11) (M2 := M_X7_isIn) (as := [.inl v1, .inl 0, .inl (am_w32 ((h 295 6) - 1))]) (n2 := 321) (st := []) (by decide +kernel) rfl wm_RX7_108 ws_yX7_isIn wz_RX7 wc_yX7_isIn ⟨by decide, by decide, rfl⟩ (by decide) (Nat.le_of_ble_eq_true rfl) (Nat.le_refl _) (Nat.le_refl _) (am_Cl_mono H (fun r1 h2 H => ?_))
  show am_Wp true (d + 1) M_X7_isPlace 321 321 h0 Q 14 [some (.inr (.inr 294)), some (.inl v1)] [.inl r1] 321 h2
  obtain ⟨g3, H⟩ := H
  exact ar_zret (pc := 14) (x := r1) (by decide +kernel) rfl rfl g3 H

/-! ByteIntervalsModel.isText(I)Z -/
theorem B_X7_isText_0 {d : Nat} {Q : Int → am_H → Prop} {h : am_H} {v1 : Int} (H : cf d M_X7_isIn [.inl v1, .inl 0, .inl (am_w32 ((h 295 0) - 1))] h (fun r1 h2 => (r1 = 0 ∨ r1 = 1) ∧ (Q r1 h2))) : wf (d + 1) M_X7_isText Q 0 [some (.inr (.inr 294)), some (.inl v1)] [] h := by
  intro h0
  refine ar_iload_n (pc := 0) (i := 1) (k0 := 1) (by decide +kernel) rfl rfl ?_
  refine ar_iconst (pc := 1) (z := 0) (by decide +kernel) (by unfold am_i32; omega) ?_
  refine ar_aload_n (pc := 2) (i := 0) (k0 := 0) (by decide +kernel) rfl rfl ?_
  refine ar_getFV (pc := 3) (a := 294) (b := 295) 7 0 (by decide +kernel) k_294 rfl (by decide) wf_RX7_7 rfl (fun _ => rfl) rfl ?_
  refine ar_iconst (pc := 6) (z := 0) (by decide +kernel) (by unfold am_i32; omega) ?_
  refine ar_iald (pc := 7) (a := 295) (i := 0) (by decide +kernel) k_295 (by decide) (am_lt_eq (b := 2159) (by decide) (l_295).symm) ?_
  refine ar_iconst (pc := 8) (z := 1) (by decide +kernel) (by unfold am_i32; omega) ?_
  refine ar_isub (pc := 9) (x := (h 295 0)) (y := 1) (by decide +kernel) ?_
  refine ar_callS (pc := 10) (M2 := M_X7_isIn) (as := [.inl v1, .inl 0, .inl (am_w32 ((h 295 0) - 1))]) (n2 := 321) (st := []) (by decide +kernel) rfl wm_RX7_108 ws_yX7_isIn wz_RX7 wc_yX7_isIn ⟨by decide, by decide, rfl⟩ (by decide) (Nat.le_of_ble_eq_true rfl) (Nat.le_refl _) (Nat.le_refl _) (am_Cl_mono H (fun r1 h2 H => ?_))
  show am_Wp true (d + 1) M_X7_isText 321 321 h0 Q 13 [some (.inr (.inr 294)), some (.inl v1)] [.inl r1] 321 h2
  obtain ⟨g3, H⟩ := H
  exact ar_zret (pc := 13) (x := r1) (by decide +kernel) rfl rfl g3 H

/-! ByteIntervalsModel.four(I)V -/
theorem B_X7_four_0 {d : Nat} {Q : Int → am_H → Prop} {h : am_H} {v1 : Int} (H : wf d M_X7_four Q 3 [some (.inr (.inr 294)), some (.inl v1), some (.inl 24)] [] h) : wf d M_X7_four Q 0 [some (.inr (.inr 294)), some (.inl v1), none] [] h := by
  intro h0
  refine ar_bipush (pc := 0) (z := 24) (by decide +kernel) (by omega) ?_
  refine ar_istore_n (pc := 2) (i := 2) (k0 := 2) (ls2 := [some (.inr (.inr 294)), some (.inl v1), some (.inl 24)]) (by decide +kernel) rfl (by decide) rfl ?_
  exact H h0
theorem B_X7_four_3 {d : Nat} {Q : Int → am_H → Prop} {h : am_H} {v1 v2 : Int} (H : (v2 < 0 → Q 0 h) ∧ (0 ≤ v2 → (0 ≤ (h 294 4)) ∧ (((h 294 4) < 300) ∧ (wf d M_X7_four Q 3 [some (.inr (.inr 294)), some (.inl v1), some (.inl (am_w32 (v2 + (-8))))] [] (am_up (am_up h 298 (h 294 4) (am_iand (am_ishr v1 v2) 255)) 294 4 (am_w32 ((h 294 4) + 1))))))) : wf d M_X7_four Q 3 [some (.inr (.inr 294)), some (.inl v1), some (.inl v2)] [] h := by
  intro h0
  refine ar_iload_n (pc := 3) (i := 2) (k0 := 2) (by decide +kernel) rfl rfl ?_
  refine ar_if_lt (pc := 4) (x := v2) (tgt := 39) (off := 35) (by decide +kernel) (by decide) (fun c1 => ?_) (fun c1 => ?_)
  · replace H := H.1 c1
    exact ar_vret (pc := 39) (by decide +kernel) rfl rfl H
  · replace H := H.2 c1
    refine ar_aload_n (pc := 7) (i := 0) (k0 := 0) (by decide +kernel) rfl rfl ?_
    refine ar_getFV (pc := 8) (a := 294) (b := 298) 7 3 (by decide +kernel) k_294 rfl (by decide) wf_RX7_19 rfl (fun _ => rfl) rfl ?_
    refine ar_aload_n (pc := 11) (i := 0) (k0 := 0) (by decide +kernel) rfl rfl ?_
    refine ar_getV (pc := 12) (a := 294) (v := .inl (h 294 4)) 7 4 (by decide +kernel) k_294 rfl (by decide) wf_RX7_112 rfl ?_
    refine ar_iload_n (pc := 15) (i := 1) (k0 := 1) (by decide +kernel) rfl rfl ?_
    refine ar_iload_n (pc := 16) (i := 2) (k0 := 2) (by decide +kernel) rfl rfl ?_
    refine ar_ishr (pc := 17) (x := v1) (y := v2) (by decide +kernel) ?_
    refine ar_sipush (pc := 18) (z := 255) (by decide +kernel) (by omega) ?_
    refine ar_iand (pc := 21) (x := (am_ishr v1 v2)) (y := 255) (by decide +kernel) ?_
    obtain ⟨g2, H⟩ := H
    obtain ⟨g3, H⟩ := H
    refine ar_iast (pc := 22) (a := 298) (i := (h 294 4)) (z := (am_iand (am_ishr v1 v2) 255)) (by decide +kernel) k_298 g2 (am_lt_eq g3 (l_298).symm) ?_
    refine ar_aload_n (pc := 23) (i := 0) (k0 := 0) (by decide +kernel) rfl rfl ?_
    refine ar_dup (pc := 24) (by decide +kernel) trivial ?_
    refine ar_getV (pc := 25) (a := 294) (v := .inl (h 294 4)) 7 4 (by decide +kernel) k_294 rfl (by decide) wf_RX7_112 (by first | rfl | (simp [am_tv, am_ty, tyX7, am_up, am_cp]; done) | (simp [am_tv, am_ty, tyX7, am_up, am_cp] <;> intros <;> omega)) ?_
    refine ar_iconst (pc := 28) (z := 1) (by decide +kernel) (by unfold am_i32; omega) ?_
    refine ar_iadd (pc := 29) (x := (h 294 4)) (y := 1) (by decide +kernel) ?_
    refine ar_putI (pc := 30) (a := 294) (z := (am_w32 ((h 294 4) + 1))) 7 4 (by decide +kernel) k_294 rfl (by decide) rfl (fun _ => rfl) rfl wf_RX7_112 ?_
    refine ar_iinc (pc := 33) (i := 2) (z := (-8)) (x := v2) (ls2 := [some (.inr (.inr 294)), some (.inl v1), some (.inl (am_w32 (v2 + (-8))))]) (by decide +kernel) rfl (by decide) rfl ?_
    refine ar_goto (pc := 36) (tgt := 3) (off := -33) (by decide +kernel) (by decide) ?_
    exact H h0

/-! ByteIntervalsModel.feed(IIIII)I -/
theorem B_X7_feed_0 {d : Nat} {Q : Int → am_H → Prop} {h : am_H} {v1 v2 v3 v4 v5 : Int} (H : ((am_w32 ((h 294 4) + 20)) ≤ 300 → cf d M_X7_four [.inr (.inr 294), .inl v1] h (fun _ h3 => cf d M_X7_four [.inr (.inr 294), .inl v2] h3 (fun _ h5 => cf d M_X7_four [.inr (.inr 294), .inl v3] h5 (fun _ h7 => cf d M_X7_four [.inr (.inr 294), .inl v4] h7 (fun _ h9 => cf d M_X7_four [.inr (.inr 294), .inl v5] h9 (fun _ h11 => Q (h11 294 4) h11)))))) ∧ (300 < (am_w32 ((h 294 4) + 20)) → Q (-1) h)) : wf (d + 1) M_X7_feed Q 0 [some (.inr (.inr 294)), some (.inl v1), some (.inl v2), some (.inl v3), some (.inl v4), some (.inl v5)] [] h := by
  intro h0
  refine ar_aload_n (pc := 0) (i := 0) (k0 := 0) (by decide +kernel) rfl rfl ?_
  refine ar_getV (pc := 1) (a := 294) (v := .inl (h 294 4)) 7 4 (by decide +kernel) k_294 rfl (by decide) wf_RX7_112 rfl ?_
  refine ar_bipush (pc := 4) (z := 20) (by decide +kernel) (by omega) ?_
  refine ar_iadd (pc := 6) (x := (h 294 4)) (y := 20) (by decide +kernel) ?_
  refine ar_sipush (pc := 7) (z := 300) (by decide +kernel) (by omega) ?_
  refine ar_icmp_le (pc := 10) (x := (am_w32 ((h 294 4) + 20))) (y := 300) (tgt := 15) (off := 5) (by decide +kernel) (by decide) (fun c1 => ?_) (fun c1 => ?_)
  · replace H := H.1 c1
    refine ar_aload_n (pc := 15) (i := 0) (k0 := 0) (by decide +kernel) rfl rfl ?_
    refine ar_iload_n (pc := 16) (i := 1) (k0 := 1) (by decide +kernel) rfl rfl ?_
    refine ar_callV (pc := 17) (M2 := M_X7_four) (a := 294) (ci := 7) (as := [.inl v1]) (n2 := 321) (st := []) (by decide +kernel) rfl wm_RX7_115 wi_yX7_four wl_yX7_four k_294 rfl wz_RX7 wc_yX7_four ⟨by decide, by decide, rfl⟩ (by decide) (Nat.le_of_ble_eq_true rfl) (Nat.le_refl _) (Nat.le_refl _) (am_Cl_mono H (fun r2 h3 H => ?_))
    show am_Wp true (d + 1) M_X7_feed 321 321 h0 Q 20 [some (.inr (.inr 294)), some (.inl v1), some (.inl v2), some (.inl v3), some (.inl v4), some (.inl v5)] [] 321 h3
    refine ar_aload_n (pc := 20) (i := 0) (k0 := 0) (by decide +kernel) rfl rfl ?_
    refine ar_iload_n (pc := 21) (i := 2) (k0 := 2) (by decide +kernel) rfl rfl ?_
    refine ar_callV (pc := 22) (M2 := M_X7_four) (a := 294) (ci := 7) (as := [.inl v2]) (n2 := 321) (st := []) (by decide +kernel) rfl wm_RX7_115 wi_yX7_four wl_yX7_four k_294 rfl wz_RX7 wc_yX7_four ⟨by decide, by decide, rfl⟩ (by decide) (Nat.le_of_ble_eq_true rfl) (Nat.le_refl _) (Nat.le_refl _) (am_Cl_mono H (fun r4 h5 H => ?_))
    show am_Wp true (d + 1) M_X7_feed 321 321 h0 Q 25 [some (.inr (.inr 294)), some (.inl v1), some (.inl v2), some (.inl v3), some (.inl v4), some (.inl v5)] [] 321 h5
    refine ar_aload_n (pc := 25) (i := 0) (k0 := 0) (by decide +kernel) rfl rfl ?_
    refine ar_iload_n (pc := 26) (i := 3) (k0 := 3) (by decide +kernel) rfl rfl ?_
    refine ar_callV (pc := 27) (M2 := M_X7_four) (a := 294) (ci := 7) (as := [.inl v3]) (n2 := 321) (st := []) (by decide +kernel) rfl wm_RX7_115 wi_yX7_four wl_yX7_four k_294 rfl wz_RX7 wc_yX7_four ⟨by decide, by decide, rfl⟩ (by decide) (Nat.le_of_ble_eq_true rfl) (Nat.le_refl _) (Nat.le_refl _) (am_Cl_mono H (fun r6 h7 H => ?_))
    show am_Wp true (d + 1) M_X7_feed 321 321 h0 Q 30 [some (.inr (.inr 294)), some (.inl v1), some (.inl v2), some (.inl v3), some (.inl v4), some (.inl v5)] [] 321 h7
    refine ar_aload_n (pc := 30) (i := 0) (k0 := 0) (by decide +kernel) rfl rfl ?_
    refine ar_iload (pc := 31) (i := 4) (by decide +kernel) rfl ?_
    refine ar_callV (pc := 33) (M2 := M_X7_four) (a := 294) (ci := 7) (as := [.inl v4]) (n2 := 321) (st := []) (by decide +kernel) rfl wm_RX7_115 wi_yX7_four wl_yX7_four k_294 rfl wz_RX7 wc_yX7_four ⟨by decide, by decide, rfl⟩ (by decide) (Nat.le_of_ble_eq_true rfl) (Nat.le_refl _) (Nat.le_refl _) (am_Cl_mono H (fun r8 h9 H => ?_))
    show am_Wp true (d + 1) M_X7_feed 321 321 h0 Q 36 [some (.inr (.inr 294)), some (.inl v1), some (.inl v2), some (.inl v3), some (.inl v4), some (.inl v5)] [] 321 h9
    refine ar_aload_n (pc := 36) (i := 0) (k0 := 0) (by decide +kernel) rfl rfl ?_
    refine ar_iload (pc := 37) (i := 5) (by decide +kernel) rfl ?_
    refine ar_callV (pc := 39) (M2 := M_X7_four) (a := 294) (ci := 7) (as := [.inl v5]) (n2 := 321) (st := []) (by decide +kernel) rfl wm_RX7_115 wi_yX7_four wl_yX7_four k_294 rfl wz_RX7 wc_yX7_four ⟨by decide, by decide, rfl⟩ (by decide) (Nat.le_of_ble_eq_true rfl) (Nat.le_refl _) (Nat.le_refl _) (am_Cl_mono H (fun r10 h11 H => ?_))
    show am_Wp true (d + 1) M_X7_feed 321 321 h0 Q 42 [some (.inr (.inr 294)), some (.inl v1), some (.inl v2), some (.inl v3), some (.inl v4), some (.inl v5)] [] 321 h11
    refine ar_aload_n (pc := 42) (i := 0) (k0 := 0) (by decide +kernel) rfl rfl ?_
    refine ar_getV (pc := 43) (a := 294) (v := .inl (h11 294 4)) 7 4 (by decide +kernel) k_294 rfl (by decide) wf_RX7_112 rfl ?_
    exact ar_iret (pc := 46) (x := (h11 294 4)) (by decide +kernel) rfl rfl H
  · replace H := H.2 c1
    refine ar_iconst (pc := 13) (z := (-1)) (by decide +kernel) (by unfold am_i32; omega) ?_
    exact ar_iret (pc := 14) (x := (-1)) (by decide +kernel) rfl rfl H

/-! ByteIntervalsModel.end(I)I -/
theorem B_X7_end_0 {d : Nat} {Q : Int → am_H → Prop} {h : am_H} {v1 : Int} (H : cf d M_X7_isIn [.inl v1, .inl 0, .inl (h 294 4)] h (fun r1 h2 => (¬ r1 = 0 → Q v1 (am_up h2 294 4 v1)) ∧ (r1 = 0 → Q (-1) h2))) : wf (d + 1) M_X7_end Q 0 [some (.inr (.inr 294)), some (.inl v1)] [] h := by
  intro h0
  refine ar_iload_n (pc := 0) (i := 1) (k0 := 1) (by decide +kernel) rfl rfl ?_
  refine ar_iconst (pc := 1) (z := 0) (by decide +kernel) (by unfold am_i32; omega) ?_
  refine ar_aload_n (pc := 2) (i := 0) (k0 := 0) (by decide +kernel) rfl rfl ?_
  refine ar_getV (pc := 3) (a := 294) (v := .inl (h 294 4)) 7 4 (by decide +kernel) k_294 rfl (by decide) wf_RX7_112 rfl ?_
  refine ar_callS (pc := 6) (M2 := M_X7_isIn) (as := [.inl v1, .inl 0, .inl (h 294 4)]) (n2 := 321) (st := []) (by decide +kernel) rfl wm_RX7_108 ws_yX7_isIn wz_RX7 wc_yX7_isIn ⟨by decide, by decide, rfl⟩ (by decide) (Nat.le_of_ble_eq_true rfl) (Nat.le_refl _) (Nat.le_refl _) (am_Cl_mono H (fun r1 h2 H => ?_))
  show am_Wp true (d + 1) M_X7_end 321 321 h0 Q 9 [some (.inr (.inr 294)), some (.inl v1)] [.inl r1] 321 h2
  refine ar_if_ne (pc := 9) (x := r1) (tgt := 14) (off := 5) (by decide +kernel) (by decide) (fun c3 => ?_) (fun c3 => ?_)
  · replace H := H.1 c3
    refine ar_aload_n (pc := 14) (i := 0) (k0 := 0) (by decide +kernel) rfl rfl ?_
    refine ar_iload_n (pc := 15) (i := 1) (k0 := 1) (by decide +kernel) rfl rfl ?_
    refine ar_putI (pc := 16) (a := 294) (z := v1) 7 4 (by decide +kernel) k_294 rfl (by decide) rfl (fun _ => rfl) rfl wf_RX7_112 ?_
    refine ar_iload_n (pc := 19) (i := 1) (k0 := 1) (by decide +kernel) rfl rfl ?_
    exact ar_iret (pc := 20) (x := v1) (by decide +kernel) rfl rfl H
  · replace H := H.2 c3
    refine ar_iconst (pc := 12) (z := (-1)) (by decide +kernel) (by unfold am_i32; omega) ?_
    exact ar_iret (pc := 13) (x := (-1)) (by decide +kernel) rfl rfl H

/-! ByteIntervalsModel.byteAt(I)I -/
theorem B_X7_byteAt_0 {d : Nat} {Q : Int → am_H → Prop} {h : am_H} {v1 : Int} (H : ((h 294 4) ≤ v1 → Q (-1) h) ∧ (v1 < (h 294 4) → (0 ≤ v1) ∧ ((v1 < 300) ∧ (Q (h 298 v1) h)))) : wf d M_X7_byteAt Q 0 [some (.inr (.inr 294)), some (.inl v1)] [] h := by
  intro h0
  refine ar_iload_n (pc := 0) (i := 1) (k0 := 1) (by decide +kernel) rfl rfl ?_
  refine ar_aload_n (pc := 1) (i := 0) (k0 := 0) (by decide +kernel) rfl rfl ?_
  refine ar_getV (pc := 2) (a := 294) (v := .inl (h 294 4)) 7 4 (by decide +kernel) k_294 rfl (by decide) wf_RX7_112 rfl ?_
  refine ar_icmp_ge (pc := 5) (x := v1) (y := (h 294 4)) (tgt := 17) (off := 12) (by decide +kernel) (by decide) (fun c1 => ?_) (fun c1 => ?_)
  · replace H := H.1 c1
    refine ar_iconst (pc := 17) (z := (-1)) (by decide +kernel) (by unfold am_i32; omega) ?_
    exact ar_iret (pc := 18) (x := (-1)) (by decide +kernel) rfl rfl H
  · replace H := H.2 c1
    refine ar_aload_n (pc := 8) (i := 0) (k0 := 0) (by decide +kernel) rfl rfl ?_
    refine ar_getFV (pc := 9) (a := 294) (b := 298) 7 3 (by decide +kernel) k_294 rfl (by decide) wf_RX7_19 rfl (fun _ => rfl) rfl ?_
    refine ar_iload_n (pc := 12) (i := 1) (k0 := 1) (by decide +kernel) rfl rfl ?_
    obtain ⟨g2, H⟩ := H
    obtain ⟨g3, H⟩ := H
    refine ar_iald (pc := 13) (a := 298) (i := v1) (by decide +kernel) k_298 g2 (am_lt_eq g3 (l_298).symm) ?_
    refine ar_goto (pc := 14) (tgt := 18) (off := 4) (by decide +kernel) (by decide) ?_
    exact ar_iret (pc := 18) (x := (h 298 v1)) (by decide +kernel) rfl rfl H

/-! ByteIntervalsModel.isLetterByte(I)Z -/
theorem B_X7_isLetterByte_0 {d : Nat} {Q : Int → am_H → Prop} {h : am_H} {v0 : Int} (H : (v0 < 97 → wf d M_X7_isLetterByte Q 12 [some (.inl v0)] [] h) ∧ (97 ≤ v0 → (v0 ≤ 122 → wf d M_X7_isLetterByte Q 24 [none] [] h) ∧ (122 < v0 → wf d M_X7_isLetterByte Q 12 [some (.inl v0)] [] h))) : wf d M_X7_isLetterByte Q 0 [some (.inl v0)] [] h := by
  intro h0
  refine ar_iload_n (pc := 0) (i := 0) (k0 := 0) (by decide +kernel) rfl rfl ?_
  refine ar_bipush (pc := 1) (z := 97) (by decide +kernel) (by omega) ?_
  refine ar_icmp_lt (pc := 3) (x := v0) (y := 97) (tgt := 12) (off := 9) (by decide +kernel) (by decide) (fun c1 => ?_) (fun c1 => ?_)
  · replace H := H.1 c1
    exact H h0
  · replace H := H.2 c1
    refine ar_iload_n (pc := 6) (i := 0) (k0 := 0) (by decide +kernel) rfl rfl ?_
    refine ar_bipush (pc := 7) (z := 122) (by decide +kernel) (by omega) ?_
    refine ar_icmp_le (pc := 9) (x := v0) (y := 122) (tgt := 24) (off := 15) (by decide +kernel) (by decide) (fun c2 => ?_) (fun c2 => ?_)
    · replace H := H.1 c2
      refine ar_forget [false] rfl ?_
      exact H h0
    · replace H := H.2 c2
      exact H h0
theorem B_X7_isLetterByte_12 {d : Nat} {Q : Int → am_H → Prop} {h : am_H} {v0 : Int} (H : (v0 < 65 → Q 0 h) ∧ (65 ≤ v0 → (90 < v0 → Q 0 h) ∧ (v0 ≤ 90 → wf d M_X7_isLetterByte Q 24 [none] [] h))) : wf d M_X7_isLetterByte Q 12 [some (.inl v0)] [] h := by
  intro h0
  refine ar_iload_n (pc := 12) (i := 0) (k0 := 0) (by decide +kernel) rfl rfl ?_
  refine ar_bipush (pc := 13) (z := 65) (by decide +kernel) (by omega) ?_
  refine ar_icmp_lt (pc := 15) (x := v0) (y := 65) (tgt := 28) (off := 13) (by decide +kernel) (by decide) (fun c1 => ?_) (fun c1 => ?_)
  · replace H := H.1 c1
    refine ar_iconst (pc := 28) (z := 0) (by decide +kernel) (by unfold am_i32; omega) ?_
    exact ar_zret (pc := 29) (x := 0) (by decide +kernel) rfl rfl (by decide) H
  · replace H := H.2 c1
    refine ar_iload_n (pc := 18) (i := 0) (k0 := 0) (by decide +kernel) rfl rfl ?_
    refine ar_bipush (pc := 19) (z := 90) (by decide +kernel) (by omega) ?_
    refine ar_icmp_gt (pc := 21) (x := v0) (y := 90) (tgt := 28) (off := 7) (by decide +kernel) (by decide) (fun c2 => ?_) (fun c2 => ?_)
    · replace H := H.1 c2
      refine ar_iconst (pc := 28) (z := 0) (by decide +kernel) (by unfold am_i32; omega) ?_
      exact ar_zret (pc := 29) (x := 0) (by decide +kernel) rfl rfl (by decide) H
    · replace H := H.2 c2
      refine ar_forget [false] rfl ?_
      exact H h0
theorem B_X7_isLetterByte_24 {d : Nat} {Q : Int → am_H → Prop} {h : am_H} (H : Q 1 h) : wf d M_X7_isLetterByte Q 24 [none] [] h := by
  intro h0
  refine ar_iconst (pc := 24) (z := 1) (by decide +kernel) (by unfold am_i32; omega) ?_
  refine ar_goto (pc := 25) (tgt := 29) (off := 4) (by decide +kernel) (by decide) ?_
  exact ar_zret (pc := 29) (x := 1) (by decide +kernel) rfl rfl (by decide) H

/-! ByteIntervalsModel.isFigure(I)Z -/
theorem B_X7_isFigure_0 {d : Nat} {Q : Int → am_H → Prop} {h : am_H} {v0 : Int} (H : (v0 < 48 → Q 0 h) ∧ (48 ≤ v0 → (57 < v0 → Q 0 h) ∧ (v0 ≤ 57 → Q 1 h))) : wf d M_X7_isFigure Q 0 [some (.inl v0)] [] h := by
  intro h0
  refine ar_iload_n (pc := 0) (i := 0) (k0 := 0) (by decide +kernel) rfl rfl ?_
  refine ar_bipush (pc := 1) (z := 48) (by decide +kernel) (by omega) ?_
  refine ar_icmp_lt (pc := 3) (x := v0) (y := 48) (tgt := 16) (off := 13) (by decide +kernel) (by decide) (fun c1 => ?_) (fun c1 => ?_)
  · replace H := H.1 c1
    refine ar_iconst (pc := 16) (z := 0) (by decide +kernel) (by unfold am_i32; omega) ?_
    exact ar_zret (pc := 17) (x := 0) (by decide +kernel) rfl rfl (by decide) H
  · replace H := H.2 c1
    refine ar_iload_n (pc := 6) (i := 0) (k0 := 0) (by decide +kernel) rfl rfl ?_
    refine ar_bipush (pc := 7) (z := 57) (by decide +kernel) (by omega) ?_
    refine ar_icmp_gt (pc := 9) (x := v0) (y := 57) (tgt := 16) (off := 7) (by decide +kernel) (by decide) (fun c2 => ?_) (fun c2 => ?_)
    · replace H := H.1 c2
      refine ar_iconst (pc := 16) (z := 0) (by decide +kernel) (by unfold am_i32; omega) ?_
      exact ar_zret (pc := 17) (x := 0) (by decide +kernel) rfl rfl (by decide) H
    · replace H := H.2 c2
      refine ar_iconst (pc := 12) (z := 1) (by decide +kernel) (by unfold am_i32; omega) ?_
      refine ar_goto (pc := 13) (tgt := 17) (off := 4) (by decide +kernel) (by decide) ?_
      exact ar_zret (pc := 17) (x := 1) (by decide +kernel) rfl rfl (by decide) H

/-! ByteIntervalsModel.isSign(I)Z -/
theorem B_X7_isSign_0 {d : Nat} {Q : Int → am_H → Prop} {h : am_H} {v0 : Int} (H : (v0 < 35 ∨ 62 < v0 → Q 0 h) ∧ (v0 = 35 → Q 1 h) ∧ (v0 = 36 → Q 0 h) ∧ (v0 = 37 → Q 0 h) ∧ (v0 = 38 → Q 0 h) ∧ (v0 = 39 → Q 0 h) ∧ (v0 = 40 → Q 1 h) ∧ (v0 = 41 → Q 1 h) ∧ (v0 = 42 → Q 1 h) ∧ (v0 = 43 → Q 1 h) ∧ (v0 = 44 → Q 0 h) ∧ (v0 = 45 → Q 1 h) ∧ (v0 = 46 → Q 0 h) ∧ (v0 = 47 → Q 1 h) ∧ (v0 = 48 → Q 0 h) ∧ (v0 = 49 → Q 0 h) ∧ (v0 = 50 → Q 0 h) ∧ (v0 = 51 → Q 0 h) ∧ (v0 = 52 → Q 0 h) ∧ (v0 = 53 → Q 0 h) ∧ (v0 = 54 → Q 0 h) ∧ (v0 = 55 → Q 0 h) ∧ (v0 = 56 → Q 0 h) ∧ (v0 = 57 → Q 0 h) ∧ (v0 = 58 → Q 1 h) ∧ (v0 = 59 → Q 1 h) ∧ (v0 = 60 → Q 1 h) ∧ (v0 = 61 → Q 1 h) ∧ (v0 = 62 → Q 1 h)) : wf d M_X7_isSign Q 0 [some (.inl v0)] [] h := by
  intro h0
  refine ar_iload_n (pc := 0) (i := 0) (k0 := 0) (by decide +kernel) rfl rfl ?_
  refine ar_table (pc := 1) (dflt := 129) (lo := 35) (hi := 62) (offs := #[127, 129, 129, 129, 129, 127, 127, 127, 127, 129, 127, 129, 127, 129, 129, 129, 129, 129, 129, 129, 129, 129, 129, 127, 127, 127, 127, 127]) (len := 127) (x := v0) (dt := 130) [128, 130, 130, 130, 130, 128, 128, 128, 128, 130, 128, 130, 128, 130, 130, 130, 130, 130, 130, 130, 130, 130, 130, 128, 128, 128, 128, 128] (by decide +kernel) (by decide) (by decide) (by decide) (fun c1 => ?_) (And.intro (fun c1 => ?_) (And.intro (fun c1 => ?_) (And.intro (fun c1 => ?_) (And.intro (fun c1 => ?_) (And.intro (fun c1 => ?_) (And.intro (fun c1 => ?_) (And.intro (fun c1 => ?_) (And.intro (fun c1 => ?_) (And.intro (fun c1 => ?_) (And.intro (fun c1 => ?_) (And.intro (fun c1 => ?_) (And.intro (fun c1 => ?_) (And.intro (fun c1 => ?_) (And.intro (fun c1 => ?_) (And.intro (fun c1 => ?_) (And.intro (fun c1 => ?_) (And.intro (fun c1 => ?_) (And.intro (fun c1 => ?_) (And.intro (fun c1 => ?_) (And.intro (fun c1 => ?_) (And.intro (fun c1 => ?_) (And.intro (fun c1 => ?_) (And.intro (fun c1 => ?_) (And.intro (fun c1 => ?_) (And.intro (fun c1 => ?_) (And.intro (fun c1 => ?_) (And.intro (fun c1 => ?_) (And.intro (fun c1 => ?_) (True.intro)))))))))))))))))))))))))))))
  · replace H := H.1 c1
    refine ar_iconst (pc := 130) (z := 0) (by decide +kernel) (by unfold am_i32; omega) ?_
    exact ar_zret (pc := 131) (x := 0) (by decide +kernel) rfl rfl (by decide) H
  · replace H := H.2.1 c1
    refine ar_iconst (pc := 128) (z := 1) (by decide +kernel) (by unfold am_i32; omega) ?_
    exact ar_zret (pc := 129) (x := 1) (by decide +kernel) rfl rfl (by decide) H
  · replace H := H.2.2.1 c1
    refine ar_iconst (pc := 130) (z := 0) (by decide +kernel) (by unfold am_i32; omega) ?_
    exact ar_zret (pc := 131) (x := 0) (by decide +kernel) rfl rfl (by decide) H
  · replace H := H.2.2.2.1 c1
    refine ar_iconst (pc := 130) (z := 0) (by decide +kernel) (by unfold am_i32; omega) ?_
    exact ar_zret (pc := 131) (x := 0) (by decide +kernel) rfl rfl (by decide) H
  · replace H := H.2.2.2.2.1 c1
    refine ar_iconst (pc := 130) (z := 0) (by decide +kernel) (by unfold am_i32; omega) ?_
    exact ar_zret (pc := 131) (x := 0) (by decide +kernel) rfl rfl (by decide) H
  · replace H := H.2.2.2.2.2.1 c1
    refine ar_iconst (pc := 130) (z := 0) (by decide +kernel) (by unfold am_i32; omega) ?_
    exact ar_zret (pc := 131) (x := 0) (by decide +kernel) rfl rfl (by decide) H
  · replace H := H.2.2.2.2.2.2.1 c1
    refine ar_iconst (pc := 128) (z := 1) (by decide +kernel) (by unfold am_i32; omega) ?_
    exact ar_zret (pc := 129) (x := 1) (by decide +kernel) rfl rfl (by decide) H
  · replace H := H.2.2.2.2.2.2.2.1 c1
    refine ar_iconst (pc := 128) (z := 1) (by decide +kernel) (by unfold am_i32; omega) ?_
    exact ar_zret (pc := 129) (x := 1) (by decide +kernel) rfl rfl (by decide) H
  · replace H := H.2.2.2.2.2.2.2.2.1 c1
    refine ar_iconst (pc := 128) (z := 1) (by decide +kernel) (by unfold am_i32; omega) ?_
    exact ar_zret (pc := 129) (x := 1) (by decide +kernel) rfl rfl (by decide) H
  · replace H := H.2.2.2.2.2.2.2.2.2.1 c1
    refine ar_iconst (pc := 128) (z := 1) (by decide +kernel) (by unfold am_i32; omega) ?_
    exact ar_zret (pc := 129) (x := 1) (by decide +kernel) rfl rfl (by decide) H
  · replace H := H.2.2.2.2.2.2.2.2.2.2.1 c1
    refine ar_iconst (pc := 130) (z := 0) (by decide +kernel) (by unfold am_i32; omega) ?_
    exact ar_zret (pc := 131) (x := 0) (by decide +kernel) rfl rfl (by decide) H
  · replace H := H.2.2.2.2.2.2.2.2.2.2.2.1 c1
    refine ar_iconst (pc := 128) (z := 1) (by decide +kernel) (by unfold am_i32; omega) ?_
    exact ar_zret (pc := 129) (x := 1) (by decide +kernel) rfl rfl (by decide) H
  · replace H := H.2.2.2.2.2.2.2.2.2.2.2.2.1 c1
    refine ar_iconst (pc := 130) (z := 0) (by decide +kernel) (by unfold am_i32; omega) ?_
    exact ar_zret (pc := 131) (x := 0) (by decide +kernel) rfl rfl (by decide) H
  · replace H := H.2.2.2.2.2.2.2.2.2.2.2.2.2.1 c1
    refine ar_iconst (pc := 128) (z := 1) (by decide +kernel) (by unfold am_i32; omega) ?_
    exact ar_zret (pc := 129) (x := 1) (by decide +kernel) rfl rfl (by decide) H
  · replace H := H.2.2.2.2.2.2.2.2.2.2.2.2.2.2.1 c1
    refine ar_iconst (pc := 130) (z := 0) (by decide +kernel) (by unfold am_i32; omega) ?_
    exact ar_zret (pc := 131) (x := 0) (by decide +kernel) rfl rfl (by decide) H
  · replace H := H.2.2.2.2.2.2.2.2.2.2.2.2.2.2.2.1 c1
    refine ar_iconst (pc := 130) (z := 0) (by decide +kernel) (by unfold am_i32; omega) ?_
    exact ar_zret (pc := 131) (x := 0) (by decide +kernel) rfl rfl (by decide) H
  · replace H := H.2.2.2.2.2.2.2.2.2.2.2.2.2.2.2.2.1 c1
    refine ar_iconst (pc := 130) (z := 0) (by decide +kernel) (by unfold am_i32; omega) ?_
    exact ar_zret (pc := 131) (x := 0) (by decide +kernel) rfl rfl (by decide) H
  · replace H := H.2.2.2.2.2.2.2.2.2.2.2.2.2.2.2.2.2.1 c1
    refine ar_iconst (pc := 130) (z := 0) (by decide +kernel) (by unfold am_i32; omega) ?_
    exact ar_zret (pc := 131) (x := 0) (by decide +kernel) rfl rfl (by decide) H
  · replace H := H.2.2.2.2.2.2.2.2.2.2.2.2.2.2.2.2.2.2.1 c1
    refine ar_iconst (pc := 130) (z := 0) (by decide +kernel) (by unfold am_i32; omega) ?_
    exact ar_zret (pc := 131) (x := 0) (by decide +kernel) rfl rfl (by decide) H
  · replace H := H.2.2.2.2.2.2.2.2.2.2.2.2.2.2.2.2.2.2.2.1 c1
    refine ar_iconst (pc := 130) (z := 0) (by decide +kernel) (by unfold am_i32; omega) ?_
    exact ar_zret (pc := 131) (x := 0) (by decide +kernel) rfl rfl (by decide) H
  · replace H := H.2.2.2.2.2.2.2.2.2.2.2.2.2.2.2.2.2.2.2.2.1 c1
    refine ar_iconst (pc := 130) (z := 0) (by decide +kernel) (by unfold am_i32; omega) ?_
    exact ar_zret (pc := 131) (x := 0) (by decide +kernel) rfl rfl (by decide) H
  · replace H := H.2.2.2.2.2.2.2.2.2.2.2.2.2.2.2.2.2.2.2.2.2.1 c1
    refine ar_iconst (pc := 130) (z := 0) (by decide +kernel) (by unfold am_i32; omega) ?_
    exact ar_zret (pc := 131) (x := 0) (by decide +kernel) rfl rfl (by decide) H
  · replace H := H.2.2.2.2.2.2.2.2.2.2.2.2.2.2.2.2.2.2.2.2.2.2.1 c1
    refine ar_iconst (pc := 130) (z := 0) (by decide +kernel) (by unfold am_i32; omega) ?_
    exact ar_zret (pc := 131) (x := 0) (by decide +kernel) rfl rfl (by decide) H
  · replace H := H.2.2.2.2.2.2.2.2.2.2.2.2.2.2.2.2.2.2.2.2.2.2.2.1 c1
    refine ar_iconst (pc := 130) (z := 0) (by decide +kernel) (by unfold am_i32; omega) ?_
    exact ar_zret (pc := 131) (x := 0) (by decide +kernel) rfl rfl (by decide) H
  · replace H := H.2.2.2.2.2.2.2.2.2.2.2.2.2.2.2.2.2.2.2.2.2.2.2.2.1 c1
    refine ar_iconst (pc := 128) (z := 1) (by decide +kernel) (by unfold am_i32; omega) ?_
    exact ar_zret (pc := 129) (x := 1) (by decide +kernel) rfl rfl (by decide) H
  · replace H := H.2.2.2.2.2.2.2.2.2.2.2.2.2.2.2.2.2.2.2.2.2.2.2.2.2.1 c1
    refine ar_iconst (pc := 128) (z := 1) (by decide +kernel) (by unfold am_i32; omega) ?_
    exact ar_zret (pc := 129) (x := 1) (by decide +kernel) rfl rfl (by decide) H
  · replace H := H.2.2.2.2.2.2.2.2.2.2.2.2.2.2.2.2.2.2.2.2.2.2.2.2.2.2.1 c1
    refine ar_iconst (pc := 128) (z := 1) (by decide +kernel) (by unfold am_i32; omega) ?_
    exact ar_zret (pc := 129) (x := 1) (by decide +kernel) rfl rfl (by decide) H
  · replace H := H.2.2.2.2.2.2.2.2.2.2.2.2.2.2.2.2.2.2.2.2.2.2.2.2.2.2.2.1 c1
    refine ar_iconst (pc := 128) (z := 1) (by decide +kernel) (by unfold am_i32; omega) ?_
    exact ar_zret (pc := 129) (x := 1) (by decide +kernel) rfl rfl (by decide) H
  · replace H := H.2.2.2.2.2.2.2.2.2.2.2.2.2.2.2.2.2.2.2.2.2.2.2.2.2.2.2.2 c1
    refine ar_iconst (pc := 128) (z := 1) (by decide +kernel) (by unfold am_i32; omega) ?_
    exact ar_zret (pc := 129) (x := 1) (by decide +kernel) rfl rfl (by decide) H

/-! ByteIntervalsModel.nextToken()V -/
theorem B_X7_nextToken_0 {d : Nat} {Q : Int → am_H → Prop} {h : am_H} (H : cf d M_X7_byteAt [.inr (.inr 294), .inl (h 294 7)] h (fun r1 h2 => (r1 = 32 → wf (d + 1) M_X7_nextToken Q 26 [some (.inr (.inr 294)), none] [] h2) ∧ (¬ r1 = 32 → cf d M_X7_byteAt [.inr (.inr 294), .inl (h2 294 7)] h2 (fun r4 h5 => (¬ r4 = 10 → cf d M_X7_byteAt [.inr (.inr 294), .inl (h5 294 7)] (am_up h5 294 8 (h5 294 7)) (fun r7 h8 => (0 ≤ r7 → cf d M_X7_isFigure [.inl r7] h8 (fun r10 h11 => (r10 = 0 → cf d M_X7_isLetterByte [.inl r7] h11 (fun r13 h14 => (r13 = 0 → cf d M_X7_isSign [.inl r7] h14 (fun r16 h17 => (r16 = 0 → wf (d + 1) M_X7_nextToken Q 247 [some (.inr (.inr 294)), some (.inl r7)] [.inl 3, .inr (.inr 294)] h17) ∧ (¬ r16 = 0 → wf (d + 1) M_X7_nextToken Q 247 [some (.inr (.inr 294)), some (.inl r7)] [.inl r7, .inr (.inr 294)] h17))) ∧ (¬ r13 = 0 → wf (d + 1) M_X7_nextToken Q 168 [some (.inr (.inr 294)), none] [] (am_up (am_up h14 294 9 2) 294 11 0)))) ∧ (¬ r10 = 0 → wf (d + 1) M_X7_nextToken Q 85 [some (.inr (.inr 294)), none] [] (am_up (am_up h11 294 9 1) 294 10 0)))) ∧ (r7 < 0 → Q 0 (am_up h8 294 9 0)))) ∧ (r4 = 10 → wf (d + 1) M_X7_nextToken Q 26 [some (.inr (.inr 294)), none] [] h5))))) : wf (d + 1) M_X7_nextToken Q 0 [some (.inr (.inr 294)), none] [] h := by
  intro h0
  refine ar_aload_n (pc := 0) (i := 0) (k0 := 0) (by decide +kernel) rfl rfl ?_
  refine ar_aload_n (pc := 1) (i := 0) (k0 := 0) (by decide +kernel) rfl rfl ?_
  refine ar_getV (pc := 2) (a := 294) (v := .inl (h 294 7)) 7 7 (by decide +kernel) k_294 rfl (by decide) wf_RX7_119 rfl ?_
  refine ar_callV (pc := 5) (M2 := M_X7_byteAt) (a := 294) (ci := 7) (as := [.inl (h 294 7)]) (n2 := 321) (st := []) (by decide +kernel) rfl wm_RX7_122 wi_yX7_byteAt wl_yX7_byteAt k_294 rfl wz_RX7 wc_yX7_byteAt ⟨by decide, by decide, rfl⟩ (by decide) (Nat.le_of_ble_eq_true rfl) (Nat.le_refl _) (Nat.le_refl _) (am_Cl_mono H (fun r1 h2 H => ?_))
  show am_Wp true (d + 1) M_X7_nextToken 321 321 h0 Q 8 [some (.inr (.inr 294)), none] [.inl r1] 321 h2
  refine ar_bipush (pc := 8) (z := 32) (by decide +kernel) (by omega) ?_
  refine ar_icmp_eq (pc := 10) (x := r1) (y := 32) (tgt := 26) (off := 16) (by decide +kernel) (by decide) (fun c3 => ?_) (fun c3 => ?_)
  · replace H := H.1 c3
    exact H h0
  · replace H := H.2 c3
    refine ar_aload_n (pc := 13) (i := 0) (k0 := 0) (by decide +kernel) rfl rfl ?_
    refine ar_aload_n (pc := 14) (i := 0) (k0 := 0) (by decide +kernel) rfl rfl ?_
    refine ar_getV (pc := 15) (a := 294) (v := .inl (h2 294 7)) 7 7 (by decide +kernel) k_294 rfl (by decide) wf_RX7_119 rfl ?_
    refine ar_callV (pc := 18) (M2 := M_X7_byteAt) (a := 294) (ci := 7) (as := [.inl (h2 294 7)]) (n2 := 321) (st := []) (by decide +kernel) rfl wm_RX7_122 wi_yX7_byteAt wl_yX7_byteAt k_294 rfl wz_RX7 wc_yX7_byteAt ⟨by decide, by decide, rfl⟩ (by decide) (Nat.le_of_ble_eq_true rfl) (Nat.le_refl _) (Nat.le_refl _) (am_Cl_mono H (fun r4 h5 H => ?_))
    show am_Wp true (d + 1) M_X7_nextToken 321 321 h0 Q 21 [some (.inr (.inr 294)), none] [.inl r4] 321 h5
    refine ar_bipush (pc := 21) (z := 10) (by decide +kernel) (by omega) ?_
    refine ar_icmp_ne (pc := 23) (x := r4) (y := 10) (tgt := 39) (off := 16) (by decide +kernel) (by decide) (fun c6 => ?_) (fun c6 => ?_)
    · replace H := H.1 c6
      refine ar_aload_n (pc := 39) (i := 0) (k0 := 0) (by decide +kernel) rfl rfl ?_
      refine ar_aload_n (pc := 40) (i := 0) (k0 := 0) (by decide +kernel) rfl rfl ?_
      refine ar_getV (pc := 41) (a := 294) (v := .inl (h5 294 7)) 7 7 (by decide +kernel) k_294 rfl (by decide) wf_RX7_119 rfl ?_
      refine ar_putI (pc := 44) (a := 294) (z := (h5 294 7)) 7 8 (by decide +kernel) k_294 rfl (by decide) rfl (fun _ => rfl) rfl wf_RX7_126 ?_
      refine ar_aload_n (pc := 47) (i := 0) (k0 := 0) (by decide +kernel) rfl rfl ?_
      refine ar_aload_n (pc := 48) (i := 0) (k0 := 0) (by decide +kernel) rfl rfl ?_
      refine ar_getV (pc := 49) (a := 294) (v := .inl (h5 294 7)) 7 7 (by decide +kernel) k_294 rfl (by decide) wf_RX7_119 (by first | rfl | (simp [am_tv, am_ty, tyX7, am_up, am_cp]; done) | (simp [am_tv, am_ty, tyX7, am_up, am_cp] <;> intros <;> omega)) ?_
      refine ar_callV (pc := 52) (M2 := M_X7_byteAt) (a := 294) (ci := 7) (as := [.inl (h5 294 7)]) (n2 := 321) (st := []) (by decide +kernel) rfl wm_RX7_122 wi_yX7_byteAt wl_yX7_byteAt k_294 rfl wz_RX7 wc_yX7_byteAt ⟨by decide, by decide, rfl⟩ (by decide) (Nat.le_of_ble_eq_true rfl) (Nat.le_refl _) (Nat.le_refl _) (am_Cl_mono H (fun r7 h8 H => ?_))
      show am_Wp true (d + 1) M_X7_nextToken 321 321 h0 Q 55 [some (.inr (.inr 294)), none] [.inl r7] 321 h8
      refine ar_istore_n (pc := 55) (i := 1) (k0 := 1) (ls2 := [some (.inr (.inr 294)), some (.inl r7)]) (by decide +kernel) rfl (by decide) rfl ?_
      refine ar_iload_n (pc := 56) (i := 1) (k0 := 1) (by decide +kernel) rfl rfl ?_
      refine ar_if_ge (pc := 57) (x := r7) (tgt := 68) (off := 11) (by decide +kernel) (by decide) (fun c9 => ?_) (fun c9 => ?_)
      · replace H := H.1 c9
        refine ar_iload_n (pc := 68) (i := 1) (k0 := 1) (by decide +kernel) rfl rfl ?_
        refine ar_callS (pc := 69) (M2 := M_X7_isFigure) (as := [.inl r7]) (n2 := 321) (st := []) (by decide +kernel) rfl wm_RX7_132 ws_yX7_isFigure wz_RX7 wc_yX7_isFigure ⟨by decide, by decide, rfl⟩ (by decide) (Nat.le_of_ble_eq_true rfl) (Nat.le_refl _) (Nat.le_refl _) (am_Cl_mono H (fun r10 h11 H => ?_))
        show am_Wp true (d + 1) M_X7_nextToken 321 321 h0 Q 72 [some (.inr (.inr 294)), some (.inl r7)] [.inl r10] 321 h11
        refine ar_if_eq (pc := 72) (x := r10) (tgt := 151) (off := 79) (by decide +kernel) (by decide) (fun c12 => ?_) (fun c12 => ?_)
        · replace H := H.1 c12
          refine ar_iload_n (pc := 151) (i := 1) (k0 := 1) (by decide +kernel) rfl rfl ?_
          refine ar_callS (pc := 152) (M2 := M_X7_isLetterByte) (as := [.inl r7]) (n2 := 321) (st := []) (by decide +kernel) rfl wm_RX7_140 ws_yX7_isLetterByte wz_RX7 wc_yX7_isLetterByte ⟨by decide, by decide, rfl⟩ (by decide) (Nat.le_of_ble_eq_true rfl) (Nat.le_refl _) (Nat.le_refl _) (am_Cl_mono H (fun r13 h14 H => ?_))
          show am_Wp true (d + 1) M_X7_nextToken 321 321 h0 Q 155 [some (.inr (.inr 294)), some (.inl r7)] [.inl r13] 321 h14
          refine ar_if_eq (pc := 155) (x := r13) (tgt := 234) (off := 79) (by decide +kernel) (by decide) (fun c15 => ?_) (fun c15 => ?_)
          · replace H := H.1 c15
            refine ar_aload_n (pc := 234) (i := 0) (k0 := 0) (by decide +kernel) rfl rfl ?_
            refine ar_iload_n (pc := 235) (i := 1) (k0 := 1) (by decide +kernel) rfl rfl ?_
            refine ar_callS (pc := 236) (M2 := M_X7_isSign) (as := [.inl r7]) (n2 := 321) (st := [.inr (.inr 294)]) (by decide +kernel) rfl wm_RX7_149 ws_yX7_isSign wz_RX7 wc_yX7_isSign ⟨by decide, by decide, rfl⟩ (by decide) (Nat.le_of_ble_eq_true rfl) (Nat.le_refl _) (Nat.le_refl _) (am_Cl_mono H (fun r16 h17 H => ?_))
            show am_Wp true (d + 1) M_X7_nextToken 321 321 h0 Q 239 [some (.inr (.inr 294)), some (.inl r7)] [.inl r16, .inr (.inr 294)] 321 h17
            refine ar_if_eq (pc := 239) (x := r16) (tgt := 246) (off := 7) (by decide +kernel) (by decide) (fun c18 => ?_) (fun c18 => ?_)
            · replace H := H.1 c18
              refine ar_iconst (pc := 246) (z := 3) (by decide +kernel) (by unfold am_i32; omega) ?_
              exact H h0
            · replace H := H.2 c18
              refine ar_iload_n (pc := 242) (i := 1) (k0 := 1) (by decide +kernel) rfl rfl ?_
              refine ar_goto (pc := 243) (tgt := 247) (off := 4) (by decide +kernel) (by decide) ?_
              exact H h0
          · replace H := H.2 c15
            refine ar_aload_n (pc := 158) (i := 0) (k0 := 0) (by decide +kernel) rfl rfl ?_
            refine ar_iconst (pc := 159) (z := 2) (by decide +kernel) (by unfold am_i32; omega) ?_
            refine ar_putI (pc := 160) (a := 294) (z := 2) 7 9 (by decide +kernel) k_294 rfl (by decide) rfl (fun _ => rfl) rfl wf_RX7_129 ?_
            refine ar_aload_n (pc := 163) (i := 0) (k0 := 0) (by decide +kernel) rfl rfl ?_
            refine ar_lconst (pc := 164) (i := 0) (z := 0) (by decide +kernel) rfl ?_
            refine ar_putL (pc := 165) (a := 294) (z := 0) 7 11 (by decide +kernel) k_294 rfl (by decide) rfl (fun _ => rfl) rfl wf_RX7_143 ?_
            refine ar_forget [true, false] rfl ?_
            exact H h0
        · replace H := H.2 c12
          refine ar_aload_n (pc := 75) (i := 0) (k0 := 0) (by decide +kernel) rfl rfl ?_
          refine ar_iconst (pc := 76) (z := 1) (by decide +kernel) (by unfold am_i32; omega) ?_
          refine ar_putI (pc := 77) (a := 294) (z := 1) 7 9 (by decide +kernel) k_294 rfl (by decide) rfl (fun _ => rfl) rfl wf_RX7_129 ?_
          refine ar_aload_n (pc := 80) (i := 0) (k0 := 0) (by decide +kernel) rfl rfl ?_
          refine ar_iconst (pc := 81) (z := 0) (by decide +kernel) (by unfold am_i32; omega) ?_
          refine ar_putI (pc := 82) (a := 294) (z := 0) 7 10 (by decide +kernel) k_294 rfl (by decide) rfl (fun _ => rfl) rfl wf_RX7_136 ?_
          refine ar_forget [true, false] rfl ?_
          exact H h0
      · replace H := H.2 c9
        refine ar_aload_n (pc := 60) (i := 0) (k0 := 0) (by decide +kernel) rfl rfl ?_
        refine ar_iconst (pc := 61) (z := 0) (by decide +kernel) (by unfold am_i32; omega) ?_
        refine ar_putI (pc := 62) (a := 294) (z := 0) 7 9 (by decide +kernel) k_294 rfl (by decide) rfl (fun _ => rfl) rfl wf_RX7_129 ?_
        refine ar_goto (pc := 65) (tgt := 310) (off := 245) (by decide +kernel) (by decide) ?_
        exact ar_vret (pc := 310) (by decide +kernel) rfl rfl H
    · replace H := H.2 c6
      exact H h0
theorem B_X7_nextToken_26 {d : Nat} {Q : Int → am_H → Prop} {h : am_H} (H : wf (d + 1) M_X7_nextToken Q 0 [some (.inr (.inr 294)), none] [] (am_up h 294 7 (am_w32 ((h 294 7) + 1)))) : wf (d + 1) M_X7_nextToken Q 26 [some (.inr (.inr 294)), none] [] h := by
  intro h0
  refine ar_aload_n (pc := 26) (i := 0) (k0 := 0) (by decide +kernel) rfl rfl ?_
  refine ar_dup (pc := 27) (by decide +kernel) trivial ?_
  refine ar_getV (pc := 28) (a := 294) (v := .inl (h 294 7)) 7 7 (by decide +kernel) k_294 rfl (by decide) wf_RX7_119 rfl ?_
  refine ar_iconst (pc := 31) (z := 1) (by decide +kernel) (by unfold am_i32; omega) ?_
  refine ar_iadd (pc := 32) (x := (h 294 7)) (y := 1) (by decide +kernel) ?_
  refine ar_putI (pc := 33) (a := 294) (z := (am_w32 ((h 294 7) + 1))) 7 7 (by decide +kernel) k_294 rfl (by decide) rfl (fun _ => rfl) rfl wf_RX7_119 ?_
  refine ar_goto (pc := 36) (tgt := 0) (off := -36) (by decide +kernel) (by decide) ?_
  exact H h0
theorem B_X7_nextToken_85 {d : Nat} {Q : Int → am_H → Prop} {h : am_H} (H : cf d M_X7_byteAt [.inr (.inr 294), .inl (h 294 7)] h (fun r1 h2 => cf d M_X7_isFigure [.inl r1] h2 (fun r3 h4 => (r3 = 0 → Q 0 h4) ∧ (¬ r3 = 0 → ((h4 294 10) ≤ 99999 → cf d M_X7_byteAt [.inr (.inr 294), .inl (h4 294 7)] h4 (fun r7 h8 => wf (d + 1) M_X7_nextToken Q 135 [some (.inr (.inr 294)), none] [.inl (am_w32 ((am_w32 ((am_w32 (10 * (h4 294 10))) + r7)) - 48)), .inr (.inr 294)] h8)) ∧ (99999 < (h4 294 10) → wf (d + 1) M_X7_nextToken Q 135 [some (.inr (.inr 294)), none] [.inl (h4 294 10), .inr (.inr 294)] h4))))) : wf (d + 1) M_X7_nextToken Q 85 [some (.inr (.inr 294)), none] [] h := by
  intro h0
  refine ar_aload_n (pc := 85) (i := 0) (k0 := 0) (by decide +kernel) rfl rfl ?_
  refine ar_aload_n (pc := 86) (i := 0) (k0 := 0) (by decide +kernel) rfl rfl ?_
  refine ar_getV (pc := 87) (a := 294) (v := .inl (h 294 7)) 7 7 (by decide +kernel) k_294 rfl (by decide) wf_RX7_119 rfl ?_
  refine ar_callV (pc := 90) (M2 := M_X7_byteAt) (a := 294) (ci := 7) (as := [.inl (h 294 7)]) (n2 := 321) (st := []) (by decide +kernel) rfl wm_RX7_122 wi_yX7_byteAt wl_yX7_byteAt k_294 rfl wz_RX7 wc_yX7_byteAt ⟨by decide, by decide, rfl⟩ (by decide) (Nat.le_of_ble_eq_true rfl) (Nat.le_refl _) (Nat.le_refl _) (am_Cl_mono H (fun r1 h2 H => ?_))
  show am_Wp true (d + 1) M_X7_nextToken 321 321 h0 Q 93 [some (.inr (.inr 294)), none] [.inl r1] 321 h2
  refine ar_callS (pc := 93) (M2 := M_X7_isFigure) (as := [.inl r1]) (n2 := 321) (st := []) (by decide +kernel) rfl wm_RX7_132 ws_yX7_isFigure wz_RX7 wc_yX7_isFigure ⟨by decide, by decide, rfl⟩ (by decide) (Nat.le_of_ble_eq_true rfl) (Nat.le_refl _) (Nat.le_refl _) (am_Cl_mono H (fun r3 h4 H => ?_))
  show am_Wp true (d + 1) M_X7_nextToken 321 321 h0 Q 96 [some (.inr (.inr 294)), none] [.inl r3] 321 h4
  refine ar_if_eq (pc := 96) (x := r3) (tgt := 310) (off := 214) (by decide +kernel) (by decide) (fun c5 => ?_) (fun c5 => ?_)
  · replace H := H.1 c5
    exact ar_vret (pc := 310) (by decide +kernel) rfl rfl H
  · replace H := H.2 c5
    refine ar_aload_n (pc := 99) (i := 0) (k0 := 0) (by decide +kernel) rfl rfl ?_
    refine ar_aload_n (pc := 100) (i := 0) (k0 := 0) (by decide +kernel) rfl rfl ?_
    refine ar_getV (pc := 101) (a := 294) (v := .inl (h4 294 10)) 7 10 (by decide +kernel) k_294 rfl (by decide) wf_RX7_136 rfl ?_
    refine ar_ldc (pc := 104) (z := 99999) (by decide +kernel) wk_RX7_139 (by unfold am_i32; omega) ?_
    refine ar_icmp_le (pc := 106) (x := (h4 294 10)) (y := 99999) (tgt := 116) (off := 10) (by decide +kernel) (by decide) (fun c6 => ?_) (fun c6 => ?_)
    · replace H := H.1 c6
      refine ar_bipush (pc := 116) (z := 10) (by decide +kernel) (by omega) ?_
      refine ar_aload_n (pc := 118) (i := 0) (k0 := 0) (by decide +kernel) rfl rfl ?_
      refine ar_getV (pc := 119) (a := 294) (v := .inl (h4 294 10)) 7 10 (by decide +kernel) k_294 rfl (by decide) wf_RX7_136 rfl ?_
      refine ar_imul (pc := 122) (x := 10) (y := (h4 294 10)) (by decide +kernel) ?_
      refine ar_aload_n (pc := 123) (i := 0) (k0 := 0) (by decide +kernel) rfl rfl ?_
      refine ar_aload_n (pc := 124) (i := 0) (k0 := 0) (by decide +kernel) rfl rfl ?_
      refine ar_getV (pc := 125) (a := 294) (v := .inl (h4 294 7)) 7 7 (by decide +kernel) k_294 rfl (by decide) wf_RX7_119 rfl ?_
      refine ar_callV (pc := 128) (M2 := M_X7_byteAt) (a := 294) (ci := 7) (as := [.inl (h4 294 7)]) (n2 := 321) (st := [.inl (am_w32 (10 * (h4 294 10))), .inr (.inr 294)]) (by decide +kernel) rfl wm_RX7_122 wi_yX7_byteAt wl_yX7_byteAt k_294 rfl wz_RX7 wc_yX7_byteAt ⟨by decide, by decide, rfl⟩ (by decide) (Nat.le_of_ble_eq_true rfl) (Nat.le_refl _) (Nat.le_refl _) (am_Cl_mono H (fun r7 h8 H => ?_))
      show am_Wp true (d + 1) M_X7_nextToken 321 321 h0 Q 131 [some (.inr (.inr 294)), none] [.inl r7, .inl (am_w32 (10 * (h4 294 10))), .inr (.inr 294)] 321 h8
      refine ar_iadd (pc := 131) (x := (am_w32 (10 * (h4 294 10)))) (y := r7) (by decide +kernel) ?_
      refine ar_bipush (pc := 132) (z := 48) (by decide +kernel) (by omega) ?_
      refine ar_isub (pc := 134) (x := (am_w32 ((am_w32 (10 * (h4 294 10))) + r7))) (y := 48) (by decide +kernel) ?_
      exact H h0
    · replace H := H.2 c6
      refine ar_aload_n (pc := 109) (i := 0) (k0 := 0) (by decide +kernel) rfl rfl ?_
      refine ar_getV (pc := 110) (a := 294) (v := .inl (h4 294 10)) 7 10 (by decide +kernel) k_294 rfl (by decide) wf_RX7_136 rfl ?_
      refine ar_goto (pc := 113) (tgt := 135) (off := 22) (by decide +kernel) (by decide) ?_
      exact H h0
theorem B_X7_nextToken_135 {d : Nat} {Q : Int → am_H → Prop} {h : am_H} {s1 : Int} (H : wf (d + 1) M_X7_nextToken Q 85 [some (.inr (.inr 294)), none] [] (am_up (am_up h 294 10 s1) 294 7 (am_w32 ((h 294 7) + 1)))) : wf (d + 1) M_X7_nextToken Q 135 [some (.inr (.inr 294)), none] [.inl s1, .inr (.inr 294)] h := by
  intro h0
  refine ar_putI (pc := 135) (a := 294) (z := s1) 7 10 (by decide +kernel) k_294 rfl (by decide) rfl (fun _ => rfl) rfl wf_RX7_136 ?_
  refine ar_aload_n (pc := 138) (i := 0) (k0 := 0) (by decide +kernel) rfl rfl ?_
  refine ar_dup (pc := 139) (by decide +kernel) trivial ?_
  refine ar_getV (pc := 140) (a := 294) (v := .inl (h 294 7)) 7 7 (by decide +kernel) k_294 rfl (by decide) wf_RX7_119 (by first | rfl | (simp [am_tv, am_ty, tyX7, am_up, am_cp]; done) | (simp [am_tv, am_ty, tyX7, am_up, am_cp] <;> intros <;> omega)) ?_
  refine ar_iconst (pc := 143) (z := 1) (by decide +kernel) (by unfold am_i32; omega) ?_
  refine ar_iadd (pc := 144) (x := (h 294 7)) (y := 1) (by decide +kernel) ?_
  refine ar_putI (pc := 145) (a := 294) (z := (am_w32 ((h 294 7) + 1))) 7 7 (by decide +kernel) k_294 rfl (by decide) rfl (fun _ => rfl) rfl wf_RX7_119 ?_
  refine ar_goto (pc := 148) (tgt := 85) (off := -63) (by decide +kernel) (by decide) ?_
  exact H h0
theorem B_X7_nextToken_168 {d : Nat} {Q : Int → am_H → Prop} {h : am_H} (H : cf d M_X7_byteAt [.inr (.inr 294), .inl (h 294 7)] h (fun r1 h2 => cf d M_X7_isLetterByte [.inl r1] h2 (fun r3 h4 => (r3 = 0 → Q 0 h4) ∧ (¬ r3 = 0 → ((am_lcmp (am_lshr (h4 294 11) 48) 0) = 0 → cf d M_X7_byteAt [.inr (.inr 294), .inl (h4 294 7)] h4 (fun r7 h8 => wf (d + 1) M_X7_nextToken Q 218 [some (.inr (.inr 294)), none] [.inr (.inl (am_lor (am_lshl (h4 294 11) 8) r7)), .inr (.inr 294)] h8)) ∧ (¬ (am_lcmp (am_lshr (h4 294 11) 48) 0) = 0 → wf (d + 1) M_X7_nextToken Q 218 [some (.inr (.inr 294)), none] [.inr (.inl 1152921504606846976), .inr (.inr 294)] h4))))) : wf (d + 1) M_X7_nextToken Q 168 [some (.inr (.inr 294)), none] [] h := by
  intro h0
  refine ar_aload_n (pc := 168) (i := 0) (k0 := 0) (by decide +kernel) rfl rfl ?_
  refine ar_aload_n (pc := 169) (i := 0) (k0 := 0) (by decide +kernel) rfl rfl ?_
  refine ar_getV (pc := 170) (a := 294) (v := .inl (h 294 7)) 7 7 (by decide +kernel) k_294 rfl (by decide) wf_RX7_119 rfl ?_
  refine ar_callV (pc := 173) (M2 := M_X7_byteAt) (a := 294) (ci := 7) (as := [.inl (h 294 7)]) (n2 := 321) (st := []) (by decide +kernel) rfl wm_RX7_122 wi_yX7_byteAt wl_yX7_byteAt k_294 rfl wz_RX7 wc_yX7_byteAt ⟨by decide, by decide, rfl⟩ (by decide) (Nat.le_of_ble_eq_true rfl) (Nat.le_refl _) (Nat.le_refl _) (am_Cl_mono H (fun r1 h2 H => ?_))
  show am_Wp true (d + 1) M_X7_nextToken 321 321 h0 Q 176 [some (.inr (.inr 294)), none] [.inl r1] 321 h2
  refine ar_callS (pc := 176) (M2 := M_X7_isLetterByte) (as := [.inl r1]) (n2 := 321) (st := []) (by decide +kernel) rfl wm_RX7_140 ws_yX7_isLetterByte wz_RX7 wc_yX7_isLetterByte ⟨by decide, by decide, rfl⟩ (by decide) (Nat.le_of_ble_eq_true rfl) (Nat.le_refl _) (Nat.le_refl _) (am_Cl_mono H (fun r3 h4 H => ?_))
  show am_Wp true (d + 1) M_X7_nextToken 321 321 h0 Q 179 [some (.inr (.inr 294)), none] [.inl r3] 321 h4
  refine ar_if_eq (pc := 179) (x := r3) (tgt := 310) (off := 131) (by decide +kernel) (by decide) (fun c5 => ?_) (fun c5 => ?_)
  · replace H := H.1 c5
    exact ar_vret (pc := 310) (by decide +kernel) rfl rfl H
  · replace H := H.2 c5
    refine ar_aload_n (pc := 182) (i := 0) (k0 := 0) (by decide +kernel) rfl rfl ?_
    refine ar_aload_n (pc := 183) (i := 0) (k0 := 0) (by decide +kernel) rfl rfl ?_
    refine ar_getV (pc := 184) (a := 294) (v := .inr (.inl (h4 294 11))) 7 11 (by decide +kernel) k_294 rfl (by decide) wf_RX7_143 rfl ?_
    refine ar_bipush (pc := 187) (z := 48) (by decide +kernel) (by omega) ?_
    refine ar_lshr (pc := 189) (x := (h4 294 11)) (y := 48) (by decide +kernel) ?_
    refine ar_lconst (pc := 190) (i := 0) (z := 0) (by decide +kernel) rfl ?_
    refine ar_lcmp (pc := 191) (x := (am_lshr (h4 294 11) 48)) (y := 0) (by decide +kernel) ?_
    refine ar_if_eq (pc := 192) (x := (am_lcmp (am_lshr (h4 294 11) 48) 0)) (tgt := 201) (off := 9) (by decide +kernel) (by decide) (fun c6 => ?_) (fun c6 => ?_)
    · replace H := H.1 c6
      refine ar_aload_n (pc := 201) (i := 0) (k0 := 0) (by decide +kernel) rfl rfl ?_
      refine ar_getV (pc := 202) (a := 294) (v := .inr (.inl (h4 294 11))) 7 11 (by decide +kernel) k_294 rfl (by decide) wf_RX7_143 rfl ?_
      refine ar_bipush (pc := 205) (z := 8) (by decide +kernel) (by omega) ?_
      refine ar_lshl (pc := 207) (x := (h4 294 11)) (y := 8) (by decide +kernel) ?_
      refine ar_aload_n (pc := 208) (i := 0) (k0 := 0) (by decide +kernel) rfl rfl ?_
      refine ar_aload_n (pc := 209) (i := 0) (k0 := 0) (by decide +kernel) rfl rfl ?_
      refine ar_getV (pc := 210) (a := 294) (v := .inl (h4 294 7)) 7 7 (by decide +kernel) k_294 rfl (by decide) wf_RX7_119 rfl ?_
      refine ar_callV (pc := 213) (M2 := M_X7_byteAt) (a := 294) (ci := 7) (as := [.inl (h4 294 7)]) (n2 := 321) (st := [.inr (.inl (am_lshl (h4 294 11) 8)), .inr (.inr 294)]) (by decide +kernel) rfl wm_RX7_122 wi_yX7_byteAt wl_yX7_byteAt k_294 rfl wz_RX7 wc_yX7_byteAt ⟨by decide, by decide, rfl⟩ (by decide) (Nat.le_of_ble_eq_true rfl) (Nat.le_refl _) (Nat.le_refl _) (am_Cl_mono H (fun r7 h8 H => ?_))
      show am_Wp true (d + 1) M_X7_nextToken 321 321 h0 Q 216 [some (.inr (.inr 294)), none] [.inl r7, .inr (.inl (am_lshl (h4 294 11) 8)), .inr (.inr 294)] 321 h8
      refine ar_i2l (pc := 216) (x := r7) (by decide +kernel) ?_
      refine ar_lor (pc := 217) (x := (am_lshl (h4 294 11) 8)) (y := r7) (by decide +kernel) ?_
      exact H h0
    · replace H := H.2 c6
      refine ar_ldc2 (pc := 195) (z := 1152921504606846976) (by decide +kernel) wk_RX7_147 (by unfold am_i64; omega) ?_
      refine ar_goto (pc := 198) (tgt := 218) (off := 20) (by decide +kernel) (by decide) ?_
      exact H h0
theorem B_X7_nextToken_218 {d : Nat} {Q : Int → am_H → Prop} {h : am_H} {s1 : Int} (H : wf (d + 1) M_X7_nextToken Q 168 [some (.inr (.inr 294)), none] [] (am_up (am_up h 294 11 s1) 294 7 (am_w32 ((h 294 7) + 1)))) : wf (d + 1) M_X7_nextToken Q 218 [some (.inr (.inr 294)), none] [.inr (.inl s1), .inr (.inr 294)] h := by
  intro h0
  refine ar_putL (pc := 218) (a := 294) (z := s1) 7 11 (by decide +kernel) k_294 rfl (by decide) rfl (fun _ => rfl) rfl wf_RX7_143 ?_
  refine ar_aload_n (pc := 221) (i := 0) (k0 := 0) (by decide +kernel) rfl rfl ?_
  refine ar_dup (pc := 222) (by decide +kernel) trivial ?_
  refine ar_getV (pc := 223) (a := 294) (v := .inl (h 294 7)) 7 7 (by decide +kernel) k_294 rfl (by decide) wf_RX7_119 (by first | rfl | (simp [am_tv, am_ty, tyX7, am_up, am_cp]; done) | (simp [am_tv, am_ty, tyX7, am_up, am_cp] <;> intros <;> omega)) ?_
  refine ar_iconst (pc := 226) (z := 1) (by decide +kernel) (by unfold am_i32; omega) ?_
  refine ar_iadd (pc := 227) (x := (h 294 7)) (y := 1) (by decide +kernel) ?_
  refine ar_putI (pc := 228) (a := 294) (z := (am_w32 ((h 294 7) + 1))) 7 7 (by decide +kernel) k_294 rfl (by decide) rfl (fun _ => rfl) rfl wf_RX7_119 ?_
  refine ar_goto (pc := 231) (tgt := 168) (off := -63) (by decide +kernel) (by decide) ?_
  exact H h0
theorem B_X7_nextToken_247 {d : Nat} {Q : Int → am_H → Prop} {h : am_H} {v1 s1 : Int} (H : (v1 = 60 → wf (d + 1) M_X7_nextToken Q 272 [some (.inr (.inr 294)), some (.inl v1)] [] (am_up (am_up h 294 9 s1) 294 7 (am_w32 ((h 294 7) + 1)))) ∧ (¬ v1 = 60 → (¬ v1 = 62 → Q 0 (am_up (am_up h 294 9 s1) 294 7 (am_w32 ((h 294 7) + 1)))) ∧ (v1 = 62 → wf (d + 1) M_X7_nextToken Q 272 [some (.inr (.inr 294)), some (.inl v1)] [] (am_up (am_up h 294 9 s1) 294 7 (am_w32 ((h 294 7) + 1)))))) : wf (d + 1) M_X7_nextToken Q 247 [some (.inr (.inr 294)), some (.inl v1)] [.inl s1, .inr (.inr 294)] h := by
  intro h0
  refine ar_putI (pc := 247) (a := 294) (z := s1) 7 9 (by decide +kernel) k_294 rfl (by decide) rfl (fun _ => rfl) rfl wf_RX7_129 ?_
  refine ar_aload_n (pc := 250) (i := 0) (k0 := 0) (by decide +kernel) rfl rfl ?_
  refine ar_dup (pc := 251) (by decide +kernel) trivial ?_
  refine ar_getV (pc := 252) (a := 294) (v := .inl (h 294 7)) 7 7 (by decide +kernel) k_294 rfl (by decide) wf_RX7_119 (by first | rfl | (simp [am_tv, am_ty, tyX7, am_up, am_cp]; done) | (simp [am_tv, am_ty, tyX7, am_up, am_cp] <;> intros <;> omega)) ?_
  refine ar_iconst (pc := 255) (z := 1) (by decide +kernel) (by unfold am_i32; omega) ?_
  refine ar_iadd (pc := 256) (x := (h 294 7)) (y := 1) (by decide +kernel) ?_
  refine ar_putI (pc := 257) (a := 294) (z := (am_w32 ((h 294 7) + 1))) 7 7 (by decide +kernel) k_294 rfl (by decide) rfl (fun _ => rfl) rfl wf_RX7_119 ?_
  refine ar_iload_n (pc := 260) (i := 1) (k0 := 1) (by decide +kernel) rfl rfl ?_
  refine ar_bipush (pc := 261) (z := 60) (by decide +kernel) (by omega) ?_
  refine ar_icmp_eq (pc := 263) (x := v1) (y := 60) (tgt := 272) (off := 9) (by decide +kernel) (by decide) (fun c1 => ?_) (fun c1 => ?_)
  · replace H := H.1 c1
    exact H h0
  · replace H := H.2 c1
    refine ar_iload_n (pc := 266) (i := 1) (k0 := 1) (by decide +kernel) rfl rfl ?_
    refine ar_bipush (pc := 267) (z := 62) (by decide +kernel) (by omega) ?_
    refine ar_icmp_ne (pc := 269) (x := v1) (y := 62) (tgt := 310) (off := 41) (by decide +kernel) (by decide) (fun c2 => ?_) (fun c2 => ?_)
    · replace H := H.1 c2
      exact ar_vret (pc := 310) (by decide +kernel) rfl rfl H
    · replace H := H.2 c2
      exact H h0
theorem B_X7_nextToken_272 {d : Nat} {Q : Int → am_H → Prop} {h : am_H} {v1 : Int} (H : cf d M_X7_byteAt [.inr (.inr 294), .inl (h 294 7)] h (fun r1 h2 => (¬ r1 = 61 → Q 0 h2) ∧ (r1 = 61 → (¬ v1 = 60 → wf (d + 1) M_X7_nextToken Q 297 [some (.inr (.inr 294)), none] [.inl 5, .inr (.inr 294)] h2) ∧ (v1 = 60 → wf (d + 1) M_X7_nextToken Q 297 [some (.inr (.inr 294)), none] [.inl 4, .inr (.inr 294)] h2)))) : wf (d + 1) M_X7_nextToken Q 272 [some (.inr (.inr 294)), some (.inl v1)] [] h := by
  intro h0
  refine ar_aload_n (pc := 272) (i := 0) (k0 := 0) (by decide +kernel) rfl rfl ?_
  refine ar_aload_n (pc := 273) (i := 0) (k0 := 0) (by decide +kernel) rfl rfl ?_
  refine ar_getV (pc := 274) (a := 294) (v := .inl (h 294 7)) 7 7 (by decide +kernel) k_294 rfl (by decide) wf_RX7_119 rfl ?_
  refine ar_callV (pc := 277) (M2 := M_X7_byteAt) (a := 294) (ci := 7) (as := [.inl (h 294 7)]) (n2 := 321) (st := []) (by decide +kernel) rfl wm_RX7_122 wi_yX7_byteAt wl_yX7_byteAt k_294 rfl wz_RX7 wc_yX7_byteAt ⟨by decide, by decide, rfl⟩ (by decide) (Nat.le_of_ble_eq_true rfl) (Nat.le_refl _) (Nat.le_refl _) (am_Cl_mono H (fun r1 h2 H => ?_))
  show am_Wp true (d + 1) M_X7_nextToken 321 321 h0 Q 280 [some (.inr (.inr 294)), some (.inl v1)] [.inl r1] 321 h2
  refine ar_bipush (pc := 280) (z := 61) (by decide +kernel) (by omega) ?_
  refine ar_icmp_ne (pc := 282) (x := r1) (y := 61) (tgt := 310) (off := 28) (by decide +kernel) (by decide) (fun c3 => ?_) (fun c3 => ?_)
  · replace H := H.1 c3
    exact ar_vret (pc := 310) (by decide +kernel) rfl rfl H
  · replace H := H.2 c3
    refine ar_aload_n (pc := 285) (i := 0) (k0 := 0) (by decide +kernel) rfl rfl ?_
    refine ar_iload_n (pc := 286) (i := 1) (k0 := 1) (by decide +kernel) rfl rfl ?_
    refine ar_bipush (pc := 287) (z := 60) (by decide +kernel) (by omega) ?_
    refine ar_icmp_ne (pc := 289) (x := v1) (y := 60) (tgt := 296) (off := 7) (by decide +kernel) (by decide) (fun c4 => ?_) (fun c4 => ?_)
    · replace H := H.1 c4
      refine ar_iconst (pc := 296) (z := 5) (by decide +kernel) (by unfold am_i32; omega) ?_
      refine ar_forget [true, false] rfl ?_
      exact H h0
    · replace H := H.2 c4
      refine ar_iconst (pc := 292) (z := 4) (by decide +kernel) (by unfold am_i32; omega) ?_
      refine ar_goto (pc := 293) (tgt := 297) (off := 4) (by decide +kernel) (by decide) ?_
      refine ar_forget [true, false] rfl ?_
      exact H h0
theorem B_X7_nextToken_297 {d : Nat} {Q : Int → am_H → Prop} {h : am_H} {s1 : Int} (H : Q 0 (am_up (am_up h 294 9 s1) 294 7 (am_w32 ((h 294 7) + 1)))) : wf (d + 1) M_X7_nextToken Q 297 [some (.inr (.inr 294)), none] [.inl s1, .inr (.inr 294)] h := by
  intro h0
  refine ar_putI (pc := 297) (a := 294) (z := s1) 7 9 (by decide +kernel) k_294 rfl (by decide) rfl (fun _ => rfl) rfl wf_RX7_129 ?_
  refine ar_aload_n (pc := 300) (i := 0) (k0 := 0) (by decide +kernel) rfl rfl ?_
  refine ar_dup (pc := 301) (by decide +kernel) trivial ?_
  refine ar_getV (pc := 302) (a := 294) (v := .inl (h 294 7)) 7 7 (by decide +kernel) k_294 rfl (by decide) wf_RX7_119 (by first | rfl | (simp [am_tv, am_ty, tyX7, am_up, am_cp]; done) | (simp [am_tv, am_ty, tyX7, am_up, am_cp] <;> intros <;> omega)) ?_
  refine ar_iconst (pc := 305) (z := 1) (by decide +kernel) (by unfold am_i32; omega) ?_
  refine ar_iadd (pc := 306) (x := (h 294 7)) (y := 1) (by decide +kernel) ?_
  refine ar_putI (pc := 307) (a := 294) (z := (am_w32 ((h 294 7) + 1))) 7 7 (by decide +kernel) k_294 rfl (by decide) rfl (fun _ => rfl) rfl wf_RX7_119 ?_
  exact ar_vret (pc := 310) (by decide +kernel) rfl rfl H

/-! ByteIntervalsModel.w2(II)J -/
theorem B_X7_w2_0 {d : Nat} {Q : Int → am_H → Prop} {h : am_H} {v0 v1 : Int} (H : Q (am_lor (am_lshl v0 8) v1) h) : wf d M_X7_w2 Q 0 [some (.inl v0), some (.inl v1)] [] h := by
  intro h0
  refine ar_iload_n (pc := 0) (i := 0) (k0 := 0) (by decide +kernel) rfl rfl ?_
  refine ar_i2l (pc := 1) (x := v0) (by decide +kernel) ?_
  refine ar_bipush (pc := 2) (z := 8) (by decide +kernel) (by omega) ?_
  refine ar_lshl (pc := 4) (x := v0) (y := 8) (by decide +kernel) ?_
  refine ar_iload_n (pc := 5) (i := 1) (k0 := 1) (by decide +kernel) rfl rfl ?_
  refine ar_i2l (pc := 6) (x := v1) (by decide +kernel) ?_
  refine ar_lor (pc := 7) (x := (am_lshl v0 8)) (y := v1) (by decide +kernel) ?_
  exact ar_lret (pc := 8) (x := (am_lor (am_lshl v0 8) v1)) (by decide +kernel) rfl rfl H

/-! ByteIntervalsModel.w3(III)J -/
theorem B_X7_w3_0 {d : Nat} {Q : Int → am_H → Prop} {h : am_H} {v0 v1 v2 : Int} (H : cf d M_X7_w2 [.inl v0, .inl v1] h (fun r1 h2 => Q (am_lor (am_lshl r1 8) v2) h2)) : wf (d + 1) M_X7_w3 Q 0 [some (.inl v0), some (.inl v1), some (.inl v2)] [] h := by
  intro h0
  refine ar_iload_n (pc := 0) (i := 0) (k0 := 0) (by decide +kernel) rfl rfl ?_
  refine ar_iload_n (pc := 1) (i := 1) (k0 := 1) (by decide +kernel) rfl rfl ?_
  refine ar_callS (pc := 2) (M2 := M_X7_w2) (as := [.inl v0, .inl v1]) (n2 := 321) (st := []) (by decide +kernel) rfl wm_RX7_152 ws_yX7_w2 wz_RX7 wc_yX7_w2 ⟨by decide, by decide, rfl⟩ (by decide) (Nat.le_of_ble_eq_true rfl) (Nat.le_refl _) (Nat.le_refl _) (am_Cl_mono H (fun r1 h2 H => ?_))
  show am_Wp true (d + 1) M_X7_w3 321 321 h0 Q 5 [some (.inl v0), some (.inl v1), some (.inl v2)] [.inr (.inl r1)] 321 h2
  refine ar_bipush (pc := 5) (z := 8) (by decide +kernel) (by omega) ?_
  refine ar_lshl (pc := 7) (x := r1) (y := 8) (by decide +kernel) ?_
  refine ar_iload_n (pc := 8) (i := 2) (k0 := 2) (by decide +kernel) rfl rfl ?_
  refine ar_i2l (pc := 9) (x := v2) (by decide +kernel) ?_
  refine ar_lor (pc := 10) (x := (am_lshl r1 8)) (y := v2) (by decide +kernel) ?_
  exact ar_lret (pc := 11) (x := (am_lor (am_lshl r1 8) v2)) (by decide +kernel) rfl rfl H

/-! ByteIntervalsModel.w4(IIII)J -/
theorem B_X7_w4_0 {d : Nat} {Q : Int → am_H → Prop} {h : am_H} {v0 v1 v2 v3 : Int} (H : cf d M_X7_w3 [.inl v0, .inl v1, .inl v2] h (fun r1 h2 => Q (am_lor (am_lshl r1 8) v3) h2)) : wf (d + 1) M_X7_w4 Q 0 [some (.inl v0), some (.inl v1), some (.inl v2), some (.inl v3)] [] h := by
  intro h0
  refine ar_iload_n (pc := 0) (i := 0) (k0 := 0) (by decide +kernel) rfl rfl ?_
  refine ar_iload_n (pc := 1) (i := 1) (k0 := 1) (by decide +kernel) rfl rfl ?_
  refine ar_iload_n (pc := 2) (i := 2) (k0 := 2) (by decide +kernel) rfl rfl ?_
  refine ar_callS (pc := 3) (M2 := M_X7_w3) (as := [.inl v0, .inl v1, .inl v2]) (n2 := 321) (st := []) (by decide +kernel) rfl wm_RX7_156 ws_yX7_w3 wz_RX7 wc_yX7_w3 ⟨by decide, by decide, rfl⟩ (by decide) (Nat.le_of_ble_eq_true rfl) (Nat.le_refl _) (Nat.le_refl _) (am_Cl_mono H (fun r1 h2 H => ?_))
  show am_Wp true (d + 1) M_X7_w4 321 321 h0 Q 6 [some (.inl v0), some (.inl v1), some (.inl v2), some (.inl v3)] [.inr (.inl r1)] 321 h2
  refine ar_bipush (pc := 6) (z := 8) (by decide +kernel) (by omega) ?_
  refine ar_lshl (pc := 8) (x := r1) (y := 8) (by decide +kernel) ?_
  refine ar_iload_n (pc := 9) (i := 3) (k0 := 3) (by decide +kernel) rfl rfl ?_
  refine ar_i2l (pc := 10) (x := v3) (by decide +kernel) ?_
  refine ar_lor (pc := 11) (x := (am_lshl r1 8)) (y := v3) (by decide +kernel) ?_
  exact ar_lret (pc := 12) (x := (am_lor (am_lshl r1 8) v3)) (by decide +kernel) rfl rfl H

/-! ByteIntervalsModel.w5(IIIII)J -/
theorem B_X7_w5_0 {d : Nat} {Q : Int → am_H → Prop} {h : am_H} {v0 v1 v2 v3 v4 : Int} (H : cf d M_X7_w4 [.inl v0, .inl v1, .inl v2, .inl v3] h (fun r1 h2 => Q (am_lor (am_lshl r1 8) v4) h2)) : wf (d + 1) M_X7_w5 Q 0 [some (.inl v0), some (.inl v1), some (.inl v2), some (.inl v3), some (.inl v4)] [] h := by
  intro h0
  refine ar_iload_n (pc := 0) (i := 0) (k0 := 0) (by decide +kernel) rfl rfl ?_
  refine ar_iload_n (pc := 1) (i := 1) (k0 := 1) (by decide +kernel) rfl rfl ?_
  refine ar_iload_n (pc := 2) (i := 2) (k0 := 2) (by decide +kernel) rfl rfl ?_
  refine ar_iload_n (pc := 3) (i := 3) (k0 := 3) (by decide +kernel) rfl rfl ?_
  refine ar_callS (pc := 4) (M2 := M_X7_w4) (as := [.inl v0, .inl v1, .inl v2, .inl v3]) (n2 := 321) (st := []) (by decide +kernel) rfl wm_RX7_160 ws_yX7_w4 wz_RX7 wc_yX7_w4 ⟨by decide, by decide, rfl⟩ (by decide) (Nat.le_of_ble_eq_true rfl) (Nat.le_refl _) (Nat.le_refl _) (am_Cl_mono H (fun r1 h2 H => ?_))
  show am_Wp true (d + 1) M_X7_w5 321 321 h0 Q 7 [some (.inl v0), some (.inl v1), some (.inl v2), some (.inl v3), some (.inl v4)] [.inr (.inl r1)] 321 h2
  refine ar_bipush (pc := 7) (z := 8) (by decide +kernel) (by omega) ?_
  refine ar_lshl (pc := 9) (x := r1) (y := 8) (by decide +kernel) ?_
  refine ar_iload (pc := 10) (i := 4) (by decide +kernel) rfl ?_
  refine ar_i2l (pc := 12) (x := v4) (by decide +kernel) ?_
  refine ar_lor (pc := 13) (x := (am_lshl r1 8)) (y := v4) (by decide +kernel) ?_
  exact ar_lret (pc := 14) (x := (am_lor (am_lshl r1 8) v4)) (by decide +kernel) rfl rfl H

/-! ByteIntervalsModel.isWord(J)Z -/
theorem B_X7_isWord_0 {d : Nat} {Q : Int → am_H → Prop} {h : am_H} {v1 : Int} (H : (¬ (h 294 9) = 2 → Q 0 h) ∧ ((h 294 9) = 2 → (¬ (am_lcmp (h 294 11) v1) = 0 → Q 0 h) ∧ ((am_lcmp (h 294 11) v1) = 0 → Q 1 h))) : wf d M_X7_isWord Q 0 [some (.inr (.inr 294)), some (.inr (.inl v1)), none] [] h := by
  intro h0
  refine ar_aload_n (pc := 0) (i := 0) (k0 := 0) (by decide +kernel) rfl rfl ?_
  refine ar_getV (pc := 1) (a := 294) (v := .inl (h 294 9)) 7 9 (by decide +kernel) k_294 rfl (by decide) wf_RX7_129 rfl ?_
  refine ar_iconst (pc := 4) (z := 2) (by decide +kernel) (by unfold am_i32; omega) ?_
  refine ar_icmp_ne (pc := 5) (x := (h 294 9)) (y := 2) (tgt := 21) (off := 16) (by decide +kernel) (by decide) (fun c1 => ?_) (fun c1 => ?_)
  · replace H := H.1 c1
    refine ar_iconst (pc := 21) (z := 0) (by decide +kernel) (by unfold am_i32; omega) ?_
    exact ar_zret (pc := 22) (x := 0) (by decide +kernel) rfl rfl (by decide) H
  · replace H := H.2 c1
    refine ar_aload_n (pc := 8) (i := 0) (k0 := 0) (by decide +kernel) rfl rfl ?_
    refine ar_getV (pc := 9) (a := 294) (v := .inr (.inl (h 294 11))) 7 11 (by decide +kernel) k_294 rfl (by decide) wf_RX7_143 rfl ?_
    refine ar_lload_n (pc := 12) (i := 1) (k0 := 1) (by decide +kernel) rfl rfl ?_
    refine ar_lcmp (pc := 13) (x := (h 294 11)) (y := v1) (by decide +kernel) ?_
    refine ar_if_ne (pc := 14) (x := (am_lcmp (h 294 11) v1)) (tgt := 21) (off := 7) (by decide +kernel) (by decide) (fun c2 => ?_) (fun c2 => ?_)
    · replace H := H.1 c2
      refine ar_iconst (pc := 21) (z := 0) (by decide +kernel) (by unfold am_i32; omega) ?_
      exact ar_zret (pc := 22) (x := 0) (by decide +kernel) rfl rfl (by decide) H
    · replace H := H.2 c2
      refine ar_iconst (pc := 17) (z := 1) (by decide +kernel) (by unfold am_i32; omega) ?_
      refine ar_goto (pc := 18) (tgt := 22) (off := 4) (by decide +kernel) (by decide) ?_
      exact ar_zret (pc := 22) (x := 1) (by decide +kernel) rfl rfl (by decide) H

/-! ByteIntervalsModel.emit(II)V -/
theorem B_X7_emit_0 {d : Nat} {Q : Int → am_H → Prop} {h : am_H} {v1 v2 : Int} (H : (0 ≤ (am_w32 ((am_w32 ((h 294 12) + 217)) + (am_w32 (2 * (h 294 13)))))) ∧ (((am_w32 ((am_w32 ((h 294 12) + 217)) + (am_w32 (2 * (h 294 13))))) < 3300) ∧ ((0 ≤ (am_w32 ((am_w32 ((am_w32 ((h 294 12) + 217)) + (am_w32 (2 * (h 294 13))))) + 1))) ∧ (((am_w32 ((am_w32 ((am_w32 ((h 294 12) + 217)) + (am_w32 (2 * (h 294 13))))) + 1)) < 3300) ∧ (Q 0 (am_up (am_up (am_up h 297 (am_w32 ((am_w32 ((h 294 12) + 217)) + (am_w32 (2 * (h 294 13))))) v1) 297 (am_w32 ((am_w32 ((am_w32 ((h 294 12) + 217)) + (am_w32 (2 * (h 294 13))))) + 1)) v2) 294 13 (am_w32 ((h 294 13) + 1)))))))) : wf d M_X7_emit Q 0 [some (.inr (.inr 294)), some (.inl v1), some (.inl v2)] [] h := by
  intro h0
  refine ar_aload_n (pc := 0) (i := 0) (k0 := 0) (by decide +kernel) rfl rfl ?_
  refine ar_getFV (pc := 1) (a := 294) (b := 297) 7 2 (by decide +kernel) k_294 rfl (by decide) wf_RX7_16 rfl (fun _ => rfl) rfl ?_
  refine ar_aload_n (pc := 4) (i := 0) (k0 := 0) (by decide +kernel) rfl rfl ?_
  refine ar_getV (pc := 5) (a := 294) (v := .inl (h 294 12)) 7 12 (by decide +kernel) k_294 rfl (by decide) wf_RX7_168 rfl ?_
  refine ar_sipush (pc := 8) (z := 217) (by decide +kernel) (by omega) ?_
  refine ar_iadd (pc := 11) (x := (h 294 12)) (y := 217) (by decide +kernel) ?_
  refine ar_iconst (pc := 12) (z := 2) (by decide +kernel) (by unfold am_i32; omega) ?_
  refine ar_aload_n (pc := 13) (i := 0) (k0 := 0) (by decide +kernel) rfl rfl ?_
  refine ar_getV (pc := 14) (a := 294) (v := .inl (h 294 13)) 7 13 (by decide +kernel) k_294 rfl (by decide) wf_RX7_171 rfl ?_
  refine ar_imul (pc := 17) (x := 2) (y := (h 294 13)) (by decide +kernel) ?_
  refine ar_iadd (pc := 18) (x := (am_w32 ((h 294 12) + 217))) (y := (am_w32 (2 * (h 294 13)))) (by decide +kernel) ?_
  refine ar_iload_n (pc := 19) (i := 1) (k0 := 1) (by decide +kernel) rfl rfl ?_
  obtain ⟨g1, H⟩ := H
  obtain ⟨g2, H⟩ := H
  refine ar_iast (pc := 20) (a := 297) (i := (am_w32 ((am_w32 ((h 294 12) + 217)) + (am_w32 (2 * (h 294 13)))))) (z := v1) (by decide +kernel) k_297 g1 (am_lt_eq g2 (l_297).symm) ?_
  refine ar_aload_n (pc := 21) (i := 0) (k0 := 0) (by decide +kernel) rfl rfl ?_
  refine ar_getFV (pc := 22) (a := 294) (b := 297) 7 2 (by decide +kernel) k_294 rfl (by decide) wf_RX7_16 rfl (fun _ => rfl) rfl ?_
  refine ar_aload_n (pc := 25) (i := 0) (k0 := 0) (by decide +kernel) rfl rfl ?_
  refine ar_getV (pc := 26) (a := 294) (v := .inl (h 294 12)) 7 12 (by decide +kernel) k_294 rfl (by decide) wf_RX7_168 (by first | rfl | (simp [am_tv, am_ty, tyX7, am_up, am_cp]; done) | (simp [am_tv, am_ty, tyX7, am_up, am_cp] <;> intros <;> omega)) ?_
  refine ar_sipush (pc := 29) (z := 217) (by decide +kernel) (by omega) ?_
  refine ar_iadd (pc := 32) (x := (h 294 12)) (y := 217) (by decide +kernel) ?_
  refine ar_iconst (pc := 33) (z := 2) (by decide +kernel) (by unfold am_i32; omega) ?_
  refine ar_aload_n (pc := 34) (i := 0) (k0 := 0) (by decide +kernel) rfl rfl ?_
  refine ar_getV (pc := 35) (a := 294) (v := .inl (h 294 13)) 7 13 (by decide +kernel) k_294 rfl (by decide) wf_RX7_171 (by first | rfl | (simp [am_tv, am_ty, tyX7, am_up, am_cp]; done) | (simp [am_tv, am_ty, tyX7, am_up, am_cp] <;> intros <;> omega)) ?_
  refine ar_imul (pc := 38) (x := 2) (y := (h 294 13)) (by decide +kernel) ?_
  refine ar_iadd (pc := 39) (x := (am_w32 ((h 294 12) + 217))) (y := (am_w32 (2 * (h 294 13)))) (by decide +kernel) ?_
  refine ar_iconst (pc := 40) (z := 1) (by decide +kernel) (by unfold am_i32; omega) ?_
  refine ar_iadd (pc := 41) (x := (am_w32 ((am_w32 ((h 294 12) + 217)) + (am_w32 (2 * (h 294 13)))))) (y := 1) (by decide +kernel) ?_
  refine ar_iload_n (pc := 42) (i := 2) (k0 := 2) (by decide +kernel) rfl rfl ?_
  obtain ⟨g3, H⟩ := H
  obtain ⟨g4, H⟩ := H
  refine ar_iast (pc := 43) (a := 297) (i := (am_w32 ((am_w32 ((am_w32 ((h 294 12) + 217)) + (am_w32 (2 * (h 294 13))))) + 1))) (z := v2) (by decide +kernel) k_297 g3 (am_lt_eq g4 (l_297).symm) ?_
  refine ar_aload_n (pc := 44) (i := 0) (k0 := 0) (by decide +kernel) rfl rfl ?_
  refine ar_dup (pc := 45) (by decide +kernel) trivial ?_
  refine ar_getV (pc := 46) (a := 294) (v := .inl (h 294 13)) 7 13 (by decide +kernel) k_294 rfl (by decide) wf_RX7_171 (by first | rfl | (simp [am_tv, am_ty, tyX7, am_up, am_cp]; done) | (simp [am_tv, am_ty, tyX7, am_up, am_cp] <;> intros <;> omega)) ?_
  refine ar_iconst (pc := 49) (z := 1) (by decide +kernel) (by unfold am_i32; omega) ?_
  refine ar_iadd (pc := 50) (x := (h 294 13)) (y := 1) (by decide +kernel) ?_
  refine ar_putI (pc := 51) (a := 294) (z := (am_w32 ((h 294 13) + 1))) 7 13 (by decide +kernel) k_294 rfl (by decide) rfl (fun _ => rfl) rfl wf_RX7_171 ?_
  exact ar_vret (pc := 54) (by decide +kernel) rfl rfl H

/-! ByteIntervalsModel.fieldNamed()I -/
theorem B_X7_fieldNamed_0 {d : Nat} {Q : Int → am_H → Prop} {h : am_H} (H : (¬ (h 294 9) = 2 → Q (-1) h) ∧ ((h 294 9) = 2 → (¬ (am_w32 ((h 294 7) - (h 294 8))) = 1 → Q (-1) h) ∧ ((am_w32 ((h 294 7) - (h 294 8))) = 1 → cf d M_X7_byteAt [.inr (.inr 294), .inl (h 294 8)] h (fun r3 h4 => cf d M_X7_isIn [.inl r3, .inl 97, .inl 104] h4 (fun r5 h6 => (r5 = 0 → Q (-1) h6) ∧ (¬ r5 = 0 → cf d M_X7_byteAt [.inr (.inr 294), .inl (h6 294 8)] h6 (fun r8 h9 => Q (am_w32 (r8 - 97)) h9))))))) : wf (d + 1) M_X7_fieldNamed Q 0 [some (.inr (.inr 294))] [] h := by
  intro h0
  refine ar_aload_n (pc := 0) (i := 0) (k0 := 0) (by decide +kernel) rfl rfl ?_
  refine ar_getV (pc := 1) (a := 294) (v := .inl (h 294 9)) 7 9 (by decide +kernel) k_294 rfl (by decide) wf_RX7_129 rfl ?_
  refine ar_iconst (pc := 4) (z := 2) (by decide +kernel) (by unfold am_i32; omega) ?_
  refine ar_icmp_ne (pc := 5) (x := (h 294 9)) (y := 2) (tgt := 53) (off := 48) (by decide +kernel) (by decide) (fun c1 => ?_) (fun c1 => ?_)
  · replace H := H.1 c1
    refine ar_iconst (pc := 53) (z := (-1)) (by decide +kernel) (by unfold am_i32; omega) ?_
    exact ar_iret (pc := 54) (x := (-1)) (by decide +kernel) rfl rfl H
  · replace H := H.2 c1
    refine ar_aload_n (pc := 8) (i := 0) (k0 := 0) (by decide +kernel) rfl rfl ?_
    refine ar_getV (pc := 9) (a := 294) (v := .inl (h 294 7)) 7 7 (by decide +kernel) k_294 rfl (by decide) wf_RX7_119 rfl ?_
    refine ar_aload_n (pc := 12) (i := 0) (k0 := 0) (by decide +kernel) rfl rfl ?_
    refine ar_getV (pc := 13) (a := 294) (v := .inl (h 294 8)) 7 8 (by decide +kernel) k_294 rfl (by decide) wf_RX7_126 rfl ?_
    refine ar_isub (pc := 16) (x := (h 294 7)) (y := (h 294 8)) (by decide +kernel) ?_
    refine ar_iconst (pc := 17) (z := 1) (by decide +kernel) (by unfold am_i32; omega) ?_
    refine ar_icmp_ne (pc := 18) (x := (am_w32 ((h 294 7) - (h 294 8)))) (y := 1) (tgt := 53) (off := 35) (by decide +kernel) (by decide) (fun c2 => ?_) (fun c2 => ?_)
    · replace H := H.1 c2
      refine ar_iconst (pc := 53) (z := (-1)) (by decide +kernel) (by unfold am_i32; omega) ?_
      exact ar_iret (pc := 54) (x := (-1)) (by decide +kernel) rfl rfl H
    · replace H := H.2 c2
      refine ar_aload_n (pc := 21) (i := 0) (k0 := 0) (by decide +kernel) rfl rfl ?_
      refine ar_aload_n (pc := 22) (i := 0) (k0 := 0) (by decide +kernel) rfl rfl ?_
      refine ar_getV (pc := 23) (a := 294) (v := .inl (h 294 8)) 7 8 (by decide +kernel) k_294 rfl (by decide) wf_RX7_126 rfl ?_
      refine ar_callV (pc := 26) (M2 := M_X7_byteAt) (a := 294) (ci := 7) (as := [.inl (h 294 8)]) (n2 := 321) (st := []) (by decide +kernel) rfl wm_RX7_122 wi_yX7_byteAt wl_yX7_byteAt k_294 rfl wz_RX7 wc_yX7_byteAt ⟨by decide, by decide, rfl⟩ (by decide) (Nat.le_of_ble_eq_true rfl) (Nat.le_refl _) (Nat.le_refl _) (am_Cl_mono H (fun r3 h4 H => ?_))
      show am_Wp true (d + 1) M_X7_fieldNamed 321 321 h0 Q 29 [some (.inr (.inr 294))] [.inl r3] 321 h4
      refine ar_bipush (pc := 29) (z := 97) (by decide +kernel) (by omega) ?_
      refine ar_bipush (pc := 31) (z := 104) (by decide +kernel) (by omega) ?_
      refine ar_callS (pc := 33) (M2 := M_X7_isIn) (as := [.inl r3, .inl 97, .inl 104]) (n2 := 321) (st := []) (by decide +kernel) rfl wm_RX7_108 ws_yX7_isIn wz_RX7 wc_yX7_isIn ⟨by decide, by decide, rfl⟩ (by decide) (Nat.le_of_ble_eq_true rfl) (Nat.le_refl _) (Nat.le_refl _) (am_Cl_mono H (fun r5 h6 H => ?_))
      show am_Wp true (d + 1) M_X7_fieldNamed 321 321 h0 Q 36 [some (.inr (.inr 294))] [.inl r5] 321 h6
      refine ar_if_eq (pc := 36) (x := r5) (tgt := 53) (off := 17) (by decide +kernel) (by decide) (fun c7 => ?_) (fun c7 => ?_)
      · replace H := H.1 c7
        refine ar_iconst (pc := 53) (z := (-1)) (by decide +kernel) (by unfold am_i32; omega) ?_
        exact ar_iret (pc := 54) (x := (-1)) (by decide +kernel) rfl rfl H
      · replace H := H.2 c7
        refine ar_aload_n (pc := 39) (i := 0) (k0 := 0) (by decide +kernel) rfl rfl ?_
        refine ar_aload_n (pc := 40) (i := 0) (k0 := 0) (by decide +kernel) rfl rfl ?_
        refine ar_getV (pc := 41) (a := 294) (v := .inl (h6 294 8)) 7 8 (by decide +kernel) k_294 rfl (by decide) wf_RX7_126 rfl ?_
        refine ar_callV (pc := 44) (M2 := M_X7_byteAt) (a := 294) (ci := 7) (as := [.inl (h6 294 8)]) (n2 := 321) (st := []) (by decide +kernel) rfl wm_RX7_122 wi_yX7_byteAt wl_yX7_byteAt k_294 rfl wz_RX7 wc_yX7_byteAt ⟨by decide, by decide, rfl⟩ (by decide) (Nat.le_of_ble_eq_true rfl) (Nat.le_refl _) (Nat.le_refl _) (am_Cl_mono H (fun r8 h9 H => ?_))
        show am_Wp true (d + 1) M_X7_fieldNamed 321 321 h0 Q 47 [some (.inr (.inr 294))] [.inl r8] 321 h9
        refine ar_bipush (pc := 47) (z := 97) (by decide +kernel) (by omega) ?_
        refine ar_isub (pc := 49) (x := r8) (y := 97) (by decide +kernel) ?_
        refine ar_goto (pc := 50) (tgt := 54) (off := 4) (by decide +kernel) (by decide) ?_
        exact ar_iret (pc := 54) (x := (am_w32 (r8 - 97))) (by decide +kernel) rfl rfl H

/-! ByteIntervalsModel.nameOf()I -/
theorem B_X7_nameOf_0 {d : Nat} {Q : Int → am_H → Prop} {h : am_H} (H : ((h 294 9) = 2 → cf d M_X7_fieldNamed [.inr (.inr 294)] h (fun r2 h3 => (r2 = (-1) → cf d M_X7_w4 [.inl 115, .inl 105, .inl 122, .inl 101] h3 (fun r5 h6 => (¬ (am_lcmp (h3 294 11) r5) = 0 → cf d M_X7_w4 [.inl 100, .inl 101, .inl 101, .inl 112] h6 (fun r8 h9 => (¬ (am_lcmp (h6 294 11) r8) = 0 → cf d M_X7_w3 [.inl 100, .inl 97, .inl 121] h9 (fun r11 h12 => (¬ (am_lcmp (h9 294 11) r11) = 0 → cf d M_X7_w5 [.inl 112, .inl 108, .inl 97, .inl 99, .inl 101] h12 (fun r14 h15 => (¬ (am_lcmp (h12 294 11) r14) = 0 → cf d M_X7_w3 [.inl 111, .inl 108, .inl 100] h15 (fun r17 h18 => (¬ (am_lcmp (h15 294 11) r17) = 0 → Q (-1) h18) ∧ ((am_lcmp (h15 294 11) r17) = 0 → Q 12 h18))) ∧ ((am_lcmp (h12 294 11) r14) = 0 → Q 11 h15))) ∧ ((am_lcmp (h9 294 11) r11) = 0 → Q 10 h12))) ∧ ((am_lcmp (h6 294 11) r8) = 0 → Q 9 h9))) ∧ ((am_lcmp (h3 294 11) r5) = 0 → Q 8 h6))) ∧ (¬ r2 = (-1) → cf d M_X7_fieldNamed [.inr (.inr 294)] h3 (fun r20 h21 => Q r20 h21)))) ∧ (¬ (h 294 9) = 2 → Q (-1) h)) : wf (d + 1) M_X7_nameOf Q 0 [some (.inr (.inr 294))] [] h := by
  intro h0
  refine ar_aload_n (pc := 0) (i := 0) (k0 := 0) (by decide +kernel) rfl rfl ?_
  refine ar_getV (pc := 1) (a := 294) (v := .inl (h 294 9)) 7 9 (by decide +kernel) k_294 rfl (by decide) wf_RX7_129 rfl ?_
  refine ar_iconst (pc := 4) (z := 2) (by decide +kernel) (by unfold am_i32; omega) ?_
  refine ar_icmp_eq (pc := 5) (x := (h 294 9)) (y := 2) (tgt := 10) (off := 5) (by decide +kernel) (by decide) (fun c1 => ?_) (fun c1 => ?_)
  · replace H := H.1 c1
    refine ar_aload_n (pc := 10) (i := 0) (k0 := 0) (by decide +kernel) rfl rfl ?_
    refine ar_callV (pc := 11) (M2 := M_X7_fieldNamed) (a := 294) (ci := 7) (as := []) (n2 := 321) (st := []) (by decide +kernel) rfl wm_RX7_174 wi_yX7_fieldNamed wl_yX7_fieldNamed k_294 rfl wz_RX7 wc_yX7_fieldNamed ⟨by decide, by decide, rfl⟩ (by decide) (Nat.le_of_ble_eq_true rfl) (Nat.le_refl _) (Nat.le_refl _) (am_Cl_mono H (fun r2 h3 H => ?_))
    show am_Wp true (d + 1) M_X7_nameOf 321 321 h0 Q 14 [some (.inr (.inr 294))] [.inl r2] 321 h3
    refine ar_iconst (pc := 14) (z := (-1)) (by decide +kernel) (by unfold am_i32; omega) ?_
    refine ar_icmp_eq (pc := 15) (x := r2) (y := (-1)) (tgt := 23) (off := 8) (by decide +kernel) (by decide) (fun c4 => ?_) (fun c4 => ?_)
    · replace H := H.1 c4
      refine ar_aload_n (pc := 23) (i := 0) (k0 := 0) (by decide +kernel) rfl rfl ?_
      refine ar_getV (pc := 24) (a := 294) (v := .inr (.inl (h3 294 11))) 7 11 (by decide +kernel) k_294 rfl (by decide) wf_RX7_143 rfl ?_
      refine ar_bipush (pc := 27) (z := 115) (by decide +kernel) (by omega) ?_
      refine ar_bipush (pc := 29) (z := 105) (by decide +kernel) (by omega) ?_
      refine ar_bipush (pc := 31) (z := 122) (by decide +kernel) (by omega) ?_
      refine ar_bipush (pc := 33) (z := 101) (by decide +kernel) (by omega) ?_
      refine ar_callS (pc := 35) (M2 := M_X7_w4) (as := [.inl 115, .inl 105, .inl 122, .inl 101]) (n2 := 321) (st := [.inr (.inl (h3 294 11))]) (by decide +kernel) rfl wm_RX7_160 ws_yX7_w4 wz_RX7 wc_yX7_w4 ⟨by decide, by decide, rfl⟩ (by decide) (Nat.le_of_ble_eq_true rfl) (Nat.le_refl _) (Nat.le_refl _) (am_Cl_mono H (fun r5 h6 H => ?_))
      show am_Wp true (d + 1) M_X7_nameOf 321 321 h0 Q 38 [some (.inr (.inr 294))] [.inr (.inl r5), .inr (.inl (h3 294 11))] 321 h6
      refine ar_lcmp (pc := 38) (x := (h3 294 11)) (y := r5) (by decide +kernel) ?_
      refine ar_if_ne (pc := 39) (x := (am_lcmp (h3 294 11) r5)) (tgt := 45) (off := 6) (by decide +kernel) (by decide) (fun c7 => ?_) (fun c7 => ?_)
      · replace H := H.1 c7
        refine ar_aload_n (pc := 45) (i := 0) (k0 := 0) (by decide +kernel) rfl rfl ?_
        refine ar_getV (pc := 46) (a := 294) (v := .inr (.inl (h6 294 11))) 7 11 (by decide +kernel) k_294 rfl (by decide) wf_RX7_143 rfl ?_
        refine ar_bipush (pc := 49) (z := 100) (by decide +kernel) (by omega) ?_
        refine ar_bipush (pc := 51) (z := 101) (by decide +kernel) (by omega) ?_
        refine ar_bipush (pc := 53) (z := 101) (by decide +kernel) (by omega) ?_
        refine ar_bipush (pc := 55) (z := 112) (by decide +kernel) (by omega) ?_
        refine ar_callS (pc := 57) (M2 := M_X7_w4) (as := [.inl 100, .inl 101, .inl 101, .inl 112]) (n2 := 321) (st := [.inr (.inl (h6 294 11))]) (by decide +kernel) rfl wm_RX7_160 ws_yX7_w4 wz_RX7 wc_yX7_w4 ⟨by decide, by decide, rfl⟩ (by decide) (Nat.le_of_ble_eq_true rfl) (Nat.le_refl _) (Nat.le_refl _) (am_Cl_mono H (fun r8 h9 H => ?_))
        show am_Wp true (d + 1) M_X7_nameOf 321 321 h0 Q 60 [some (.inr (.inr 294))] [.inr (.inl r8), .inr (.inl (h6 294 11))] 321 h9
        refine ar_lcmp (pc := 60) (x := (h6 294 11)) (y := r8) (by decide +kernel) ?_
        refine ar_if_ne (pc := 61) (x := (am_lcmp (h6 294 11) r8)) (tgt := 67) (off := 6) (by decide +kernel) (by decide) (fun c10 => ?_) (fun c10 => ?_)
        · replace H := H.1 c10
          refine ar_aload_n (pc := 67) (i := 0) (k0 := 0) (by decide +kernel) rfl rfl ?_
          refine ar_getV (pc := 68) (a := 294) (v := .inr (.inl (h9 294 11))) 7 11 (by decide +kernel) k_294 rfl (by decide) wf_RX7_143 rfl ?_
          refine ar_bipush (pc := 71) (z := 100) (by decide +kernel) (by omega) ?_
          refine ar_bipush (pc := 73) (z := 97) (by decide +kernel) (by omega) ?_
          refine ar_bipush (pc := 75) (z := 121) (by decide +kernel) (by omega) ?_
          refine ar_callS (pc := 77) (M2 := M_X7_w3) (as := [.inl 100, .inl 97, .inl 121]) (n2 := 321) (st := [.inr (.inl (h9 294 11))]) (by decide +kernel) rfl wm_RX7_156 ws_yX7_w3 wz_RX7 wc_yX7_w3 ⟨by decide, by decide, rfl⟩ (by decide) (Nat.le_of_ble_eq_true rfl) (Nat.le_refl _) (Nat.le_refl _) (am_Cl_mono H (fun r11 h12 H => ?_))
          show am_Wp true (d + 1) M_X7_nameOf 321 321 h0 Q 80 [some (.inr (.inr 294))] [.inr (.inl r11), .inr (.inl (h9 294 11))] 321 h12
          refine ar_lcmp (pc := 80) (x := (h9 294 11)) (y := r11) (by decide +kernel) ?_
          refine ar_if_ne (pc := 81) (x := (am_lcmp (h9 294 11) r11)) (tgt := 87) (off := 6) (by decide +kernel) (by decide) (fun c13 => ?_) (fun c13 => ?_)
          · replace H := H.1 c13
            refine ar_aload_n (pc := 87) (i := 0) (k0 := 0) (by decide +kernel) rfl rfl ?_
            refine ar_getV (pc := 88) (a := 294) (v := .inr (.inl (h12 294 11))) 7 11 (by decide +kernel) k_294 rfl (by decide) wf_RX7_143 rfl ?_
            refine ar_bipush (pc := 91) (z := 112) (by decide +kernel) (by omega) ?_
            refine ar_bipush (pc := 93) (z := 108) (by decide +kernel) (by omega) ?_
            refine ar_bipush (pc := 95) (z := 97) (by decide +kernel) (by omega) ?_
            refine ar_bipush (pc := 97) (z := 99) (by decide +kernel) (by omega) ?_
            refine ar_bipush (pc := 99) (z := 101) (by decide +kernel) (by omega) ?_
            refine ar_callS (pc := 101) (M2 := M_X7_w5) (as := [.inl 112, .inl 108, .inl 97, .inl 99, .inl 101]) (n2 := 321) (st := [.inr (.inl (h12 294 11))]) (by decide +kernel) rfl wm_RX7_164 ws_yX7_w5 wz_RX7 wc_yX7_w5 ⟨by decide, by decide, rfl⟩ (by decide) (Nat.le_of_ble_eq_true rfl) (Nat.le_refl _) (Nat.le_refl _) (am_Cl_mono H (fun r14 h15 H => ?_))
            show am_Wp true (d + 1) M_X7_nameOf 321 321 h0 Q 104 [some (.inr (.inr 294))] [.inr (.inl r14), .inr (.inl (h12 294 11))] 321 h15
            refine ar_lcmp (pc := 104) (x := (h12 294 11)) (y := r14) (by decide +kernel) ?_
            refine ar_if_ne (pc := 105) (x := (am_lcmp (h12 294 11) r14)) (tgt := 113) (off := 8) (by decide +kernel) (by decide) (fun c16 => ?_) (fun c16 => ?_)
            · replace H := H.1 c16
              refine ar_aload_n (pc := 113) (i := 0) (k0 := 0) (by decide +kernel) rfl rfl ?_
              refine ar_getV (pc := 114) (a := 294) (v := .inr (.inl (h15 294 11))) 7 11 (by decide +kernel) k_294 rfl (by decide) wf_RX7_143 rfl ?_
              refine ar_bipush (pc := 117) (z := 111) (by decide +kernel) (by omega) ?_
              refine ar_bipush (pc := 119) (z := 108) (by decide +kernel) (by omega) ?_
              refine ar_bipush (pc := 121) (z := 100) (by decide +kernel) (by omega) ?_
              refine ar_callS (pc := 123) (M2 := M_X7_w3) (as := [.inl 111, .inl 108, .inl 100]) (n2 := 321) (st := [.inr (.inl (h15 294 11))]) (by decide +kernel) rfl wm_RX7_156 ws_yX7_w3 wz_RX7 wc_yX7_w3 ⟨by decide, by decide, rfl⟩ (by decide) (Nat.le_of_ble_eq_true rfl) (Nat.le_refl _) (Nat.le_refl _) (am_Cl_mono H (fun r17 h18 H => ?_))
              show am_Wp true (d + 1) M_X7_nameOf 321 321 h0 Q 126 [some (.inr (.inr 294))] [.inr (.inl r17), .inr (.inl (h15 294 11))] 321 h18
              refine ar_lcmp (pc := 126) (x := (h15 294 11)) (y := r17) (by decide +kernel) ?_
              refine ar_if_ne (pc := 127) (x := (am_lcmp (h15 294 11) r17)) (tgt := 135) (off := 8) (by decide +kernel) (by decide) (fun c19 => ?_) (fun c19 => ?_)
              · replace H := H.1 c19
                refine ar_iconst (pc := 135) (z := (-1)) (by decide +kernel) (by unfold am_i32; omega) ?_
                exact ar_iret (pc := 136) (x := (-1)) (by decide +kernel) rfl rfl H
              · replace H := H.2 c19
                refine ar_bipush (pc := 130) (z := 12) (by decide +kernel) (by omega) ?_
                refine ar_goto (pc := 132) (tgt := 136) (off := 4) (by decide +kernel) (by decide) ?_
                exact ar_iret (pc := 136) (x := 12) (by decide +kernel) rfl rfl H
            · replace H := H.2 c16
              refine ar_bipush (pc := 108) (z := 11) (by decide +kernel) (by omega) ?_
              refine ar_goto (pc := 110) (tgt := 136) (off := 26) (by decide +kernel) (by decide) ?_
              exact ar_iret (pc := 136) (x := 11) (by decide +kernel) rfl rfl H
          · replace H := H.2 c13
            refine ar_bipush (pc := 84) (z := 10) (by decide +kernel) (by omega) ?_
            exact ar_iret (pc := 86) (x := 10) (by decide +kernel) rfl rfl H
        · replace H := H.2 c10
          refine ar_bipush (pc := 64) (z := 9) (by decide +kernel) (by omega) ?_
          exact ar_iret (pc := 66) (x := 9) (by decide +kernel) rfl rfl H
      · replace H := H.2 c7
        refine ar_bipush (pc := 42) (z := 8) (by decide +kernel) (by omega) ?_
        exact ar_iret (pc := 44) (x := 8) (by decide +kernel) rfl rfl H
    · replace H := H.2 c4
      refine ar_aload_n (pc := 18) (i := 0) (k0 := 0) (by decide +kernel) rfl rfl ?_
      refine ar_callV (pc := 19) (M2 := M_X7_fieldNamed) (a := 294) (ci := 7) (as := []) (n2 := 321) (st := []) (by decide +kernel) rfl wm_RX7_174 wi_yX7_fieldNamed wl_yX7_fieldNamed k_294 rfl wz_RX7 wc_yX7_fieldNamed ⟨by decide, by decide, rfl⟩ (by decide) (Nat.le_of_ble_eq_true rfl) (Nat.le_refl _) (Nat.le_refl _) (am_Cl_mono H (fun r20 h21 H => ?_))
      show am_Wp true (d + 1) M_X7_nameOf 321 321 h0 Q 22 [some (.inr (.inr 294))] [.inl r20] 321 h21
      exact ar_iret (pc := 22) (x := r20) (by decide +kernel) rfl rfl H
  · replace H := H.2 c1
    refine ar_iconst (pc := 8) (z := (-1)) (by decide +kernel) (by unfold am_i32; omega) ?_
    exact ar_iret (pc := 9) (x := (-1)) (by decide +kernel) rfl rfl H

/-! ByteIntervalsModel.isOf(I)Z -/
theorem B_X7_isOf_0 {d : Nat} {Q : Int → am_H → Prop} {h : am_H} {v1 : Int} (H : (v1 = 8 → wf d M_X7_isOf Q 33 [none, none] [] h) ∧ (¬ v1 = 8 → (v1 ≤ 9 → wf d M_X7_isOf Q 17 [some (.inr (.inr 294)), none] [.inl 0] h) ∧ (9 < v1 → wf d M_X7_isOf Q 17 [some (.inr (.inr 294)), none] [.inl 1] h))) : wf d M_X7_isOf Q 0 [some (.inr (.inr 294)), some (.inl v1)] [] h := by
  intro h0
  refine ar_iload_n (pc := 0) (i := 1) (k0 := 1) (by decide +kernel) rfl rfl ?_
  refine ar_bipush (pc := 1) (z := 8) (by decide +kernel) (by omega) ?_
  refine ar_icmp_eq (pc := 3) (x := v1) (y := 8) (tgt := 33) (off := 30) (by decide +kernel) (by decide) (fun c1 => ?_) (fun c1 => ?_)
  · replace H := H.1 c1
    refine ar_forget [false, false] rfl ?_
    exact H h0
  · replace H := H.2 c1
    refine ar_iload_n (pc := 6) (i := 1) (k0 := 1) (by decide +kernel) rfl rfl ?_
    refine ar_bipush (pc := 7) (z := 9) (by decide +kernel) (by omega) ?_
    refine ar_icmp_le (pc := 9) (x := v1) (y := 9) (tgt := 16) (off := 7) (by decide +kernel) (by decide) (fun c2 => ?_) (fun c2 => ?_)
    · replace H := H.1 c2
      refine ar_iconst (pc := 16) (z := 0) (by decide +kernel) (by unfold am_i32; omega) ?_
      refine ar_forget [true, false] rfl ?_
      exact H h0
    · replace H := H.2 c2
      refine ar_iconst (pc := 12) (z := 1) (by decide +kernel) (by unfold am_i32; omega) ?_
      refine ar_goto (pc := 13) (tgt := 17) (off := 4) (by decide +kernel) (by decide) ?_
      refine ar_forget [true, false] rfl ?_
      exact H h0
theorem B_X7_isOf_17 {d : Nat} {Q : Int → am_H → Prop} {h : am_H} {s0 : Int} (H : (¬ (h 294 14) = 4 → wf d M_X7_isOf Q 30 [none, none] [.inl 0, .inl s0] h) ∧ ((h 294 14) = 4 → wf d M_X7_isOf Q 30 [none, none] [.inl 1, .inl s0] h)) : wf d M_X7_isOf Q 17 [some (.inr (.inr 294)), none] [.inl s0] h := by
  intro h0
  refine ar_aload_n (pc := 17) (i := 0) (k0 := 0) (by decide +kernel) rfl rfl ?_
  refine ar_getV (pc := 18) (a := 294) (v := .inl (h 294 14)) 7 14 (by decide +kernel) k_294 rfl (by decide) wf_RX7_178 rfl ?_
  refine ar_iconst (pc := 21) (z := 4) (by decide +kernel) (by unfold am_i32; omega) ?_
  refine ar_icmp_ne (pc := 22) (x := (h 294 14)) (y := 4) (tgt := 29) (off := 7) (by decide +kernel) (by decide) (fun c1 => ?_) (fun c1 => ?_)
  · replace H := H.1 c1
    refine ar_iconst (pc := 29) (z := 0) (by decide +kernel) (by unfold am_i32; omega) ?_
    refine ar_forget [false, true] rfl ?_
    exact H h0
  · replace H := H.2 c1
    refine ar_iconst (pc := 25) (z := 1) (by decide +kernel) (by unfold am_i32; omega) ?_
    refine ar_goto (pc := 26) (tgt := 30) (off := 4) (by decide +kernel) (by decide) ?_
    refine ar_forget [false, true] rfl ?_
    exact H h0
theorem B_X7_isOf_30 {d : Nat} {Q : Int → am_H → Prop} {h : am_H} {s0 s1 : Int} (H : (¬ s0 = s1 → Q 0 h) ∧ (s0 = s1 → wf d M_X7_isOf Q 33 [none, none] [] h)) : wf d M_X7_isOf Q 30 [none, none] [.inl s1, .inl s0] h := by
  intro h0
  refine ar_icmp_ne (pc := 30) (x := s0) (y := s1) (tgt := 37) (off := 7) (by decide +kernel) (by decide) (fun c1 => ?_) (fun c1 => ?_)
  · replace H := H.1 c1
    refine ar_iconst (pc := 37) (z := 0) (by decide +kernel) (by unfold am_i32; omega) ?_
    exact ar_zret (pc := 38) (x := 0) (by decide +kernel) rfl rfl (by decide) H
  · replace H := H.2 c1
    exact H h0
theorem B_X7_isOf_33 {d : Nat} {Q : Int → am_H → Prop} {h : am_H} (H : Q 1 h) : wf d M_X7_isOf Q 33 [none, none] [] h := by
  intro h0
  refine ar_iconst (pc := 33) (z := 1) (by decide +kernel) (by unfold am_i32; omega) ?_
  refine ar_goto (pc := 34) (tgt := 38) (off := 4) (by decide +kernel) (by decide) ?_
  exact ar_zret (pc := 38) (x := 1) (by decide +kernel) rfl rfl (by decide) H

/-! ByteIntervalsModel.rank(I)I -/
theorem B_X7_rank_0 {d : Nat} {Q : Int → am_H → Prop} {h : am_H} {v0 : Int} (H : (v0 < 40 → (¬ v0 = 22 → (¬ v0 = 21 → (¬ v0 = 20 → (v0 < 10 → (v0 < 8 → (v0 < 6 → Q 7 h) ∧ (6 ≤ v0 → Q 5 h)) ∧ (8 ≤ v0 → Q 6 h)) ∧ (10 ≤ v0 → Q 4 h)) ∧ (v0 = 20 → Q 3 h)) ∧ (v0 = 21 → Q 2 h)) ∧ (v0 = 22 → Q 1 h)) ∧ (40 ≤ v0 → Q 0 h)) : wf d M_X7_rank Q 0 [some (.inl v0)] [] h := by
  intro h0
  refine ar_iload_n (pc := 0) (i := 0) (k0 := 0) (by decide +kernel) rfl rfl ?_
  refine ar_bipush (pc := 1) (z := 40) (by decide +kernel) (by omega) ?_
  refine ar_icmp_lt (pc := 3) (x := v0) (y := 40) (tgt := 10) (off := 7) (by decide +kernel) (by decide) (fun c1 => ?_) (fun c1 => ?_)
  · replace H := H.1 c1
    refine ar_iload_n (pc := 10) (i := 0) (k0 := 0) (by decide +kernel) rfl rfl ?_
    refine ar_bipush (pc := 11) (z := 22) (by decide +kernel) (by omega) ?_
    refine ar_icmp_ne (pc := 13) (x := v0) (y := 22) (tgt := 20) (off := 7) (by decide +kernel) (by decide) (fun c2 => ?_) (fun c2 => ?_)
    · replace H := H.1 c2
      refine ar_iload_n (pc := 20) (i := 0) (k0 := 0) (by decide +kernel) rfl rfl ?_
      refine ar_bipush (pc := 21) (z := 21) (by decide +kernel) (by omega) ?_
      refine ar_icmp_ne (pc := 23) (x := v0) (y := 21) (tgt := 30) (off := 7) (by decide +kernel) (by decide) (fun c3 => ?_) (fun c3 => ?_)
      · replace H := H.1 c3
        refine ar_iload_n (pc := 30) (i := 0) (k0 := 0) (by decide +kernel) rfl rfl ?_
        refine ar_bipush (pc := 31) (z := 20) (by decide +kernel) (by omega) ?_
        refine ar_icmp_ne (pc := 33) (x := v0) (y := 20) (tgt := 40) (off := 7) (by decide +kernel) (by decide) (fun c4 => ?_) (fun c4 => ?_)
        · replace H := H.1 c4
          refine ar_iload_n (pc := 40) (i := 0) (k0 := 0) (by decide +kernel) rfl rfl ?_
          refine ar_bipush (pc := 41) (z := 10) (by decide +kernel) (by omega) ?_
          refine ar_icmp_lt (pc := 43) (x := v0) (y := 10) (tgt := 50) (off := 7) (by decide +kernel) (by decide) (fun c5 => ?_) (fun c5 => ?_)
          · replace H := H.1 c5
            refine ar_iload_n (pc := 50) (i := 0) (k0 := 0) (by decide +kernel) rfl rfl ?_
            refine ar_bipush (pc := 51) (z := 8) (by decide +kernel) (by omega) ?_
            refine ar_icmp_lt (pc := 53) (x := v0) (y := 8) (tgt := 61) (off := 8) (by decide +kernel) (by decide) (fun c6 => ?_) (fun c6 => ?_)
            · replace H := H.1 c6
              refine ar_iload_n (pc := 61) (i := 0) (k0 := 0) (by decide +kernel) rfl rfl ?_
              refine ar_bipush (pc := 62) (z := 6) (by decide +kernel) (by omega) ?_
              refine ar_icmp_lt (pc := 64) (x := v0) (y := 6) (tgt := 71) (off := 7) (by decide +kernel) (by decide) (fun c7 => ?_) (fun c7 => ?_)
              · replace H := H.1 c7
                refine ar_bipush (pc := 71) (z := 7) (by decide +kernel) (by omega) ?_
                exact ar_iret (pc := 73) (x := 7) (by decide +kernel) rfl rfl H
              · replace H := H.2 c7
                refine ar_iconst (pc := 67) (z := 5) (by decide +kernel) (by unfold am_i32; omega) ?_
                refine ar_goto (pc := 68) (tgt := 73) (off := 5) (by decide +kernel) (by decide) ?_
                exact ar_iret (pc := 73) (x := 5) (by decide +kernel) rfl rfl H
            · replace H := H.2 c6
              refine ar_bipush (pc := 56) (z := 6) (by decide +kernel) (by omega) ?_
              refine ar_goto (pc := 58) (tgt := 73) (off := 15) (by decide +kernel) (by decide) ?_
              exact ar_iret (pc := 73) (x := 6) (by decide +kernel) rfl rfl H
          · replace H := H.2 c5
            refine ar_iconst (pc := 46) (z := 4) (by decide +kernel) (by unfold am_i32; omega) ?_
            refine ar_goto (pc := 47) (tgt := 73) (off := 26) (by decide +kernel) (by decide) ?_
            exact ar_iret (pc := 73) (x := 4) (by decide +kernel) rfl rfl H
        · replace H := H.2 c4
          refine ar_iconst (pc := 36) (z := 3) (by decide +kernel) (by unfold am_i32; omega) ?_
          refine ar_goto (pc := 37) (tgt := 73) (off := 36) (by decide +kernel) (by decide) ?_
          exact ar_iret (pc := 73) (x := 3) (by decide +kernel) rfl rfl H
      · replace H := H.2 c3
        refine ar_iconst (pc := 26) (z := 2) (by decide +kernel) (by unfold am_i32; omega) ?_
        refine ar_goto (pc := 27) (tgt := 73) (off := 46) (by decide +kernel) (by decide) ?_
        exact ar_iret (pc := 73) (x := 2) (by decide +kernel) rfl rfl H
    · replace H := H.2 c2
      refine ar_iconst (pc := 16) (z := 1) (by decide +kernel) (by unfold am_i32; omega) ?_
      refine ar_goto (pc := 17) (tgt := 73) (off := 56) (by decide +kernel) (by decide) ?_
      exact ar_iret (pc := 73) (x := 1) (by decide +kernel) rfl rfl H
  · replace H := H.2 c1
    refine ar_iconst (pc := 6) (z := 0) (by decide +kernel) (by unfold am_i32; omega) ?_
    refine ar_goto (pc := 7) (tgt := 73) (off := 66) (by decide +kernel) (by decide) ?_
    exact ar_iret (pc := 73) (x := 0) (by decide +kernel) rfl rfl H

/-! ByteIntervalsModel.settle(I)V -/
theorem B_X7_settle_0 {d : Nat} {Q : Int → am_H → Prop} {h : am_H} {v1 : Int} (H : ((h 294 16) ≤ 0 → Q 0 h) ∧ (0 < (h 294 16) → (0 ≤ (am_w32 ((h 294 16) - 1))) ∧ (((am_w32 ((h 294 16) - 1)) < 160) ∧ (cf d M_X7_rank [.inl (h 299 (am_w32 ((h 294 16) - 1)))] h (fun r4 h5 => (r4 < v1 → Q 0 h5) ∧ (v1 ≤ r4 → (0 ≤ (am_w32 ((h5 294 16) - 1))) ∧ (((am_w32 ((h5 294 16) - 1)) < 160) ∧ (cf d M_X7_emit [.inr (.inr 294), .inl (h5 299 (am_w32 ((h5 294 16) - 1))), .inl 0] (am_up h5 294 16 (am_w32 ((h5 294 16) - 1))) (fun _ h10 => (0 ≤ (h10 294 16)) ∧ (((h10 294 16) < 160) ∧ (cf d M_X7_rank [.inl (h10 299 (h10 294 16))] h10 (fun r13 h14 => (r13 = 7 → wf (d + 1) M_X7_settle Q 80 [some (.inr (.inr 294)), some (.inl v1)] [] h14) ∧ (¬ r13 = 7 → (0 ≤ (h14 294 16)) ∧ (((h14 294 16) < 160) ∧ ((¬ (h14 299 (h14 294 16)) = 20 → wf (d + 1) M_X7_settle Q 0 [some (.inr (.inr 294)), some (.inl v1)] [] h14) ∧ ((h14 299 (h14 294 16)) = 20 → wf (d + 1) M_X7_settle Q 80 [some (.inr (.inr 294)), some (.inl v1)] [] h14)))))))))))))))) : wf (d + 1) M_X7_settle Q 0 [some (.inr (.inr 294)), some (.inl v1)] [] h := by
  intro h0
  refine ar_aload_n (pc := 0) (i := 0) (k0 := 0) (by decide +kernel) rfl rfl ?_
  refine ar_getV (pc := 1) (a := 294) (v := .inl (h 294 16)) 7 16 (by decide +kernel) k_294 rfl (by decide) wf_RX7_181 rfl ?_
  refine ar_if_le (pc := 4) (x := (h 294 16)) (tgt := 93) (off := 89) (by decide +kernel) (by decide) (fun c1 => ?_) (fun c1 => ?_)
  · replace H := H.1 c1
    exact ar_vret (pc := 93) (by decide +kernel) rfl rfl H
  · replace H := H.2 c1
    refine ar_aload_n (pc := 7) (i := 0) (k0 := 0) (by decide +kernel) rfl rfl ?_
    refine ar_getFV (pc := 8) (a := 294) (b := 299) 7 15 (by decide +kernel) k_294 rfl (by decide) wf_RX7_29 rfl (fun _ => rfl) rfl ?_
    refine ar_aload_n (pc := 11) (i := 0) (k0 := 0) (by decide +kernel) rfl rfl ?_
    refine ar_getV (pc := 12) (a := 294) (v := .inl (h 294 16)) 7 16 (by decide +kernel) k_294 rfl (by decide) wf_RX7_181 rfl ?_
    refine ar_iconst (pc := 15) (z := 1) (by decide +kernel) (by unfold am_i32; omega) ?_
    refine ar_isub (pc := 16) (x := (h 294 16)) (y := 1) (by decide +kernel) ?_
    obtain ⟨g2, H⟩ := H
    obtain ⟨g3, H⟩ := H
    refine ar_iald (pc := 17) (a := 299) (i := (am_w32 ((h 294 16) - 1))) (by decide +kernel) k_299 g2 (am_lt_eq g3 (l_299).symm) ?_
    refine ar_callS (pc := 18) (M2 := M_X7_rank) (as := [.inl (h 299 (am_w32 ((h 294 16) - 1)))]) (n2 := 321) (st := []) (by decide +kernel) rfl wm_RX7_184 ws_yX7_rank wz_RX7 wc_yX7_rank ⟨by decide, by decide, rfl⟩ (by decide) (Nat.le_of_ble_eq_true rfl) (Nat.le_refl _) (Nat.le_refl _) (am_Cl_mono H (fun r4 h5 H => ?_))
    show am_Wp true (d + 1) M_X7_settle 321 321 h0 Q 21 [some (.inr (.inr 294)), some (.inl v1)] [.inl r4] 321 h5
    refine ar_iload_n (pc := 21) (i := 1) (k0 := 1) (by decide +kernel) rfl rfl ?_
    refine ar_icmp_lt (pc := 22) (x := r4) (y := v1) (tgt := 93) (off := 71) (by decide +kernel) (by decide) (fun c6 => ?_) (fun c6 => ?_)
    · replace H := H.1 c6
      exact ar_vret (pc := 93) (by decide +kernel) rfl rfl H
    · replace H := H.2 c6
      refine ar_aload_n (pc := 25) (i := 0) (k0 := 0) (by decide +kernel) rfl rfl ?_
      refine ar_dup (pc := 26) (by decide +kernel) trivial ?_
      refine ar_getV (pc := 27) (a := 294) (v := .inl (h5 294 16)) 7 16 (by decide +kernel) k_294 rfl (by decide) wf_RX7_181 rfl ?_
      refine ar_iconst (pc := 30) (z := 1) (by decide +kernel) (by unfold am_i32; omega) ?_
      refine ar_isub (pc := 31) (x := (h5 294 16)) (y := 1) (by decide +kernel) ?_
      refine ar_putI (pc := 32) (a := 294) (z := (am_w32 ((h5 294 16) - 1))) 7 16 (by decide +kernel) k_294 rfl (by decide) rfl (fun _ => rfl) rfl wf_RX7_181 ?_
      refine ar_aload_n (pc := 35) (i := 0) (k0 := 0) (by decide +kernel) rfl rfl ?_
      refine ar_aload_n (pc := 36) (i := 0) (k0 := 0) (by decide +kernel) rfl rfl ?_
      refine ar_getFV (pc := 37) (a := 294) (b := 299) 7 15 (by decide +kernel) k_294 rfl (by decide) wf_RX7_29 rfl (fun _ => rfl) rfl ?_
      refine ar_aload_n (pc := 40) (i := 0) (k0 := 0) (by decide +kernel) rfl rfl ?_
      refine ar_getV (pc := 41) (a := 294) (v := .inl (am_w32 ((h5 294 16) - 1))) 7 16 (by decide +kernel) k_294 rfl (by decide) wf_RX7_181 (by first | rfl | (simp [am_tv, am_ty, tyX7, am_up, am_cp]; done) | (simp [am_tv, am_ty, tyX7, am_up, am_cp] <;> intros <;> omega)) ?_
      obtain ⟨g7, H⟩ := H
      obtain ⟨g8, H⟩ := H
      refine ar_ialdV (pc := 44) (a := 299) (i := (am_w32 ((h5 294 16) - 1))) (v := (h5 299 (am_w32 ((h5 294 16) - 1)))) (by first | rfl | (simp [am_up, am_cp]; done) | (simp [am_up, am_cp] <;> intros <;> omega)) (by decide +kernel) k_299 g7 (am_lt_eq g8 (l_299).symm) ?_
      refine ar_iconst (pc := 45) (z := 0) (by decide +kernel) (by unfold am_i32; omega) ?_
      refine ar_callV (pc := 46) (M2 := M_X7_emit) (a := 294) (ci := 7) (as := [.inl (h5 299 (am_w32 ((h5 294 16) - 1))), .inl 0]) (n2 := 321) (st := []) (by decide +kernel) rfl wm_RX7_187 wi_yX7_emit wl_yX7_emit k_294 rfl wz_RX7 wc_yX7_emit ⟨by decide, by decide, rfl⟩ (by decide) (Nat.le_of_ble_eq_true rfl) (Nat.le_refl _) (Nat.le_refl _) (am_Cl_mono H (fun r9 h10 H => ?_))
      show am_Wp true (d + 1) M_X7_settle 321 321 h0 Q 49 [some (.inr (.inr 294)), some (.inl v1)] [] 321 h10
      refine ar_aload_n (pc := 49) (i := 0) (k0 := 0) (by decide +kernel) rfl rfl ?_
      refine ar_getFV (pc := 50) (a := 294) (b := 299) 7 15 (by decide +kernel) k_294 rfl (by decide) wf_RX7_29 rfl (fun _ => rfl) rfl ?_
      refine ar_aload_n (pc := 53) (i := 0) (k0 := 0) (by decide +kernel) rfl rfl ?_
      refine ar_getV (pc := 54) (a := 294) (v := .inl (h10 294 16)) 7 16 (by decide +kernel) k_294 rfl (by decide) wf_RX7_181 rfl ?_
      obtain ⟨g11, H⟩ := H
      obtain ⟨g12, H⟩ := H
      refine ar_iald (pc := 57) (a := 299) (i := (h10 294 16)) (by decide +kernel) k_299 g11 (am_lt_eq g12 (l_299).symm) ?_
      refine ar_callS (pc := 58) (M2 := M_X7_rank) (as := [.inl (h10 299 (h10 294 16))]) (n2 := 321) (st := []) (by decide +kernel) rfl wm_RX7_184 ws_yX7_rank wz_RX7 wc_yX7_rank ⟨by decide, by decide, rfl⟩ (by decide) (Nat.le_of_ble_eq_true rfl) (Nat.le_refl _) (Nat.le_refl _) (am_Cl_mono H (fun r13 h14 H => ?_))
      show am_Wp true (d + 1) M_X7_settle 321 321 h0 Q 61 [some (.inr (.inr 294)), some (.inl v1)] [.inl r13] 321 h14
      refine ar_bipush (pc := 61) (z := 7) (by decide +kernel) (by omega) ?_
      refine ar_icmp_eq (pc := 63) (x := r13) (y := 7) (tgt := 80) (off := 17) (by decide +kernel) (by decide) (fun c15 => ?_) (fun c15 => ?_)
      · replace H := H.1 c15
        exact H h0
      · replace H := H.2 c15
        refine ar_aload_n (pc := 66) (i := 0) (k0 := 0) (by decide +kernel) rfl rfl ?_
        refine ar_getFV (pc := 67) (a := 294) (b := 299) 7 15 (by decide +kernel) k_294 rfl (by decide) wf_RX7_29 rfl (fun _ => rfl) rfl ?_
        refine ar_aload_n (pc := 70) (i := 0) (k0 := 0) (by decide +kernel) rfl rfl ?_
        refine ar_getV (pc := 71) (a := 294) (v := .inl (h14 294 16)) 7 16 (by decide +kernel) k_294 rfl (by decide) wf_RX7_181 rfl ?_
        obtain ⟨g16, H⟩ := H
        obtain ⟨g17, H⟩ := H
        refine ar_iald (pc := 74) (a := 299) (i := (h14 294 16)) (by decide +kernel) k_299 g16 (am_lt_eq g17 (l_299).symm) ?_
        refine ar_bipush (pc := 75) (z := 20) (by decide +kernel) (by omega) ?_
        refine ar_icmp_ne (pc := 77) (x := (h14 299 (h14 294 16))) (y := 20) (tgt := 0) (off := -77) (by decide +kernel) (by decide) (fun c18 => ?_) (fun c18 => ?_)
        · replace H := H.1 c18
          exact H h0
        · replace H := H.2 c18
          exact H h0
theorem B_X7_settle_80 {d : Nat} {Q : Int → am_H → Prop} {h : am_H} {v1 : Int} (H : wf (d + 1) M_X7_settle Q 0 [some (.inr (.inr 294)), some (.inl v1)] [] (am_up h 294 17 (am_w32 ((h 294 17) - 1)))) : wf (d + 1) M_X7_settle Q 80 [some (.inr (.inr 294)), some (.inl v1)] [] h := by
  intro h0
  refine ar_aload_n (pc := 80) (i := 0) (k0 := 0) (by decide +kernel) rfl rfl ?_
  refine ar_dup (pc := 81) (by decide +kernel) trivial ?_
  refine ar_getV (pc := 82) (a := 294) (v := .inl (h 294 17)) 7 17 (by decide +kernel) k_294 rfl (by decide) wf_RX7_191 rfl ?_
  refine ar_iconst (pc := 85) (z := 1) (by decide +kernel) (by unfold am_i32; omega) ?_
  refine ar_isub (pc := 86) (x := (h 294 17)) (y := 1) (by decide +kernel) ?_
  refine ar_putI (pc := 87) (a := 294) (z := (am_w32 ((h 294 17) - 1))) 7 17 (by decide +kernel) k_294 rfl (by decide) rfl (fun _ => rfl) rfl wf_RX7_191 ?_
  refine ar_goto (pc := 90) (tgt := 0) (off := -90) (by decide +kernel) (by decide) ?_
  exact H h0

/-! ByteIntervalsModel.openAt()I -/
theorem B_X7_openAt_0 {d : Nat} {Q : Int → am_H → Prop} {h : am_H} (H : wf d M_X7_openAt Q 7 [some (.inr (.inr 294)), some (.inl (am_w32 ((h 294 16) - 1)))] [] h) : wf d M_X7_openAt Q 0 [some (.inr (.inr 294)), none] [] h := by
  intro h0
  refine ar_aload_n (pc := 0) (i := 0) (k0 := 0) (by decide +kernel) rfl rfl ?_
  refine ar_getV (pc := 1) (a := 294) (v := .inl (h 294 16)) 7 16 (by decide +kernel) k_294 rfl (by decide) wf_RX7_181 rfl ?_
  refine ar_iconst (pc := 4) (z := 1) (by decide +kernel) (by unfold am_i32; omega) ?_
  refine ar_isub (pc := 5) (x := (h 294 16)) (y := 1) (by decide +kernel) ?_
  refine ar_istore_n (pc := 6) (i := 1) (k0 := 1) (ls2 := [some (.inr (.inr 294)), some (.inl (am_w32 ((h 294 16) - 1)))]) (by decide +kernel) rfl (by decide) rfl ?_
  exact H h0
theorem B_X7_openAt_7 {d : Nat} {Q : Int → am_H → Prop} {h : am_H} {v1 : Int} (H : (v1 < 0 → Q v1 h) ∧ (0 ≤ v1 → (v1 < 160) ∧ ((40 ≤ (h 299 v1) → Q v1 h) ∧ ((h 299 v1) < 40 → wf d M_X7_openAt Q 7 [some (.inr (.inr 294)), some (.inl (am_w32 (v1 + (-1))))] [] h)))) : wf d M_X7_openAt Q 7 [some (.inr (.inr 294)), some (.inl v1)] [] h := by
  intro h0
  refine ar_iload_n (pc := 7) (i := 1) (k0 := 1) (by decide +kernel) rfl rfl ?_
  refine ar_if_lt (pc := 8) (x := v1) (tgt := 28) (off := 20) (by decide +kernel) (by decide) (fun c1 => ?_) (fun c1 => ?_)
  · replace H := H.1 c1
    refine ar_iload_n (pc := 28) (i := 1) (k0 := 1) (by decide +kernel) rfl rfl ?_
    exact ar_iret (pc := 29) (x := v1) (by decide +kernel) rfl rfl H
  · replace H := H.2 c1
    refine ar_aload_n (pc := 11) (i := 0) (k0 := 0) (by decide +kernel) rfl rfl ?_
    refine ar_getFV (pc := 12) (a := 294) (b := 299) 7 15 (by decide +kernel) k_294 rfl (by decide) wf_RX7_29 rfl (fun _ => rfl) rfl ?_
    refine ar_iload_n (pc := 15) (i := 1) (k0 := 1) (by decide +kernel) rfl rfl ?_
    obtain ⟨g2, H⟩ := H
    refine ar_iald (pc := 16) (a := 299) (i := v1) (by decide +kernel) k_299 c1 (am_lt_eq g2 (l_299).symm) ?_
    refine ar_bipush (pc := 17) (z := 40) (by decide +kernel) (by omega) ?_
    refine ar_icmp_ge (pc := 19) (x := (h 299 v1)) (y := 40) (tgt := 28) (off := 9) (by decide +kernel) (by decide) (fun c3 => ?_) (fun c3 => ?_)
    · replace H := H.1 c3
      refine ar_iload_n (pc := 28) (i := 1) (k0 := 1) (by decide +kernel) rfl rfl ?_
      exact ar_iret (pc := 29) (x := v1) (by decide +kernel) rfl rfl H
    · replace H := H.2 c3
      refine ar_iinc (pc := 22) (i := 1) (z := (-1)) (x := v1) (ls2 := [some (.inr (.inr 294)), some (.inl (am_w32 (v1 + (-1))))]) (by decide +kernel) rfl (by decide) rfl ?_
      refine ar_goto (pc := 25) (tgt := 7) (off := -18) (by decide +kernel) (by decide) ?_
      exact H h0

/-! ByteIntervalsModel.openNow()I -/
theorem B_X7_openNow_0 {d : Nat} {Q : Int → am_H → Prop} {h : am_H} (H : cf d M_X7_openAt [.inr (.inr 294)] h (fun r1 h2 => (0 ≤ r1 → cf d M_X7_openAt [.inr (.inr 294)] h2 (fun r4 h5 => (0 ≤ r4) ∧ ((r4 < 160) ∧ (Q (h5 299 r4) h5)))) ∧ (r1 < 0 → Q (-1) h2))) : wf (d + 1) M_X7_openNow Q 0 [some (.inr (.inr 294))] [] h := by
  intro h0
  refine ar_aload_n (pc := 0) (i := 0) (k0 := 0) (by decide +kernel) rfl rfl ?_
  refine ar_callV (pc := 1) (M2 := M_X7_openAt) (a := 294) (ci := 7) (as := []) (n2 := 321) (st := []) (by decide +kernel) rfl wm_RX7_194 wi_yX7_openAt wl_yX7_openAt k_294 rfl wz_RX7 wc_yX7_openAt ⟨by decide, by decide, rfl⟩ (by decide) (Nat.le_of_ble_eq_true rfl) (Nat.le_refl _) (Nat.le_refl _) (am_Cl_mono H (fun r1 h2 H => ?_))
  show am_Wp true (d + 1) M_X7_openNow 321 321 h0 Q 4 [some (.inr (.inr 294))] [.inl r1] 321 h2
  refine ar_if_ge (pc := 4) (x := r1) (tgt := 11) (off := 7) (by decide +kernel) (by decide) (fun c3 => ?_) (fun c3 => ?_)
  · replace H := H.1 c3
    refine ar_aload_n (pc := 11) (i := 0) (k0 := 0) (by decide +kernel) rfl rfl ?_
    refine ar_getFV (pc := 12) (a := 294) (b := 299) 7 15 (by decide +kernel) k_294 rfl (by decide) wf_RX7_29 rfl (fun _ => rfl) rfl ?_
    refine ar_aload_n (pc := 15) (i := 0) (k0 := 0) (by decide +kernel) rfl rfl ?_
    refine ar_callV (pc := 16) (M2 := M_X7_openAt) (a := 294) (ci := 7) (as := []) (n2 := 321) (st := [.inr (.inr 299)]) (by decide +kernel) rfl wm_RX7_194 wi_yX7_openAt wl_yX7_openAt k_294 rfl wz_RX7 wc_yX7_openAt ⟨by decide, by decide, rfl⟩ (by decide) (Nat.le_of_ble_eq_true rfl) (Nat.le_refl _) (Nat.le_refl _) (am_Cl_mono H (fun r4 h5 H => ?_))
    show am_Wp true (d + 1) M_X7_openNow 321 321 h0 Q 19 [some (.inr (.inr 294))] [.inl r4, .inr (.inr 299)] 321 h5
    obtain ⟨g6, H⟩ := H
    obtain ⟨g7, H⟩ := H
    refine ar_iald (pc := 19) (a := 299) (i := r4) (by decide +kernel) k_299 g6 (am_lt_eq g7 (l_299).symm) ?_
    exact ar_iret (pc := 20) (x := (h5 299 r4)) (by decide +kernel) rfl rfl H
  · replace H := H.2 c3
    refine ar_iconst (pc := 7) (z := (-1)) (by decide +kernel) (by unfold am_i32; omega) ?_
    refine ar_goto (pc := 8) (tgt := 20) (off := 12) (by decide +kernel) (by decide) ?_
    exact ar_iret (pc := 20) (x := (-1)) (by decide +kernel) rfl rfl H

/-! ByteIntervalsModel.isCompared()Z -/
theorem B_X7_isCompared_0 {d : Nat} {Q : Int → am_H → Prop} {h : am_H} (H : wf (d + 1) M_X7_isCompared Q 7 [some (.inr (.inr 294)), some (.inl (am_w32 ((h 294 16) - 1)))] [] h) : wf (d + 1) M_X7_isCompared Q 0 [some (.inr (.inr 294)), none] [] h := by
  intro h0
  refine ar_aload_n (pc := 0) (i := 0) (k0 := 0) (by decide +kernel) rfl rfl ?_
  refine ar_getV (pc := 1) (a := 294) (v := .inl (h 294 16)) 7 16 (by decide +kernel) k_294 rfl (by decide) wf_RX7_181 rfl ?_
  refine ar_iconst (pc := 4) (z := 1) (by decide +kernel) (by unfold am_i32; omega) ?_
  refine ar_isub (pc := 5) (x := (h 294 16)) (y := 1) (by decide +kernel) ?_
  refine ar_istore_n (pc := 6) (i := 1) (k0 := 1) (ls2 := [some (.inr (.inr 294)), some (.inl (am_w32 ((h 294 16) - 1)))]) (by decide +kernel) rfl (by decide) rfl ?_
  exact H h0
theorem B_X7_isCompared_7 {d : Nat} {Q : Int → am_H → Prop} {h : am_H} {v1 : Int} (H : (v1 < 0 → wf (d + 1) M_X7_isCompared Q 30 [some (.inr (.inr 294)), some (.inl v1)] [] h) ∧ (0 ≤ v1 → (v1 < 160) ∧ (cf d M_X7_rank [.inl (h 299 v1)] h (fun r3 h4 => (r3 ≤ 4 → wf (d + 1) M_X7_isCompared Q 30 [some (.inr (.inr 294)), some (.inl v1)] [] h4) ∧ (4 < r3 → wf (d + 1) M_X7_isCompared Q 7 [some (.inr (.inr 294)), some (.inl (am_w32 (v1 + (-1))))] [] h4))))) : wf (d + 1) M_X7_isCompared Q 7 [some (.inr (.inr 294)), some (.inl v1)] [] h := by
  intro h0
  refine ar_iload_n (pc := 7) (i := 1) (k0 := 1) (by decide +kernel) rfl rfl ?_
  refine ar_if_lt (pc := 8) (x := v1) (tgt := 30) (off := 22) (by decide +kernel) (by decide) (fun c1 => ?_) (fun c1 => ?_)
  · replace H := H.1 c1
    exact H h0
  · replace H := H.2 c1
    refine ar_aload_n (pc := 11) (i := 0) (k0 := 0) (by decide +kernel) rfl rfl ?_
    refine ar_getFV (pc := 12) (a := 294) (b := 299) 7 15 (by decide +kernel) k_294 rfl (by decide) wf_RX7_29 rfl (fun _ => rfl) rfl ?_
    refine ar_iload_n (pc := 15) (i := 1) (k0 := 1) (by decide +kernel) rfl rfl ?_
    obtain ⟨g2, H⟩ := H
    refine ar_iald (pc := 16) (a := 299) (i := v1) (by decide +kernel) k_299 c1 (am_lt_eq g2 (l_299).symm) ?_
    refine ar_callS (pc := 17) (M2 := M_X7_rank) (as := [.inl (h 299 v1)]) (n2 := 321) (st := []) (by decide +kernel) rfl wm_RX7_184 ws_yX7_rank wz_RX7 wc_yX7_rank ⟨by decide, by decide, rfl⟩ (by decide) (Nat.le_of_ble_eq_true rfl) (Nat.le_refl _) (Nat.le_refl _) (am_Cl_mono H (fun r3 h4 H => ?_))
    show am_Wp true (d + 1) M_X7_isCompared 321 321 h0 Q 20 [some (.inr (.inr 294)), some (.inl v1)] [.inl r3] 321 h4
    refine ar_iconst (pc := 20) (z := 4) (by decide +kernel) (by unfold am_i32; omega) ?_
    refine ar_icmp_le (pc := 21) (x := r3) (y := 4) (tgt := 30) (off := 9) (by decide +kernel) (by decide) (fun c5 => ?_) (fun c5 => ?_)
    · replace H := H.1 c5
      exact H h0
    · replace H := H.2 c5
      refine ar_iinc (pc := 24) (i := 1) (z := (-1)) (x := v1) (ls2 := [some (.inr (.inr 294)), some (.inl (am_w32 (v1 + (-1))))]) (by decide +kernel) rfl (by decide) rfl ?_
      refine ar_goto (pc := 27) (tgt := 7) (off := -20) (by decide +kernel) (by decide) ?_
      exact H h0
theorem B_X7_isCompared_30 {d : Nat} {Q : Int → am_H → Prop} {h : am_H} {v1 : Int} (H : (v1 < 0 → Q 0 h) ∧ (0 ≤ v1 → (v1 < 160) ∧ (cf d M_X7_rank [.inl (h 299 v1)] h (fun r3 h4 => (¬ r3 = 4 → Q 0 h4) ∧ (r3 = 4 → Q 1 h4))))) : wf (d + 1) M_X7_isCompared Q 30 [some (.inr (.inr 294)), some (.inl v1)] [] h := by
  intro h0
  refine ar_iload_n (pc := 30) (i := 1) (k0 := 1) (by decide +kernel) rfl rfl ?_
  refine ar_if_lt (pc := 31) (x := v1) (tgt := 51) (off := 20) (by decide +kernel) (by decide) (fun c1 => ?_) (fun c1 => ?_)
  · replace H := H.1 c1
    refine ar_iconst (pc := 51) (z := 0) (by decide +kernel) (by unfold am_i32; omega) ?_
    exact ar_zret (pc := 52) (x := 0) (by decide +kernel) rfl rfl (by decide) H
  · replace H := H.2 c1
    refine ar_aload_n (pc := 34) (i := 0) (k0 := 0) (by decide +kernel) rfl rfl ?_
    refine ar_getFV (pc := 35) (a := 294) (b := 299) 7 15 (by decide +kernel) k_294 rfl (by decide) wf_RX7_29 rfl (fun _ => rfl) rfl ?_
    refine ar_iload_n (pc := 38) (i := 1) (k0 := 1) (by decide +kernel) rfl rfl ?_
    obtain ⟨g2, H⟩ := H
    refine ar_iald (pc := 39) (a := 299) (i := v1) (by decide +kernel) k_299 c1 (am_lt_eq g2 (l_299).symm) ?_
    refine ar_callS (pc := 40) (M2 := M_X7_rank) (as := [.inl (h 299 v1)]) (n2 := 321) (st := []) (by decide +kernel) rfl wm_RX7_184 ws_yX7_rank wz_RX7 wc_yX7_rank ⟨by decide, by decide, rfl⟩ (by decide) (Nat.le_of_ble_eq_true rfl) (Nat.le_refl _) (Nat.le_refl _) (am_Cl_mono H (fun r3 h4 H => ?_))
    show am_Wp true (d + 1) M_X7_isCompared 321 321 h0 Q 43 [some (.inr (.inr 294)), some (.inl v1)] [.inl r3] 321 h4
    refine ar_iconst (pc := 43) (z := 4) (by decide +kernel) (by unfold am_i32; omega) ?_
    refine ar_icmp_ne (pc := 44) (x := r3) (y := 4) (tgt := 51) (off := 7) (by decide +kernel) (by decide) (fun c5 => ?_) (fun c5 => ?_)
    · replace H := H.1 c5
      refine ar_iconst (pc := 51) (z := 0) (by decide +kernel) (by unfold am_i32; omega) ?_
      exact ar_zret (pc := 52) (x := 0) (by decide +kernel) rfl rfl (by decide) H
    · replace H := H.2 c5
      refine ar_iconst (pc := 47) (z := 1) (by decide +kernel) (by unfold am_i32; omega) ?_
      refine ar_goto (pc := 48) (tgt := 52) (off := 4) (by decide +kernel) (by decide) ?_
      exact ar_zret (pc := 52) (x := 1) (by decide +kernel) rfl rfl (by decide) H

/-! ByteIntervalsModel.isAsk(I)Z -/
theorem B_X7_isAsk_0 {d : Nat} {Q : Int → am_H → Prop} {h : am_H} {v0 : Int} (H : (v0 = 41 → wf d M_X7_isAsk Q 12 [none] [] h) ∧ (¬ v0 = 41 → (¬ v0 = 44 → Q 0 h) ∧ (v0 = 44 → wf d M_X7_isAsk Q 12 [none] [] h))) : wf d M_X7_isAsk Q 0 [some (.inl v0)] [] h := by
  intro h0
  refine ar_iload_n (pc := 0) (i := 0) (k0 := 0) (by decide +kernel) rfl rfl ?_
  refine ar_bipush (pc := 1) (z := 41) (by decide +kernel) (by omega) ?_
  refine ar_icmp_eq (pc := 3) (x := v0) (y := 41) (tgt := 12) (off := 9) (by decide +kernel) (by decide) (fun c1 => ?_) (fun c1 => ?_)
  · replace H := H.1 c1
    refine ar_forget [false] rfl ?_
    exact H h0
  · replace H := H.2 c1
    refine ar_iload_n (pc := 6) (i := 0) (k0 := 0) (by decide +kernel) rfl rfl ?_
    refine ar_bipush (pc := 7) (z := 44) (by decide +kernel) (by omega) ?_
    refine ar_icmp_ne (pc := 9) (x := v0) (y := 44) (tgt := 16) (off := 7) (by decide +kernel) (by decide) (fun c2 => ?_) (fun c2 => ?_)
    · replace H := H.1 c2
      refine ar_iconst (pc := 16) (z := 0) (by decide +kernel) (by unfold am_i32; omega) ?_
      exact ar_zret (pc := 17) (x := 0) (by decide +kernel) rfl rfl (by decide) H
    · replace H := H.2 c2
      refine ar_forget [false] rfl ?_
      exact H h0
theorem B_X7_isAsk_12 {d : Nat} {Q : Int → am_H → Prop} {h : am_H} (H : Q 1 h) : wf d M_X7_isAsk Q 12 [none] [] h := by
  intro h0
  refine ar_iconst (pc := 12) (z := 1) (by decide +kernel) (by unfold am_i32; omega) ?_
  refine ar_goto (pc := 13) (tgt := 17) (off := 4) (by decide +kernel) (by decide) ?_
  exact ar_zret (pc := 17) (x := 1) (by decide +kernel) rfl rfl (by decide) H

/-! ByteIntervalsModel.isAskAhead()Z -/
theorem B_X7_isAskAhead_0 {d : Nat} {Q : Int → am_H → Prop} {h : am_H} (H : cf d M_X7_openNow [.inr (.inr 294)] h (fun r1 h2 => cf d M_X7_isAsk [.inl r1] h2 (fun r3 h4 => (r3 = 0 → Q 0 h4) ∧ (¬ r3 = 0 → (0 ≤ (am_w32 ((h4 294 16) - 1))) ∧ (((am_w32 ((h4 294 16) - 1)) < 160) ∧ ((40 ≤ (h4 299 (am_w32 ((h4 294 16) - 1))) → wf (d + 1) M_X7_isAskAhead Q 48 [none] [] h4) ∧ ((h4 299 (am_w32 ((h4 294 16) - 1))) < 40 → cf d M_X7_rank [.inl (h4 299 (am_w32 ((h4 294 16) - 1)))] h4 (fun r9 h10 => cf d M_X7_isIn [.inl r9, .inl 1, .inl 3] h10 (fun r11 h12 => (r11 = 0 → Q 0 h12) ∧ (¬ r11 = 0 → wf (d + 1) M_X7_isAskAhead Q 48 [none] [] h12)))))))))) : wf (d + 1) M_X7_isAskAhead Q 0 [some (.inr (.inr 294))] [] h := by
  intro h0
  refine ar_aload_n (pc := 0) (i := 0) (k0 := 0) (by decide +kernel) rfl rfl ?_
  refine ar_callV (pc := 1) (M2 := M_X7_openNow) (a := 294) (ci := 7) (as := []) (n2 := 321) (st := []) (by decide +kernel) rfl wm_RX7_197 wi_yX7_openNow wl_yX7_openNow k_294 rfl wz_RX7 wc_yX7_openNow ⟨by decide, by decide, rfl⟩ (by decide) (Nat.le_of_ble_eq_true rfl) (Nat.le_refl _) (Nat.le_refl _) (am_Cl_mono H (fun r1 h2 H => ?_))
  show am_Wp true (d + 1) M_X7_isAskAhead 321 321 h0 Q 4 [some (.inr (.inr 294))] [.inl r1] 321 h2
  refine ar_callS (pc := 4) (M2 := M_X7_isAsk) (as := [.inl r1]) (n2 := 321) (st := []) (by decide +kernel) rfl wm_RX7_200 ws_yX7_isAsk wz_RX7 wc_yX7_isAsk ⟨by decide, by decide, rfl⟩ (by decide) (Nat.le_of_ble_eq_true rfl) (Nat.le_refl _) (Nat.le_refl _) (am_Cl_mono H (fun r3 h4 H => ?_))
  show am_Wp true (d + 1) M_X7_isAskAhead 321 321 h0 Q 7 [some (.inr (.inr 294))] [.inl r3] 321 h4
  refine ar_if_eq (pc := 7) (x := r3) (tgt := 52) (off := 45) (by decide +kernel) (by decide) (fun c5 => ?_) (fun c5 => ?_)
  · replace H := H.1 c5
    refine ar_iconst (pc := 52) (z := 0) (by decide +kernel) (by unfold am_i32; omega) ?_
    exact ar_zret (pc := 53) (x := 0) (by decide +kernel) rfl rfl (by decide) H
  · replace H := H.2 c5
    refine ar_aload_n (pc := 10) (i := 0) (k0 := 0) (by decide +kernel) rfl rfl ?_
    refine ar_getFV (pc := 11) (a := 294) (b := 299) 7 15 (by decide +kernel) k_294 rfl (by decide) wf_RX7_29 rfl (fun _ => rfl) rfl ?_
    refine ar_aload_n (pc := 14) (i := 0) (k0 := 0) (by decide +kernel) rfl rfl ?_
    refine ar_getV (pc := 15) (a := 294) (v := .inl (h4 294 16)) 7 16 (by decide +kernel) k_294 rfl (by decide) wf_RX7_181 rfl ?_
    refine ar_iconst (pc := 18) (z := 1) (by decide +kernel) (by unfold am_i32; omega) ?_
    refine ar_isub (pc := 19) (x := (h4 294 16)) (y := 1) (by decide +kernel) ?_
    obtain ⟨g6, H⟩ := H
    obtain ⟨g7, H⟩ := H
    refine ar_iald (pc := 20) (a := 299) (i := (am_w32 ((h4 294 16) - 1))) (by decide +kernel) k_299 g6 (am_lt_eq g7 (l_299).symm) ?_
    refine ar_bipush (pc := 21) (z := 40) (by decide +kernel) (by omega) ?_
    refine ar_icmp_ge (pc := 23) (x := (h4 299 (am_w32 ((h4 294 16) - 1)))) (y := 40) (tgt := 48) (off := 25) (by decide +kernel) (by decide) (fun c8 => ?_) (fun c8 => ?_)
    · replace H := H.1 c8
      refine ar_forget [false] rfl ?_
      exact H h0
    · replace H := H.2 c8
      refine ar_aload_n (pc := 26) (i := 0) (k0 := 0) (by decide +kernel) rfl rfl ?_
      refine ar_getFV (pc := 27) (a := 294) (b := 299) 7 15 (by decide +kernel) k_294 rfl (by decide) wf_RX7_29 rfl (fun _ => rfl) rfl ?_
      refine ar_aload_n (pc := 30) (i := 0) (k0 := 0) (by decide +kernel) rfl rfl ?_
      refine ar_getV (pc := 31) (a := 294) (v := .inl (h4 294 16)) 7 16 (by decide +kernel) k_294 rfl (by decide) wf_RX7_181 rfl ?_
      refine ar_iconst (pc := 34) (z := 1) (by decide +kernel) (by unfold am_i32; omega) ?_
      refine ar_isub (pc := 35) (x := (h4 294 16)) (y := 1) (by decide +kernel) ?_
      refine ar_iald (pc := 36) (a := 299) (i := (am_w32 ((h4 294 16) - 1))) (by decide +kernel) k_299 g6 (am_lt_eq g7 (l_299).symm) ?_
      refine ar_callS (pc := 37) (M2 := M_X7_rank) (as := [.inl (h4 299 (am_w32 ((h4 294 16) - 1)))]) (n2 := 321) (st := []) (by decide +kernel) rfl wm_RX7_184 ws_yX7_rank wz_RX7 wc_yX7_rank ⟨by decide, by decide, rfl⟩ (by decide) (Nat.le_of_ble_eq_true rfl) (Nat.le_refl _) (Nat.le_refl _) (am_Cl_mono H (fun r9 h10 H => ?_))
      show am_Wp true (d + 1) M_X7_isAskAhead 321 321 h0 Q 40 [some (.inr (.inr 294))] [.inl r9] 321 h10
      refine ar_iconst (pc := 40) (z := 1) (by decide +kernel) (by unfold am_i32; omega) ?_
      refine ar_iconst (pc := 41) (z := 3) (by decide +kernel) (by unfold am_i32; omega) ?_
      refine ar_callS (pc := 42) (M2 := M_X7_isIn) (as := [.inl r9, .inl 1, .inl 3]) (n2 := 321) (st := []) (by decide +kernel) rfl wm_RX7_108 ws_yX7_isIn wz_RX7 wc_yX7_isIn ⟨by decide, by decide, rfl⟩ (by decide) (Nat.le_of_ble_eq_true rfl) (Nat.le_refl _) (Nat.le_refl _) (am_Cl_mono H (fun r11 h12 H => ?_))
      show am_Wp true (d + 1) M_X7_isAskAhead 321 321 h0 Q 45 [some (.inr (.inr 294))] [.inl r11] 321 h12
      refine ar_if_eq (pc := 45) (x := r11) (tgt := 52) (off := 7) (by decide +kernel) (by decide) (fun c13 => ?_) (fun c13 => ?_)
      · replace H := H.1 c13
        refine ar_iconst (pc := 52) (z := 0) (by decide +kernel) (by unfold am_i32; omega) ?_
        exact ar_zret (pc := 53) (x := 0) (by decide +kernel) rfl rfl (by decide) H
      · replace H := H.2 c13
        refine ar_forget [false] rfl ?_
        exact H h0
theorem B_X7_isAskAhead_48 {d : Nat} {Q : Int → am_H → Prop} {h : am_H} (H : Q 1 h) : wf (d + 1) M_X7_isAskAhead Q 48 [none] [] h := by
  intro h0
  refine ar_iconst (pc := 48) (z := 1) (by decide +kernel) (by unfold am_i32; omega) ?_
  refine ar_goto (pc := 49) (tgt := 53) (off := 4) (by decide +kernel) (by decide) ?_
  exact ar_zret (pc := 53) (x := 1) (by decide +kernel) rfl rfl (by decide) H

/-! ByteIntervalsModel.opened(I)I -/
theorem B_X7_opened_0 {d : Nat} {Q : Int → am_H → Prop} {h : am_H} {v1 : Int} (H : (¬ (h 294 17) = 8 → (0 ≤ (h 294 16)) ∧ (((h 294 16) < 160) ∧ (cf d M_X7_nextToken [.inr (.inr 294)] (am_up (am_up (am_up h 294 17 (am_w32 ((h 294 17) + 1))) 299 (h 294 16) v1) 294 16 (am_w32 ((h 294 16) + 1))) (fun _ h5 => Q 0 h5)))) ∧ ((h 294 17) = 8 → Q 3 h)) : wf (d + 1) M_X7_opened Q 0 [some (.inr (.inr 294)), some (.inl v1)] [] h := by
  intro h0
  refine ar_aload_n (pc := 0) (i := 0) (k0 := 0) (by decide +kernel) rfl rfl ?_
  refine ar_getV (pc := 1) (a := 294) (v := .inl (h 294 17)) 7 17 (by decide +kernel) k_294 rfl (by decide) wf_RX7_191 rfl ?_
  refine ar_bipush (pc := 4) (z := 8) (by decide +kernel) (by omega) ?_
  refine ar_icmp_ne (pc := 6) (x := (h 294 17)) (y := 8) (tgt := 11) (off := 5) (by decide +kernel) (by decide) (fun c1 => ?_) (fun c1 => ?_)
  · replace H := H.1 c1
    refine ar_aload_n (pc := 11) (i := 0) (k0 := 0) (by decide +kernel) rfl rfl ?_
    refine ar_dup (pc := 12) (by decide +kernel) trivial ?_
    refine ar_getV (pc := 13) (a := 294) (v := .inl (h 294 17)) 7 17 (by decide +kernel) k_294 rfl (by decide) wf_RX7_191 rfl ?_
    refine ar_iconst (pc := 16) (z := 1) (by decide +kernel) (by unfold am_i32; omega) ?_
    refine ar_iadd (pc := 17) (x := (h 294 17)) (y := 1) (by decide +kernel) ?_
    refine ar_putI (pc := 18) (a := 294) (z := (am_w32 ((h 294 17) + 1))) 7 17 (by decide +kernel) k_294 rfl (by decide) rfl (fun _ => rfl) rfl wf_RX7_191 ?_
    refine ar_aload_n (pc := 21) (i := 0) (k0 := 0) (by decide +kernel) rfl rfl ?_
    refine ar_getFV (pc := 22) (a := 294) (b := 299) 7 15 (by decide +kernel) k_294 rfl (by decide) wf_RX7_29 rfl (fun _ => rfl) rfl ?_
    refine ar_aload_n (pc := 25) (i := 0) (k0 := 0) (by decide +kernel) rfl rfl ?_
    refine ar_getV (pc := 26) (a := 294) (v := .inl (h 294 16)) 7 16 (by decide +kernel) k_294 rfl (by decide) wf_RX7_181 (by first | rfl | (simp [am_tv, am_ty, tyX7, am_up, am_cp]; done) | (simp [am_tv, am_ty, tyX7, am_up, am_cp] <;> intros <;> omega)) ?_
    refine ar_iload_n (pc := 29) (i := 1) (k0 := 1) (by decide +kernel) rfl rfl ?_
    obtain ⟨g2, H⟩ := H
    obtain ⟨g3, H⟩ := H
    refine ar_iast (pc := 30) (a := 299) (i := (h 294 16)) (z := v1) (by decide +kernel) k_299 g2 (am_lt_eq g3 (l_299).symm) ?_
    refine ar_aload_n (pc := 31) (i := 0) (k0 := 0) (by decide +kernel) rfl rfl ?_
    refine ar_dup (pc := 32) (by decide +kernel) trivial ?_
    refine ar_getV (pc := 33) (a := 294) (v := .inl (h 294 16)) 7 16 (by decide +kernel) k_294 rfl (by decide) wf_RX7_181 (by first | rfl | (simp [am_tv, am_ty, tyX7, am_up, am_cp]; done) | (simp [am_tv, am_ty, tyX7, am_up, am_cp] <;> intros <;> omega)) ?_
    refine ar_iconst (pc := 36) (z := 1) (by decide +kernel) (by unfold am_i32; omega) ?_
    refine ar_iadd (pc := 37) (x := (h 294 16)) (y := 1) (by decide +kernel) ?_
    refine ar_putI (pc := 38) (a := 294) (z := (am_w32 ((h 294 16) + 1))) 7 16 (by decide +kernel) k_294 rfl (by decide) rfl (fun _ => rfl) rfl wf_RX7_181 ?_
    refine ar_aload_n (pc := 41) (i := 0) (k0 := 0) (by decide +kernel) rfl rfl ?_
    refine ar_callV (pc := 42) (M2 := M_X7_nextToken) (a := 294) (ci := 7) (as := []) (n2 := 321) (st := []) (by decide +kernel) rfl wm_RX7_203 wi_yX7_nextToken wl_yX7_nextToken k_294 rfl wz_RX7 wc_yX7_nextToken ⟨by decide, by decide, rfl⟩ (by decide) (Nat.le_of_ble_eq_true rfl) (Nat.le_refl _) (Nat.le_refl _) (am_Cl_mono H (fun r4 h5 H => ?_))
    show am_Wp true (d + 1) M_X7_opened 321 321 h0 Q 45 [some (.inr (.inr 294)), some (.inl v1)] [] 321 h5
    refine ar_iconst (pc := 45) (z := 0) (by decide +kernel) (by unfold am_i32; omega) ?_
    exact ar_iret (pc := 46) (x := 0) (by decide +kernel) rfl rfl H
  · replace H := H.2 c1
    refine ar_iconst (pc := 9) (z := 3) (by decide +kernel) (by unfold am_i32; omega) ?_
    exact ar_iret (pc := 10) (x := 3) (by decide +kernel) rfl rfl H

/-! ByteIntervalsModel.beginOne()I -/
theorem B_X7_beginOne_0 {d : Nat} {Q : Int → am_H → Prop} {h : am_H} (H : (¬ (h 294 9) = 1 → wf (d + 1) M_X7_beginOne Q 20 [some (.inr (.inr 294)), none] [] h) ∧ ((h 294 9) = 1 → ((h 294 10) ≤ 9999 → wf (d + 1) M_X7_beginOne Q 20 [some (.inr (.inr 294)), none] [] h) ∧ (9999 < (h 294 10) → Q 2 h))) : wf (d + 1) M_X7_beginOne Q 0 [some (.inr (.inr 294)), none] [] h := by
  intro h0
  refine ar_aload_n (pc := 0) (i := 0) (k0 := 0) (by decide +kernel) rfl rfl ?_
  refine ar_getV (pc := 1) (a := 294) (v := .inl (h 294 9)) 7 9 (by decide +kernel) k_294 rfl (by decide) wf_RX7_129 rfl ?_
  refine ar_iconst (pc := 4) (z := 1) (by decide +kernel) (by unfold am_i32; omega) ?_
  refine ar_icmp_ne (pc := 5) (x := (h 294 9)) (y := 1) (tgt := 20) (off := 15) (by decide +kernel) (by decide) (fun c1 => ?_) (fun c1 => ?_)
  · replace H := H.1 c1
    exact H h0
  · replace H := H.2 c1
    refine ar_aload_n (pc := 8) (i := 0) (k0 := 0) (by decide +kernel) rfl rfl ?_
    refine ar_getV (pc := 9) (a := 294) (v := .inl (h 294 10)) 7 10 (by decide +kernel) k_294 rfl (by decide) wf_RX7_136 rfl ?_
    refine ar_sipush (pc := 12) (z := 9999) (by decide +kernel) (by omega) ?_
    refine ar_icmp_le (pc := 15) (x := (h 294 10)) (y := 9999) (tgt := 20) (off := 5) (by decide +kernel) (by decide) (fun c2 => ?_) (fun c2 => ?_)
    · replace H := H.1 c2
      exact H h0
    · replace H := H.2 c2
      refine ar_iconst (pc := 18) (z := 2) (by decide +kernel) (by unfold am_i32; omega) ?_
      exact ar_iret (pc := 19) (x := 2) (by decide +kernel) rfl rfl H
theorem B_X7_beginOne_20 {d : Nat} {Q : Int → am_H → Prop} {h : am_H} (H : cf d M_X7_nameOf [.inr (.inr 294)] h (fun r1 h2 => (r1 < 0 → wf (d + 1) M_X7_beginOne Q 39 [some (.inr (.inr 294)), some (.inl r1)] [] h2) ∧ (0 ≤ r1 → cf d M_X7_isOf [.inr (.inr 294), .inl r1] h2 (fun r4 h5 => (¬ r4 = 0 → wf (d + 1) M_X7_beginOne Q 39 [some (.inr (.inr 294)), some (.inl r1)] [] h5) ∧ (r4 = 0 → Q 5 h5))))) : wf (d + 1) M_X7_beginOne Q 20 [some (.inr (.inr 294)), none] [] h := by
  intro h0
  refine ar_aload_n (pc := 20) (i := 0) (k0 := 0) (by decide +kernel) rfl rfl ?_
  refine ar_callV (pc := 21) (M2 := M_X7_nameOf) (a := 294) (ci := 7) (as := []) (n2 := 321) (st := []) (by decide +kernel) rfl wm_RX7_206 wi_yX7_nameOf wl_yX7_nameOf k_294 rfl wz_RX7 wc_yX7_nameOf ⟨by decide, by decide, rfl⟩ (by decide) (Nat.le_of_ble_eq_true rfl) (Nat.le_refl _) (Nat.le_refl _) (am_Cl_mono H (fun r1 h2 H => ?_))
  show am_Wp true (d + 1) M_X7_beginOne 321 321 h0 Q 24 [some (.inr (.inr 294)), none] [.inl r1] 321 h2
  refine ar_istore_n (pc := 24) (i := 1) (k0 := 1) (ls2 := [some (.inr (.inr 294)), some (.inl r1)]) (by decide +kernel) rfl (by decide) rfl ?_
  refine ar_iload_n (pc := 25) (i := 1) (k0 := 1) (by decide +kernel) rfl rfl ?_
  refine ar_if_lt (pc := 26) (x := r1) (tgt := 39) (off := 13) (by decide +kernel) (by decide) (fun c3 => ?_) (fun c3 => ?_)
  · replace H := H.1 c3
    exact H h0
  · replace H := H.2 c3
    refine ar_aload_n (pc := 29) (i := 0) (k0 := 0) (by decide +kernel) rfl rfl ?_
    refine ar_iload_n (pc := 30) (i := 1) (k0 := 1) (by decide +kernel) rfl rfl ?_
    refine ar_callV (pc := 31) (M2 := M_X7_isOf) (a := 294) (ci := 7) (as := [.inl r1]) (n2 := 321) (st := []) (by decide +kernel) rfl wm_RX7_209 wi_yX7_isOf wl_yX7_isOf k_294 rfl wz_RX7 wc_yX7_isOf ⟨by decide, by decide, rfl⟩ (by decide) (Nat.le_of_ble_eq_true rfl) (Nat.le_refl _) (Nat.le_refl _) (am_Cl_mono H (fun r4 h5 H => ?_))
    show am_Wp true (d + 1) M_X7_beginOne 321 321 h0 Q 34 [some (.inr (.inr 294)), some (.inl r1)] [.inl r4] 321 h5
    refine ar_if_ne (pc := 34) (x := r4) (tgt := 39) (off := 5) (by decide +kernel) (by decide) (fun c6 => ?_) (fun c6 => ?_)
    · replace H := H.1 c6
      exact H h0
    · replace H := H.2 c6
      refine ar_iconst (pc := 37) (z := 5) (by decide +kernel) (by unfold am_i32; omega) ?_
      exact ar_iret (pc := 38) (x := 5) (by decide +kernel) rfl rfl H
theorem B_X7_beginOne_39 {d : Nat} {Q : Int → am_H → Prop} {h : am_H} {v1 : Int} (H : ((h 294 9) = 1 → wf (d + 1) M_X7_beginOne Q 51 [some (.inr (.inr 294)), some (.inl v1)] [] h) ∧ (¬ (h 294 9) = 1 → (v1 < 0 → (¬ (h 294 9) = 40 → (¬ (h 294 9) = 45 → cf d M_X7_w4 [.inl 112, .inl 101, .inl 101, .inl 107] h (fun r5 h6 => cf d M_X7_isWord [.inr (.inr 294), .inr (.inl r5)] h6 (fun r7 h8 => (r7 = 0 → cf d M_X7_w2 [.inl 105, .inl 102] h8 (fun r10 h11 => cf d M_X7_isWord [.inr (.inr 294), .inr (.inl r10)] h11 (fun r12 h13 => (r12 = 0 → cf d M_X7_w3 [.inl 110, .inl 111, .inl 116] h13 (fun r15 h16 => cf d M_X7_isWord [.inr (.inr 294), .inr (.inl r15)] h16 (fun r17 h18 => (r17 = 0 → Q 1 h18) ∧ (¬ r17 = 0 → cf d M_X7_isAskAhead [.inr (.inr 294)] h18 (fun r20 h21 => (r20 = 0 → Q 1 h21) ∧ (¬ r20 = 0 → cf d M_X7_opened [.inr (.inr 294), .inl 20] h21 (fun r23 h24 => Q r23 h24))))))) ∧ (¬ r12 = 0 → cf d M_X7_opened [.inr (.inr 294), .inl 41] h13 (fun r25 h26 => Q r25 h26))))) ∧ (¬ r7 = 0 → cf d M_X7_opened [.inr (.inr 294), .inl 2] h8 (fun r27 h28 => Q r27 h28))))) ∧ ((h 294 9) = 45 → cf d M_X7_opened [.inr (.inr 294), .inl 5] h (fun r29 h30 => Q r29 h30))) ∧ ((h 294 9) = 40 → cf d M_X7_opened [.inr (.inr 294), .inl 40] h (fun r31 h32 => Q r31 h32))) ∧ (0 ≤ v1 → wf (d + 1) M_X7_beginOne Q 51 [some (.inr (.inr 294)), some (.inl v1)] [] h))) : wf (d + 1) M_X7_beginOne Q 39 [some (.inr (.inr 294)), some (.inl v1)] [] h := by
  intro h0
  refine ar_aload_n (pc := 39) (i := 0) (k0 := 0) (by decide +kernel) rfl rfl ?_
  refine ar_getV (pc := 40) (a := 294) (v := .inl (h 294 9)) 7 9 (by decide +kernel) k_294 rfl (by decide) wf_RX7_129 rfl ?_
  refine ar_iconst (pc := 43) (z := 1) (by decide +kernel) (by unfold am_i32; omega) ?_
  refine ar_icmp_eq (pc := 44) (x := (h 294 9)) (y := 1) (tgt := 51) (off := 7) (by decide +kernel) (by decide) (fun c1 => ?_) (fun c1 => ?_)
  · replace H := H.1 c1
    exact H h0
  · replace H := H.2 c1
    refine ar_iload_n (pc := 47) (i := 1) (k0 := 1) (by decide +kernel) rfl rfl ?_
    refine ar_if_lt (pc := 48) (x := v1) (tgt := 101) (off := 53) (by decide +kernel) (by decide) (fun c2 => ?_) (fun c2 => ?_)
    · replace H := H.1 c2
      refine ar_aload_n (pc := 101) (i := 0) (k0 := 0) (by decide +kernel) rfl rfl ?_
      refine ar_getV (pc := 102) (a := 294) (v := .inl (h 294 9)) 7 9 (by decide +kernel) k_294 rfl (by decide) wf_RX7_129 rfl ?_
      refine ar_bipush (pc := 105) (z := 40) (by decide +kernel) (by omega) ?_
      refine ar_icmp_ne (pc := 107) (x := (h 294 9)) (y := 40) (tgt := 117) (off := 10) (by decide +kernel) (by decide) (fun c3 => ?_) (fun c3 => ?_)
      · replace H := H.1 c3
        refine ar_aload_n (pc := 117) (i := 0) (k0 := 0) (by decide +kernel) rfl rfl ?_
        refine ar_getV (pc := 118) (a := 294) (v := .inl (h 294 9)) 7 9 (by decide +kernel) k_294 rfl (by decide) wf_RX7_129 rfl ?_
        refine ar_bipush (pc := 121) (z := 45) (by decide +kernel) (by omega) ?_
        refine ar_icmp_ne (pc := 123) (x := (h 294 9)) (y := 45) (tgt := 132) (off := 9) (by decide +kernel) (by decide) (fun c4 => ?_) (fun c4 => ?_)
        · replace H := H.1 c4
          refine ar_aload_n (pc := 132) (i := 0) (k0 := 0) (by decide +kernel) rfl rfl ?_
          refine ar_bipush (pc := 133) (z := 112) (by decide +kernel) (by omega) ?_
          refine ar_bipush (pc := 135) (z := 101) (by decide +kernel) (by omega) ?_
          refine ar_bipush (pc := 137) (z := 101) (by decide +kernel) (by omega) ?_
          refine ar_bipush (pc := 139) (z := 107) (by decide +kernel) (by omega) ?_
          refine ar_callS (pc := 141) (M2 := M_X7_w4) (as := [.inl 112, .inl 101, .inl 101, .inl 107]) (n2 := 321) (st := [.inr (.inr 294)]) (by decide +kernel) rfl wm_RX7_160 ws_yX7_w4 wz_RX7 wc_yX7_w4 ⟨by decide, by decide, rfl⟩ (by decide) (Nat.le_of_ble_eq_true rfl) (Nat.le_refl _) (Nat.le_refl _) (am_Cl_mono H (fun r5 h6 H => ?_))
          show am_Wp true (d + 1) M_X7_beginOne 321 321 h0 Q 144 [some (.inr (.inr 294)), some (.inl v1)] [.inr (.inl r5), .inr (.inr 294)] 321 h6
          refine ar_callV (pc := 144) (M2 := M_X7_isWord) (a := 294) (ci := 7) (as := [.inr (.inl r5)]) (n2 := 321) (st := []) (by decide +kernel) rfl wm_RX7_221 wi_yX7_isWord wl_yX7_isWord k_294 rfl wz_RX7 wc_yX7_isWord ⟨by decide, by decide, rfl⟩ (by decide) (Nat.le_of_ble_eq_true rfl) (Nat.le_refl _) (Nat.le_refl _) (am_Cl_mono H (fun r7 h8 H => ?_))
          show am_Wp true (d + 1) M_X7_beginOne 321 321 h0 Q 147 [some (.inr (.inr 294)), some (.inl v1)] [.inl r7] 321 h8
          refine ar_if_eq (pc := 147) (x := r7) (tgt := 156) (off := 9) (by decide +kernel) (by decide) (fun c9 => ?_) (fun c9 => ?_)
          · replace H := H.1 c9
            refine ar_aload_n (pc := 156) (i := 0) (k0 := 0) (by decide +kernel) rfl rfl ?_
            refine ar_bipush (pc := 157) (z := 105) (by decide +kernel) (by omega) ?_
            refine ar_bipush (pc := 159) (z := 102) (by decide +kernel) (by omega) ?_
            refine ar_callS (pc := 161) (M2 := M_X7_w2) (as := [.inl 105, .inl 102]) (n2 := 321) (st := [.inr (.inr 294)]) (by decide +kernel) rfl wm_RX7_152 ws_yX7_w2 wz_RX7 wc_yX7_w2 ⟨by decide, by decide, rfl⟩ (by decide) (Nat.le_of_ble_eq_true rfl) (Nat.le_refl _) (Nat.le_refl _) (am_Cl_mono H (fun r10 h11 H => ?_))
            show am_Wp true (d + 1) M_X7_beginOne 321 321 h0 Q 164 [some (.inr (.inr 294)), some (.inl v1)] [.inr (.inl r10), .inr (.inr 294)] 321 h11
            refine ar_callV (pc := 164) (M2 := M_X7_isWord) (a := 294) (ci := 7) (as := [.inr (.inl r10)]) (n2 := 321) (st := []) (by decide +kernel) rfl wm_RX7_221 wi_yX7_isWord wl_yX7_isWord k_294 rfl wz_RX7 wc_yX7_isWord ⟨by decide, by decide, rfl⟩ (by decide) (Nat.le_of_ble_eq_true rfl) (Nat.le_refl _) (Nat.le_refl _) (am_Cl_mono H (fun r12 h13 H => ?_))
            show am_Wp true (d + 1) M_X7_beginOne 321 321 h0 Q 167 [some (.inr (.inr 294)), some (.inl v1)] [.inl r12] 321 h13
            refine ar_if_eq (pc := 167) (x := r12) (tgt := 177) (off := 10) (by decide +kernel) (by decide) (fun c14 => ?_) (fun c14 => ?_)
            · replace H := H.1 c14
              refine ar_aload_n (pc := 177) (i := 0) (k0 := 0) (by decide +kernel) rfl rfl ?_
              refine ar_bipush (pc := 178) (z := 110) (by decide +kernel) (by omega) ?_
              refine ar_bipush (pc := 180) (z := 111) (by decide +kernel) (by omega) ?_
              refine ar_bipush (pc := 182) (z := 116) (by decide +kernel) (by omega) ?_
              refine ar_callS (pc := 184) (M2 := M_X7_w3) (as := [.inl 110, .inl 111, .inl 116]) (n2 := 321) (st := [.inr (.inr 294)]) (by decide +kernel) rfl wm_RX7_156 ws_yX7_w3 wz_RX7 wc_yX7_w3 ⟨by decide, by decide, rfl⟩ (by decide) (Nat.le_of_ble_eq_true rfl) (Nat.le_refl _) (Nat.le_refl _) (am_Cl_mono H (fun r15 h16 H => ?_))
              show am_Wp true (d + 1) M_X7_beginOne 321 321 h0 Q 187 [some (.inr (.inr 294)), some (.inl v1)] [.inr (.inl r15), .inr (.inr 294)] 321 h16
              refine ar_callV (pc := 187) (M2 := M_X7_isWord) (a := 294) (ci := 7) (as := [.inr (.inl r15)]) (n2 := 321) (st := []) (by decide +kernel) rfl wm_RX7_221 wi_yX7_isWord wl_yX7_isWord k_294 rfl wz_RX7 wc_yX7_isWord ⟨by decide, by decide, rfl⟩ (by decide) (Nat.le_of_ble_eq_true rfl) (Nat.le_refl _) (Nat.le_refl _) (am_Cl_mono H (fun r17 h18 H => ?_))
              show am_Wp true (d + 1) M_X7_beginOne 321 321 h0 Q 190 [some (.inr (.inr 294)), some (.inl v1)] [.inl r17] 321 h18
              refine ar_if_eq (pc := 190) (x := r17) (tgt := 209) (off := 19) (by decide +kernel) (by decide) (fun c19 => ?_) (fun c19 => ?_)
              · replace H := H.1 c19
                refine ar_iconst (pc := 209) (z := 1) (by decide +kernel) (by unfold am_i32; omega) ?_
                exact ar_iret (pc := 210) (x := 1) (by decide +kernel) rfl rfl H
              · replace H := H.2 c19
                refine ar_aload_n (pc := 193) (i := 0) (k0 := 0) (by decide +kernel) rfl rfl ?_
                refine ar_callV (pc := 194) (M2 := M_X7_isAskAhead) (a := 294) (ci := 7) (as := []) (n2 := 321) (st := []) (by decide +kernel) rfl wm_RX7_225 wi_yX7_isAskAhead wl_yX7_isAskAhead k_294 rfl wz_RX7 wc_yX7_isAskAhead ⟨by decide, by decide, rfl⟩ (by decide) (Nat.le_of_ble_eq_true rfl) (Nat.le_refl _) (Nat.le_refl _) (am_Cl_mono H (fun r20 h21 H => ?_))
                show am_Wp true (d + 1) M_X7_beginOne 321 321 h0 Q 197 [some (.inr (.inr 294)), some (.inl v1)] [.inl r20] 321 h21
                refine ar_if_eq (pc := 197) (x := r20) (tgt := 209) (off := 12) (by decide +kernel) (by decide) (fun c22 => ?_) (fun c22 => ?_)
                · replace H := H.1 c22
                  refine ar_iconst (pc := 209) (z := 1) (by decide +kernel) (by unfold am_i32; omega) ?_
                  exact ar_iret (pc := 210) (x := 1) (by decide +kernel) rfl rfl H
                · replace H := H.2 c22
                  refine ar_aload_n (pc := 200) (i := 0) (k0 := 0) (by decide +kernel) rfl rfl ?_
                  refine ar_bipush (pc := 201) (z := 20) (by decide +kernel) (by omega) ?_
                  refine ar_callV (pc := 203) (M2 := M_X7_opened) (a := 294) (ci := 7) (as := [.inl 20]) (n2 := 321) (st := []) (by decide +kernel) rfl wm_RX7_218 wi_yX7_opened wl_yX7_opened k_294 rfl wz_RX7 wc_yX7_opened ⟨by decide, by decide, rfl⟩ (by decide) (Nat.le_of_ble_eq_true rfl) (Nat.le_refl _) (Nat.le_refl _) (am_Cl_mono H (fun r23 h24 H => ?_))
                  show am_Wp true (d + 1) M_X7_beginOne 321 321 h0 Q 206 [some (.inr (.inr 294)), some (.inl v1)] [.inl r23] 321 h24
                  refine ar_goto (pc := 206) (tgt := 210) (off := 4) (by decide +kernel) (by decide) ?_
                  exact ar_iret (pc := 210) (x := r23) (by decide +kernel) rfl rfl H
            · replace H := H.2 c14
              refine ar_aload_n (pc := 170) (i := 0) (k0 := 0) (by decide +kernel) rfl rfl ?_
              refine ar_bipush (pc := 171) (z := 41) (by decide +kernel) (by omega) ?_
              refine ar_callV (pc := 173) (M2 := M_X7_opened) (a := 294) (ci := 7) (as := [.inl 41]) (n2 := 321) (st := []) (by decide +kernel) rfl wm_RX7_218 wi_yX7_opened wl_yX7_opened k_294 rfl wz_RX7 wc_yX7_opened ⟨by decide, by decide, rfl⟩ (by decide) (Nat.le_of_ble_eq_true rfl) (Nat.le_refl _) (Nat.le_refl _) (am_Cl_mono H (fun r25 h26 H => ?_))
              show am_Wp true (d + 1) M_X7_beginOne 321 321 h0 Q 176 [some (.inr (.inr 294)), some (.inl v1)] [.inl r25] 321 h26
              exact ar_iret (pc := 176) (x := r25) (by decide +kernel) rfl rfl H
          · replace H := H.2 c9
            refine ar_aload_n (pc := 150) (i := 0) (k0 := 0) (by decide +kernel) rfl rfl ?_
            refine ar_iconst (pc := 151) (z := 2) (by decide +kernel) (by unfold am_i32; omega) ?_
            refine ar_callV (pc := 152) (M2 := M_X7_opened) (a := 294) (ci := 7) (as := [.inl 2]) (n2 := 321) (st := []) (by decide +kernel) rfl wm_RX7_218 wi_yX7_opened wl_yX7_opened k_294 rfl wz_RX7 wc_yX7_opened ⟨by decide, by decide, rfl⟩ (by decide) (Nat.le_of_ble_eq_true rfl) (Nat.le_refl _) (Nat.le_refl _) (am_Cl_mono H (fun r27 h28 H => ?_))
            show am_Wp true (d + 1) M_X7_beginOne 321 321 h0 Q 155 [some (.inr (.inr 294)), some (.inl v1)] [.inl r27] 321 h28
            exact ar_iret (pc := 155) (x := r27) (by decide +kernel) rfl rfl H
        · replace H := H.2 c4
          refine ar_aload_n (pc := 126) (i := 0) (k0 := 0) (by decide +kernel) rfl rfl ?_
          refine ar_iconst (pc := 127) (z := 5) (by decide +kernel) (by unfold am_i32; omega) ?_
          refine ar_callV (pc := 128) (M2 := M_X7_opened) (a := 294) (ci := 7) (as := [.inl 5]) (n2 := 321) (st := []) (by decide +kernel) rfl wm_RX7_218 wi_yX7_opened wl_yX7_opened k_294 rfl wz_RX7 wc_yX7_opened ⟨by decide, by decide, rfl⟩ (by decide) (Nat.le_of_ble_eq_true rfl) (Nat.le_refl _) (Nat.le_refl _) (am_Cl_mono H (fun r29 h30 H => ?_))
          show am_Wp true (d + 1) M_X7_beginOne 321 321 h0 Q 131 [some (.inr (.inr 294)), some (.inl v1)] [.inl r29] 321 h30
          exact ar_iret (pc := 131) (x := r29) (by decide +kernel) rfl rfl H
      · replace H := H.2 c3
        refine ar_aload_n (pc := 110) (i := 0) (k0 := 0) (by decide +kernel) rfl rfl ?_
        refine ar_bipush (pc := 111) (z := 40) (by decide +kernel) (by omega) ?_
        refine ar_callV (pc := 113) (M2 := M_X7_opened) (a := 294) (ci := 7) (as := [.inl 40]) (n2 := 321) (st := []) (by decide +kernel) rfl wm_RX7_218 wi_yX7_opened wl_yX7_opened k_294 rfl wz_RX7 wc_yX7_opened ⟨by decide, by decide, rfl⟩ (by decide) (Nat.le_of_ble_eq_true rfl) (Nat.le_refl _) (Nat.le_refl _) (am_Cl_mono H (fun r31 h32 H => ?_))
        show am_Wp true (d + 1) M_X7_beginOne 321 321 h0 Q 116 [some (.inr (.inr 294)), some (.inl v1)] [.inl r31] 321 h32
        exact ar_iret (pc := 116) (x := r31) (by decide +kernel) rfl rfl H
    · replace H := H.2 c2
      exact H h0
theorem B_X7_beginOne_51 {d : Nat} {Q : Int → am_H → Prop} {h : am_H} {v1 : Int} (H : (¬ (h 294 9) = 1 → wf (d + 1) M_X7_beginOne Q 65 [some (.inr (.inr 294)), some (.inl v1)] [.inl 1, .inr (.inr 294)] h) ∧ ((h 294 9) = 1 → wf (d + 1) M_X7_beginOne Q 65 [some (.inr (.inr 294)), some (.inl v1)] [.inl 0, .inr (.inr 294)] h)) : wf (d + 1) M_X7_beginOne Q 51 [some (.inr (.inr 294)), some (.inl v1)] [] h := by
  intro h0
  refine ar_aload_n (pc := 51) (i := 0) (k0 := 0) (by decide +kernel) rfl rfl ?_
  refine ar_aload_n (pc := 52) (i := 0) (k0 := 0) (by decide +kernel) rfl rfl ?_
  refine ar_getV (pc := 53) (a := 294) (v := .inl (h 294 9)) 7 9 (by decide +kernel) k_294 rfl (by decide) wf_RX7_129 rfl ?_
  refine ar_iconst (pc := 56) (z := 1) (by decide +kernel) (by unfold am_i32; omega) ?_
  refine ar_icmp_ne (pc := 57) (x := (h 294 9)) (y := 1) (tgt := 64) (off := 7) (by decide +kernel) (by decide) (fun c1 => ?_) (fun c1 => ?_)
  · replace H := H.1 c1
    refine ar_iconst (pc := 64) (z := 1) (by decide +kernel) (by unfold am_i32; omega) ?_
    exact H h0
  · replace H := H.2 c1
    refine ar_iconst (pc := 60) (z := 0) (by decide +kernel) (by unfold am_i32; omega) ?_
    refine ar_goto (pc := 61) (tgt := 65) (off := 4) (by decide +kernel) (by decide) ?_
    exact H h0
theorem B_X7_beginOne_65 {d : Nat} {Q : Int → am_H → Prop} {h : am_H} {v1 s1 : Int} (H : (¬ (h 294 9) = 1 → wf (d + 1) M_X7_beginOne Q 81 [some (.inr (.inr 294)), none] [.inl v1, .inl s1, .inr (.inr 294)] h) ∧ ((h 294 9) = 1 → wf (d + 1) M_X7_beginOne Q 81 [some (.inr (.inr 294)), none] [.inl (h 294 10), .inl s1, .inr (.inr 294)] h)) : wf (d + 1) M_X7_beginOne Q 65 [some (.inr (.inr 294)), some (.inl v1)] [.inl s1, .inr (.inr 294)] h := by
  intro h0
  refine ar_aload_n (pc := 65) (i := 0) (k0 := 0) (by decide +kernel) rfl rfl ?_
  refine ar_getV (pc := 66) (a := 294) (v := .inl (h 294 9)) 7 9 (by decide +kernel) k_294 rfl (by decide) wf_RX7_129 rfl ?_
  refine ar_iconst (pc := 69) (z := 1) (by decide +kernel) (by unfold am_i32; omega) ?_
  refine ar_icmp_ne (pc := 70) (x := (h 294 9)) (y := 1) (tgt := 80) (off := 10) (by decide +kernel) (by decide) (fun c1 => ?_) (fun c1 => ?_)
  · replace H := H.1 c1
    refine ar_iload_n (pc := 80) (i := 1) (k0 := 1) (by decide +kernel) rfl rfl ?_
    refine ar_forget [true, false] rfl ?_
    exact H h0
  · replace H := H.2 c1
    refine ar_aload_n (pc := 73) (i := 0) (k0 := 0) (by decide +kernel) rfl rfl ?_
    refine ar_getV (pc := 74) (a := 294) (v := .inl (h 294 10)) 7 10 (by decide +kernel) k_294 rfl (by decide) wf_RX7_136 rfl ?_
    refine ar_goto (pc := 77) (tgt := 81) (off := 4) (by decide +kernel) (by decide) ?_
    refine ar_forget [true, false] rfl ?_
    exact H h0
theorem B_X7_beginOne_81 {d : Nat} {Q : Int → am_H → Prop} {h : am_H} {s1 s2 : Int} (H : cf d M_X7_emit [.inr (.inr 294), .inl s1, .inl s2] h (fun _ h2 => cf d M_X7_nextToken [.inr (.inr 294)] h2 (fun _ h4 => cf d M_X7_settle [.inr (.inr 294), .inl 7] (am_up h4 294 18 1) (fun _ h6 => Q 0 h6)))) : wf (d + 1) M_X7_beginOne Q 81 [some (.inr (.inr 294)), none] [.inl s2, .inl s1, .inr (.inr 294)] h := by
  intro h0
  refine ar_callV (pc := 81) (M2 := M_X7_emit) (a := 294) (ci := 7) (as := [.inl s1, .inl s2]) (n2 := 321) (st := []) (by decide +kernel) rfl wm_RX7_187 wi_yX7_emit wl_yX7_emit k_294 rfl wz_RX7 wc_yX7_emit ⟨by decide, by decide, rfl⟩ (by decide) (Nat.le_of_ble_eq_true rfl) (Nat.le_refl _) (Nat.le_refl _) (am_Cl_mono H (fun r1 h2 H => ?_))
  show am_Wp true (d + 1) M_X7_beginOne 321 321 h0 Q 84 [some (.inr (.inr 294)), none] [] 321 h2
  refine ar_aload_n (pc := 84) (i := 0) (k0 := 0) (by decide +kernel) rfl rfl ?_
  refine ar_callV (pc := 85) (M2 := M_X7_nextToken) (a := 294) (ci := 7) (as := []) (n2 := 321) (st := []) (by decide +kernel) rfl wm_RX7_203 wi_yX7_nextToken wl_yX7_nextToken k_294 rfl wz_RX7 wc_yX7_nextToken ⟨by decide, by decide, rfl⟩ (by decide) (Nat.le_of_ble_eq_true rfl) (Nat.le_refl _) (Nat.le_refl _) (am_Cl_mono H (fun r3 h4 H => ?_))
  show am_Wp true (d + 1) M_X7_beginOne 321 321 h0 Q 88 [some (.inr (.inr 294)), none] [] 321 h4
  refine ar_aload_n (pc := 88) (i := 0) (k0 := 0) (by decide +kernel) rfl rfl ?_
  refine ar_iconst (pc := 89) (z := 1) (by decide +kernel) (by unfold am_i32; omega) ?_
  refine ar_putZ (pc := 90) (a := 294) (z := 1) 7 18 (by decide +kernel) k_294 rfl (by decide) rfl (fun _ => rfl) rfl (by decide) wf_RX7_212 ?_
  refine ar_aload_n (pc := 93) (i := 0) (k0 := 0) (by decide +kernel) rfl rfl ?_
  refine ar_bipush (pc := 94) (z := 7) (by decide +kernel) (by omega) ?_
  refine ar_callV (pc := 96) (M2 := M_X7_settle) (a := 294) (ci := 7) (as := [.inl 7]) (n2 := 321) (st := []) (by decide +kernel) rfl wm_RX7_215 wi_yX7_settle wl_yX7_settle k_294 rfl wz_RX7 wc_yX7_settle ⟨by decide, by decide, rfl⟩ (by decide) (Nat.le_of_ble_eq_true rfl) (Nat.le_refl _) (Nat.le_refl _) (am_Cl_mono H (fun r5 h6 H => ?_))
  show am_Wp true (d + 1) M_X7_beginOne 321 321 h0 Q 99 [some (.inr (.inr 294)), none] [] 321 h6
  refine ar_iconst (pc := 99) (z := 0) (by decide +kernel) (by unfold am_i32; omega) ?_
  exact ar_iret (pc := 100) (x := 0) (by decide +kernel) rfl rfl H

/-! ByteIntervalsModel.compareOf()I -/
theorem B_X7_compareOf_0 {d : Nat} {Q : Int → am_H → Prop} {h : am_H} (H : (¬ (h 294 9) = 60 → (¬ (h 294 9) = 4 → (¬ (h 294 9) = 62 → (¬ (h 294 9) = 5 → (¬ (h 294 9) = 61 → (¬ (h 294 9) = 35 → Q (-1) h) ∧ ((h 294 9) = 35 → Q 15 h)) ∧ ((h 294 9) = 61 → Q 14 h)) ∧ ((h 294 9) = 5 → Q 13 h)) ∧ ((h 294 9) = 62 → Q 12 h)) ∧ ((h 294 9) = 4 → Q 11 h)) ∧ ((h 294 9) = 60 → Q 10 h)) : wf d M_X7_compareOf Q 0 [some (.inr (.inr 294))] [] h := by
  intro h0
  refine ar_aload_n (pc := 0) (i := 0) (k0 := 0) (by decide +kernel) rfl rfl ?_
  refine ar_getV (pc := 1) (a := 294) (v := .inl (h 294 9)) 7 9 (by decide +kernel) k_294 rfl (by decide) wf_RX7_129 rfl ?_
  refine ar_bipush (pc := 4) (z := 60) (by decide +kernel) (by omega) ?_
  refine ar_icmp_ne (pc := 6) (x := (h 294 9)) (y := 60) (tgt := 14) (off := 8) (by decide +kernel) (by decide) (fun c1 => ?_) (fun c1 => ?_)
  · replace H := H.1 c1
    refine ar_aload_n (pc := 14) (i := 0) (k0 := 0) (by decide +kernel) rfl rfl ?_
    refine ar_getV (pc := 15) (a := 294) (v := .inl (h 294 9)) 7 9 (by decide +kernel) k_294 rfl (by decide) wf_RX7_129 rfl ?_
    refine ar_iconst (pc := 18) (z := 4) (by decide +kernel) (by unfold am_i32; omega) ?_
    refine ar_icmp_ne (pc := 19) (x := (h 294 9)) (y := 4) (tgt := 27) (off := 8) (by decide +kernel) (by decide) (fun c2 => ?_) (fun c2 => ?_)
    · replace H := H.1 c2
      refine ar_aload_n (pc := 27) (i := 0) (k0 := 0) (by decide +kernel) rfl rfl ?_
      refine ar_getV (pc := 28) (a := 294) (v := .inl (h 294 9)) 7 9 (by decide +kernel) k_294 rfl (by decide) wf_RX7_129 rfl ?_
      refine ar_bipush (pc := 31) (z := 62) (by decide +kernel) (by omega) ?_
      refine ar_icmp_ne (pc := 33) (x := (h 294 9)) (y := 62) (tgt := 41) (off := 8) (by decide +kernel) (by decide) (fun c3 => ?_) (fun c3 => ?_)
      · replace H := H.1 c3
        refine ar_aload_n (pc := 41) (i := 0) (k0 := 0) (by decide +kernel) rfl rfl ?_
        refine ar_getV (pc := 42) (a := 294) (v := .inl (h 294 9)) 7 9 (by decide +kernel) k_294 rfl (by decide) wf_RX7_129 rfl ?_
        refine ar_iconst (pc := 45) (z := 5) (by decide +kernel) (by unfold am_i32; omega) ?_
        refine ar_icmp_ne (pc := 46) (x := (h 294 9)) (y := 5) (tgt := 54) (off := 8) (by decide +kernel) (by decide) (fun c4 => ?_) (fun c4 => ?_)
        · replace H := H.1 c4
          refine ar_aload_n (pc := 54) (i := 0) (k0 := 0) (by decide +kernel) rfl rfl ?_
          refine ar_getV (pc := 55) (a := 294) (v := .inl (h 294 9)) 7 9 (by decide +kernel) k_294 rfl (by decide) wf_RX7_129 rfl ?_
          refine ar_bipush (pc := 58) (z := 61) (by decide +kernel) (by omega) ?_
          refine ar_icmp_ne (pc := 60) (x := (h 294 9)) (y := 61) (tgt := 68) (off := 8) (by decide +kernel) (by decide) (fun c5 => ?_) (fun c5 => ?_)
          · replace H := H.1 c5
            refine ar_aload_n (pc := 68) (i := 0) (k0 := 0) (by decide +kernel) rfl rfl ?_
            refine ar_getV (pc := 69) (a := 294) (v := .inl (h 294 9)) 7 9 (by decide +kernel) k_294 rfl (by decide) wf_RX7_129 rfl ?_
            refine ar_bipush (pc := 72) (z := 35) (by decide +kernel) (by omega) ?_
            refine ar_icmp_ne (pc := 74) (x := (h 294 9)) (y := 35) (tgt := 82) (off := 8) (by decide +kernel) (by decide) (fun c6 => ?_) (fun c6 => ?_)
            · replace H := H.1 c6
              refine ar_iconst (pc := 82) (z := (-1)) (by decide +kernel) (by unfold am_i32; omega) ?_
              exact ar_iret (pc := 83) (x := (-1)) (by decide +kernel) rfl rfl H
            · replace H := H.2 c6
              refine ar_bipush (pc := 77) (z := 15) (by decide +kernel) (by omega) ?_
              refine ar_goto (pc := 79) (tgt := 83) (off := 4) (by decide +kernel) (by decide) ?_
              exact ar_iret (pc := 83) (x := 15) (by decide +kernel) rfl rfl H
          · replace H := H.2 c5
            refine ar_bipush (pc := 63) (z := 14) (by decide +kernel) (by omega) ?_
            refine ar_goto (pc := 65) (tgt := 83) (off := 18) (by decide +kernel) (by decide) ?_
            exact ar_iret (pc := 83) (x := 14) (by decide +kernel) rfl rfl H
        · replace H := H.2 c4
          refine ar_bipush (pc := 49) (z := 13) (by decide +kernel) (by omega) ?_
          refine ar_goto (pc := 51) (tgt := 83) (off := 32) (by decide +kernel) (by decide) ?_
          exact ar_iret (pc := 83) (x := 13) (by decide +kernel) rfl rfl H
      · replace H := H.2 c3
        refine ar_bipush (pc := 36) (z := 12) (by decide +kernel) (by omega) ?_
        refine ar_goto (pc := 38) (tgt := 83) (off := 45) (by decide +kernel) (by decide) ?_
        exact ar_iret (pc := 83) (x := 12) (by decide +kernel) rfl rfl H
    · replace H := H.2 c2
      refine ar_bipush (pc := 22) (z := 11) (by decide +kernel) (by omega) ?_
      refine ar_goto (pc := 24) (tgt := 83) (off := 59) (by decide +kernel) (by decide) ?_
      exact ar_iret (pc := 83) (x := 11) (by decide +kernel) rfl rfl H
  · replace H := H.2 c1
    refine ar_bipush (pc := 9) (z := 10) (by decide +kernel) (by omega) ?_
    refine ar_goto (pc := 11) (tgt := 83) (off := 72) (by decide +kernel) (by decide) ?_
    exact ar_iret (pc := 83) (x := 10) (by decide +kernel) rfl rfl H

/-! ByteIntervalsModel.betweenOf()I -/
theorem B_X7_betweenOf_0 {d : Nat} {Q : Int → am_H → Prop} {h : am_H} (H : (¬ (h 294 9) = 43 → (¬ (h 294 9) = 45 → (¬ (h 294 9) = 42 → (¬ (h 294 9) = 47 → cf d M_X7_openNow [.inr (.inr 294)] h (fun r5 h6 => cf d M_X7_isAsk [.inl r5] h6 (fun r7 h8 => (¬ r7 = 0 → cf d M_X7_isCompared [.inr (.inr 294)] h8 (fun r10 h11 => (¬ r10 = 0 → cf d M_X7_w3 [.inl 97, .inl 110, .inl 100] h11 (fun r13 h14 => cf d M_X7_isWord [.inr (.inr 294), .inr (.inl r13)] h14 (fun r15 h16 => (r15 = 0 → cf d M_X7_w2 [.inl 111, .inl 114] h16 (fun r18 h19 => cf d M_X7_isWord [.inr (.inr 294), .inr (.inl r18)] h19 (fun r20 h21 => (r20 = 0 → Q (-1) h21) ∧ (¬ r20 = 0 → Q 22 h21)))) ∧ (¬ r15 = 0 → Q 21 h16)))) ∧ (r10 = 0 → cf d M_X7_compareOf [.inr (.inr 294)] h11 (fun r23 h24 => Q r23 h24)))) ∧ (r7 = 0 → Q (-1) h8)))) ∧ ((h 294 9) = 47 → Q 9 h)) ∧ ((h 294 9) = 42 → Q 8 h)) ∧ ((h 294 9) = 45 → Q 7 h)) ∧ ((h 294 9) = 43 → Q 6 h)) : wf (d + 1) M_X7_betweenOf Q 0 [some (.inr (.inr 294))] [] h := by
  intro h0
  refine ar_aload_n (pc := 0) (i := 0) (k0 := 0) (by decide +kernel) rfl rfl ?_
  refine ar_getV (pc := 1) (a := 294) (v := .inl (h 294 9)) 7 9 (by decide +kernel) k_294 rfl (by decide) wf_RX7_129 rfl ?_
  refine ar_bipush (pc := 4) (z := 43) (by decide +kernel) (by omega) ?_
  refine ar_icmp_ne (pc := 6) (x := (h 294 9)) (y := 43) (tgt := 12) (off := 6) (by decide +kernel) (by decide) (fun c1 => ?_) (fun c1 => ?_)
  · replace H := H.1 c1
    refine ar_aload_n (pc := 12) (i := 0) (k0 := 0) (by decide +kernel) rfl rfl ?_
    refine ar_getV (pc := 13) (a := 294) (v := .inl (h 294 9)) 7 9 (by decide +kernel) k_294 rfl (by decide) wf_RX7_129 rfl ?_
    refine ar_bipush (pc := 16) (z := 45) (by decide +kernel) (by omega) ?_
    refine ar_icmp_ne (pc := 18) (x := (h 294 9)) (y := 45) (tgt := 24) (off := 6) (by decide +kernel) (by decide) (fun c2 => ?_) (fun c2 => ?_)
    · replace H := H.1 c2
      refine ar_aload_n (pc := 24) (i := 0) (k0 := 0) (by decide +kernel) rfl rfl ?_
      refine ar_getV (pc := 25) (a := 294) (v := .inl (h 294 9)) 7 9 (by decide +kernel) k_294 rfl (by decide) wf_RX7_129 rfl ?_
      refine ar_bipush (pc := 28) (z := 42) (by decide +kernel) (by omega) ?_
      refine ar_icmp_ne (pc := 30) (x := (h 294 9)) (y := 42) (tgt := 36) (off := 6) (by decide +kernel) (by decide) (fun c3 => ?_) (fun c3 => ?_)
      · replace H := H.1 c3
        refine ar_aload_n (pc := 36) (i := 0) (k0 := 0) (by decide +kernel) rfl rfl ?_
        refine ar_getV (pc := 37) (a := 294) (v := .inl (h 294 9)) 7 9 (by decide +kernel) k_294 rfl (by decide) wf_RX7_129 rfl ?_
        refine ar_bipush (pc := 40) (z := 47) (by decide +kernel) (by omega) ?_
        refine ar_icmp_ne (pc := 42) (x := (h 294 9)) (y := 47) (tgt := 48) (off := 6) (by decide +kernel) (by decide) (fun c4 => ?_) (fun c4 => ?_)
        · replace H := H.1 c4
          refine ar_aload_n (pc := 48) (i := 0) (k0 := 0) (by decide +kernel) rfl rfl ?_
          refine ar_callV (pc := 49) (M2 := M_X7_openNow) (a := 294) (ci := 7) (as := []) (n2 := 321) (st := []) (by decide +kernel) rfl wm_RX7_197 wi_yX7_openNow wl_yX7_openNow k_294 rfl wz_RX7 wc_yX7_openNow ⟨by decide, by decide, rfl⟩ (by decide) (Nat.le_of_ble_eq_true rfl) (Nat.le_refl _) (Nat.le_refl _) (am_Cl_mono H (fun r5 h6 H => ?_))
          show am_Wp true (d + 1) M_X7_betweenOf 321 321 h0 Q 52 [some (.inr (.inr 294))] [.inl r5] 321 h6
          refine ar_callS (pc := 52) (M2 := M_X7_isAsk) (as := [.inl r5]) (n2 := 321) (st := []) (by decide +kernel) rfl wm_RX7_200 ws_yX7_isAsk wz_RX7 wc_yX7_isAsk ⟨by decide, by decide, rfl⟩ (by decide) (Nat.le_of_ble_eq_true rfl) (Nat.le_refl _) (Nat.le_refl _) (am_Cl_mono H (fun r7 h8 H => ?_))
          show am_Wp true (d + 1) M_X7_betweenOf 321 321 h0 Q 55 [some (.inr (.inr 294))] [.inl r7] 321 h8
          refine ar_if_ne (pc := 55) (x := r7) (tgt := 60) (off := 5) (by decide +kernel) (by decide) (fun c9 => ?_) (fun c9 => ?_)
          · replace H := H.1 c9
            refine ar_aload_n (pc := 60) (i := 0) (k0 := 0) (by decide +kernel) rfl rfl ?_
            refine ar_callV (pc := 61) (M2 := M_X7_isCompared) (a := 294) (ci := 7) (as := []) (n2 := 321) (st := []) (by decide +kernel) rfl wm_RX7_229 wi_yX7_isCompared wl_yX7_isCompared k_294 rfl wz_RX7 wc_yX7_isCompared ⟨by decide, by decide, rfl⟩ (by decide) (Nat.le_of_ble_eq_true rfl) (Nat.le_refl _) (Nat.le_refl _) (am_Cl_mono H (fun r10 h11 H => ?_))
            show am_Wp true (d + 1) M_X7_betweenOf 321 321 h0 Q 64 [some (.inr (.inr 294))] [.inl r10] 321 h11
            refine ar_if_ne (pc := 64) (x := r10) (tgt := 72) (off := 8) (by decide +kernel) (by decide) (fun c12 => ?_) (fun c12 => ?_)
            · replace H := H.1 c12
              refine ar_aload_n (pc := 72) (i := 0) (k0 := 0) (by decide +kernel) rfl rfl ?_
              refine ar_bipush (pc := 73) (z := 97) (by decide +kernel) (by omega) ?_
              refine ar_bipush (pc := 75) (z := 110) (by decide +kernel) (by omega) ?_
              refine ar_bipush (pc := 77) (z := 100) (by decide +kernel) (by omega) ?_
              refine ar_callS (pc := 79) (M2 := M_X7_w3) (as := [.inl 97, .inl 110, .inl 100]) (n2 := 321) (st := [.inr (.inr 294)]) (by decide +kernel) rfl wm_RX7_156 ws_yX7_w3 wz_RX7 wc_yX7_w3 ⟨by decide, by decide, rfl⟩ (by decide) (Nat.le_of_ble_eq_true rfl) (Nat.le_refl _) (Nat.le_refl _) (am_Cl_mono H (fun r13 h14 H => ?_))
              show am_Wp true (d + 1) M_X7_betweenOf 321 321 h0 Q 82 [some (.inr (.inr 294))] [.inr (.inl r13), .inr (.inr 294)] 321 h14
              refine ar_callV (pc := 82) (M2 := M_X7_isWord) (a := 294) (ci := 7) (as := [.inr (.inl r13)]) (n2 := 321) (st := []) (by decide +kernel) rfl wm_RX7_221 wi_yX7_isWord wl_yX7_isWord k_294 rfl wz_RX7 wc_yX7_isWord ⟨by decide, by decide, rfl⟩ (by decide) (Nat.le_of_ble_eq_true rfl) (Nat.le_refl _) (Nat.le_refl _) (am_Cl_mono H (fun r15 h16 H => ?_))
              show am_Wp true (d + 1) M_X7_betweenOf 321 321 h0 Q 85 [some (.inr (.inr 294))] [.inl r15] 321 h16
              refine ar_if_eq (pc := 85) (x := r15) (tgt := 93) (off := 8) (by decide +kernel) (by decide) (fun c17 => ?_) (fun c17 => ?_)
              · replace H := H.1 c17
                refine ar_aload_n (pc := 93) (i := 0) (k0 := 0) (by decide +kernel) rfl rfl ?_
                refine ar_bipush (pc := 94) (z := 111) (by decide +kernel) (by omega) ?_
                refine ar_bipush (pc := 96) (z := 114) (by decide +kernel) (by omega) ?_
                refine ar_callS (pc := 98) (M2 := M_X7_w2) (as := [.inl 111, .inl 114]) (n2 := 321) (st := [.inr (.inr 294)]) (by decide +kernel) rfl wm_RX7_152 ws_yX7_w2 wz_RX7 wc_yX7_w2 ⟨by decide, by decide, rfl⟩ (by decide) (Nat.le_of_ble_eq_true rfl) (Nat.le_refl _) (Nat.le_refl _) (am_Cl_mono H (fun r18 h19 H => ?_))
                show am_Wp true (d + 1) M_X7_betweenOf 321 321 h0 Q 101 [some (.inr (.inr 294))] [.inr (.inl r18), .inr (.inr 294)] 321 h19
                refine ar_callV (pc := 101) (M2 := M_X7_isWord) (a := 294) (ci := 7) (as := [.inr (.inl r18)]) (n2 := 321) (st := []) (by decide +kernel) rfl wm_RX7_221 wi_yX7_isWord wl_yX7_isWord k_294 rfl wz_RX7 wc_yX7_isWord ⟨by decide, by decide, rfl⟩ (by decide) (Nat.le_of_ble_eq_true rfl) (Nat.le_refl _) (Nat.le_refl _) (am_Cl_mono H (fun r20 h21 H => ?_))
                show am_Wp true (d + 1) M_X7_betweenOf 321 321 h0 Q 104 [some (.inr (.inr 294))] [.inl r20] 321 h21
                refine ar_if_eq (pc := 104) (x := r20) (tgt := 112) (off := 8) (by decide +kernel) (by decide) (fun c22 => ?_) (fun c22 => ?_)
                · replace H := H.1 c22
                  refine ar_iconst (pc := 112) (z := (-1)) (by decide +kernel) (by unfold am_i32; omega) ?_
                  exact ar_iret (pc := 113) (x := (-1)) (by decide +kernel) rfl rfl H
                · replace H := H.2 c22
                  refine ar_bipush (pc := 107) (z := 22) (by decide +kernel) (by omega) ?_
                  refine ar_goto (pc := 109) (tgt := 113) (off := 4) (by decide +kernel) (by decide) ?_
                  exact ar_iret (pc := 113) (x := 22) (by decide +kernel) rfl rfl H
              · replace H := H.2 c17
                refine ar_bipush (pc := 88) (z := 21) (by decide +kernel) (by omega) ?_
                refine ar_goto (pc := 90) (tgt := 113) (off := 23) (by decide +kernel) (by decide) ?_
                exact ar_iret (pc := 113) (x := 21) (by decide +kernel) rfl rfl H
            · replace H := H.2 c12
              refine ar_aload_n (pc := 67) (i := 0) (k0 := 0) (by decide +kernel) rfl rfl ?_
              refine ar_callV (pc := 68) (M2 := M_X7_compareOf) (a := 294) (ci := 7) (as := []) (n2 := 321) (st := []) (by decide +kernel) rfl wm_RX7_232 wi_yX7_compareOf wl_yX7_compareOf k_294 rfl wz_RX7 wc_yX7_compareOf ⟨by decide, by decide, rfl⟩ (by decide) (Nat.le_of_ble_eq_true rfl) (Nat.le_refl _) (Nat.le_refl _) (am_Cl_mono H (fun r23 h24 H => ?_))
              show am_Wp true (d + 1) M_X7_betweenOf 321 321 h0 Q 71 [some (.inr (.inr 294))] [.inl r23] 321 h24
              exact ar_iret (pc := 71) (x := r23) (by decide +kernel) rfl rfl H
          · replace H := H.2 c9
            refine ar_iconst (pc := 58) (z := (-1)) (by decide +kernel) (by unfold am_i32; omega) ?_
            exact ar_iret (pc := 59) (x := (-1)) (by decide +kernel) rfl rfl H
        · replace H := H.2 c4
          refine ar_bipush (pc := 45) (z := 9) (by decide +kernel) (by omega) ?_
          exact ar_iret (pc := 47) (x := 9) (by decide +kernel) rfl rfl H
      · replace H := H.2 c3
        refine ar_bipush (pc := 33) (z := 8) (by decide +kernel) (by omega) ?_
        exact ar_iret (pc := 35) (x := 8) (by decide +kernel) rfl rfl H
    · replace H := H.2 c2
      refine ar_bipush (pc := 21) (z := 7) (by decide +kernel) (by omega) ?_
      exact ar_iret (pc := 23) (x := 7) (by decide +kernel) rfl rfl H
  · replace H := H.2 c1
    refine ar_bipush (pc := 9) (z := 6) (by decide +kernel) (by omega) ?_
    exact ar_iret (pc := 11) (x := 6) (by decide +kernel) rfl rfl H

/-! ByteIntervalsModel.partOf(I)I -/
theorem B_X7_partOf_0 {d : Nat} {Q : Int → am_H → Prop} {h : am_H} {v1 : Int} (H : (v1 < 40 ∨ 43 < v1 → Q (-1) h) ∧ (v1 = 40 → (¬ (h 294 9) = 41 → Q (-1) h) ∧ ((h 294 9) = 41 → Q 0 h)) ∧ (v1 = 41 → cf d M_X7_w4 [.inl 116, .inl 104, .inl 101, .inl 110] h (fun r3 h4 => cf d M_X7_isWord [.inr (.inr 294), .inr (.inl r3)] h4 (fun r5 h6 => (r5 = 0 → Q (-1) h6) ∧ (¬ r5 = 0 → cf d M_X7_isCompared [.inr (.inr 294)] h6 (fun r8 h9 => (r8 = 0 → Q (-1) h9) ∧ (¬ r8 = 0 → Q 42 h9)))))) ∧ (v1 = 42 → cf d M_X7_w4 [.inl 101, .inl 108, .inl 115, .inl 101] h (fun r11 h12 => cf d M_X7_isWord [.inr (.inr 294), .inr (.inl r11)] h12 (fun r13 h14 => (r13 = 0 → Q (-1) h14) ∧ (¬ r13 = 0 → Q 43 h14)))) ∧ (v1 = 43 → cf d M_X7_w3 [.inl 101, .inl 110, .inl 100] h (fun r16 h17 => cf d M_X7_isWord [.inr (.inr 294), .inr (.inl r16)] h17 (fun r18 h19 => (r18 = 0 → Q (-1) h19) ∧ (¬ r18 = 0 → Q 0 h19))))) : wf (d + 1) M_X7_partOf Q 0 [some (.inr (.inr 294)), some (.inl v1)] [] h := by
  intro h0
  refine ar_iload_n (pc := 0) (i := 1) (k0 := 1) (by decide +kernel) rfl rfl ?_
  refine ar_table (pc := 1) (dflt := 125) (lo := 40) (hi := 43) (offs := #[31, 46, 78, 103]) (len := 31) (x := v1) (dt := 126) [32, 47, 79, 104] (by decide +kernel) (by decide) (by decide) (by decide) (fun c1 => ?_) (And.intro (fun c1 => ?_) (And.intro (fun c1 => ?_) (And.intro (fun c1 => ?_) (And.intro (fun c1 => ?_) (True.intro)))))
  · replace H := H.1 c1
    refine ar_iconst (pc := 126) (z := (-1)) (by decide +kernel) (by unfold am_i32; omega) ?_
    exact ar_iret (pc := 127) (x := (-1)) (by decide +kernel) rfl rfl H
  · replace H := H.2.1 c1
    refine ar_aload_n (pc := 32) (i := 0) (k0 := 0) (by decide +kernel) rfl rfl ?_
    refine ar_getV (pc := 33) (a := 294) (v := .inl (h 294 9)) 7 9 (by decide +kernel) k_294 rfl (by decide) wf_RX7_129 rfl ?_
    refine ar_bipush (pc := 36) (z := 41) (by decide +kernel) (by omega) ?_
    refine ar_icmp_ne (pc := 38) (x := (h 294 9)) (y := 41) (tgt := 45) (off := 7) (by decide +kernel) (by decide) (fun c2 => ?_) (fun c2 => ?_)
    · replace H := H.1 c2
      refine ar_iconst (pc := 45) (z := (-1)) (by decide +kernel) (by unfold am_i32; omega) ?_
      exact ar_iret (pc := 46) (x := (-1)) (by decide +kernel) rfl rfl H
    · replace H := H.2 c2
      refine ar_iconst (pc := 41) (z := 0) (by decide +kernel) (by unfold am_i32; omega) ?_
      refine ar_goto (pc := 42) (tgt := 46) (off := 4) (by decide +kernel) (by decide) ?_
      exact ar_iret (pc := 46) (x := 0) (by decide +kernel) rfl rfl H
  · replace H := H.2.2.1 c1
    refine ar_aload_n (pc := 47) (i := 0) (k0 := 0) (by decide +kernel) rfl rfl ?_
    refine ar_bipush (pc := 48) (z := 116) (by decide +kernel) (by omega) ?_
    refine ar_bipush (pc := 50) (z := 104) (by decide +kernel) (by omega) ?_
    refine ar_bipush (pc := 52) (z := 101) (by decide +kernel) (by omega) ?_
    refine ar_bipush (pc := 54) (z := 110) (by decide +kernel) (by omega) ?_
    refine ar_callS (pc := 56) (M2 := M_X7_w4) (as := [.inl 116, .inl 104, .inl 101, .inl 110]) (n2 := 321) (st := [.inr (.inr 294)]) (by decide +kernel) rfl wm_RX7_160 ws_yX7_w4 wz_RX7 wc_yX7_w4 ⟨by decide, by decide, rfl⟩ (by decide) (Nat.le_of_ble_eq_true rfl) (Nat.le_refl _) (Nat.le_refl _) (am_Cl_mono H (fun r3 h4 H => ?_))
    show am_Wp true (d + 1) M_X7_partOf 321 321 h0 Q 59 [some (.inr (.inr 294)), some (.inl v1)] [.inr (.inl r3), .inr (.inr 294)] 321 h4
    refine ar_callV (pc := 59) (M2 := M_X7_isWord) (a := 294) (ci := 7) (as := [.inr (.inl r3)]) (n2 := 321) (st := []) (by decide +kernel) rfl wm_RX7_221 wi_yX7_isWord wl_yX7_isWord k_294 rfl wz_RX7 wc_yX7_isWord ⟨by decide, by decide, rfl⟩ (by decide) (Nat.le_of_ble_eq_true rfl) (Nat.le_refl _) (Nat.le_refl _) (am_Cl_mono H (fun r5 h6 H => ?_))
    show am_Wp true (d + 1) M_X7_partOf 321 321 h0 Q 62 [some (.inr (.inr 294)), some (.inl v1)] [.inl r5] 321 h6
    refine ar_if_eq (pc := 62) (x := r5) (tgt := 77) (off := 15) (by decide +kernel) (by decide) (fun c7 => ?_) (fun c7 => ?_)
    · replace H := H.1 c7
      refine ar_iconst (pc := 77) (z := (-1)) (by decide +kernel) (by unfold am_i32; omega) ?_
      exact ar_iret (pc := 78) (x := (-1)) (by decide +kernel) rfl rfl H
    · replace H := H.2 c7
      refine ar_aload_n (pc := 65) (i := 0) (k0 := 0) (by decide +kernel) rfl rfl ?_
      refine ar_callV (pc := 66) (M2 := M_X7_isCompared) (a := 294) (ci := 7) (as := []) (n2 := 321) (st := []) (by decide +kernel) rfl wm_RX7_229 wi_yX7_isCompared wl_yX7_isCompared k_294 rfl wz_RX7 wc_yX7_isCompared ⟨by decide, by decide, rfl⟩ (by decide) (Nat.le_of_ble_eq_true rfl) (Nat.le_refl _) (Nat.le_refl _) (am_Cl_mono H (fun r8 h9 H => ?_))
      show am_Wp true (d + 1) M_X7_partOf 321 321 h0 Q 69 [some (.inr (.inr 294)), some (.inl v1)] [.inl r8] 321 h9
      refine ar_if_eq (pc := 69) (x := r8) (tgt := 77) (off := 8) (by decide +kernel) (by decide) (fun c10 => ?_) (fun c10 => ?_)
      · replace H := H.1 c10
        refine ar_iconst (pc := 77) (z := (-1)) (by decide +kernel) (by unfold am_i32; omega) ?_
        exact ar_iret (pc := 78) (x := (-1)) (by decide +kernel) rfl rfl H
      · replace H := H.2 c10
        refine ar_bipush (pc := 72) (z := 42) (by decide +kernel) (by omega) ?_
        refine ar_goto (pc := 74) (tgt := 78) (off := 4) (by decide +kernel) (by decide) ?_
        exact ar_iret (pc := 78) (x := 42) (by decide +kernel) rfl rfl H
  · replace H := H.2.2.2.1 c1
    refine ar_aload_n (pc := 79) (i := 0) (k0 := 0) (by decide +kernel) rfl rfl ?_
    refine ar_bipush (pc := 80) (z := 101) (by decide +kernel) (by omega) ?_
    refine ar_bipush (pc := 82) (z := 108) (by decide +kernel) (by omega) ?_
    refine ar_bipush (pc := 84) (z := 115) (by decide +kernel) (by omega) ?_
    refine ar_bipush (pc := 86) (z := 101) (by decide +kernel) (by omega) ?_
    refine ar_callS (pc := 88) (M2 := M_X7_w4) (as := [.inl 101, .inl 108, .inl 115, .inl 101]) (n2 := 321) (st := [.inr (.inr 294)]) (by decide +kernel) rfl wm_RX7_160 ws_yX7_w4 wz_RX7 wc_yX7_w4 ⟨by decide, by decide, rfl⟩ (by decide) (Nat.le_of_ble_eq_true rfl) (Nat.le_refl _) (Nat.le_refl _) (am_Cl_mono H (fun r11 h12 H => ?_))
    show am_Wp true (d + 1) M_X7_partOf 321 321 h0 Q 91 [some (.inr (.inr 294)), some (.inl v1)] [.inr (.inl r11), .inr (.inr 294)] 321 h12
    refine ar_callV (pc := 91) (M2 := M_X7_isWord) (a := 294) (ci := 7) (as := [.inr (.inl r11)]) (n2 := 321) (st := []) (by decide +kernel) rfl wm_RX7_221 wi_yX7_isWord wl_yX7_isWord k_294 rfl wz_RX7 wc_yX7_isWord ⟨by decide, by decide, rfl⟩ (by decide) (Nat.le_of_ble_eq_true rfl) (Nat.le_refl _) (Nat.le_refl _) (am_Cl_mono H (fun r13 h14 H => ?_))
    show am_Wp true (d + 1) M_X7_partOf 321 321 h0 Q 94 [some (.inr (.inr 294)), some (.inl v1)] [.inl r13] 321 h14
    refine ar_if_eq (pc := 94) (x := r13) (tgt := 102) (off := 8) (by decide +kernel) (by decide) (fun c15 => ?_) (fun c15 => ?_)
    · replace H := H.1 c15
      refine ar_iconst (pc := 102) (z := (-1)) (by decide +kernel) (by unfold am_i32; omega) ?_
      exact ar_iret (pc := 103) (x := (-1)) (by decide +kernel) rfl rfl H
    · replace H := H.2 c15
      refine ar_bipush (pc := 97) (z := 43) (by decide +kernel) (by omega) ?_
      refine ar_goto (pc := 99) (tgt := 103) (off := 4) (by decide +kernel) (by decide) ?_
      exact ar_iret (pc := 103) (x := 43) (by decide +kernel) rfl rfl H
  · replace H := H.2.2.2.2 c1
    refine ar_aload_n (pc := 104) (i := 0) (k0 := 0) (by decide +kernel) rfl rfl ?_
    refine ar_bipush (pc := 105) (z := 101) (by decide +kernel) (by omega) ?_
    refine ar_bipush (pc := 107) (z := 110) (by decide +kernel) (by omega) ?_
    refine ar_bipush (pc := 109) (z := 100) (by decide +kernel) (by omega) ?_
    refine ar_callS (pc := 111) (M2 := M_X7_w3) (as := [.inl 101, .inl 110, .inl 100]) (n2 := 321) (st := [.inr (.inr 294)]) (by decide +kernel) rfl wm_RX7_156 ws_yX7_w3 wz_RX7 wc_yX7_w3 ⟨by decide, by decide, rfl⟩ (by decide) (Nat.le_of_ble_eq_true rfl) (Nat.le_refl _) (Nat.le_refl _) (am_Cl_mono H (fun r16 h17 H => ?_))
    show am_Wp true (d + 1) M_X7_partOf 321 321 h0 Q 114 [some (.inr (.inr 294)), some (.inl v1)] [.inr (.inl r16), .inr (.inr 294)] 321 h17
    refine ar_callV (pc := 114) (M2 := M_X7_isWord) (a := 294) (ci := 7) (as := [.inr (.inl r16)]) (n2 := 321) (st := []) (by decide +kernel) rfl wm_RX7_221 wi_yX7_isWord wl_yX7_isWord k_294 rfl wz_RX7 wc_yX7_isWord ⟨by decide, by decide, rfl⟩ (by decide) (Nat.le_of_ble_eq_true rfl) (Nat.le_refl _) (Nat.le_refl _) (am_Cl_mono H (fun r18 h19 H => ?_))
    show am_Wp true (d + 1) M_X7_partOf 321 321 h0 Q 117 [some (.inr (.inr 294)), some (.inl v1)] [.inl r18] 321 h19
    refine ar_if_eq (pc := 117) (x := r18) (tgt := 124) (off := 7) (by decide +kernel) (by decide) (fun c20 => ?_) (fun c20 => ?_)
    · replace H := H.1 c20
      refine ar_iconst (pc := 124) (z := (-1)) (by decide +kernel) (by unfold am_i32; omega) ?_
      exact ar_iret (pc := 125) (x := (-1)) (by decide +kernel) rfl rfl H
    · replace H := H.2 c20
      refine ar_iconst (pc := 120) (z := 0) (by decide +kernel) (by unfold am_i32; omega) ?_
      refine ar_goto (pc := 121) (tgt := 125) (off := 4) (by decide +kernel) (by decide) ?_
      exact ar_iret (pc := 125) (x := 0) (by decide +kernel) rfl rfl H

/-! ByteIntervalsModel.behindOne()Z -/
theorem B_X7_behindOne_0 {d : Nat} {Q : Int → am_H → Prop} {h : am_H} (H : cf d M_X7_betweenOf [.inr (.inr 294)] h (fun r1 h2 => (r1 < 0 → cf d M_X7_openNow [.inr (.inr 294)] h2 (fun r4 h5 => cf d M_X7_partOf [.inr (.inr 294), .inl r4] h5 (fun r6 h7 => (0 ≤ r6 → cf d M_X7_settle [.inr (.inr 294), .inl 1] h7 (fun _ h10 => cf d M_X7_nextToken [.inr (.inr 294)] h10 (fun _ h12 => (r6 ≤ 0 → (¬ r4 = 43 → wf (d + 1) M_X7_behindOne Q 139 [some (.inr (.inr 294)), none, none, none] [] (am_up (am_up h12 294 17 (am_w32 ((h12 294 17) - 1))) 294 16 (am_w32 ((h12 294 16) - 1)))) ∧ (r4 = 43 → cf d M_X7_emit [.inr (.inr 294), .inl 3, .inl 0] (am_up (am_up h12 294 17 (am_w32 ((h12 294 17) - 1))) 294 16 (am_w32 ((h12 294 16) - 1))) (fun _ h16 => wf (d + 1) M_X7_behindOne Q 139 [some (.inr (.inr 294)), none, none, none] [] h16))) ∧ (0 < r6 → cf d M_X7_openAt [.inr (.inr 294)] h12 (fun r17 h18 => (0 ≤ r17) ∧ ((r17 < 160) ∧ (Q 1 (am_up (am_up h18 299 r17 r6) 294 18 0)))))))) ∧ (r6 < 0 → Q 0 h7)))) ∧ (0 ≤ r1 → cf d M_X7_rank [.inl r1] h2 (fun r21 h22 => (¬ r21 = 4 → cf d M_X7_rank [.inl r1] h22 (fun r24 h25 => wf (d + 1) M_X7_behindOne Q 26 [some (.inr (.inr 294)), some (.inl r1), none, none] [.inl r24, .inr (.inr 294)] h25)) ∧ (r21 = 4 → wf (d + 1) M_X7_behindOne Q 26 [some (.inr (.inr 294)), some (.inl r1), none, none] [.inl 5, .inr (.inr 294)] h22))))) : wf (d + 1) M_X7_behindOne Q 0 [some (.inr (.inr 294)), none, none, none] [] h := by
  intro h0
  refine ar_aload_n (pc := 0) (i := 0) (k0 := 0) (by decide +kernel) rfl rfl ?_
  refine ar_callV (pc := 1) (M2 := M_X7_betweenOf) (a := 294) (ci := 7) (as := []) (n2 := 321) (st := []) (by decide +kernel) rfl wm_RX7_235 wi_yX7_betweenOf wl_yX7_betweenOf k_294 rfl wz_RX7 wc_yX7_betweenOf ⟨by decide, by decide, rfl⟩ (by decide) (Nat.le_of_ble_eq_true rfl) (Nat.le_refl _) (Nat.le_refl _) (am_Cl_mono H (fun r1 h2 H => ?_))
  show am_Wp true (d + 1) M_X7_behindOne 321 321 h0 Q 4 [some (.inr (.inr 294)), none, none, none] [.inl r1] 321 h2
  refine ar_istore_n (pc := 4) (i := 1) (k0 := 1) (ls2 := [some (.inr (.inr 294)), some (.inl r1), none, none]) (by decide +kernel) rfl (by decide) rfl ?_
  refine ar_iload_n (pc := 5) (i := 1) (k0 := 1) (by decide +kernel) rfl rfl ?_
  refine ar_if_lt (pc := 6) (x := r1) (tgt := 60) (off := 54) (by decide +kernel) (by decide) (fun c3 => ?_) (fun c3 => ?_)
  · replace H := H.1 c3
    refine ar_aload_n (pc := 60) (i := 0) (k0 := 0) (by decide +kernel) rfl rfl ?_
    refine ar_callV (pc := 61) (M2 := M_X7_openNow) (a := 294) (ci := 7) (as := []) (n2 := 321) (st := []) (by decide +kernel) rfl wm_RX7_197 wi_yX7_openNow wl_yX7_openNow k_294 rfl wz_RX7 wc_yX7_openNow ⟨by decide, by decide, rfl⟩ (by decide) (Nat.le_of_ble_eq_true rfl) (Nat.le_refl _) (Nat.le_refl _) (am_Cl_mono H (fun r4 h5 H => ?_))
    show am_Wp true (d + 1) M_X7_behindOne 321 321 h0 Q 64 [some (.inr (.inr 294)), some (.inl r1), none, none] [.inl r4] 321 h5
    refine ar_istore_n (pc := 64) (i := 2) (k0 := 2) (ls2 := [some (.inr (.inr 294)), some (.inl r1), some (.inl r4), none]) (by decide +kernel) rfl (by decide) rfl ?_
    refine ar_aload_n (pc := 65) (i := 0) (k0 := 0) (by decide +kernel) rfl rfl ?_
    refine ar_iload_n (pc := 66) (i := 2) (k0 := 2) (by decide +kernel) rfl rfl ?_
    refine ar_callV (pc := 67) (M2 := M_X7_partOf) (a := 294) (ci := 7) (as := [.inl r4]) (n2 := 321) (st := []) (by decide +kernel) rfl wm_RX7_238 wi_yX7_partOf wl_yX7_partOf k_294 rfl wz_RX7 wc_yX7_partOf ⟨by decide, by decide, rfl⟩ (by decide) (Nat.le_of_ble_eq_true rfl) (Nat.le_refl _) (Nat.le_refl _) (am_Cl_mono H (fun r6 h7 H => ?_))
    show am_Wp true (d + 1) M_X7_behindOne 321 321 h0 Q 70 [some (.inr (.inr 294)), some (.inl r1), some (.inl r4), none] [.inl r6] 321 h7
    refine ar_istore_n (pc := 70) (i := 3) (k0 := 3) (ls2 := [some (.inr (.inr 294)), some (.inl r1), some (.inl r4), some (.inl r6)]) (by decide +kernel) rfl (by decide) rfl ?_
    refine ar_iload_n (pc := 71) (i := 3) (k0 := 3) (by decide +kernel) rfl rfl ?_
    refine ar_if_ge (pc := 72) (x := r6) (tgt := 77) (off := 5) (by decide +kernel) (by decide) (fun c8 => ?_) (fun c8 => ?_)
    · replace H := H.1 c8
      refine ar_aload_n (pc := 77) (i := 0) (k0 := 0) (by decide +kernel) rfl rfl ?_
      refine ar_iconst (pc := 78) (z := 1) (by decide +kernel) (by unfold am_i32; omega) ?_
      refine ar_callV (pc := 79) (M2 := M_X7_settle) (a := 294) (ci := 7) (as := [.inl 1]) (n2 := 321) (st := []) (by decide +kernel) rfl wm_RX7_215 wi_yX7_settle wl_yX7_settle k_294 rfl wz_RX7 wc_yX7_settle ⟨by decide, by decide, rfl⟩ (by decide) (Nat.le_of_ble_eq_true rfl) (Nat.le_refl _) (Nat.le_refl _) (am_Cl_mono H (fun r9 h10 H => ?_))
      show am_Wp true (d + 1) M_X7_behindOne 321 321 h0 Q 82 [some (.inr (.inr 294)), some (.inl r1), some (.inl r4), some (.inl r6)] [] 321 h10
      refine ar_aload_n (pc := 82) (i := 0) (k0 := 0) (by decide +kernel) rfl rfl ?_
      refine ar_callV (pc := 83) (M2 := M_X7_nextToken) (a := 294) (ci := 7) (as := []) (n2 := 321) (st := []) (by decide +kernel) rfl wm_RX7_203 wi_yX7_nextToken wl_yX7_nextToken k_294 rfl wz_RX7 wc_yX7_nextToken ⟨by decide, by decide, rfl⟩ (by decide) (Nat.le_of_ble_eq_true rfl) (Nat.le_refl _) (Nat.le_refl _) (am_Cl_mono H (fun r11 h12 H => ?_))
      show am_Wp true (d + 1) M_X7_behindOne 321 321 h0 Q 86 [some (.inr (.inr 294)), some (.inl r1), some (.inl r4), some (.inl r6)] [] 321 h12
      refine ar_iload_n (pc := 86) (i := 3) (k0 := 3) (by decide +kernel) rfl rfl ?_
      refine ar_if_le (pc := 87) (x := r6) (tgt := 107) (off := 20) (by decide +kernel) (by decide) (fun c13 => ?_) (fun c13 => ?_)
      · replace H := H.1 c13
        refine ar_aload_n (pc := 107) (i := 0) (k0 := 0) (by decide +kernel) rfl rfl ?_
        refine ar_dup (pc := 108) (by decide +kernel) trivial ?_
        refine ar_getV (pc := 109) (a := 294) (v := .inl (h12 294 17)) 7 17 (by decide +kernel) k_294 rfl (by decide) wf_RX7_191 rfl ?_
        refine ar_iconst (pc := 112) (z := 1) (by decide +kernel) (by unfold am_i32; omega) ?_
        refine ar_isub (pc := 113) (x := (h12 294 17)) (y := 1) (by decide +kernel) ?_
        refine ar_putI (pc := 114) (a := 294) (z := (am_w32 ((h12 294 17) - 1))) 7 17 (by decide +kernel) k_294 rfl (by decide) rfl (fun _ => rfl) rfl wf_RX7_191 ?_
        refine ar_aload_n (pc := 117) (i := 0) (k0 := 0) (by decide +kernel) rfl rfl ?_
        refine ar_dup (pc := 118) (by decide +kernel) trivial ?_
        refine ar_getV (pc := 119) (a := 294) (v := .inl (h12 294 16)) 7 16 (by decide +kernel) k_294 rfl (by decide) wf_RX7_181 (by first | rfl | (simp [am_tv, am_ty, tyX7, am_up, am_cp]; done) | (simp [am_tv, am_ty, tyX7, am_up, am_cp] <;> intros <;> omega)) ?_
        refine ar_iconst (pc := 122) (z := 1) (by decide +kernel) (by unfold am_i32; omega) ?_
        refine ar_isub (pc := 123) (x := (h12 294 16)) (y := 1) (by decide +kernel) ?_
        refine ar_putI (pc := 124) (a := 294) (z := (am_w32 ((h12 294 16) - 1))) 7 16 (by decide +kernel) k_294 rfl (by decide) rfl (fun _ => rfl) rfl wf_RX7_181 ?_
        refine ar_iload_n (pc := 127) (i := 2) (k0 := 2) (by decide +kernel) rfl rfl ?_
        refine ar_bipush (pc := 128) (z := 43) (by decide +kernel) (by omega) ?_
        refine ar_icmp_ne (pc := 130) (x := r4) (y := 43) (tgt := 139) (off := 9) (by decide +kernel) (by decide) (fun c14 => ?_) (fun c14 => ?_)
        · replace H := H.1 c14
          refine ar_forget [true, false, false, false] rfl ?_
          exact H h0
        · replace H := H.2 c14
          refine ar_aload_n (pc := 133) (i := 0) (k0 := 0) (by decide +kernel) rfl rfl ?_
          refine ar_iconst (pc := 134) (z := 3) (by decide +kernel) (by unfold am_i32; omega) ?_
          refine ar_iconst (pc := 135) (z := 0) (by decide +kernel) (by unfold am_i32; omega) ?_
          refine ar_callV (pc := 136) (M2 := M_X7_emit) (a := 294) (ci := 7) (as := [.inl 3, .inl 0]) (n2 := 321) (st := []) (by decide +kernel) rfl wm_RX7_187 wi_yX7_emit wl_yX7_emit k_294 rfl wz_RX7 wc_yX7_emit ⟨by decide, by decide, rfl⟩ (by decide) (Nat.le_of_ble_eq_true rfl) (Nat.le_refl _) (Nat.le_refl _) (am_Cl_mono H (fun r15 h16 H => ?_))
          show am_Wp true (d + 1) M_X7_behindOne 321 321 h0 Q 139 [some (.inr (.inr 294)), some (.inl r1), some (.inl r4), some (.inl r6)] [] 321 h16
          refine ar_forget [true, false, false, false] rfl ?_
          exact H h0
      · replace H := H.2 c13
        refine ar_aload_n (pc := 90) (i := 0) (k0 := 0) (by decide +kernel) rfl rfl ?_
        refine ar_getFV (pc := 91) (a := 294) (b := 299) 7 15 (by decide +kernel) k_294 rfl (by decide) wf_RX7_29 rfl (fun _ => rfl) rfl ?_
        refine ar_aload_n (pc := 94) (i := 0) (k0 := 0) (by decide +kernel) rfl rfl ?_
        refine ar_callV (pc := 95) (M2 := M_X7_openAt) (a := 294) (ci := 7) (as := []) (n2 := 321) (st := [.inr (.inr 299)]) (by decide +kernel) rfl wm_RX7_194 wi_yX7_openAt wl_yX7_openAt k_294 rfl wz_RX7 wc_yX7_openAt ⟨by decide, by decide, rfl⟩ (by decide) (Nat.le_of_ble_eq_true rfl) (Nat.le_refl _) (Nat.le_refl _) (am_Cl_mono H (fun r17 h18 H => ?_))
        show am_Wp true (d + 1) M_X7_behindOne 321 321 h0 Q 98 [some (.inr (.inr 294)), some (.inl r1), some (.inl r4), some (.inl r6)] [.inl r17, .inr (.inr 299)] 321 h18
        refine ar_iload_n (pc := 98) (i := 3) (k0 := 3) (by decide +kernel) rfl rfl ?_
        obtain ⟨g19, H⟩ := H
        obtain ⟨g20, H⟩ := H
        refine ar_iast (pc := 99) (a := 299) (i := r17) (z := r6) (by decide +kernel) k_299 g19 (am_lt_eq g20 (l_299).symm) ?_
        refine ar_aload_n (pc := 100) (i := 0) (k0 := 0) (by decide +kernel) rfl rfl ?_
        refine ar_iconst (pc := 101) (z := 0) (by decide +kernel) (by unfold am_i32; omega) ?_
        refine ar_putZ (pc := 102) (a := 294) (z := 0) 7 18 (by decide +kernel) k_294 rfl (by decide) rfl (fun _ => rfl) rfl (by decide) wf_RX7_212 ?_
        refine ar_iconst (pc := 105) (z := 1) (by decide +kernel) (by unfold am_i32; omega) ?_
        exact ar_zret (pc := 106) (x := 1) (by decide +kernel) rfl rfl (by decide) H
    · replace H := H.2 c8
      refine ar_iconst (pc := 75) (z := 0) (by decide +kernel) (by unfold am_i32; omega) ?_
      exact ar_zret (pc := 76) (x := 0) (by decide +kernel) rfl rfl (by decide) H
  · replace H := H.2 c3
    refine ar_aload_n (pc := 9) (i := 0) (k0 := 0) (by decide +kernel) rfl rfl ?_
    refine ar_iload_n (pc := 10) (i := 1) (k0 := 1) (by decide +kernel) rfl rfl ?_
    refine ar_callS (pc := 11) (M2 := M_X7_rank) (as := [.inl r1]) (n2 := 321) (st := [.inr (.inr 294)]) (by decide +kernel) rfl wm_RX7_184 ws_yX7_rank wz_RX7 wc_yX7_rank ⟨by decide, by decide, rfl⟩ (by decide) (Nat.le_of_ble_eq_true rfl) (Nat.le_refl _) (Nat.le_refl _) (am_Cl_mono H (fun r21 h22 H => ?_))
    show am_Wp true (d + 1) M_X7_behindOne 321 321 h0 Q 14 [some (.inr (.inr 294)), some (.inl r1), none, none] [.inl r21, .inr (.inr 294)] 321 h22
    refine ar_iconst (pc := 14) (z := 4) (by decide +kernel) (by unfold am_i32; omega) ?_
    refine ar_icmp_ne (pc := 15) (x := r21) (y := 4) (tgt := 22) (off := 7) (by decide +kernel) (by decide) (fun c23 => ?_) (fun c23 => ?_)
    · replace H := H.1 c23
      refine ar_iload_n (pc := 22) (i := 1) (k0 := 1) (by decide +kernel) rfl rfl ?_
      refine ar_callS (pc := 23) (M2 := M_X7_rank) (as := [.inl r1]) (n2 := 321) (st := [.inr (.inr 294)]) (by decide +kernel) rfl wm_RX7_184 ws_yX7_rank wz_RX7 wc_yX7_rank ⟨by decide, by decide, rfl⟩ (by decide) (Nat.le_of_ble_eq_true rfl) (Nat.le_refl _) (Nat.le_refl _) (am_Cl_mono H (fun r24 h25 H => ?_))
      show am_Wp true (d + 1) M_X7_behindOne 321 321 h0 Q 26 [some (.inr (.inr 294)), some (.inl r1), none, none] [.inl r24, .inr (.inr 294)] 321 h25
      exact H h0
    · replace H := H.2 c23
      refine ar_iconst (pc := 18) (z := 5) (by decide +kernel) (by unfold am_i32; omega) ?_
      refine ar_goto (pc := 19) (tgt := 26) (off := 7) (by decide +kernel) (by decide) ?_
      exact H h0
theorem B_X7_behindOne_26 {d : Nat} {Q : Int → am_H → Prop} {h : am_H} {v1 s1 : Int} (H : cf d M_X7_settle [.inr (.inr 294), .inl s1] h (fun _ h2 => (0 ≤ (h2 294 16)) ∧ (((h2 294 16) < 160) ∧ (cf d M_X7_nextToken [.inr (.inr 294)] (am_up (am_up (am_up h2 299 (h2 294 16) v1) 294 16 (am_w32 ((h2 294 16) + 1))) 294 18 0) (fun _ h6 => Q 1 h6))))) : wf (d + 1) M_X7_behindOne Q 26 [some (.inr (.inr 294)), some (.inl v1), none, none] [.inl s1, .inr (.inr 294)] h := by
  intro h0
  refine ar_callV (pc := 26) (M2 := M_X7_settle) (a := 294) (ci := 7) (as := [.inl s1]) (n2 := 321) (st := []) (by decide +kernel) rfl wm_RX7_215 wi_yX7_settle wl_yX7_settle k_294 rfl wz_RX7 wc_yX7_settle ⟨by decide, by decide, rfl⟩ (by decide) (Nat.le_of_ble_eq_true rfl) (Nat.le_refl _) (Nat.le_refl _) (am_Cl_mono H (fun r1 h2 H => ?_))
  show am_Wp true (d + 1) M_X7_behindOne 321 321 h0 Q 29 [some (.inr (.inr 294)), some (.inl v1), none, none] [] 321 h2
  refine ar_aload_n (pc := 29) (i := 0) (k0 := 0) (by decide +kernel) rfl rfl ?_
  refine ar_getFV (pc := 30) (a := 294) (b := 299) 7 15 (by decide +kernel) k_294 rfl (by decide) wf_RX7_29 rfl (fun _ => rfl) rfl ?_
  refine ar_aload_n (pc := 33) (i := 0) (k0 := 0) (by decide +kernel) rfl rfl ?_
  refine ar_getV (pc := 34) (a := 294) (v := .inl (h2 294 16)) 7 16 (by decide +kernel) k_294 rfl (by decide) wf_RX7_181 rfl ?_
  refine ar_iload_n (pc := 37) (i := 1) (k0 := 1) (by decide +kernel) rfl rfl ?_
  obtain ⟨g3, H⟩ := H
  obtain ⟨g4, H⟩ := H
  refine ar_iast (pc := 38) (a := 299) (i := (h2 294 16)) (z := v1) (by decide +kernel) k_299 g3 (am_lt_eq g4 (l_299).symm) ?_
  refine ar_aload_n (pc := 39) (i := 0) (k0 := 0) (by decide +kernel) rfl rfl ?_
  refine ar_dup (pc := 40) (by decide +kernel) trivial ?_
  refine ar_getV (pc := 41) (a := 294) (v := .inl (h2 294 16)) 7 16 (by decide +kernel) k_294 rfl (by decide) wf_RX7_181 (by first | rfl | (simp [am_tv, am_ty, tyX7, am_up, am_cp]; done) | (simp [am_tv, am_ty, tyX7, am_up, am_cp] <;> intros <;> omega)) ?_
  refine ar_iconst (pc := 44) (z := 1) (by decide +kernel) (by unfold am_i32; omega) ?_
  refine ar_iadd (pc := 45) (x := (h2 294 16)) (y := 1) (by decide +kernel) ?_
  refine ar_putI (pc := 46) (a := 294) (z := (am_w32 ((h2 294 16) + 1))) 7 16 (by decide +kernel) k_294 rfl (by decide) rfl (fun _ => rfl) rfl wf_RX7_181 ?_
  refine ar_aload_n (pc := 49) (i := 0) (k0 := 0) (by decide +kernel) rfl rfl ?_
  refine ar_iconst (pc := 50) (z := 0) (by decide +kernel) (by unfold am_i32; omega) ?_
  refine ar_putZ (pc := 51) (a := 294) (z := 0) 7 18 (by decide +kernel) k_294 rfl (by decide) rfl (fun _ => rfl) rfl (by decide) wf_RX7_212 ?_
  refine ar_aload_n (pc := 54) (i := 0) (k0 := 0) (by decide +kernel) rfl rfl ?_
  refine ar_callV (pc := 55) (M2 := M_X7_nextToken) (a := 294) (ci := 7) (as := []) (n2 := 321) (st := []) (by decide +kernel) rfl wm_RX7_203 wi_yX7_nextToken wl_yX7_nextToken k_294 rfl wz_RX7 wc_yX7_nextToken ⟨by decide, by decide, rfl⟩ (by decide) (Nat.le_of_ble_eq_true rfl) (Nat.le_refl _) (Nat.le_refl _) (am_Cl_mono H (fun r5 h6 H => ?_))
  show am_Wp true (d + 1) M_X7_behindOne 321 321 h0 Q 58 [some (.inr (.inr 294)), some (.inl v1), none, none] [] 321 h6
  refine ar_iconst (pc := 58) (z := 1) (by decide +kernel) (by unfold am_i32; omega) ?_
  exact ar_zret (pc := 59) (x := 1) (by decide +kernel) rfl rfl (by decide) H
theorem B_X7_behindOne_139 {d : Nat} {Q : Int → am_H → Prop} {h : am_H} (H : cf d M_X7_settle [.inr (.inr 294), .inl 7] h (fun _ h2 => Q 1 h2)) : wf (d + 1) M_X7_behindOne Q 139 [some (.inr (.inr 294)), none, none, none] [] h := by
  intro h0
  refine ar_aload_n (pc := 139) (i := 0) (k0 := 0) (by decide +kernel) rfl rfl ?_
  refine ar_bipush (pc := 140) (z := 7) (by decide +kernel) (by omega) ?_
  refine ar_callV (pc := 142) (M2 := M_X7_settle) (a := 294) (ci := 7) (as := [.inl 7]) (n2 := 321) (st := []) (by decide +kernel) rfl wm_RX7_215 wi_yX7_settle wl_yX7_settle k_294 rfl wz_RX7 wc_yX7_settle ⟨by decide, by decide, rfl⟩ (by decide) (Nat.le_of_ble_eq_true rfl) (Nat.le_refl _) (Nat.le_refl _) (am_Cl_mono H (fun r1 h2 H => ?_))
  show am_Wp true (d + 1) M_X7_behindOne 321 321 h0 Q 145 [some (.inr (.inr 294)), none, none, none] [] 321 h2
  refine ar_iconst (pc := 145) (z := 1) (by decide +kernel) (by unfold am_i32; omega) ?_
  exact ar_zret (pc := 146) (x := 1) (by decide +kernel) rfl rfl (by decide) H

/-! ByteIntervalsModel.summed()I -/
theorem B_X7_summed_0 {d : Nat} {Q : Int → am_H → Prop} {h : am_H} (H : cf d M_X7_all [.inr (.inr 294), .inl (-1)] h (fun r1 h2 => Q r1 h2)) : wf (d + 1) M_X7_summed Q 0 [some (.inr (.inr 294))] [] h := by
  intro h0
  refine ar_aload_n (pc := 0) (i := 0) (k0 := 0) (by decide +kernel) rfl rfl ?_
  refine ar_iconst (pc := 1) (z := (-1)) (by decide +kernel) (by unfold am_i32; omega) ?_
  refine ar_callV (pc := 2) (M2 := M_X7_all) (a := 294) (ci := 7) (as := [.inl (-1)]) (n2 := 321) (st := []) (by decide +kernel) rfl wm_RX7_241 wi_yX7_all wl_yX7_all k_294 rfl wz_RX7 wc_yX7_all ⟨by decide, by decide, rfl⟩ (by decide) (Nat.le_of_ble_eq_true rfl) (Nat.le_refl _) (Nat.le_refl _) (am_Cl_mono H (fun r1 h2 H => ?_))
  show am_Wp true (d + 1) M_X7_summed 321 321 h0 Q 5 [some (.inr (.inr 294))] [.inl r1] 321 h2
  exact ar_iret (pc := 5) (x := r1) (by decide +kernel) rfl rfl H

/-! ByteIntervalsModel.all(I)I -/
theorem B_X7_all_0 {d : Nat} {Q : Int → am_H → Prop} {h : am_H} {v1 : Int} (H : (¬ v1 = 44 → wf (d + 1) M_X7_all Q 34 [some (.inr (.inr 294)), some (.inl v1), none] [] (am_up (am_up (am_up h 294 16 0) 294 17 0) 294 18 0)) ∧ (v1 = 44 → wf (d + 1) M_X7_all Q 34 [some (.inr (.inr 294)), some (.inl v1), none] [] (am_up (am_up (am_up (am_up (am_up h 294 16 0) 294 17 0) 294 18 0) 299 0 44) 294 16 1))) : wf (d + 1) M_X7_all Q 0 [some (.inr (.inr 294)), some (.inl v1), none] [] h := by
  intro h0
  refine ar_aload_n (pc := 0) (i := 0) (k0 := 0) (by decide +kernel) rfl rfl ?_
  refine ar_iconst (pc := 1) (z := 0) (by decide +kernel) (by unfold am_i32; omega) ?_
  refine ar_putI (pc := 2) (a := 294) (z := 0) 7 16 (by decide +kernel) k_294 rfl (by decide) rfl (fun _ => rfl) rfl wf_RX7_181 ?_
  refine ar_aload_n (pc := 5) (i := 0) (k0 := 0) (by decide +kernel) rfl rfl ?_
  refine ar_iconst (pc := 6) (z := 0) (by decide +kernel) (by unfold am_i32; omega) ?_
  refine ar_putI (pc := 7) (a := 294) (z := 0) 7 17 (by decide +kernel) k_294 rfl (by decide) rfl (fun _ => rfl) rfl wf_RX7_191 ?_
  refine ar_aload_n (pc := 10) (i := 0) (k0 := 0) (by decide +kernel) rfl rfl ?_
  refine ar_iconst (pc := 11) (z := 0) (by decide +kernel) (by unfold am_i32; omega) ?_
  refine ar_putZ (pc := 12) (a := 294) (z := 0) 7 18 (by decide +kernel) k_294 rfl (by decide) rfl (fun _ => rfl) rfl (by decide) wf_RX7_212 ?_
  refine ar_iload_n (pc := 15) (i := 1) (k0 := 1) (by decide +kernel) rfl rfl ?_
  refine ar_bipush (pc := 16) (z := 44) (by decide +kernel) (by omega) ?_
  refine ar_icmp_ne (pc := 18) (x := v1) (y := 44) (tgt := 34) (off := 16) (by decide +kernel) (by decide) (fun c1 => ?_) (fun c1 => ?_)
  · replace H := H.1 c1
    exact H h0
  · replace H := H.2 c1
    refine ar_aload_n (pc := 21) (i := 0) (k0 := 0) (by decide +kernel) rfl rfl ?_
    refine ar_getFV (pc := 22) (a := 294) (b := 299) 7 15 (by decide +kernel) k_294 rfl (by decide) wf_RX7_29 rfl (fun _ => rfl) rfl ?_
    refine ar_iconst (pc := 25) (z := 0) (by decide +kernel) (by unfold am_i32; omega) ?_
    refine ar_bipush (pc := 26) (z := 44) (by decide +kernel) (by omega) ?_
    refine ar_iast (pc := 28) (a := 299) (i := 0) (z := 44) (by decide +kernel) k_299 (by decide) (am_lt_eq (b := 160) (by decide) (l_299).symm) ?_
    refine ar_aload_n (pc := 29) (i := 0) (k0 := 0) (by decide +kernel) rfl rfl ?_
    refine ar_iconst (pc := 30) (z := 1) (by decide +kernel) (by unfold am_i32; omega) ?_
    refine ar_putI (pc := 31) (a := 294) (z := 1) 7 16 (by decide +kernel) k_294 rfl (by decide) rfl (fun _ => rfl) rfl wf_RX7_181 ?_
    exact H h0
theorem B_X7_all_34 {d : Nat} {Q : Int → am_H → Prop} {h : am_H} {v1 : Int} (H : ((h 294 18) = 0 → cf d M_X7_beginOne [.inr (.inr 294)] h (fun r2 h3 => (r2 = 0 → wf (d + 1) M_X7_all Q 34 [some (.inr (.inr 294)), some (.inl v1), none] [] h3) ∧ (¬ r2 = 0 → Q r2 h3))) ∧ (¬ (h 294 18) = 0 → cf d M_X7_behindOne [.inr (.inr 294)] h (fun r5 h6 => (r5 = 0 → cf d M_X7_openNow [.inr (.inr 294)] h6 (fun r8 h9 => (¬ r8 = v1 → Q 1 h9) ∧ (r8 = v1 → (¬ v1 = 44 → wf (d + 1) M_X7_all Q 74 [some (.inr (.inr 294)), none, none] [] h9) ∧ (v1 = 44 → cf d M_X7_isCompared [.inr (.inr 294)] h9 (fun r12 h13 => (¬ r12 = 0 → wf (d + 1) M_X7_all Q 74 [some (.inr (.inr 294)), none, none] [] h13) ∧ (r12 = 0 → Q 1 h13)))))) ∧ (¬ r5 = 0 → wf (d + 1) M_X7_all Q 34 [some (.inr (.inr 294)), some (.inl v1), none] [] h6)))) : wf (d + 1) M_X7_all Q 34 [some (.inr (.inr 294)), some (.inl v1), none] [] h := by
  intro h0
  refine ar_aload_n (pc := 34) (i := 0) (k0 := 0) (by decide +kernel) rfl rfl ?_
  refine ar_getV (pc := 35) (a := 294) (v := .inl (h 294 18)) 7 18 (by decide +kernel) k_294 rfl (by decide) wf_RX7_212 rfl ?_
  refine ar_if_eq (pc := 38) (x := (h 294 18)) (tgt := 81) (off := 43) (by decide +kernel) (by decide) (fun c1 => ?_) (fun c1 => ?_)
  · replace H := H.1 c1
    refine ar_aload_n (pc := 81) (i := 0) (k0 := 0) (by decide +kernel) rfl rfl ?_
    refine ar_callV (pc := 82) (M2 := M_X7_beginOne) (a := 294) (ci := 7) (as := []) (n2 := 321) (st := []) (by decide +kernel) rfl wm_RX7_247 wi_yX7_beginOne wl_yX7_beginOne k_294 rfl wz_RX7 wc_yX7_beginOne ⟨by decide, by decide, rfl⟩ (by decide) (Nat.le_of_ble_eq_true rfl) (Nat.le_refl _) (Nat.le_refl _) (am_Cl_mono H (fun r2 h3 H => ?_))
    show am_Wp true (d + 1) M_X7_all 321 321 h0 Q 85 [some (.inr (.inr 294)), some (.inl v1), none] [.inl r2] 321 h3
    refine ar_istore_n (pc := 85) (i := 2) (k0 := 2) (ls2 := [some (.inr (.inr 294)), some (.inl v1), some (.inl r2)]) (by decide +kernel) rfl (by decide) rfl ?_
    refine ar_iload_n (pc := 86) (i := 2) (k0 := 2) (by decide +kernel) rfl rfl ?_
    refine ar_if_eq (pc := 87) (x := r2) (tgt := 92) (off := 5) (by decide +kernel) (by decide) (fun c4 => ?_) (fun c4 => ?_)
    · replace H := H.1 c4
      refine ar_goto (pc := 92) (tgt := 34) (off := -58) (by decide +kernel) (by decide) ?_
      refine ar_forget [true, true, false] rfl ?_
      exact H h0
    · replace H := H.2 c4
      refine ar_iload_n (pc := 90) (i := 2) (k0 := 2) (by decide +kernel) rfl rfl ?_
      exact ar_iret (pc := 91) (x := r2) (by decide +kernel) rfl rfl H
  · replace H := H.2 c1
    refine ar_aload_n (pc := 41) (i := 0) (k0 := 0) (by decide +kernel) rfl rfl ?_
    refine ar_callV (pc := 42) (M2 := M_X7_behindOne) (a := 294) (ci := 7) (as := []) (n2 := 321) (st := []) (by decide +kernel) rfl wm_RX7_244 wi_yX7_behindOne wl_yX7_behindOne k_294 rfl wz_RX7 wc_yX7_behindOne ⟨by decide, by decide, rfl⟩ (by decide) (Nat.le_of_ble_eq_true rfl) (Nat.le_refl _) (Nat.le_refl _) (am_Cl_mono H (fun r5 h6 H => ?_))
    show am_Wp true (d + 1) M_X7_all 321 321 h0 Q 45 [some (.inr (.inr 294)), some (.inl v1), none] [.inl r5] 321 h6
    refine ar_if_eq (pc := 45) (x := r5) (tgt := 51) (off := 6) (by decide +kernel) (by decide) (fun c7 => ?_) (fun c7 => ?_)
    · replace H := H.1 c7
      refine ar_aload_n (pc := 51) (i := 0) (k0 := 0) (by decide +kernel) rfl rfl ?_
      refine ar_callV (pc := 52) (M2 := M_X7_openNow) (a := 294) (ci := 7) (as := []) (n2 := 321) (st := []) (by decide +kernel) rfl wm_RX7_197 wi_yX7_openNow wl_yX7_openNow k_294 rfl wz_RX7 wc_yX7_openNow ⟨by decide, by decide, rfl⟩ (by decide) (Nat.le_of_ble_eq_true rfl) (Nat.le_refl _) (Nat.le_refl _) (am_Cl_mono H (fun r8 h9 H => ?_))
      show am_Wp true (d + 1) M_X7_all 321 321 h0 Q 55 [some (.inr (.inr 294)), some (.inl v1), none] [.inl r8] 321 h9
      refine ar_iload_n (pc := 55) (i := 1) (k0 := 1) (by decide +kernel) rfl rfl ?_
      refine ar_icmp_ne (pc := 56) (x := r8) (y := v1) (tgt := 72) (off := 16) (by decide +kernel) (by decide) (fun c10 => ?_) (fun c10 => ?_)
      · replace H := H.1 c10
        refine ar_iconst (pc := 72) (z := 1) (by decide +kernel) (by unfold am_i32; omega) ?_
        exact ar_iret (pc := 73) (x := 1) (by decide +kernel) rfl rfl H
      · replace H := H.2 c10
        refine ar_iload_n (pc := 59) (i := 1) (k0 := 1) (by decide +kernel) rfl rfl ?_
        refine ar_bipush (pc := 60) (z := 44) (by decide +kernel) (by omega) ?_
        refine ar_icmp_ne (pc := 62) (x := v1) (y := 44) (tgt := 74) (off := 12) (by decide +kernel) (by decide) (fun c11 => ?_) (fun c11 => ?_)
        · replace H := H.1 c11
          refine ar_forget [true, false, true] rfl ?_
          exact H h0
        · replace H := H.2 c11
          refine ar_aload_n (pc := 65) (i := 0) (k0 := 0) (by decide +kernel) rfl rfl ?_
          refine ar_callV (pc := 66) (M2 := M_X7_isCompared) (a := 294) (ci := 7) (as := []) (n2 := 321) (st := []) (by decide +kernel) rfl wm_RX7_229 wi_yX7_isCompared wl_yX7_isCompared k_294 rfl wz_RX7 wc_yX7_isCompared ⟨by decide, by decide, rfl⟩ (by decide) (Nat.le_of_ble_eq_true rfl) (Nat.le_refl _) (Nat.le_refl _) (am_Cl_mono H (fun r12 h13 H => ?_))
          show am_Wp true (d + 1) M_X7_all 321 321 h0 Q 69 [some (.inr (.inr 294)), some (.inl v1), none] [.inl r12] 321 h13
          refine ar_if_ne (pc := 69) (x := r12) (tgt := 74) (off := 5) (by decide +kernel) (by decide) (fun c14 => ?_) (fun c14 => ?_)
          · replace H := H.1 c14
            refine ar_forget [true, false, true] rfl ?_
            exact H h0
          · replace H := H.2 c14
            refine ar_iconst (pc := 72) (z := 1) (by decide +kernel) (by unfold am_i32; omega) ?_
            exact ar_iret (pc := 73) (x := 1) (by decide +kernel) rfl rfl H
    · replace H := H.2 c7
      refine ar_goto (pc := 48) (tgt := 34) (off := -14) (by decide +kernel) (by decide) ?_
      exact H h0
theorem B_X7_all_74 {d : Nat} {Q : Int → am_H → Prop} {h : am_H} (H : cf d M_X7_settle [.inr (.inr 294), .inl 1] h (fun _ h2 => Q 0 h2)) : wf (d + 1) M_X7_all Q 74 [some (.inr (.inr 294)), none, none] [] h := by
  intro h0
  refine ar_aload_n (pc := 74) (i := 0) (k0 := 0) (by decide +kernel) rfl rfl ?_
  refine ar_iconst (pc := 75) (z := 1) (by decide +kernel) (by unfold am_i32; omega) ?_
  refine ar_callV (pc := 76) (M2 := M_X7_settle) (a := 294) (ci := 7) (as := [.inl 1]) (n2 := 321) (st := []) (by decide +kernel) rfl wm_RX7_215 wi_yX7_settle wl_yX7_settle k_294 rfl wz_RX7 wc_yX7_settle ⟨by decide, by decide, rfl⟩ (by decide) (Nat.le_of_ble_eq_true rfl) (Nat.le_refl _) (Nat.le_refl _) (am_Cl_mono H (fun r1 h2 H => ?_))
  show am_Wp true (d + 1) M_X7_all 321 321 h0 Q 79 [some (.inr (.inr 294)), none, none] [] 321 h2
  refine ar_iconst (pc := 79) (z := 0) (by decide +kernel) (by unfold am_i32; omega) ?_
  exact ar_iret (pc := 80) (x := 0) (by decide +kernel) rfl rfl H

/-! ByteIntervalsModel.figure(III)I -/
theorem B_X7_figure_0 {d : Nat} {Q : Int → am_H → Prop} {h : am_H} {v1 v2 v3 : Int} (H : ((h 294 9) = 1 → cf d M_X7_isIn [.inl (h 294 10), .inl v2, .inl v3] h (fun r2 h3 => (¬ r2 = 0 → (0 ≤ v1) ∧ ((v1 < 3300) ∧ (cf d M_X7_nextToken [.inr (.inr 294)] (am_up h3 297 v1 (h3 294 10)) (fun _ h8 => Q 0 h8)))) ∧ (r2 = 0 → Q 2 h3))) ∧ (¬ (h 294 9) = 1 → Q 1 h)) : wf (d + 1) M_X7_figure Q 0 [some (.inr (.inr 294)), some (.inl v1), some (.inl v2), some (.inl v3)] [] h := by
  intro h0
  refine ar_aload_n (pc := 0) (i := 0) (k0 := 0) (by decide +kernel) rfl rfl ?_
  refine ar_getV (pc := 1) (a := 294) (v := .inl (h 294 9)) 7 9 (by decide +kernel) k_294 rfl (by decide) wf_RX7_129 rfl ?_
  refine ar_iconst (pc := 4) (z := 1) (by decide +kernel) (by unfold am_i32; omega) ?_
  refine ar_icmp_eq (pc := 5) (x := (h 294 9)) (y := 1) (tgt := 10) (off := 5) (by decide +kernel) (by decide) (fun c1 => ?_) (fun c1 => ?_)
  · replace H := H.1 c1
    refine ar_aload_n (pc := 10) (i := 0) (k0 := 0) (by decide +kernel) rfl rfl ?_
    refine ar_getV (pc := 11) (a := 294) (v := .inl (h 294 10)) 7 10 (by decide +kernel) k_294 rfl (by decide) wf_RX7_136 rfl ?_
    refine ar_iload_n (pc := 14) (i := 2) (k0 := 2) (by decide +kernel) rfl rfl ?_
    refine ar_iload_n (pc := 15) (i := 3) (k0 := 3) (by decide +kernel) rfl rfl ?_
    refine ar_callS (pc := 16) (M2 := M_X7_isIn) (as := [.inl (h 294 10), .inl v2, .inl v3]) (n2 := 321) (st := []) (by decide +kernel) rfl wm_RX7_108 ws_yX7_isIn wz_RX7 wc_yX7_isIn ⟨by decide, by decide, rfl⟩ (by decide) (Nat.le_of_ble_eq_true rfl) (Nat.le_refl _) (Nat.le_refl _) (am_Cl_mono H (fun r2 h3 H => ?_))
    show am_Wp true (d + 1) M_X7_figure 321 321 h0 Q 19 [some (.inr (.inr 294)), some (.inl v1), some (.inl v2), some (.inl v3)] [.inl r2] 321 h3
    refine ar_if_ne (pc := 19) (x := r2) (tgt := 24) (off := 5) (by decide +kernel) (by decide) (fun c4 => ?_) (fun c4 => ?_)
    · replace H := H.1 c4
      refine ar_aload_n (pc := 24) (i := 0) (k0 := 0) (by decide +kernel) rfl rfl ?_
      refine ar_getFV (pc := 25) (a := 294) (b := 297) 7 2 (by decide +kernel) k_294 rfl (by decide) wf_RX7_16 rfl (fun _ => rfl) rfl ?_
      refine ar_iload_n (pc := 28) (i := 1) (k0 := 1) (by decide +kernel) rfl rfl ?_
      refine ar_aload_n (pc := 29) (i := 0) (k0 := 0) (by decide +kernel) rfl rfl ?_
      refine ar_getV (pc := 30) (a := 294) (v := .inl (h3 294 10)) 7 10 (by decide +kernel) k_294 rfl (by decide) wf_RX7_136 rfl ?_
      obtain ⟨g5, H⟩ := H
      obtain ⟨g6, H⟩ := H
      refine ar_iast (pc := 33) (a := 297) (i := v1) (z := (h3 294 10)) (by decide +kernel) k_297 g5 (am_lt_eq g6 (l_297).symm) ?_
      refine ar_aload_n (pc := 34) (i := 0) (k0 := 0) (by decide +kernel) rfl rfl ?_
      refine ar_callV (pc := 35) (M2 := M_X7_nextToken) (a := 294) (ci := 7) (as := []) (n2 := 321) (st := []) (by decide +kernel) rfl wm_RX7_203 wi_yX7_nextToken wl_yX7_nextToken k_294 rfl wz_RX7 wc_yX7_nextToken ⟨by decide, by decide, rfl⟩ (by decide) (Nat.le_of_ble_eq_true rfl) (Nat.le_refl _) (Nat.le_refl _) (am_Cl_mono H (fun r7 h8 H => ?_))
      show am_Wp true (d + 1) M_X7_figure 321 321 h0 Q 38 [some (.inr (.inr 294)), some (.inl v1), some (.inl v2), some (.inl v3)] [] 321 h8
      refine ar_iconst (pc := 38) (z := 0) (by decide +kernel) (by unfold am_i32; omega) ?_
      exact ar_iret (pc := 39) (x := 0) (by decide +kernel) rfl rfl H
    · replace H := H.2 c4
      refine ar_iconst (pc := 22) (z := 2) (by decide +kernel) (by unfold am_i32; omega) ?_
      exact ar_iret (pc := 23) (x := 2) (by decide +kernel) rfl rfl H
  · replace H := H.2 c1
    refine ar_iconst (pc := 8) (z := 1) (by decide +kernel) (by unfold am_i32; omega) ?_
    exact ar_iret (pc := 9) (x := 1) (by decide +kernel) rfl rfl H

/-! ByteIntervalsModel.sumClause(II)I -/
theorem B_X7_sumClause_0 {d : Nat} {Q : Int → am_H → Prop} {h : am_H} {v1 v2 : Int} (H : (0 ≤ (am_w32 ((am_w32 (v1 + 3)) + (am_w32 (2 * v2))))) ∧ (((am_w32 ((am_w32 (v1 + 3)) + (am_w32 (2 * v2)))) < 3300) ∧ (cf d M_X7_summed [.inr (.inr 294)] (am_up h 297 (am_w32 ((am_w32 (v1 + 3)) + (am_w32 (2 * v2)))) (h 294 13)) (fun r3 h4 => (0 ≤ (am_w32 ((am_w32 (v1 + 4)) + (am_w32 (2 * v2))))) ∧ (((am_w32 ((am_w32 (v1 + 4)) + (am_w32 (2 * v2)))) < 3300) ∧ (Q r3 (am_up h4 297 (am_w32 ((am_w32 (v1 + 4)) + (am_w32 (2 * v2)))) (h4 294 13)))))))) : wf (d + 1) M_X7_sumClause Q 0 [some (.inr (.inr 294)), some (.inl v1), some (.inl v2), none] [] h := by
  intro h0
  refine ar_aload_n (pc := 0) (i := 0) (k0 := 0) (by decide +kernel) rfl rfl ?_
  refine ar_getFV (pc := 1) (a := 294) (b := 297) 7 2 (by decide +kernel) k_294 rfl (by decide) wf_RX7_16 rfl (fun _ => rfl) rfl ?_
  refine ar_iload_n (pc := 4) (i := 1) (k0 := 1) (by decide +kernel) rfl rfl ?_
  refine ar_iconst (pc := 5) (z := 3) (by decide +kernel) (by unfold am_i32; omega) ?_
  refine ar_iadd (pc := 6) (x := v1) (y := 3) (by decide +kernel) ?_
  refine ar_iconst (pc := 7) (z := 2) (by decide +kernel) (by unfold am_i32; omega) ?_
  refine ar_iload_n (pc := 8) (i := 2) (k0 := 2) (by decide +kernel) rfl rfl ?_
  refine ar_imul (pc := 9) (x := 2) (y := v2) (by decide +kernel) ?_
  refine ar_iadd (pc := 10) (x := (am_w32 (v1 + 3))) (y := (am_w32 (2 * v2))) (by decide +kernel) ?_
  refine ar_aload_n (pc := 11) (i := 0) (k0 := 0) (by decide +kernel) rfl rfl ?_
  refine ar_getV (pc := 12) (a := 294) (v := .inl (h 294 13)) 7 13 (by decide +kernel) k_294 rfl (by decide) wf_RX7_171 rfl ?_
  obtain ⟨g1, H⟩ := H
  obtain ⟨g2, H⟩ := H
  refine ar_iast (pc := 15) (a := 297) (i := (am_w32 ((am_w32 (v1 + 3)) + (am_w32 (2 * v2))))) (z := (h 294 13)) (by decide +kernel) k_297 g1 (am_lt_eq g2 (l_297).symm) ?_
  refine ar_aload_n (pc := 16) (i := 0) (k0 := 0) (by decide +kernel) rfl rfl ?_
  refine ar_callV (pc := 17) (M2 := M_X7_summed) (a := 294) (ci := 7) (as := []) (n2 := 321) (st := []) (by decide +kernel) rfl wm_RX7_250 wi_yX7_summed wl_yX7_summed k_294 rfl wz_RX7 wc_yX7_summed ⟨by decide, by decide, rfl⟩ (by decide) (Nat.le_of_ble_eq_true rfl) (Nat.le_refl _) (Nat.le_refl _) (am_Cl_mono H (fun r3 h4 H => ?_))
  show am_Wp true (d + 1) M_X7_sumClause 321 321 h0 Q 20 [some (.inr (.inr 294)), some (.inl v1), some (.inl v2), none] [.inl r3] 321 h4
  refine ar_istore_n (pc := 20) (i := 3) (k0 := 3) (ls2 := [some (.inr (.inr 294)), some (.inl v1), some (.inl v2), some (.inl r3)]) (by decide +kernel) rfl (by decide) rfl ?_
  refine ar_aload_n (pc := 21) (i := 0) (k0 := 0) (by decide +kernel) rfl rfl ?_
  refine ar_getFV (pc := 22) (a := 294) (b := 297) 7 2 (by decide +kernel) k_294 rfl (by decide) wf_RX7_16 rfl (fun _ => rfl) rfl ?_
  refine ar_iload_n (pc := 25) (i := 1) (k0 := 1) (by decide +kernel) rfl rfl ?_
  refine ar_iconst (pc := 26) (z := 4) (by decide +kernel) (by unfold am_i32; omega) ?_
  refine ar_iadd (pc := 27) (x := v1) (y := 4) (by decide +kernel) ?_
  refine ar_iconst (pc := 28) (z := 2) (by decide +kernel) (by unfold am_i32; omega) ?_
  refine ar_iload_n (pc := 29) (i := 2) (k0 := 2) (by decide +kernel) rfl rfl ?_
  refine ar_imul (pc := 30) (x := 2) (y := v2) (by decide +kernel) ?_
  refine ar_iadd (pc := 31) (x := (am_w32 (v1 + 4))) (y := (am_w32 (2 * v2))) (by decide +kernel) ?_
  refine ar_aload_n (pc := 32) (i := 0) (k0 := 0) (by decide +kernel) rfl rfl ?_
  refine ar_getV (pc := 33) (a := 294) (v := .inl (h4 294 13)) 7 13 (by decide +kernel) k_294 rfl (by decide) wf_RX7_171 rfl ?_
  obtain ⟨g5, H⟩ := H
  obtain ⟨g6, H⟩ := H
  refine ar_iast (pc := 36) (a := 297) (i := (am_w32 ((am_w32 (v1 + 4)) + (am_w32 (2 * v2))))) (z := (h4 294 13)) (by decide +kernel) k_297 g5 (am_lt_eq g6 (l_297).symm) ?_
  refine ar_iload_n (pc := 37) (i := 3) (k0 := 3) (by decide +kernel) rfl rfl ?_
  exact ar_iret (pc := 38) (x := r3) (by decide +kernel) rfl rfl H

/-! ByteIntervalsModel.furtherSum(IIJ)I -/
theorem B_X7_furtherSum_0 {d : Nat} {Q : Int → am_H → Prop} {h : am_H} {v1 v2 v3 : Int} (H : cf d M_X7_isWord [.inr (.inr 294), .inr (.inl v3)] h (fun r1 h2 => (¬ r1 = 0 → cf d M_X7_nextToken [.inr (.inr 294)] h2 (fun _ h5 => cf d M_X7_sumClause [.inr (.inr 294), .inl v1, .inl v2] h5 (fun r6 h7 => Q r6 h7))) ∧ (r1 = 0 → Q 1 h2))) : wf (d + 1) M_X7_furtherSum Q 0 [some (.inr (.inr 294)), some (.inl v1), some (.inl v2), some (.inr (.inl v3)), none] [] h := by
  intro h0
  refine ar_aload_n (pc := 0) (i := 0) (k0 := 0) (by decide +kernel) rfl rfl ?_
  refine ar_lload_n (pc := 1) (i := 3) (k0 := 3) (by decide +kernel) rfl rfl ?_
  refine ar_callV (pc := 2) (M2 := M_X7_isWord) (a := 294) (ci := 7) (as := [.inr (.inl v3)]) (n2 := 321) (st := []) (by decide +kernel) rfl wm_RX7_221 wi_yX7_isWord wl_yX7_isWord k_294 rfl wz_RX7 wc_yX7_isWord ⟨by decide, by decide, rfl⟩ (by decide) (Nat.le_of_ble_eq_true rfl) (Nat.le_refl _) (Nat.le_refl _) (am_Cl_mono H (fun r1 h2 H => ?_))
  show am_Wp true (d + 1) M_X7_furtherSum 321 321 h0 Q 5 [some (.inr (.inr 294)), some (.inl v1), some (.inl v2), some (.inr (.inl v3)), none] [.inl r1] 321 h2
  refine ar_if_ne (pc := 5) (x := r1) (tgt := 10) (off := 5) (by decide +kernel) (by decide) (fun c3 => ?_) (fun c3 => ?_)
  · replace H := H.1 c3
    refine ar_aload_n (pc := 10) (i := 0) (k0 := 0) (by decide +kernel) rfl rfl ?_
    refine ar_callV (pc := 11) (M2 := M_X7_nextToken) (a := 294) (ci := 7) (as := []) (n2 := 321) (st := []) (by decide +kernel) rfl wm_RX7_203 wi_yX7_nextToken wl_yX7_nextToken k_294 rfl wz_RX7 wc_yX7_nextToken ⟨by decide, by decide, rfl⟩ (by decide) (Nat.le_of_ble_eq_true rfl) (Nat.le_refl _) (Nat.le_refl _) (am_Cl_mono H (fun r4 h5 H => ?_))
    show am_Wp true (d + 1) M_X7_furtherSum 321 321 h0 Q 14 [some (.inr (.inr 294)), some (.inl v1), some (.inl v2), some (.inr (.inl v3)), none] [] 321 h5
    refine ar_aload_n (pc := 14) (i := 0) (k0 := 0) (by decide +kernel) rfl rfl ?_
    refine ar_iload_n (pc := 15) (i := 1) (k0 := 1) (by decide +kernel) rfl rfl ?_
    refine ar_iload_n (pc := 16) (i := 2) (k0 := 2) (by decide +kernel) rfl rfl ?_
    refine ar_callV (pc := 17) (M2 := M_X7_sumClause) (a := 294) (ci := 7) (as := [.inl v1, .inl v2]) (n2 := 321) (st := []) (by decide +kernel) rfl wm_RX7_253 wi_yX7_sumClause wl_yX7_sumClause k_294 rfl wz_RX7 wc_yX7_sumClause ⟨by decide, by decide, rfl⟩ (by decide) (Nat.le_of_ble_eq_true rfl) (Nat.le_refl _) (Nat.le_refl _) (am_Cl_mono H (fun r6 h7 H => ?_))
    show am_Wp true (d + 1) M_X7_furtherSum 321 321 h0 Q 20 [some (.inr (.inr 294)), some (.inl v1), some (.inl v2), some (.inr (.inl v3)), none] [.inl r6] 321 h7
    exact ar_iret (pc := 20) (x := r6) (by decide +kernel) rfl rfl H
  · replace H := H.2 c3
    refine ar_iconst (pc := 8) (z := 1) (by decide +kernel) (by unfold am_i32; omega) ?_
    exact ar_iret (pc := 9) (x := 1) (by decide +kernel) rfl rfl H

/-! ByteIntervalsModel.mustClause(I)I -/
theorem B_X7_mustClause_0 {d : Nat} {Q : Int → am_H → Prop} {h : am_H} {v1 : Int} (H : (0 ≤ (am_w32 (v1 + 3))) ∧ (((am_w32 (v1 + 3)) < 3300) ∧ (cf d M_X7_all [.inr (.inr 294), .inl 44] (am_up h 297 (am_w32 (v1 + 3)) (h 294 13)) (fun r3 h4 => (0 ≤ (am_w32 (v1 + 4))) ∧ (((am_w32 (v1 + 4)) < 3300) ∧ (Q r3 (am_up h4 297 (am_w32 (v1 + 4)) (h4 294 13)))))))) : wf (d + 1) M_X7_mustClause Q 0 [some (.inr (.inr 294)), some (.inl v1), none] [] h := by
  intro h0
  refine ar_aload_n (pc := 0) (i := 0) (k0 := 0) (by decide +kernel) rfl rfl ?_
  refine ar_getFV (pc := 1) (a := 294) (b := 297) 7 2 (by decide +kernel) k_294 rfl (by decide) wf_RX7_16 rfl (fun _ => rfl) rfl ?_
  refine ar_iload_n (pc := 4) (i := 1) (k0 := 1) (by decide +kernel) rfl rfl ?_
  refine ar_iconst (pc := 5) (z := 3) (by decide +kernel) (by unfold am_i32; omega) ?_
  refine ar_iadd (pc := 6) (x := v1) (y := 3) (by decide +kernel) ?_
  refine ar_aload_n (pc := 7) (i := 0) (k0 := 0) (by decide +kernel) rfl rfl ?_
  refine ar_getV (pc := 8) (a := 294) (v := .inl (h 294 13)) 7 13 (by decide +kernel) k_294 rfl (by decide) wf_RX7_171 rfl ?_
  obtain ⟨g1, H⟩ := H
  obtain ⟨g2, H⟩ := H
  refine ar_iast (pc := 11) (a := 297) (i := (am_w32 (v1 + 3))) (z := (h 294 13)) (by decide +kernel) k_297 g1 (am_lt_eq g2 (l_297).symm) ?_
  refine ar_aload_n (pc := 12) (i := 0) (k0 := 0) (by decide +kernel) rfl rfl ?_
  refine ar_bipush (pc := 13) (z := 44) (by decide +kernel) (by omega) ?_
  refine ar_callV (pc := 15) (M2 := M_X7_all) (a := 294) (ci := 7) (as := [.inl 44]) (n2 := 321) (st := []) (by decide +kernel) rfl wm_RX7_241 wi_yX7_all wl_yX7_all k_294 rfl wz_RX7 wc_yX7_all ⟨by decide, by decide, rfl⟩ (by decide) (Nat.le_of_ble_eq_true rfl) (Nat.le_refl _) (Nat.le_refl _) (am_Cl_mono H (fun r3 h4 H => ?_))
  show am_Wp true (d + 1) M_X7_mustClause 321 321 h0 Q 18 [some (.inr (.inr 294)), some (.inl v1), none] [.inl r3] 321 h4
  refine ar_istore_n (pc := 18) (i := 2) (k0 := 2) (ls2 := [some (.inr (.inr 294)), some (.inl v1), some (.inl r3)]) (by decide +kernel) rfl (by decide) rfl ?_
  refine ar_aload_n (pc := 19) (i := 0) (k0 := 0) (by decide +kernel) rfl rfl ?_
  refine ar_getFV (pc := 20) (a := 294) (b := 297) 7 2 (by decide +kernel) k_294 rfl (by decide) wf_RX7_16 rfl (fun _ => rfl) rfl ?_
  refine ar_iload_n (pc := 23) (i := 1) (k0 := 1) (by decide +kernel) rfl rfl ?_
  refine ar_iconst (pc := 24) (z := 4) (by decide +kernel) (by unfold am_i32; omega) ?_
  refine ar_iadd (pc := 25) (x := v1) (y := 4) (by decide +kernel) ?_
  refine ar_aload_n (pc := 26) (i := 0) (k0 := 0) (by decide +kernel) rfl rfl ?_
  refine ar_getV (pc := 27) (a := 294) (v := .inl (h4 294 13)) 7 13 (by decide +kernel) k_294 rfl (by decide) wf_RX7_171 rfl ?_
  obtain ⟨g5, H⟩ := H
  obtain ⟨g6, H⟩ := H
  refine ar_iast (pc := 30) (a := 297) (i := (am_w32 (v1 + 4))) (z := (h4 294 13)) (by decide +kernel) k_297 g5 (am_lt_eq g6 (l_297).symm) ?_
  refine ar_iload_n (pc := 31) (i := 2) (k0 := 2) (by decide +kernel) rfl rfl ?_
  exact ar_iret (pc := 32) (x := r3) (by decide +kernel) rfl rfl H

/-! ByteIntervalsModel.fieldClause(II)I -/
theorem B_X7_fieldClause_0 {d : Nat} {Q : Int → am_H → Prop} {h : am_H} {v1 v2 : Int} (H : cf d M_X7_fieldNamed [.inr (.inr 294)] h (fun r1 h2 => (0 ≤ r1 → cf d M_X7_has [.inl (h2 294 20), .inl r1] h2 (fun r4 h5 => (r4 = 0 → (0 ≤ (am_w32 (v2 + 1))) ∧ (((am_w32 (v2 + 1)) < 3300) ∧ (cf d M_X7_nextToken [.inr (.inr 294)] (am_up (am_up h5 294 20 (am_ior (h5 294 20) (am_ishl 1 r1))) 297 (am_w32 (v2 + 1)) r1) (fun _ h10 => cf d M_X7_w2 [.inl 97, .inl 116] h10 (fun r11 h12 => cf d M_X7_furtherSum [.inr (.inr 294), .inl v2, .inl 0, .inr (.inl r11)] h12 (fun r13 h14 => (¬ r13 = 0 → wf (d + 1) M_X7_fieldClause Q 89 [some (.inr (.inr 294)), none, some (.inl v2), none, some (.inl r13)] [] h14) ∧ (r13 = 0 → (¬ v1 = 1 → wf (d + 1) M_X7_fieldClause Q 89 [some (.inr (.inr 294)), none, some (.inl v2), none, some (.inl r13)] [] h14) ∧ (v1 = 1 → cf d M_X7_w2 [.inl 111, .inl 102] h14 (fun r17 h18 => cf d M_X7_furtherSum [.inr (.inr 294), .inl v2, .inl 2, .inr (.inl r17)] h18 (fun r19 h20 => wf (d + 1) M_X7_fieldClause Q 89 [some (.inr (.inr 294)), none, some (.inl v2), none, some (.inl r19)] [] h20)))))))))) ∧ (¬ r4 = 0 → Q 4 h5))) ∧ (r1 < 0 → Q 1 h2))) : wf (d + 1) M_X7_fieldClause Q 0 [some (.inr (.inr 294)), some (.inl v1), some (.inl v2), none, none] [] h := by
  intro h0
  refine ar_aload_n (pc := 0) (i := 0) (k0 := 0) (by decide +kernel) rfl rfl ?_
  refine ar_callV (pc := 1) (M2 := M_X7_fieldNamed) (a := 294) (ci := 7) (as := []) (n2 := 321) (st := []) (by decide +kernel) rfl wm_RX7_174 wi_yX7_fieldNamed wl_yX7_fieldNamed k_294 rfl wz_RX7 wc_yX7_fieldNamed ⟨by decide, by decide, rfl⟩ (by decide) (Nat.le_of_ble_eq_true rfl) (Nat.le_refl _) (Nat.le_refl _) (am_Cl_mono H (fun r1 h2 H => ?_))
  show am_Wp true (d + 1) M_X7_fieldClause 321 321 h0 Q 4 [some (.inr (.inr 294)), some (.inl v1), some (.inl v2), none, none] [.inl r1] 321 h2
  refine ar_istore_n (pc := 4) (i := 3) (k0 := 3) (ls2 := [some (.inr (.inr 294)), some (.inl v1), some (.inl v2), some (.inl r1), none]) (by decide +kernel) rfl (by decide) rfl ?_
  refine ar_iload_n (pc := 5) (i := 3) (k0 := 3) (by decide +kernel) rfl rfl ?_
  refine ar_if_ge (pc := 6) (x := r1) (tgt := 11) (off := 5) (by decide +kernel) (by decide) (fun c3 => ?_) (fun c3 => ?_)
  · replace H := H.1 c3
    refine ar_aload_n (pc := 11) (i := 0) (k0 := 0) (by decide +kernel) rfl rfl ?_
    refine ar_getV (pc := 12) (a := 294) (v := .inl (h2 294 20)) 7 20 (by decide +kernel) k_294 rfl (by decide) wf_RX7_257 rfl ?_
    refine ar_iload_n (pc := 15) (i := 3) (k0 := 3) (by decide +kernel) rfl rfl ?_
    refine ar_callS (pc := 16) (M2 := M_X7_has) (as := [.inl (h2 294 20), .inl r1]) (n2 := 321) (st := []) (by decide +kernel) rfl wm_RX7_260 ws_yX7_has wz_RX7 wc_yX7_has ⟨by decide, by decide, rfl⟩ (by decide) (Nat.le_of_ble_eq_true rfl) (Nat.le_refl _) (Nat.le_refl _) (am_Cl_mono H (fun r4 h5 H => ?_))
    show am_Wp true (d + 1) M_X7_fieldClause 321 321 h0 Q 19 [some (.inr (.inr 294)), some (.inl v1), some (.inl v2), some (.inl r1), none] [.inl r4] 321 h5
    refine ar_if_eq (pc := 19) (x := r4) (tgt := 24) (off := 5) (by decide +kernel) (by decide) (fun c6 => ?_) (fun c6 => ?_)
    · replace H := H.1 c6
      refine ar_aload_n (pc := 24) (i := 0) (k0 := 0) (by decide +kernel) rfl rfl ?_
      refine ar_dup (pc := 25) (by decide +kernel) trivial ?_
      refine ar_getV (pc := 26) (a := 294) (v := .inl (h5 294 20)) 7 20 (by decide +kernel) k_294 rfl (by decide) wf_RX7_257 rfl ?_
      refine ar_iconst (pc := 29) (z := 1) (by decide +kernel) (by unfold am_i32; omega) ?_
      refine ar_iload_n (pc := 30) (i := 3) (k0 := 3) (by decide +kernel) rfl rfl ?_
      refine ar_ishl (pc := 31) (x := 1) (y := r1) (by decide +kernel) ?_
      refine ar_ior (pc := 32) (x := (h5 294 20)) (y := (am_ishl 1 r1)) (by decide +kernel) ?_
      refine ar_putI (pc := 33) (a := 294) (z := (am_ior (h5 294 20) (am_ishl 1 r1))) 7 20 (by decide +kernel) k_294 rfl (by decide) rfl (fun _ => rfl) rfl wf_RX7_257 ?_
      refine ar_aload_n (pc := 36) (i := 0) (k0 := 0) (by decide +kernel) rfl rfl ?_
      refine ar_getFV (pc := 37) (a := 294) (b := 297) 7 2 (by decide +kernel) k_294 rfl (by decide) wf_RX7_16 rfl (fun _ => rfl) rfl ?_
      refine ar_iload_n (pc := 40) (i := 2) (k0 := 2) (by decide +kernel) rfl rfl ?_
      refine ar_iconst (pc := 41) (z := 1) (by decide +kernel) (by unfold am_i32; omega) ?_
      refine ar_iadd (pc := 42) (x := v2) (y := 1) (by decide +kernel) ?_
      refine ar_iload_n (pc := 43) (i := 3) (k0 := 3) (by decide +kernel) rfl rfl ?_
      obtain ⟨g7, H⟩ := H
      obtain ⟨g8, H⟩ := H
      refine ar_iast (pc := 44) (a := 297) (i := (am_w32 (v2 + 1))) (z := r1) (by decide +kernel) k_297 g7 (am_lt_eq g8 (l_297).symm) ?_
      refine ar_aload_n (pc := 45) (i := 0) (k0 := 0) (by decide +kernel) rfl rfl ?_
      refine ar_callV (pc := 46) (M2 := M_X7_nextToken) (a := 294) (ci := 7) (as := []) (n2 := 321) (st := []) (by decide +kernel) rfl wm_RX7_203 wi_yX7_nextToken wl_yX7_nextToken k_294 rfl wz_RX7 wc_yX7_nextToken ⟨by decide, by decide, rfl⟩ (by decide) (Nat.le_of_ble_eq_true rfl) (Nat.le_refl _) (Nat.le_refl _) (am_Cl_mono H (fun r9 h10 H => ?_))
      show am_Wp true (d + 1) M_X7_fieldClause 321 321 h0 Q 49 [some (.inr (.inr 294)), some (.inl v1), some (.inl v2), some (.inl r1), none] [] 321 h10
      refine ar_aload_n (pc := 49) (i := 0) (k0 := 0) (by decide +kernel) rfl rfl ?_
      refine ar_iload_n (pc := 50) (i := 2) (k0 := 2) (by decide +kernel) rfl rfl ?_
      refine ar_iconst (pc := 51) (z := 0) (by decide +kernel) (by unfold am_i32; omega) ?_
      refine ar_bipush (pc := 52) (z := 97) (by decide +kernel) (by omega) ?_
      refine ar_bipush (pc := 54) (z := 116) (by decide +kernel) (by omega) ?_
      refine ar_callS (pc := 56) (M2 := M_X7_w2) (as := [.inl 97, .inl 116]) (n2 := 321) (st := [.inl 0, .inl v2, .inr (.inr 294)]) (by decide +kernel) rfl wm_RX7_152 ws_yX7_w2 wz_RX7 wc_yX7_w2 ⟨by decide, by decide, rfl⟩ (by decide) (Nat.le_of_ble_eq_true rfl) (Nat.le_refl _) (Nat.le_refl _) (am_Cl_mono H (fun r11 h12 H => ?_))
      show am_Wp true (d + 1) M_X7_fieldClause 321 321 h0 Q 59 [some (.inr (.inr 294)), some (.inl v1), some (.inl v2), some (.inl r1), none] [.inr (.inl r11), .inl 0, .inl v2, .inr (.inr 294)] 321 h12
      refine ar_callV (pc := 59) (M2 := M_X7_furtherSum) (a := 294) (ci := 7) (as := [.inl v2, .inl 0, .inr (.inl r11)]) (n2 := 321) (st := []) (by decide +kernel) rfl wm_RX7_264 wi_yX7_furtherSum wl_yX7_furtherSum k_294 rfl wz_RX7 wc_yX7_furtherSum ⟨by decide, by decide, rfl⟩ (by decide) (Nat.le_of_ble_eq_true rfl) (Nat.le_refl _) (Nat.le_refl _) (am_Cl_mono H (fun r13 h14 H => ?_))
      show am_Wp true (d + 1) M_X7_fieldClause 321 321 h0 Q 62 [some (.inr (.inr 294)), some (.inl v1), some (.inl v2), some (.inl r1), none] [.inl r13] 321 h14
      refine ar_istore (pc := 62) (i := 4) (ls2 := [some (.inr (.inr 294)), some (.inl v1), some (.inl v2), some (.inl r1), some (.inl r13)]) (by decide +kernel) (by decide) rfl ?_
      refine ar_iload (pc := 64) (i := 4) (by decide +kernel) rfl ?_
      refine ar_if_ne (pc := 66) (x := r13) (tgt := 89) (off := 23) (by decide +kernel) (by decide) (fun c15 => ?_) (fun c15 => ?_)
      · replace H := H.1 c15
        refine ar_forget [true, false, true, false, true] rfl ?_
        exact H h0
      · replace H := H.2 c15
        refine ar_iload_n (pc := 69) (i := 1) (k0 := 1) (by decide +kernel) rfl rfl ?_
        refine ar_iconst (pc := 70) (z := 1) (by decide +kernel) (by unfold am_i32; omega) ?_
        refine ar_icmp_ne (pc := 71) (x := v1) (y := 1) (tgt := 89) (off := 18) (by decide +kernel) (by decide) (fun c16 => ?_) (fun c16 => ?_)
        · replace H := H.1 c16
          refine ar_forget [true, false, true, false, true] rfl ?_
          exact H h0
        · replace H := H.2 c16
          refine ar_aload_n (pc := 74) (i := 0) (k0 := 0) (by decide +kernel) rfl rfl ?_
          refine ar_iload_n (pc := 75) (i := 2) (k0 := 2) (by decide +kernel) rfl rfl ?_
          refine ar_iconst (pc := 76) (z := 2) (by decide +kernel) (by unfold am_i32; omega) ?_
          refine ar_bipush (pc := 77) (z := 111) (by decide +kernel) (by omega) ?_
          refine ar_bipush (pc := 79) (z := 102) (by decide +kernel) (by omega) ?_
          refine ar_callS (pc := 81) (M2 := M_X7_w2) (as := [.inl 111, .inl 102]) (n2 := 321) (st := [.inl 2, .inl v2, .inr (.inr 294)]) (by decide +kernel) rfl wm_RX7_152 ws_yX7_w2 wz_RX7 wc_yX7_w2 ⟨by decide, by decide, rfl⟩ (by decide) (Nat.le_of_ble_eq_true rfl) (Nat.le_refl _) (Nat.le_refl _) (am_Cl_mono H (fun r17 h18 H => ?_))
          show am_Wp true (d + 1) M_X7_fieldClause 321 321 h0 Q 84 [some (.inr (.inr 294)), some (.inl v1), some (.inl v2), some (.inl r1), some (.inl r13)] [.inr (.inl r17), .inl 2, .inl v2, .inr (.inr 294)] 321 h18
          refine ar_callV (pc := 84) (M2 := M_X7_furtherSum) (a := 294) (ci := 7) (as := [.inl v2, .inl 2, .inr (.inl r17)]) (n2 := 321) (st := []) (by decide +kernel) rfl wm_RX7_264 wi_yX7_furtherSum wl_yX7_furtherSum k_294 rfl wz_RX7 wc_yX7_furtherSum ⟨by decide, by decide, rfl⟩ (by decide) (Nat.le_of_ble_eq_true rfl) (Nat.le_refl _) (Nat.le_refl _) (am_Cl_mono H (fun r19 h20 H => ?_))
          show am_Wp true (d + 1) M_X7_fieldClause 321 321 h0 Q 87 [some (.inr (.inr 294)), some (.inl v1), some (.inl v2), some (.inl r1), some (.inl r13)] [.inl r19] 321 h20
          refine ar_istore (pc := 87) (i := 4) (ls2 := [some (.inr (.inr 294)), some (.inl v1), some (.inl v2), some (.inl r1), some (.inl r19)]) (by decide +kernel) (by decide) rfl ?_
          refine ar_forget [true, false, true, false, true] rfl ?_
          exact H h0
    · replace H := H.2 c6
      refine ar_iconst (pc := 22) (z := 4) (by decide +kernel) (by unfold am_i32; omega) ?_
      exact ar_iret (pc := 23) (x := 4) (by decide +kernel) rfl rfl H
  · replace H := H.2 c3
    refine ar_iconst (pc := 9) (z := 1) (by decide +kernel) (by unfold am_i32; omega) ?_
    exact ar_iret (pc := 10) (x := 1) (by decide +kernel) rfl rfl H
theorem B_X7_fieldClause_89 {d : Nat} {Q : Int → am_H → Prop} {h : am_H} {v2 v4 : Int} (H : (v4 = 0 → cf d M_X7_w2 [.inl 116, .inl 111] h (fun r2 h3 => cf d M_X7_furtherSum [.inr (.inr 294), .inl v2, .inl 1, .inr (.inl r2)] h3 (fun r4 h5 => Q r4 h5))) ∧ (¬ v4 = 0 → Q v4 h)) : wf (d + 1) M_X7_fieldClause Q 89 [some (.inr (.inr 294)), none, some (.inl v2), none, some (.inl v4)] [] h := by
  intro h0
  refine ar_iload (pc := 89) (i := 4) (by decide +kernel) rfl ?_
  refine ar_if_eq (pc := 91) (x := v4) (tgt := 99) (off := 8) (by decide +kernel) (by decide) (fun c1 => ?_) (fun c1 => ?_)
  · replace H := H.1 c1
    refine ar_aload_n (pc := 99) (i := 0) (k0 := 0) (by decide +kernel) rfl rfl ?_
    refine ar_iload_n (pc := 100) (i := 2) (k0 := 2) (by decide +kernel) rfl rfl ?_
    refine ar_iconst (pc := 101) (z := 1) (by decide +kernel) (by unfold am_i32; omega) ?_
    refine ar_bipush (pc := 102) (z := 116) (by decide +kernel) (by omega) ?_
    refine ar_bipush (pc := 104) (z := 111) (by decide +kernel) (by omega) ?_
    refine ar_callS (pc := 106) (M2 := M_X7_w2) (as := [.inl 116, .inl 111]) (n2 := 321) (st := [.inl 1, .inl v2, .inr (.inr 294)]) (by decide +kernel) rfl wm_RX7_152 ws_yX7_w2 wz_RX7 wc_yX7_w2 ⟨by decide, by decide, rfl⟩ (by decide) (Nat.le_of_ble_eq_true rfl) (Nat.le_refl _) (Nat.le_refl _) (am_Cl_mono H (fun r2 h3 H => ?_))
    show am_Wp true (d + 1) M_X7_fieldClause 321 321 h0 Q 109 [some (.inr (.inr 294)), none, some (.inl v2), none, some (.inl v4)] [.inr (.inl r2), .inl 1, .inl v2, .inr (.inr 294)] 321 h3
    refine ar_callV (pc := 109) (M2 := M_X7_furtherSum) (a := 294) (ci := 7) (as := [.inl v2, .inl 1, .inr (.inl r2)]) (n2 := 321) (st := []) (by decide +kernel) rfl wm_RX7_264 wi_yX7_furtherSum wl_yX7_furtherSum k_294 rfl wz_RX7 wc_yX7_furtherSum ⟨by decide, by decide, rfl⟩ (by decide) (Nat.le_of_ble_eq_true rfl) (Nat.le_refl _) (Nat.le_refl _) (am_Cl_mono H (fun r4 h5 H => ?_))
    show am_Wp true (d + 1) M_X7_fieldClause 321 321 h0 Q 112 [some (.inr (.inr 294)), none, some (.inl v2), none, some (.inl v4)] [.inl r4] 321 h5
    exact ar_iret (pc := 112) (x := r4) (by decide +kernel) rfl rfl H
  · replace H := H.2 c1
    refine ar_iload (pc := 94) (i := 4) (by decide +kernel) rfl ?_
    refine ar_goto (pc := 96) (tgt := 112) (off := 16) (by decide +kernel) (by decide) ?_
    exact ar_iret (pc := 112) (x := v4) (by decide +kernel) rfl rfl H

/-! ByteIntervalsModel.setClause(I)I -/
theorem B_X7_setClause_0 {d : Nat} {Q : Int → am_H → Prop} {h : am_H} {v1 : Int} (H : cf d M_X7_figure [.inr (.inr 294), .inl (am_w32 (v1 + 1)), .inl 0, .inl 39] h (fun r1 h2 => (r1 = 0 → cf d M_X7_w2 [.inl 116, .inl 111] h2 (fun r4 h5 => cf d M_X7_isWord [.inr (.inr 294), .inr (.inl r4)] h5 (fun r6 h7 => (¬ r6 = 0 → cf d M_X7_nextToken [.inr (.inr 294)] h7 (fun _ h10 => cf d M_X7_figure [.inr (.inr 294), .inl (am_w32 (v1 + 2)), .inl 0, .inl 255] h10 (fun r11 h12 => Q r11 h12))) ∧ (r6 = 0 → Q 1 h7)))) ∧ (¬ r1 = 0 → Q r1 h2))) : wf (d + 1) M_X7_setClause Q 0 [some (.inr (.inr 294)), some (.inl v1), none] [] h := by
  intro h0
  refine ar_aload_n (pc := 0) (i := 0) (k0 := 0) (by decide +kernel) rfl rfl ?_
  refine ar_iload_n (pc := 1) (i := 1) (k0 := 1) (by decide +kernel) rfl rfl ?_
  refine ar_iconst (pc := 2) (z := 1) (by decide +kernel) (by unfold am_i32; omega) ?_
  refine ar_iadd (pc := 3) (x := v1) (y := 1) (by decide +kernel) ?_
  refine ar_iconst (pc := 4) (z := 0) (by decide +kernel) (by unfold am_i32; omega) ?_
  refine ar_bipush (pc := 5) (z := 39) (by decide +kernel) (by omega) ?_
  refine ar_callV (pc := 7) (M2 := M_X7_figure) (a := 294) (ci := 7) (as := [.inl (am_w32 (v1 + 1)), .inl 0, .inl 39]) (n2 := 321) (st := []) (by decide +kernel) rfl wm_RX7_268 wi_yX7_figure wl_yX7_figure k_294 rfl wz_RX7 wc_yX7_figure ⟨by decide, by decide, rfl⟩ (by decide) (Nat.le_of_ble_eq_true rfl) (Nat.le_refl _) (Nat.le_refl _) (am_Cl_mono H (fun r1 h2 H => ?_))
  show am_Wp true (d + 1) M_X7_setClause 321 321 h0 Q 10 [some (.inr (.inr 294)), some (.inl v1), none] [.inl r1] 321 h2
  refine ar_istore_n (pc := 10) (i := 2) (k0 := 2) (ls2 := [some (.inr (.inr 294)), some (.inl v1), some (.inl r1)]) (by decide +kernel) rfl (by decide) rfl ?_
  refine ar_iload_n (pc := 11) (i := 2) (k0 := 2) (by decide +kernel) rfl rfl ?_
  refine ar_if_eq (pc := 12) (x := r1) (tgt := 17) (off := 5) (by decide +kernel) (by decide) (fun c3 => ?_) (fun c3 => ?_)
  · replace H := H.1 c3
    refine ar_aload_n (pc := 17) (i := 0) (k0 := 0) (by decide +kernel) rfl rfl ?_
    refine ar_bipush (pc := 18) (z := 116) (by decide +kernel) (by omega) ?_
    refine ar_bipush (pc := 20) (z := 111) (by decide +kernel) (by omega) ?_
    refine ar_callS (pc := 22) (M2 := M_X7_w2) (as := [.inl 116, .inl 111]) (n2 := 321) (st := [.inr (.inr 294)]) (by decide +kernel) rfl wm_RX7_152 ws_yX7_w2 wz_RX7 wc_yX7_w2 ⟨by decide, by decide, rfl⟩ (by decide) (Nat.le_of_ble_eq_true rfl) (Nat.le_refl _) (Nat.le_refl _) (am_Cl_mono H (fun r4 h5 H => ?_))
    show am_Wp true (d + 1) M_X7_setClause 321 321 h0 Q 25 [some (.inr (.inr 294)), some (.inl v1), some (.inl r1)] [.inr (.inl r4), .inr (.inr 294)] 321 h5
    refine ar_callV (pc := 25) (M2 := M_X7_isWord) (a := 294) (ci := 7) (as := [.inr (.inl r4)]) (n2 := 321) (st := []) (by decide +kernel) rfl wm_RX7_221 wi_yX7_isWord wl_yX7_isWord k_294 rfl wz_RX7 wc_yX7_isWord ⟨by decide, by decide, rfl⟩ (by decide) (Nat.le_of_ble_eq_true rfl) (Nat.le_refl _) (Nat.le_refl _) (am_Cl_mono H (fun r6 h7 H => ?_))
    show am_Wp true (d + 1) M_X7_setClause 321 321 h0 Q 28 [some (.inr (.inr 294)), some (.inl v1), some (.inl r1)] [.inl r6] 321 h7
    refine ar_if_ne (pc := 28) (x := r6) (tgt := 33) (off := 5) (by decide +kernel) (by decide) (fun c8 => ?_) (fun c8 => ?_)
    · replace H := H.1 c8
      refine ar_aload_n (pc := 33) (i := 0) (k0 := 0) (by decide +kernel) rfl rfl ?_
      refine ar_callV (pc := 34) (M2 := M_X7_nextToken) (a := 294) (ci := 7) (as := []) (n2 := 321) (st := []) (by decide +kernel) rfl wm_RX7_203 wi_yX7_nextToken wl_yX7_nextToken k_294 rfl wz_RX7 wc_yX7_nextToken ⟨by decide, by decide, rfl⟩ (by decide) (Nat.le_of_ble_eq_true rfl) (Nat.le_refl _) (Nat.le_refl _) (am_Cl_mono H (fun r9 h10 H => ?_))
      show am_Wp true (d + 1) M_X7_setClause 321 321 h0 Q 37 [some (.inr (.inr 294)), some (.inl v1), some (.inl r1)] [] 321 h10
      refine ar_aload_n (pc := 37) (i := 0) (k0 := 0) (by decide +kernel) rfl rfl ?_
      refine ar_iload_n (pc := 38) (i := 1) (k0 := 1) (by decide +kernel) rfl rfl ?_
      refine ar_iconst (pc := 39) (z := 2) (by decide +kernel) (by unfold am_i32; omega) ?_
      refine ar_iadd (pc := 40) (x := v1) (y := 2) (by decide +kernel) ?_
      refine ar_iconst (pc := 41) (z := 0) (by decide +kernel) (by unfold am_i32; omega) ?_
      refine ar_sipush (pc := 42) (z := 255) (by decide +kernel) (by omega) ?_
      refine ar_callV (pc := 45) (M2 := M_X7_figure) (a := 294) (ci := 7) (as := [.inl (am_w32 (v1 + 2)), .inl 0, .inl 255]) (n2 := 321) (st := []) (by decide +kernel) rfl wm_RX7_268 wi_yX7_figure wl_yX7_figure k_294 rfl wz_RX7 wc_yX7_figure ⟨by decide, by decide, rfl⟩ (by decide) (Nat.le_of_ble_eq_true rfl) (Nat.le_refl _) (Nat.le_refl _) (am_Cl_mono H (fun r11 h12 H => ?_))
      show am_Wp true (d + 1) M_X7_setClause 321 321 h0 Q 48 [some (.inr (.inr 294)), some (.inl v1), some (.inl r1)] [.inl r11] 321 h12
      exact ar_iret (pc := 48) (x := r11) (by decide +kernel) rfl rfl H
    · replace H := H.2 c8
      refine ar_iconst (pc := 31) (z := 1) (by decide +kernel) (by unfold am_i32; omega) ?_
      exact ar_iret (pc := 32) (x := 1) (by decide +kernel) rfl rfl H
  · replace H := H.2 c3
    refine ar_iload_n (pc := 15) (i := 2) (k0 := 2) (by decide +kernel) rfl rfl ?_
    exact ar_iret (pc := 16) (x := r1) (by decide +kernel) rfl rfl H

/-! ByteIntervalsModel.body(II)I -/
theorem B_X7_body_0 {d : Nat} {Q : Int → am_H → Prop} {h : am_H} {v1 v2 : Int} (H : (v1 < 3 ∨ 8 < v1 → cf d M_X7_fieldClause [.inr (.inr 294), .inl v1, .inl v2] h (fun r2 h3 => Q r2 h3)) ∧ (v1 = 3 → cf d M_X7_mustClause [.inr (.inr 294), .inl v2] h (fun r4 h5 => Q r4 h5)) ∧ (v1 = 4 → cf d M_X7_sumClause [.inr (.inr 294), .inl v2, .inl 0] h (fun r6 h7 => Q r6 h7)) ∧ (v1 = 5 → cf d M_X7_setClause [.inr (.inr 294), .inl v2] h (fun r8 h9 => Q r8 h9)) ∧ (v1 = 6 → cf d M_X7_figure [.inr (.inr 294), .inl (am_w32 (v2 + 1)), .inl 0, .inl 40] h (fun r10 h11 => Q r10 h11)) ∧ (v1 = 7 → Q 0 h) ∧ (v1 = 8 → cf d M_X7_figure [.inr (.inr 294), .inl (am_w32 (v2 + 1)), .inl 1, .inl 60] h (fun r12 h13 => Q r12 h13))) : wf (d + 1) M_X7_body Q 0 [some (.inr (.inr 294)), some (.inl v1), some (.inl v2)] [] h := by
  intro h0
  refine ar_iload_n (pc := 0) (i := 1) (k0 := 1) (by decide +kernel) rfl rfl ?_
  refine ar_table (pc := 1) (dflt := 82) (lo := 3) (hi := 8) (offs := #[39, 45, 52, 58, 69, 71]) (len := 39) (x := v1) (dt := 83) [40, 46, 53, 59, 70, 72] (by decide +kernel) (by decide) (by decide) (by decide) (fun c1 => ?_) (And.intro (fun c1 => ?_) (And.intro (fun c1 => ?_) (And.intro (fun c1 => ?_) (And.intro (fun c1 => ?_) (And.intro (fun c1 => ?_) (And.intro (fun c1 => ?_) (True.intro)))))))
  · replace H := H.1 c1
    refine ar_aload_n (pc := 83) (i := 0) (k0 := 0) (by decide +kernel) rfl rfl ?_
    refine ar_iload_n (pc := 84) (i := 1) (k0 := 1) (by decide +kernel) rfl rfl ?_
    refine ar_iload_n (pc := 85) (i := 2) (k0 := 2) (by decide +kernel) rfl rfl ?_
    refine ar_callV (pc := 86) (M2 := M_X7_fieldClause) (a := 294) (ci := 7) (as := [.inl v1, .inl v2]) (n2 := 321) (st := []) (by decide +kernel) rfl wm_RX7_278 wi_yX7_fieldClause wl_yX7_fieldClause k_294 rfl wz_RX7 wc_yX7_fieldClause ⟨by decide, by decide, rfl⟩ (by decide) (Nat.le_of_ble_eq_true rfl) (Nat.le_refl _) (Nat.le_refl _) (am_Cl_mono H (fun r2 h3 H => ?_))
    show am_Wp true (d + 1) M_X7_body 321 321 h0 Q 89 [some (.inr (.inr 294)), some (.inl v1), some (.inl v2)] [.inl r2] 321 h3
    exact ar_iret (pc := 89) (x := r2) (by decide +kernel) rfl rfl H
  · replace H := H.2.1 c1
    refine ar_aload_n (pc := 40) (i := 0) (k0 := 0) (by decide +kernel) rfl rfl ?_
    refine ar_iload_n (pc := 41) (i := 2) (k0 := 2) (by decide +kernel) rfl rfl ?_
    refine ar_callV (pc := 42) (M2 := M_X7_mustClause) (a := 294) (ci := 7) (as := [.inl v2]) (n2 := 321) (st := []) (by decide +kernel) rfl wm_RX7_272 wi_yX7_mustClause wl_yX7_mustClause k_294 rfl wz_RX7 wc_yX7_mustClause ⟨by decide, by decide, rfl⟩ (by decide) (Nat.le_of_ble_eq_true rfl) (Nat.le_refl _) (Nat.le_refl _) (am_Cl_mono H (fun r4 h5 H => ?_))
    show am_Wp true (d + 1) M_X7_body 321 321 h0 Q 45 [some (.inr (.inr 294)), some (.inl v1), some (.inl v2)] [.inl r4] 321 h5
    exact ar_iret (pc := 45) (x := r4) (by decide +kernel) rfl rfl H
  · replace H := H.2.2.1 c1
    refine ar_aload_n (pc := 46) (i := 0) (k0 := 0) (by decide +kernel) rfl rfl ?_
    refine ar_iload_n (pc := 47) (i := 2) (k0 := 2) (by decide +kernel) rfl rfl ?_
    refine ar_iconst (pc := 48) (z := 0) (by decide +kernel) (by unfold am_i32; omega) ?_
    refine ar_callV (pc := 49) (M2 := M_X7_sumClause) (a := 294) (ci := 7) (as := [.inl v2, .inl 0]) (n2 := 321) (st := []) (by decide +kernel) rfl wm_RX7_253 wi_yX7_sumClause wl_yX7_sumClause k_294 rfl wz_RX7 wc_yX7_sumClause ⟨by decide, by decide, rfl⟩ (by decide) (Nat.le_of_ble_eq_true rfl) (Nat.le_refl _) (Nat.le_refl _) (am_Cl_mono H (fun r6 h7 H => ?_))
    show am_Wp true (d + 1) M_X7_body 321 321 h0 Q 52 [some (.inr (.inr 294)), some (.inl v1), some (.inl v2)] [.inl r6] 321 h7
    exact ar_iret (pc := 52) (x := r6) (by decide +kernel) rfl rfl H
  · replace H := H.2.2.2.1 c1
    refine ar_aload_n (pc := 53) (i := 0) (k0 := 0) (by decide +kernel) rfl rfl ?_
    refine ar_iload_n (pc := 54) (i := 2) (k0 := 2) (by decide +kernel) rfl rfl ?_
    refine ar_callV (pc := 55) (M2 := M_X7_setClause) (a := 294) (ci := 7) (as := [.inl v2]) (n2 := 321) (st := []) (by decide +kernel) rfl wm_RX7_275 wi_yX7_setClause wl_yX7_setClause k_294 rfl wz_RX7 wc_yX7_setClause ⟨by decide, by decide, rfl⟩ (by decide) (Nat.le_of_ble_eq_true rfl) (Nat.le_refl _) (Nat.le_refl _) (am_Cl_mono H (fun r8 h9 H => ?_))
    show am_Wp true (d + 1) M_X7_body 321 321 h0 Q 58 [some (.inr (.inr 294)), some (.inl v1), some (.inl v2)] [.inl r8] 321 h9
    exact ar_iret (pc := 58) (x := r8) (by decide +kernel) rfl rfl H
  · replace H := H.2.2.2.2.1 c1
    refine ar_aload_n (pc := 59) (i := 0) (k0 := 0) (by decide +kernel) rfl rfl ?_
    refine ar_iload_n (pc := 60) (i := 2) (k0 := 2) (by decide +kernel) rfl rfl ?_
    refine ar_iconst (pc := 61) (z := 1) (by decide +kernel) (by unfold am_i32; omega) ?_
    refine ar_iadd (pc := 62) (x := v2) (y := 1) (by decide +kernel) ?_
    refine ar_iconst (pc := 63) (z := 0) (by decide +kernel) (by unfold am_i32; omega) ?_
    refine ar_bipush (pc := 64) (z := 40) (by decide +kernel) (by omega) ?_
    refine ar_callV (pc := 66) (M2 := M_X7_figure) (a := 294) (ci := 7) (as := [.inl (am_w32 (v2 + 1)), .inl 0, .inl 40]) (n2 := 321) (st := []) (by decide +kernel) rfl wm_RX7_268 wi_yX7_figure wl_yX7_figure k_294 rfl wz_RX7 wc_yX7_figure ⟨by decide, by decide, rfl⟩ (by decide) (Nat.le_of_ble_eq_true rfl) (Nat.le_refl _) (Nat.le_refl _) (am_Cl_mono H (fun r10 h11 H => ?_))
    show am_Wp true (d + 1) M_X7_body 321 321 h0 Q 69 [some (.inr (.inr 294)), some (.inl v1), some (.inl v2)] [.inl r10] 321 h11
    exact ar_iret (pc := 69) (x := r10) (by decide +kernel) rfl rfl H
  · replace H := H.2.2.2.2.2.1 c1
    refine ar_iconst (pc := 70) (z := 0) (by decide +kernel) (by unfold am_i32; omega) ?_
    exact ar_iret (pc := 71) (x := 0) (by decide +kernel) rfl rfl H
  · replace H := H.2.2.2.2.2.2 c1
    refine ar_aload_n (pc := 72) (i := 0) (k0 := 0) (by decide +kernel) rfl rfl ?_
    refine ar_iload_n (pc := 73) (i := 2) (k0 := 2) (by decide +kernel) rfl rfl ?_
    refine ar_iconst (pc := 74) (z := 1) (by decide +kernel) (by unfold am_i32; omega) ?_
    refine ar_iadd (pc := 75) (x := v2) (y := 1) (by decide +kernel) ?_
    refine ar_iconst (pc := 76) (z := 1) (by decide +kernel) (by unfold am_i32; omega) ?_
    refine ar_bipush (pc := 77) (z := 60) (by decide +kernel) (by omega) ?_
    refine ar_callV (pc := 79) (M2 := M_X7_figure) (a := 294) (ci := 7) (as := [.inl (am_w32 (v2 + 1)), .inl 1, .inl 60]) (n2 := 321) (st := []) (by decide +kernel) rfl wm_RX7_268 wi_yX7_figure wl_yX7_figure k_294 rfl wz_RX7 wc_yX7_figure ⟨by decide, by decide, rfl⟩ (by decide) (Nat.le_of_ble_eq_true rfl) (Nat.le_refl _) (Nat.le_refl _) (am_Cl_mono H (fun r12 h13 H => ?_))
    show am_Wp true (d + 1) M_X7_body 321 321 h0 Q 82 [some (.inr (.inr 294)), some (.inl v1), some (.inl v2)] [.inl r12] 321 h13
    exact ar_iret (pc := 82) (x := r12) (by decide +kernel) rfl rfl H

/-! ByteIntervalsModel.sortOf()I -/
theorem B_X7_sortOf_0 {d : Nat} {Q : Int → am_H → Prop} {h : am_H} (H : cf d M_X7_w3 [.inl 110, .inl 117, .inl 109] h (fun r1 h2 => cf d M_X7_isWord [.inr (.inr 294), .inr (.inl r1)] h2 (fun r3 h4 => (r3 = 0 → cf d M_X7_w3 [.inl 115, .inl 117, .inl 109] h4 (fun r6 h7 => cf d M_X7_isWord [.inr (.inr 294), .inr (.inl r6)] h7 (fun r8 h9 => (r8 = 0 → cf d M_X7_w4 [.inl 110, .inl 101, .inl 115, .inl 116] h9 (fun r11 h12 => cf d M_X7_isWord [.inr (.inr 294), .inr (.inl r11)] h12 (fun r13 h14 => (r13 = 0 → cf d M_X7_w4 [.inl 109, .inl 117, .inl 115, .inl 116] h14 (fun r16 h17 => cf d M_X7_isWord [.inr (.inr 294), .inr (.inl r16)] h17 (fun r18 h19 => (r18 = 0 → cf d M_X7_w4 [.inl 114, .inl 111, .inl 116, .inl 115] h19 (fun r21 h22 => cf d M_X7_isWord [.inr (.inr 294), .inr (.inl r21)] h22 (fun r23 h24 => (r23 = 0 → cf d M_X7_w3 [.inl 115, .inl 101, .inl 116] h24 (fun r26 h27 => cf d M_X7_isWord [.inr (.inr 294), .inr (.inl r26)] h27 (fun r28 h29 => (r28 = 0 → cf d M_X7_w4 [.inl 115, .inl 105, .inl 122, .inl 101] h29 (fun r31 h32 => cf d M_X7_isWord [.inr (.inr 294), .inr (.inl r31)] h32 (fun r33 h34 => (r33 = 0 → cf d M_X7_w4 [.inl 109, .inl 101, .inl 110, .inl 100] h34 (fun r36 h37 => cf d M_X7_isWord [.inr (.inr 294), .inr (.inl r36)] h37 (fun r38 h39 => (r38 = 0 → cf d M_X7_w3 [.inl 100, .inl 97, .inl 121] h39 (fun r41 h42 => cf d M_X7_isWord [.inr (.inr 294), .inr (.inl r41)] h42 (fun r43 h44 => (r43 = 0 → Q (-1) h44) ∧ (¬ r43 = 0 → Q 8 h44)))) ∧ (¬ r38 = 0 → Q 7 h39)))) ∧ (¬ r33 = 0 → Q 6 h34)))) ∧ (¬ r28 = 0 → Q 5 h29)))) ∧ (¬ r23 = 0 → Q 4 h24)))) ∧ (¬ r18 = 0 → Q 3 h19)))) ∧ (¬ r13 = 0 → Q 2 h14)))) ∧ (¬ r8 = 0 → Q 1 h9)))) ∧ (¬ r3 = 0 → Q 0 h4)))) : wf (d + 1) M_X7_sortOf Q 0 [some (.inr (.inr 294))] [] h := by
  intro h0
  refine ar_aload_n (pc := 0) (i := 0) (k0 := 0) (by decide +kernel) rfl rfl ?_
  refine ar_bipush (pc := 1) (z := 110) (by decide +kernel) (by omega) ?_
  refine ar_bipush (pc := 3) (z := 117) (by decide +kernel) (by omega) ?_
  refine ar_bipush (pc := 5) (z := 109) (by decide +kernel) (by omega) ?_
  refine ar_callS (pc := 7) (M2 := M_X7_w3) (as := [.inl 110, .inl 117, .inl 109]) (n2 := 321) (st := [.inr (.inr 294)]) (by decide +kernel) rfl wm_RX7_156 ws_yX7_w3 wz_RX7 wc_yX7_w3 ⟨by decide, by decide, rfl⟩ (by decide) (Nat.le_of_ble_eq_true rfl) (Nat.le_refl _) (Nat.le_refl _) (am_Cl_mono H (fun r1 h2 H => ?_))
  show am_Wp true (d + 1) M_X7_sortOf 321 321 h0 Q 10 [some (.inr (.inr 294))] [.inr (.inl r1), .inr (.inr 294)] 321 h2
  refine ar_callV (pc := 10) (M2 := M_X7_isWord) (a := 294) (ci := 7) (as := [.inr (.inl r1)]) (n2 := 321) (st := []) (by decide +kernel) rfl wm_RX7_221 wi_yX7_isWord wl_yX7_isWord k_294 rfl wz_RX7 wc_yX7_isWord ⟨by decide, by decide, rfl⟩ (by decide) (Nat.le_of_ble_eq_true rfl) (Nat.le_refl _) (Nat.le_refl _) (am_Cl_mono H (fun r3 h4 H => ?_))
  show am_Wp true (d + 1) M_X7_sortOf 321 321 h0 Q 13 [some (.inr (.inr 294))] [.inl r3] 321 h4
  refine ar_if_eq (pc := 13) (x := r3) (tgt := 18) (off := 5) (by decide +kernel) (by decide) (fun c5 => ?_) (fun c5 => ?_)
  · replace H := H.1 c5
    refine ar_aload_n (pc := 18) (i := 0) (k0 := 0) (by decide +kernel) rfl rfl ?_
    refine ar_bipush (pc := 19) (z := 115) (by decide +kernel) (by omega) ?_
    refine ar_bipush (pc := 21) (z := 117) (by decide +kernel) (by omega) ?_
    refine ar_bipush (pc := 23) (z := 109) (by decide +kernel) (by omega) ?_
    refine ar_callS (pc := 25) (M2 := M_X7_w3) (as := [.inl 115, .inl 117, .inl 109]) (n2 := 321) (st := [.inr (.inr 294)]) (by decide +kernel) rfl wm_RX7_156 ws_yX7_w3 wz_RX7 wc_yX7_w3 ⟨by decide, by decide, rfl⟩ (by decide) (Nat.le_of_ble_eq_true rfl) (Nat.le_refl _) (Nat.le_refl _) (am_Cl_mono H (fun r6 h7 H => ?_))
    show am_Wp true (d + 1) M_X7_sortOf 321 321 h0 Q 28 [some (.inr (.inr 294))] [.inr (.inl r6), .inr (.inr 294)] 321 h7
    refine ar_callV (pc := 28) (M2 := M_X7_isWord) (a := 294) (ci := 7) (as := [.inr (.inl r6)]) (n2 := 321) (st := []) (by decide +kernel) rfl wm_RX7_221 wi_yX7_isWord wl_yX7_isWord k_294 rfl wz_RX7 wc_yX7_isWord ⟨by decide, by decide, rfl⟩ (by decide) (Nat.le_of_ble_eq_true rfl) (Nat.le_refl _) (Nat.le_refl _) (am_Cl_mono H (fun r8 h9 H => ?_))
    show am_Wp true (d + 1) M_X7_sortOf 321 321 h0 Q 31 [some (.inr (.inr 294))] [.inl r8] 321 h9
    refine ar_if_eq (pc := 31) (x := r8) (tgt := 36) (off := 5) (by decide +kernel) (by decide) (fun c10 => ?_) (fun c10 => ?_)
    · replace H := H.1 c10
      refine ar_aload_n (pc := 36) (i := 0) (k0 := 0) (by decide +kernel) rfl rfl ?_
      refine ar_bipush (pc := 37) (z := 110) (by decide +kernel) (by omega) ?_
      refine ar_bipush (pc := 39) (z := 101) (by decide +kernel) (by omega) ?_
      refine ar_bipush (pc := 41) (z := 115) (by decide +kernel) (by omega) ?_
      refine ar_bipush (pc := 43) (z := 116) (by decide +kernel) (by omega) ?_
      refine ar_callS (pc := 45) (M2 := M_X7_w4) (as := [.inl 110, .inl 101, .inl 115, .inl 116]) (n2 := 321) (st := [.inr (.inr 294)]) (by decide +kernel) rfl wm_RX7_160 ws_yX7_w4 wz_RX7 wc_yX7_w4 ⟨by decide, by decide, rfl⟩ (by decide) (Nat.le_of_ble_eq_true rfl) (Nat.le_refl _) (Nat.le_refl _) (am_Cl_mono H (fun r11 h12 H => ?_))
      show am_Wp true (d + 1) M_X7_sortOf 321 321 h0 Q 48 [some (.inr (.inr 294))] [.inr (.inl r11), .inr (.inr 294)] 321 h12
      refine ar_callV (pc := 48) (M2 := M_X7_isWord) (a := 294) (ci := 7) (as := [.inr (.inl r11)]) (n2 := 321) (st := []) (by decide +kernel) rfl wm_RX7_221 wi_yX7_isWord wl_yX7_isWord k_294 rfl wz_RX7 wc_yX7_isWord ⟨by decide, by decide, rfl⟩ (by decide) (Nat.le_of_ble_eq_true rfl) (Nat.le_refl _) (Nat.le_refl _) (am_Cl_mono H (fun r13 h14 H => ?_))
      show am_Wp true (d + 1) M_X7_sortOf 321 321 h0 Q 51 [some (.inr (.inr 294))] [.inl r13] 321 h14
      refine ar_if_eq (pc := 51) (x := r13) (tgt := 56) (off := 5) (by decide +kernel) (by decide) (fun c15 => ?_) (fun c15 => ?_)
      · replace H := H.1 c15
        refine ar_aload_n (pc := 56) (i := 0) (k0 := 0) (by decide +kernel) rfl rfl ?_
        refine ar_bipush (pc := 57) (z := 109) (by decide +kernel) (by omega) ?_
        refine ar_bipush (pc := 59) (z := 117) (by decide +kernel) (by omega) ?_
        refine ar_bipush (pc := 61) (z := 115) (by decide +kernel) (by omega) ?_
        refine ar_bipush (pc := 63) (z := 116) (by decide +kernel) (by omega) ?_
        refine ar_callS (pc := 65) (M2 := M_X7_w4) (as := [.inl 109, .inl 117, .inl 115, .inl 116]) (n2 := 321) (st := [.inr (.inr 294)]) (by decide +kernel) rfl wm_RX7_160 ws_yX7_w4 wz_RX7 wc_yX7_w4 ⟨by decide, by decide, rfl⟩ (by decide) (Nat.le_of_ble_eq_true rfl) (Nat.le_refl _) (Nat.le_refl _) (am_Cl_mono H (fun r16 h17 H => ?_))
        show am_Wp true (d + 1) M_X7_sortOf 321 321 h0 Q 68 [some (.inr (.inr 294))] [.inr (.inl r16), .inr (.inr 294)] 321 h17
        refine ar_callV (pc := 68) (M2 := M_X7_isWord) (a := 294) (ci := 7) (as := [.inr (.inl r16)]) (n2 := 321) (st := []) (by decide +kernel) rfl wm_RX7_221 wi_yX7_isWord wl_yX7_isWord k_294 rfl wz_RX7 wc_yX7_isWord ⟨by decide, by decide, rfl⟩ (by decide) (Nat.le_of_ble_eq_true rfl) (Nat.le_refl _) (Nat.le_refl _) (am_Cl_mono H (fun r18 h19 H => ?_))
        show am_Wp true (d + 1) M_X7_sortOf 321 321 h0 Q 71 [some (.inr (.inr 294))] [.inl r18] 321 h19
        refine ar_if_eq (pc := 71) (x := r18) (tgt := 76) (off := 5) (by decide +kernel) (by decide) (fun c20 => ?_) (fun c20 => ?_)
        · replace H := H.1 c20
          refine ar_aload_n (pc := 76) (i := 0) (k0 := 0) (by decide +kernel) rfl rfl ?_
          refine ar_bipush (pc := 77) (z := 114) (by decide +kernel) (by omega) ?_
          refine ar_bipush (pc := 79) (z := 111) (by decide +kernel) (by omega) ?_
          refine ar_bipush (pc := 81) (z := 116) (by decide +kernel) (by omega) ?_
          refine ar_bipush (pc := 83) (z := 115) (by decide +kernel) (by omega) ?_
          refine ar_callS (pc := 85) (M2 := M_X7_w4) (as := [.inl 114, .inl 111, .inl 116, .inl 115]) (n2 := 321) (st := [.inr (.inr 294)]) (by decide +kernel) rfl wm_RX7_160 ws_yX7_w4 wz_RX7 wc_yX7_w4 ⟨by decide, by decide, rfl⟩ (by decide) (Nat.le_of_ble_eq_true rfl) (Nat.le_refl _) (Nat.le_refl _) (am_Cl_mono H (fun r21 h22 H => ?_))
          show am_Wp true (d + 1) M_X7_sortOf 321 321 h0 Q 88 [some (.inr (.inr 294))] [.inr (.inl r21), .inr (.inr 294)] 321 h22
          refine ar_callV (pc := 88) (M2 := M_X7_isWord) (a := 294) (ci := 7) (as := [.inr (.inl r21)]) (n2 := 321) (st := []) (by decide +kernel) rfl wm_RX7_221 wi_yX7_isWord wl_yX7_isWord k_294 rfl wz_RX7 wc_yX7_isWord ⟨by decide, by decide, rfl⟩ (by decide) (Nat.le_of_ble_eq_true rfl) (Nat.le_refl _) (Nat.le_refl _) (am_Cl_mono H (fun r23 h24 H => ?_))
          show am_Wp true (d + 1) M_X7_sortOf 321 321 h0 Q 91 [some (.inr (.inr 294))] [.inl r23] 321 h24
          refine ar_if_eq (pc := 91) (x := r23) (tgt := 96) (off := 5) (by decide +kernel) (by decide) (fun c25 => ?_) (fun c25 => ?_)
          · replace H := H.1 c25
            refine ar_aload_n (pc := 96) (i := 0) (k0 := 0) (by decide +kernel) rfl rfl ?_
            refine ar_bipush (pc := 97) (z := 115) (by decide +kernel) (by omega) ?_
            refine ar_bipush (pc := 99) (z := 101) (by decide +kernel) (by omega) ?_
            refine ar_bipush (pc := 101) (z := 116) (by decide +kernel) (by omega) ?_
            refine ar_callS (pc := 103) (M2 := M_X7_w3) (as := [.inl 115, .inl 101, .inl 116]) (n2 := 321) (st := [.inr (.inr 294)]) (by decide +kernel) rfl wm_RX7_156 ws_yX7_w3 wz_RX7 wc_yX7_w3 ⟨by decide, by decide, rfl⟩ (by decide) (Nat.le_of_ble_eq_true rfl) (Nat.le_refl _) (Nat.le_refl _) (am_Cl_mono H (fun r26 h27 H => ?_))
            show am_Wp true (d + 1) M_X7_sortOf 321 321 h0 Q 106 [some (.inr (.inr 294))] [.inr (.inl r26), .inr (.inr 294)] 321 h27
            refine ar_callV (pc := 106) (M2 := M_X7_isWord) (a := 294) (ci := 7) (as := [.inr (.inl r26)]) (n2 := 321) (st := []) (by decide +kernel) rfl wm_RX7_221 wi_yX7_isWord wl_yX7_isWord k_294 rfl wz_RX7 wc_yX7_isWord ⟨by decide, by decide, rfl⟩ (by decide) (Nat.le_of_ble_eq_true rfl) (Nat.le_refl _) (Nat.le_refl _) (am_Cl_mono H (fun r28 h29 H => ?_))
            show am_Wp true (d + 1) M_X7_sortOf 321 321 h0 Q 109 [some (.inr (.inr 294))] [.inl r28] 321 h29
            refine ar_if_eq (pc := 109) (x := r28) (tgt := 114) (off := 5) (by decide +kernel) (by decide) (fun c30 => ?_) (fun c30 => ?_)
            · replace H := H.1 c30
              refine ar_aload_n (pc := 114) (i := 0) (k0 := 0) (by decide +kernel) rfl rfl ?_
              refine ar_bipush (pc := 115) (z := 115) (by decide +kernel) (by omega) ?_
              refine ar_bipush (pc := 117) (z := 105) (by decide +kernel) (by omega) ?_
              refine ar_bipush (pc := 119) (z := 122) (by decide +kernel) (by omega) ?_
              refine ar_bipush (pc := 121) (z := 101) (by decide +kernel) (by omega) ?_
              refine ar_callS (pc := 123) (M2 := M_X7_w4) (as := [.inl 115, .inl 105, .inl 122, .inl 101]) (n2 := 321) (st := [.inr (.inr 294)]) (by decide +kernel) rfl wm_RX7_160 ws_yX7_w4 wz_RX7 wc_yX7_w4 ⟨by decide, by decide, rfl⟩ (by decide) (Nat.le_of_ble_eq_true rfl) (Nat.le_refl _) (Nat.le_refl _) (am_Cl_mono H (fun r31 h32 H => ?_))
              show am_Wp true (d + 1) M_X7_sortOf 321 321 h0 Q 126 [some (.inr (.inr 294))] [.inr (.inl r31), .inr (.inr 294)] 321 h32
              refine ar_callV (pc := 126) (M2 := M_X7_isWord) (a := 294) (ci := 7) (as := [.inr (.inl r31)]) (n2 := 321) (st := []) (by decide +kernel) rfl wm_RX7_221 wi_yX7_isWord wl_yX7_isWord k_294 rfl wz_RX7 wc_yX7_isWord ⟨by decide, by decide, rfl⟩ (by decide) (Nat.le_of_ble_eq_true rfl) (Nat.le_refl _) (Nat.le_refl _) (am_Cl_mono H (fun r33 h34 H => ?_))
              show am_Wp true (d + 1) M_X7_sortOf 321 321 h0 Q 129 [some (.inr (.inr 294))] [.inl r33] 321 h34
              refine ar_if_eq (pc := 129) (x := r33) (tgt := 135) (off := 6) (by decide +kernel) (by decide) (fun c35 => ?_) (fun c35 => ?_)
              · replace H := H.1 c35
                refine ar_aload_n (pc := 135) (i := 0) (k0 := 0) (by decide +kernel) rfl rfl ?_
                refine ar_bipush (pc := 136) (z := 109) (by decide +kernel) (by omega) ?_
                refine ar_bipush (pc := 138) (z := 101) (by decide +kernel) (by omega) ?_
                refine ar_bipush (pc := 140) (z := 110) (by decide +kernel) (by omega) ?_
                refine ar_bipush (pc := 142) (z := 100) (by decide +kernel) (by omega) ?_
                refine ar_callS (pc := 144) (M2 := M_X7_w4) (as := [.inl 109, .inl 101, .inl 110, .inl 100]) (n2 := 321) (st := [.inr (.inr 294)]) (by decide +kernel) rfl wm_RX7_160 ws_yX7_w4 wz_RX7 wc_yX7_w4 ⟨by decide, by decide, rfl⟩ (by decide) (Nat.le_of_ble_eq_true rfl) (Nat.le_refl _) (Nat.le_refl _) (am_Cl_mono H (fun r36 h37 H => ?_))
                show am_Wp true (d + 1) M_X7_sortOf 321 321 h0 Q 147 [some (.inr (.inr 294))] [.inr (.inl r36), .inr (.inr 294)] 321 h37
                refine ar_callV (pc := 147) (M2 := M_X7_isWord) (a := 294) (ci := 7) (as := [.inr (.inl r36)]) (n2 := 321) (st := []) (by decide +kernel) rfl wm_RX7_221 wi_yX7_isWord wl_yX7_isWord k_294 rfl wz_RX7 wc_yX7_isWord ⟨by decide, by decide, rfl⟩ (by decide) (Nat.le_of_ble_eq_true rfl) (Nat.le_refl _) (Nat.le_refl _) (am_Cl_mono H (fun r38 h39 H => ?_))
                show am_Wp true (d + 1) M_X7_sortOf 321 321 h0 Q 150 [some (.inr (.inr 294))] [.inl r38] 321 h39
                refine ar_if_eq (pc := 150) (x := r38) (tgt := 158) (off := 8) (by decide +kernel) (by decide) (fun c40 => ?_) (fun c40 => ?_)
                · replace H := H.1 c40
                  refine ar_aload_n (pc := 158) (i := 0) (k0 := 0) (by decide +kernel) rfl rfl ?_
                  refine ar_bipush (pc := 159) (z := 100) (by decide +kernel) (by omega) ?_
                  refine ar_bipush (pc := 161) (z := 97) (by decide +kernel) (by omega) ?_
                  refine ar_bipush (pc := 163) (z := 121) (by decide +kernel) (by omega) ?_
                  refine ar_callS (pc := 165) (M2 := M_X7_w3) (as := [.inl 100, .inl 97, .inl 121]) (n2 := 321) (st := [.inr (.inr 294)]) (by decide +kernel) rfl wm_RX7_156 ws_yX7_w3 wz_RX7 wc_yX7_w3 ⟨by decide, by decide, rfl⟩ (by decide) (Nat.le_of_ble_eq_true rfl) (Nat.le_refl _) (Nat.le_refl _) (am_Cl_mono H (fun r41 h42 H => ?_))
                  show am_Wp true (d + 1) M_X7_sortOf 321 321 h0 Q 168 [some (.inr (.inr 294))] [.inr (.inl r41), .inr (.inr 294)] 321 h42
                  refine ar_callV (pc := 168) (M2 := M_X7_isWord) (a := 294) (ci := 7) (as := [.inr (.inl r41)]) (n2 := 321) (st := []) (by decide +kernel) rfl wm_RX7_221 wi_yX7_isWord wl_yX7_isWord k_294 rfl wz_RX7 wc_yX7_isWord ⟨by decide, by decide, rfl⟩ (by decide) (Nat.le_of_ble_eq_true rfl) (Nat.le_refl _) (Nat.le_refl _) (am_Cl_mono H (fun r43 h44 H => ?_))
                  show am_Wp true (d + 1) M_X7_sortOf 321 321 h0 Q 171 [some (.inr (.inr 294))] [.inl r43] 321 h44
                  refine ar_if_eq (pc := 171) (x := r43) (tgt := 179) (off := 8) (by decide +kernel) (by decide) (fun c45 => ?_) (fun c45 => ?_)
                  · replace H := H.1 c45
                    refine ar_iconst (pc := 179) (z := (-1)) (by decide +kernel) (by unfold am_i32; omega) ?_
                    exact ar_iret (pc := 180) (x := (-1)) (by decide +kernel) rfl rfl H
                  · replace H := H.2 c45
                    refine ar_bipush (pc := 174) (z := 8) (by decide +kernel) (by omega) ?_
                    refine ar_goto (pc := 176) (tgt := 180) (off := 4) (by decide +kernel) (by decide) ?_
                    exact ar_iret (pc := 180) (x := 8) (by decide +kernel) rfl rfl H
                · replace H := H.2 c40
                  refine ar_bipush (pc := 153) (z := 7) (by decide +kernel) (by omega) ?_
                  refine ar_goto (pc := 155) (tgt := 180) (off := 25) (by decide +kernel) (by decide) ?_
                  exact ar_iret (pc := 180) (x := 7) (by decide +kernel) rfl rfl H
              · replace H := H.2 c35
                refine ar_bipush (pc := 132) (z := 6) (by decide +kernel) (by omega) ?_
                exact ar_iret (pc := 134) (x := 6) (by decide +kernel) rfl rfl H
            · replace H := H.2 c30
              refine ar_iconst (pc := 112) (z := 5) (by decide +kernel) (by unfold am_i32; omega) ?_
              exact ar_iret (pc := 113) (x := 5) (by decide +kernel) rfl rfl H
          · replace H := H.2 c25
            refine ar_iconst (pc := 94) (z := 4) (by decide +kernel) (by unfold am_i32; omega) ?_
            exact ar_iret (pc := 95) (x := 4) (by decide +kernel) rfl rfl H
        · replace H := H.2 c20
          refine ar_iconst (pc := 74) (z := 3) (by decide +kernel) (by unfold am_i32; omega) ?_
          exact ar_iret (pc := 75) (x := 3) (by decide +kernel) rfl rfl H
      · replace H := H.2 c15
        refine ar_iconst (pc := 54) (z := 2) (by decide +kernel) (by unfold am_i32; omega) ?_
        exact ar_iret (pc := 55) (x := 2) (by decide +kernel) rfl rfl H
    · replace H := H.2 c10
      refine ar_iconst (pc := 34) (z := 1) (by decide +kernel) (by unfold am_i32; omega) ?_
      exact ar_iret (pc := 35) (x := 1) (by decide +kernel) rfl rfl H
  · replace H := H.2 c5
    refine ar_iconst (pc := 16) (z := 0) (by decide +kernel) (by unfold am_i32; omega) ?_
    exact ar_iret (pc := 17) (x := 0) (by decide +kernel) rfl rfl H

