/-! java/lang/Math.floorMod(II)I -/
theorem B_J9_floorMod_7cf53_0 {d : Nat} {Q : Int → am_H → Prop} {h : am_H} {v0 v1 : Int} (H : (v1 ≠ 0) ∧ ((0 ≤ (am_ixor v0 v1) → Q (am_w32 (v0.tmod v1)) h) ∧ ((am_ixor v0 v1) < 0 → ((am_w32 (v0.tmod v1)) = 0 → Q (am_w32 (v0.tmod v1)) h) ∧ (¬ (am_w32 (v0.tmod v1)) = 0 → Q (am_w32 ((am_w32 (v0.tmod v1)) + v1)) h)))) : wf d M_J9_floorMod_7cf53 Q 0 [some (.inl v0), some (.inl v1), none] [] h := by
  intro h0
  refine ar_iload_n (pc := 0) (i := 0) (k0 := 0) (by decide +kernel) rfl rfl ?_
  refine ar_iload_n (pc := 1) (i := 1) (k0 := 1) (by decide +kernel) rfl rfl ?_
  obtain ⟨g1, H⟩ := H
  refine ar_irem (pc := 2) (x := v0) (y := v1) (by decide +kernel) g1 ?_
  refine ar_istore_n (pc := 3) (i := 2) (k0 := 2) (ls2 := [some (.inl v0), some (.inl v1), some (.inl (am_w32 (v0.tmod v1)))]) (by decide +kernel) rfl (by decide) rfl ?_
  refine ar_iload_n (pc := 4) (i := 0) (k0 := 0) (by decide +kernel) rfl rfl ?_
  refine ar_iload_n (pc := 5) (i := 1) (k0 := 1) (by decide +kernel) rfl rfl ?_
  refine ar_ixor (pc := 6) (x := v0) (y := v1) (by decide +kernel) ?_
  refine ar_if_ge (pc := 7) (x := (am_ixor v0 v1)) (tgt := 18) (off := 11) (by decide +kernel) (by decide) (fun c2 => ?_) (fun c2 => ?_)
  · replace H := H.1 c2
    refine ar_iload_n (pc := 18) (i := 2) (k0 := 2) (by decide +kernel) rfl rfl ?_
    exact ar_iret (pc := 19) (x := (am_w32 (v0.tmod v1))) (by decide +kernel) rfl rfl H
  · replace H := H.2 c2
    refine ar_iload_n (pc := 10) (i := 2) (k0 := 2) (by decide +kernel) rfl rfl ?_
    refine ar_if_eq (pc := 11) (x := (am_w32 (v0.tmod v1))) (tgt := 18) (off := 7) (by decide +kernel) (by decide) (fun c3 => ?_) (fun c3 => ?_)
    · replace H := H.1 c3
      refine ar_iload_n (pc := 18) (i := 2) (k0 := 2) (by decide +kernel) rfl rfl ?_
      exact ar_iret (pc := 19) (x := (am_w32 (v0.tmod v1))) (by decide +kernel) rfl rfl H
    · replace H := H.2 c3
      refine ar_iload_n (pc := 14) (i := 2) (k0 := 2) (by decide +kernel) rfl rfl ?_
      refine ar_iload_n (pc := 15) (i := 1) (k0 := 1) (by decide +kernel) rfl rfl ?_
      refine ar_iadd (pc := 16) (x := (am_w32 (v0.tmod v1))) (y := v1) (by decide +kernel) ?_
      exact ar_iret (pc := 17) (x := (am_w32 ((am_w32 (v0.tmod v1)) + v1))) (by decide +kernel) rfl rfl H

/-! java/lang/Math.max(II)I -/
theorem B_J9_max_7cf53_0 {d : Nat} {Q : Int → am_H → Prop} {h : am_H} {v0 v1 : Int} (H : (v0 < v1 → Q v1 h) ∧ (v1 ≤ v0 → Q v0 h)) : wf d M_J9_max_7cf53 Q 0 [some (.inl v0), some (.inl v1)] [] h := by
  intro h0
  refine ar_iload_n (pc := 0) (i := 0) (k0 := 0) (by decide +kernel) rfl rfl ?_
  refine ar_iload_n (pc := 1) (i := 1) (k0 := 1) (by decide +kernel) rfl rfl ?_
  refine ar_icmp_lt (pc := 2) (x := v0) (y := v1) (tgt := 9) (off := 7) (by decide +kernel) (by decide) (fun c1 => ?_) (fun c1 => ?_)
  · replace H := H.1 c1
    refine ar_iload_n (pc := 9) (i := 1) (k0 := 1) (by decide +kernel) rfl rfl ?_
    exact ar_iret (pc := 10) (x := v1) (by decide +kernel) rfl rfl H
  · replace H := H.2 c1
    refine ar_iload_n (pc := 5) (i := 0) (k0 := 0) (by decide +kernel) rfl rfl ?_
    refine ar_goto (pc := 6) (tgt := 10) (off := 4) (by decide +kernel) (by decide) ?_
    exact ar_iret (pc := 10) (x := v0) (by decide +kernel) rfl rfl H

/-! java/lang/Math.max(JJ)J -/
theorem B_J9_max_f86c9_0 {d : Nat} {Q : Int → am_H → Prop} {h : am_H} {v0 v2 : Int} (H : ((am_lcmp v0 v2) < 0 → Q v2 h) ∧ (0 ≤ (am_lcmp v0 v2) → Q v0 h)) : wf d M_J9_max_f86c9 Q 0 [some (.inr (.inl v0)), none, some (.inr (.inl v2)), none] [] h := by
  intro h0
  refine ar_lload_n (pc := 0) (i := 0) (k0 := 0) (by decide +kernel) rfl rfl ?_
  refine ar_lload_n (pc := 1) (i := 2) (k0 := 2) (by decide +kernel) rfl rfl ?_
  refine ar_lcmp (pc := 2) (x := v0) (y := v2) (by decide +kernel) ?_
  refine ar_if_lt (pc := 3) (x := (am_lcmp v0 v2)) (tgt := 10) (off := 7) (by decide +kernel) (by decide) (fun c1 => ?_) (fun c1 => ?_)
  · replace H := H.1 c1
    refine ar_lload_n (pc := 10) (i := 2) (k0 := 2) (by decide +kernel) rfl rfl ?_
    exact ar_lret (pc := 11) (x := v2) (by decide +kernel) rfl rfl H
  · replace H := H.2 c1
    refine ar_lload_n (pc := 6) (i := 0) (k0 := 0) (by decide +kernel) rfl rfl ?_
    refine ar_goto (pc := 7) (tgt := 11) (off := 4) (by decide +kernel) (by decide) ?_
    exact ar_lret (pc := 11) (x := v0) (by decide +kernel) rfl rfl H

/-! java/lang/Math.min(II)I -/
theorem B_J9_min_7cf53_0 {d : Nat} {Q : Int → am_H → Prop} {h : am_H} {v0 v1 : Int} (H : (v1 < v0 → Q v1 h) ∧ (v0 ≤ v1 → Q v0 h)) : wf d M_J9_min_7cf53 Q 0 [some (.inl v0), some (.inl v1)] [] h := by
  intro h0
  refine ar_iload_n (pc := 0) (i := 0) (k0 := 0) (by decide +kernel) rfl rfl ?_
  refine ar_iload_n (pc := 1) (i := 1) (k0 := 1) (by decide +kernel) rfl rfl ?_
  refine ar_icmp_gt (pc := 2) (x := v0) (y := v1) (tgt := 9) (off := 7) (by decide +kernel) (by decide) (fun c1 => ?_) (fun c1 => ?_)
  · replace H := H.1 c1
    refine ar_iload_n (pc := 9) (i := 1) (k0 := 1) (by decide +kernel) rfl rfl ?_
    exact ar_iret (pc := 10) (x := v1) (by decide +kernel) rfl rfl H
  · replace H := H.2 c1
    refine ar_iload_n (pc := 5) (i := 0) (k0 := 0) (by decide +kernel) rfl rfl ?_
    refine ar_goto (pc := 6) (tgt := 10) (off := 4) (by decide +kernel) (by decide) ?_
    exact ar_iret (pc := 10) (x := v0) (by decide +kernel) rfl rfl H

/-! java/lang/Math.min(JJ)J -/
theorem B_J9_min_f86c9_0 {d : Nat} {Q : Int → am_H → Prop} {h : am_H} {v0 v2 : Int} (H : (0 < (am_lcmp v0 v2) → Q v2 h) ∧ ((am_lcmp v0 v2) ≤ 0 → Q v0 h)) : wf d M_J9_min_f86c9 Q 0 [some (.inr (.inl v0)), none, some (.inr (.inl v2)), none] [] h := by
  intro h0
  refine ar_lload_n (pc := 0) (i := 0) (k0 := 0) (by decide +kernel) rfl rfl ?_
  refine ar_lload_n (pc := 1) (i := 2) (k0 := 2) (by decide +kernel) rfl rfl ?_
  refine ar_lcmp (pc := 2) (x := v0) (y := v2) (by decide +kernel) ?_
  refine ar_if_gt (pc := 3) (x := (am_lcmp v0 v2)) (tgt := 10) (off := 7) (by decide +kernel) (by decide) (fun c1 => ?_) (fun c1 => ?_)
  · replace H := H.1 c1
    refine ar_lload_n (pc := 10) (i := 2) (k0 := 2) (by decide +kernel) rfl rfl ?_
    exact ar_lret (pc := 11) (x := v2) (by decide +kernel) rfl rfl H
  · replace H := H.2 c1
    refine ar_lload_n (pc := 6) (i := 0) (k0 := 0) (by decide +kernel) rfl rfl ?_
    refine ar_goto (pc := 7) (tgt := 11) (off := 4) (by decide +kernel) (by decide) ?_
    exact ar_lret (pc := 11) (x := v0) (by decide +kernel) rfl rfl H

/-! ByteIntervals$Moment.copy(LByteIntervals$Moment;)V -/
theorem B_X0_copy_0 {d : Nat} {Q : Int → am_H → Prop} {h : am_H} {v0 a1 : Int} (t0 : am_kd 321 v0 = 10) (H : (am_kd 321 a1 = 10) ∧ (Q 0 (am_up (am_up (am_up (am_up (am_cp (am_cp h (a1 + 1) 0 (v0 + 1) 0 40) (a1 + 2) 0 (v0 + 2) 0 25) v0 2 ((am_cp (am_cp h (a1 + 1) 0 (v0 + 1) 0 40) (a1 + 2) 0 (v0 + 2) 0 25) a1 2)) v0 3 ((am_up (am_cp (am_cp h (a1 + 1) 0 (v0 + 1) 0 40) (a1 + 2) 0 (v0 + 2) 0 25) v0 2 ((am_cp (am_cp h (a1 + 1) 0 (v0 + 1) 0 40) (a1 + 2) 0 (v0 + 2) 0 25) a1 2)) a1 3)) v0 4 ((am_up (am_up (am_cp (am_cp h (a1 + 1) 0 (v0 + 1) 0 40) (a1 + 2) 0 (v0 + 2) 0 25) v0 2 ((am_cp (am_cp h (a1 + 1) 0 (v0 + 1) 0 40) (a1 + 2) 0 (v0 + 2) 0 25) a1 2)) v0 3 ((am_up (am_cp (am_cp h (a1 + 1) 0 (v0 + 1) 0 40) (a1 + 2) 0 (v0 + 2) 0 25) v0 2 ((am_cp (am_cp h (a1 + 1) 0 (v0 + 1) 0 40) (a1 + 2) 0 (v0 + 2) 0 25) a1 2)) a1 3)) a1 4)) v0 5 ((am_up (am_up (am_up (am_cp (am_cp h (a1 + 1) 0 (v0 + 1) 0 40) (a1 + 2) 0 (v0 + 2) 0 25) v0 2 ((am_cp (am_cp h (a1 + 1) 0 (v0 + 1) 0 40) (a1 + 2) 0 (v0 + 2) 0 25) a1 2)) v0 3 ((am_up (am_cp (am_cp h (a1 + 1) 0 (v0 + 1) 0 40) (a1 + 2) 0 (v0 + 2) 0 25) v0 2 ((am_cp (am_cp h (a1 + 1) 0 (v0 + 1) 0 40) (a1 + 2) 0 (v0 + 2) 0 25) a1 2)) a1 3)) v0 4 ((am_up (am_up (am_cp (am_cp h (a1 + 1) 0 (v0 + 1) 0 40) (a1 + 2) 0 (v0 + 2) 0 25) v0 2 ((am_cp (am_cp h (a1 + 1) 0 (v0 + 1) 0 40) (a1 + 2) 0 (v0 + 2) 0 25) a1 2)) v0 3 ((am_up (am_cp (am_cp h (a1 + 1) 0 (v0 + 1) 0 40) (a1 + 2) 0 (v0 + 2) 0 25) v0 2 ((am_cp (am_cp h (a1 + 1) 0 (v0 + 1) 0 40) (a1 + 2) 0 (v0 + 2) 0 25) a1 2)) a1 3)) a1 4)) a1 5)))) : wf d M_X0_copy Q 0 [some (.inr (.inr v0)), some (.inr (.inr a1))] [] h := by
  intro h0
  refine ar_aload_n (pc := 0) (i := 1) (k0 := 1) (by decide +kernel) rfl rfl ?_
  obtain ⟨g1, H⟩ := H
  refine ar_getFV (pc := 1) (a := a1) (b := (a1 + 1)) 0 0 (by decide +kernel) g1 rfl (by decide) wf_RX0_9 rfl (fun _ => rfl) rfl ?_
  refine ar_iconst (pc := 4) (z := 0) (by decide +kernel) (by unfold am_i32; omega) ?_
  refine ar_aload_n (pc := 5) (i := 0) (k0 := 0) (by decide +kernel) rfl rfl ?_
  refine ar_getFV (pc := 6) (a := v0) (b := (v0 + 1)) 0 0 (by decide +kernel) t0 rfl (by decide) wf_RX0_9 rfl (fun _ => rfl) rfl ?_
  refine ar_iconst (pc := 9) (z := 0) (by decide +kernel) (by unfold am_i32; omega) ?_
  refine ar_bipush (pc := 10) (z := 40) (by decide +kernel) (by omega) ?_
  refine ar_copy (pc := 12) (a0 := (a1 + 1)) (sp := 0) (a := (v0 + 1)) (dp := 0) (len := 40) (by decide +kernel) wm_RX0_31 wnat wstat wsys (kX0_0 g1).1 (kX0_0 t0).1 (by decide) (by decide) (by decide) (am_le_eq (b := 40) (by decide) ((kX0_0 g1).2).symm) (am_le_eq (b := 40) (by decide) ((kX0_0 t0).2).symm) (Nat.le_of_ble_eq_true rfl) ?_
  refine ar_aload_n (pc := 15) (i := 1) (k0 := 1) (by decide +kernel) rfl rfl ?_
  refine ar_getFV (pc := 16) (a := a1) (b := (a1 + 2)) 0 1 (by decide +kernel) g1 rfl (by decide) wf_RX0_15 rfl (fun _ => rfl) rfl ?_
  refine ar_iconst (pc := 19) (z := 0) (by decide +kernel) (by unfold am_i32; omega) ?_
  refine ar_aload_n (pc := 20) (i := 0) (k0 := 0) (by decide +kernel) rfl rfl ?_
  refine ar_getFV (pc := 21) (a := v0) (b := (v0 + 2)) 0 1 (by decide +kernel) t0 rfl (by decide) wf_RX0_15 rfl (fun _ => rfl) rfl ?_
  refine ar_iconst (pc := 24) (z := 0) (by decide +kernel) (by unfold am_i32; omega) ?_
  refine ar_bipush (pc := 25) (z := 25) (by decide +kernel) (by omega) ?_
  refine ar_copy (pc := 27) (a0 := (a1 + 2)) (sp := 0) (a := (v0 + 2)) (dp := 0) (len := 25) (by decide +kernel) wm_RX0_31 wnat wstat wsys (kX0_1 g1).1 (kX0_1 t0).1 (by decide) (by decide) (by decide) (am_le_eq (b := 25) (by decide) ((kX0_1 g1).2).symm) (am_le_eq (b := 25) (by decide) ((kX0_1 t0).2).symm) (Nat.le_of_ble_eq_true rfl) ?_
  refine ar_aload_n (pc := 30) (i := 0) (k0 := 0) (by decide +kernel) rfl rfl ?_
  refine ar_aload_n (pc := 31) (i := 1) (k0 := 1) (by decide +kernel) rfl rfl ?_
  refine ar_getV (pc := 32) (a := a1) (v := .inl ((am_cp (am_cp h (a1 + 1) 0 (v0 + 1) 0 40) (a1 + 2) 0 (v0 + 2) 0 25) a1 2)) 0 2 (by decide +kernel) g1 rfl (by decide) wf_RX0_18 rfl ?_
  refine ar_putI (pc := 35) (a := v0) (z := ((am_cp (am_cp h (a1 + 1) 0 (v0 + 1) 0 40) (a1 + 2) 0 (v0 + 2) 0 25) a1 2)) 0 2 (by decide +kernel) t0 rfl (by decide) rfl (fun _ => rfl) rfl wf_RX0_18 ?_
  refine ar_aload_n (pc := 38) (i := 0) (k0 := 0) (by decide +kernel) rfl rfl ?_
  refine ar_aload_n (pc := 39) (i := 1) (k0 := 1) (by decide +kernel) rfl rfl ?_
  refine ar_getV (pc := 40) (a := a1) (v := .inl ((am_up (am_cp (am_cp h (a1 + 1) 0 (v0 + 1) 0 40) (a1 + 2) 0 (v0 + 2) 0 25) v0 2 ((am_cp (am_cp h (a1 + 1) 0 (v0 + 1) 0 40) (a1 + 2) 0 (v0 + 2) 0 25) a1 2)) a1 3)) 0 3 (by decide +kernel) g1 rfl (by decide) wf_RX0_22 rfl ?_
  refine ar_putI (pc := 43) (a := v0) (z := ((am_up (am_cp (am_cp h (a1 + 1) 0 (v0 + 1) 0 40) (a1 + 2) 0 (v0 + 2) 0 25) v0 2 ((am_cp (am_cp h (a1 + 1) 0 (v0 + 1) 0 40) (a1 + 2) 0 (v0 + 2) 0 25) a1 2)) a1 3)) 0 3 (by decide +kernel) t0 rfl (by decide) rfl (fun _ => rfl) rfl wf_RX0_22 ?_
  refine ar_aload_n (pc := 46) (i := 0) (k0 := 0) (by decide +kernel) rfl rfl ?_
  refine ar_aload_n (pc := 47) (i := 1) (k0 := 1) (by decide +kernel) rfl rfl ?_
  refine ar_getV (pc := 48) (a := a1) (v := .inl ((am_up (am_up (am_cp (am_cp h (a1 + 1) 0 (v0 + 1) 0 40) (a1 + 2) 0 (v0 + 2) 0 25) v0 2 ((am_cp (am_cp h (a1 + 1) 0 (v0 + 1) 0 40) (a1 + 2) 0 (v0 + 2) 0 25) a1 2)) v0 3 ((am_up (am_cp (am_cp h (a1 + 1) 0 (v0 + 1) 0 40) (a1 + 2) 0 (v0 + 2) 0 25) v0 2 ((am_cp (am_cp h (a1 + 1) 0 (v0 + 1) 0 40) (a1 + 2) 0 (v0 + 2) 0 25) a1 2)) a1 3)) a1 4)) 0 4 (by decide +kernel) g1 rfl (by decide) wf_RX0_25 rfl ?_
  refine ar_putI (pc := 51) (a := v0) (z := ((am_up (am_up (am_cp (am_cp h (a1 + 1) 0 (v0 + 1) 0 40) (a1 + 2) 0 (v0 + 2) 0 25) v0 2 ((am_cp (am_cp h (a1 + 1) 0 (v0 + 1) 0 40) (a1 + 2) 0 (v0 + 2) 0 25) a1 2)) v0 3 ((am_up (am_cp (am_cp h (a1 + 1) 0 (v0 + 1) 0 40) (a1 + 2) 0 (v0 + 2) 0 25) v0 2 ((am_cp (am_cp h (a1 + 1) 0 (v0 + 1) 0 40) (a1 + 2) 0 (v0 + 2) 0 25) a1 2)) a1 3)) a1 4)) 0 4 (by decide +kernel) t0 rfl (by decide) rfl (fun _ => rfl) rfl wf_RX0_25 ?_
  refine ar_aload_n (pc := 54) (i := 0) (k0 := 0) (by decide +kernel) rfl rfl ?_
  refine ar_aload_n (pc := 55) (i := 1) (k0 := 1) (by decide +kernel) rfl rfl ?_
  refine ar_getV (pc := 56) (a := a1) (v := .inl ((am_up (am_up (am_up (am_cp (am_cp h (a1 + 1) 0 (v0 + 1) 0 40) (a1 + 2) 0 (v0 + 2) 0 25) v0 2 ((am_cp (am_cp h (a1 + 1) 0 (v0 + 1) 0 40) (a1 + 2) 0 (v0 + 2) 0 25) a1 2)) v0 3 ((am_up (am_cp (am_cp h (a1 + 1) 0 (v0 + 1) 0 40) (a1 + 2) 0 (v0 + 2) 0 25) v0 2 ((am_cp (am_cp h (a1 + 1) 0 (v0 + 1) 0 40) (a1 + 2) 0 (v0 + 2) 0 25) a1 2)) a1 3)) v0 4 ((am_up (am_up (am_cp (am_cp h (a1 + 1) 0 (v0 + 1) 0 40) (a1 + 2) 0 (v0 + 2) 0 25) v0 2 ((am_cp (am_cp h (a1 + 1) 0 (v0 + 1) 0 40) (a1 + 2) 0 (v0 + 2) 0 25) a1 2)) v0 3 ((am_up (am_cp (am_cp h (a1 + 1) 0 (v0 + 1) 0 40) (a1 + 2) 0 (v0 + 2) 0 25) v0 2 ((am_cp (am_cp h (a1 + 1) 0 (v0 + 1) 0 40) (a1 + 2) 0 (v0 + 2) 0 25) a1 2)) a1 3)) a1 4)) a1 5)) 0 5 (by decide +kernel) g1 rfl (by decide) wf_RX0_28 rfl ?_
  refine ar_putI (pc := 59) (a := v0) (z := ((am_up (am_up (am_up (am_cp (am_cp h (a1 + 1) 0 (v0 + 1) 0 40) (a1 + 2) 0 (v0 + 2) 0 25) v0 2 ((am_cp (am_cp h (a1 + 1) 0 (v0 + 1) 0 40) (a1 + 2) 0 (v0 + 2) 0 25) a1 2)) v0 3 ((am_up (am_cp (am_cp h (a1 + 1) 0 (v0 + 1) 0 40) (a1 + 2) 0 (v0 + 2) 0 25) v0 2 ((am_cp (am_cp h (a1 + 1) 0 (v0 + 1) 0 40) (a1 + 2) 0 (v0 + 2) 0 25) a1 2)) a1 3)) v0 4 ((am_up (am_up (am_cp (am_cp h (a1 + 1) 0 (v0 + 1) 0 40) (a1 + 2) 0 (v0 + 2) 0 25) v0 2 ((am_cp (am_cp h (a1 + 1) 0 (v0 + 1) 0 40) (a1 + 2) 0 (v0 + 2) 0 25) a1 2)) v0 3 ((am_up (am_cp (am_cp h (a1 + 1) 0 (v0 + 1) 0 40) (a1 + 2) 0 (v0 + 2) 0 25) v0 2 ((am_cp (am_cp h (a1 + 1) 0 (v0 + 1) 0 40) (a1 + 2) 0 (v0 + 2) 0 25) a1 2)) a1 3)) a1 4)) a1 5)) 0 5 (by decide +kernel) t0 rfl (by decide) rfl (fun _ => rfl) rfl wf_RX0_28 ?_
  exact ar_vret (pc := 62) (by decide +kernel) rfl rfl H

/-! ByteIntervals$Moment.draw(I)I -/
theorem B_X0_draw_0 {d : Nat} {Q : Int → am_H → Prop} {h : am_H} {v0 v1 : Int} (t0 : am_kd 321 v0 = 10) (H : (v1 ≤ 0 → wf (d + 1) M_X0_draw Q 14 [some (.inr (.inr v0)), none, none] [.inl 0] h) ∧ (0 < v1 → (v1 ≠ 0) ∧ (wf (d + 1) M_X0_draw Q 14 [some (.inr (.inr v0)), none, none] [.inl (am_w32 ((h v0 5).tmod v1))] h))) : wf (d + 1) M_X0_draw Q 0 [some (.inr (.inr v0)), some (.inl v1), none] [] h := by
  intro h0
  refine ar_iload_n (pc := 0) (i := 1) (k0 := 1) (by decide +kernel) rfl rfl ?_
  refine ar_if_le (pc := 1) (x := v1) (tgt := 13) (off := 12) (by decide +kernel) (by decide) (fun c1 => ?_) (fun c1 => ?_)
  · replace H := H.1 c1
    refine ar_iconst (pc := 13) (z := 0) (by decide +kernel) (by unfold am_i32; omega) ?_
    refine ar_forget [true, false, true] rfl ?_
    exact H h0
  · replace H := H.2 c1
    refine ar_aload_n (pc := 4) (i := 0) (k0 := 0) (by decide +kernel) rfl rfl ?_
    refine ar_getV (pc := 5) (a := v0) (v := .inl (h v0 5)) 0 5 (by decide +kernel) t0 rfl (by decide) wf_RX0_28 rfl ?_
    refine ar_iload_n (pc := 8) (i := 1) (k0 := 1) (by decide +kernel) rfl rfl ?_
    obtain ⟨g2, H⟩ := H
    refine ar_irem (pc := 9) (x := (h v0 5)) (y := v1) (by decide +kernel) g2 ?_
    refine ar_goto (pc := 10) (tgt := 14) (off := 4) (by decide +kernel) (by decide) ?_
    refine ar_forget [true, false, true] rfl ?_
    exact H h0
theorem B_X0_draw_14 {d : Nat} {Q : Int → am_H → Prop} {h : am_H} {v0 s0 : Int} (t0 : am_kd 321 v0 = 10) (H : cf d M_X0_drawAnew [.inr (.inr v0)] h (fun _ h2 => Q s0 h2)) : wf (d + 1) M_X0_draw Q 14 [some (.inr (.inr v0)), none, none] [.inl s0] h := by
  intro h0
  refine ar_istore_n (pc := 14) (i := 2) (k0 := 2) (ls2 := [some (.inr (.inr v0)), none, some (.inl s0)]) (by decide +kernel) rfl (by decide) rfl ?_
  refine ar_aload_n (pc := 15) (i := 0) (k0 := 0) (by decide +kernel) rfl rfl ?_
  refine ar_callV (pc := 16) (M2 := M_X0_drawAnew) (a := v0) (ci := 0) (as := []) (n2 := 321) (st := []) (by decide +kernel) rfl wm_RX0_37 wi_yX0_drawAnew wl_yX0_drawAnew t0 rfl wz_RX0 wc_yX0_drawAnew ⟨by decide, by decide, rfl⟩ (by decide) (Nat.le_of_ble_eq_true rfl) (Nat.le_refl _) (Nat.le_refl _) (am_Cl_mono H (fun r1 h2 H => ?_))
  show am_Wp true (d + 1) M_X0_draw 321 321 h0 Q 19 [some (.inr (.inr v0)), none, some (.inl s0)] [] 321 h2
  refine ar_iload_n (pc := 19) (i := 2) (k0 := 2) (by decide +kernel) rfl rfl ?_
  exact ar_iret (pc := 20) (x := s0) (by decide +kernel) rfl rfl H

/-! ByteIntervals$Moment.drawAnew()V -/
theorem B_X0_drawAnew_0 {d : Nat} {Q : Int → am_H → Prop} {h : am_H} {v0 : Int} (t0 : am_kd 321 v0 = 10) (H : Q 0 (am_up h v0 5 (am_w32 ((am_w32 ((am_w32 ((h v0 5) * 743)) + 607)).tmod 31079)))) : wf d M_X0_drawAnew Q 0 [some (.inr (.inr v0))] [] h := by
  intro h0
  refine ar_aload_n (pc := 0) (i := 0) (k0 := 0) (by decide +kernel) rfl rfl ?_
  refine ar_aload_n (pc := 1) (i := 0) (k0 := 0) (by decide +kernel) rfl rfl ?_
  refine ar_getV (pc := 2) (a := v0) (v := .inl (h v0 5)) 0 5 (by decide +kernel) t0 rfl (by decide) wf_RX0_28 rfl ?_
  refine ar_sipush (pc := 5) (z := 743) (by decide +kernel) (by omega) ?_
  refine ar_imul (pc := 8) (x := (h v0 5)) (y := 743) (by decide +kernel) ?_
  refine ar_sipush (pc := 9) (z := 607) (by decide +kernel) (by omega) ?_
  refine ar_iadd (pc := 12) (x := (am_w32 ((h v0 5) * 743))) (y := 607) (by decide +kernel) ?_
  refine ar_sipush (pc := 13) (z := 31079) (by decide +kernel) (by omega) ?_
  refine ar_irem (pc := 16) (x := (am_w32 ((am_w32 ((h v0 5) * 743)) + 607))) (y := 31079) (by decide +kernel) (by decide) ?_
  refine ar_putI (pc := 17) (a := v0) (z := (am_w32 ((am_w32 ((am_w32 ((h v0 5) * 743)) + 607)).tmod 31079))) 0 5 (by decide +kernel) t0 rfl (by decide) rfl (fun _ => rfl) rfl wf_RX0_28 ?_
  exact ar_vret (pc := 20) (by decide +kernel) rfl rfl H

/-! ByteIntervals$Moment.covers(II)Z -/
theorem B_X0_covers_0 {d : Nat} {Q : Int → am_H → Prop} {h : am_H} {v0 v1 v2 : Int} (t0 : am_kd 321 v0 = 10) (H : (v1 < 0 → Q 0 h) ∧ (0 ≤ v1 → (v2 < v1 → Q 0 h) ∧ (v1 ≤ v2 → ((h v0 3) < v2 → Q 0 h) ∧ (v2 ≤ (h v0 3) → Q 1 h)))) : wf d M_X0_covers Q 0 [some (.inr (.inr v0)), some (.inl v1), some (.inl v2)] [] h := by
  intro h0
  refine ar_iload_n (pc := 0) (i := 1) (k0 := 1) (by decide +kernel) rfl rfl ?_
  refine ar_if_lt (pc := 1) (x := v1) (tgt := 21) (off := 20) (by decide +kernel) (by decide) (fun c1 => ?_) (fun c1 => ?_)
  · replace H := H.1 c1
    refine ar_iconst (pc := 21) (z := 0) (by decide +kernel) (by unfold am_i32; omega) ?_
    exact ar_zret (pc := 22) (x := 0) (by decide +kernel) rfl rfl (by decide) H
  · replace H := H.2 c1
    refine ar_iload_n (pc := 4) (i := 1) (k0 := 1) (by decide +kernel) rfl rfl ?_
    refine ar_iload_n (pc := 5) (i := 2) (k0 := 2) (by decide +kernel) rfl rfl ?_
    refine ar_icmp_gt (pc := 6) (x := v1) (y := v2) (tgt := 21) (off := 15) (by decide +kernel) (by decide) (fun c2 => ?_) (fun c2 => ?_)
    · replace H := H.1 c2
      refine ar_iconst (pc := 21) (z := 0) (by decide +kernel) (by unfold am_i32; omega) ?_
      exact ar_zret (pc := 22) (x := 0) (by decide +kernel) rfl rfl (by decide) H
    · replace H := H.2 c2
      refine ar_iload_n (pc := 9) (i := 2) (k0 := 2) (by decide +kernel) rfl rfl ?_
      refine ar_aload_n (pc := 10) (i := 0) (k0 := 0) (by decide +kernel) rfl rfl ?_
      refine ar_getV (pc := 11) (a := v0) (v := .inl (h v0 3)) 0 3 (by decide +kernel) t0 rfl (by decide) wf_RX0_22 rfl ?_
      refine ar_icmp_gt (pc := 14) (x := v2) (y := (h v0 3)) (tgt := 21) (off := 7) (by decide +kernel) (by decide) (fun c3 => ?_) (fun c3 => ?_)
      · replace H := H.1 c3
        refine ar_iconst (pc := 21) (z := 0) (by decide +kernel) (by unfold am_i32; omega) ?_
        exact ar_zret (pc := 22) (x := 0) (by decide +kernel) rfl rfl (by decide) H
      · replace H := H.2 c3
        refine ar_iconst (pc := 17) (z := 1) (by decide +kernel) (by unfold am_i32; omega) ?_
        refine ar_goto (pc := 18) (tgt := 22) (off := 4) (by decide +kernel) (by decide) ?_
        exact ar_zret (pc := 22) (x := 1) (by decide +kernel) rfl rfl (by decide) H

/-! ByteIntervals$Moment.together(II)I -/
theorem B_X0_together_0 {d : Nat} {Q : Int → am_H → Prop} {h : am_H} {v0 v1 v2 : Int} (t0 : am_kd 321 v0 = 10) (H : cf d M_J9_max_7cf53 [.inl v1, .inl 0] h (fun r1 h2 => wf (d + 1) M_X0_together Q 9 [some (.inr (.inr v0)), none, some (.inl v2), some (.inl 0), some (.inl r1)] [] h2)) : wf (d + 1) M_X0_together Q 0 [some (.inr (.inr v0)), some (.inl v1), some (.inl v2), none, none] [] h := by
  intro h0
  refine ar_iconst (pc := 0) (z := 0) (by decide +kernel) (by unfold am_i32; omega) ?_
  refine ar_istore_n (pc := 1) (i := 3) (k0 := 3) (ls2 := [some (.inr (.inr v0)), some (.inl v1), some (.inl v2), some (.inl 0), none]) (by decide +kernel) rfl (by decide) rfl ?_
  refine ar_iload_n (pc := 2) (i := 1) (k0 := 1) (by decide +kernel) rfl rfl ?_
  refine ar_iconst (pc := 3) (z := 0) (by decide +kernel) (by unfold am_i32; omega) ?_
  refine ar_callS (pc := 4) (M2 := M_J9_max_7cf53) (as := [.inl v1, .inl 0]) (n2 := 321) (st := []) (by decide +kernel) rfl wm_RX0_40 ws_yJ9_max_7cf53 wz_RJ9 wc_yJ9_max_7cf53 ⟨by decide, by decide, rfl⟩ (by decide) (Nat.le_of_ble_eq_true rfl) (Nat.le_refl _) (Nat.le_refl _) (am_Cl_mono H (fun r1 h2 H => ?_))
  show am_Wp true (d + 1) M_X0_together 321 321 h0 Q 7 [some (.inr (.inr v0)), some (.inl v1), some (.inl v2), some (.inl 0), none] [.inl r1] 321 h2
  refine ar_istore (pc := 7) (i := 4) (ls2 := [some (.inr (.inr v0)), some (.inl v1), some (.inl v2), some (.inl 0), some (.inl r1)]) (by decide +kernel) (by decide) rfl ?_
  refine ar_forget [true, false, true, true, true] rfl ?_
  exact H h0
theorem B_X0_together_9 {d : Nat} {Q : Int → am_H → Prop} {h : am_H} {v0 v2 v3 v4 : Int} (t0 : am_kd 321 v0 = 10) (H : (v2 ≤ v4 → Q v3 h) ∧ (v4 < v2 → (40 ≤ v4 → Q v3 h) ∧ (v4 < 40 → (0 ≤ v4) ∧ (wf (d + 1) M_X0_together Q 9 [some (.inr (.inr v0)), none, some (.inl v2), some (.inl (am_w32 (v3 + (h (v0 + 1) v4)))), some (.inl (am_w32 (v4 + 1)))] [] h)))) : wf (d + 1) M_X0_together Q 9 [some (.inr (.inr v0)), none, some (.inl v2), some (.inl v3), some (.inl v4)] [] h := by
  intro h0
  refine ar_iload (pc := 9) (i := 4) (by decide +kernel) rfl ?_
  refine ar_iload_n (pc := 11) (i := 2) (k0 := 2) (by decide +kernel) rfl rfl ?_
  refine ar_icmp_ge (pc := 12) (x := v4) (y := v2) (tgt := 38) (off := 26) (by decide +kernel) (by decide) (fun c1 => ?_) (fun c1 => ?_)
  · replace H := H.1 c1
    refine ar_iload_n (pc := 38) (i := 3) (k0 := 3) (by decide +kernel) rfl rfl ?_
    exact ar_iret (pc := 39) (x := v3) (by decide +kernel) rfl rfl H
  · replace H := H.2 c1
    refine ar_iload (pc := 15) (i := 4) (by decide +kernel) rfl ?_
    refine ar_bipush (pc := 17) (z := 40) (by decide +kernel) (by omega) ?_
    refine ar_icmp_ge (pc := 19) (x := v4) (y := 40) (tgt := 38) (off := 19) (by decide +kernel) (by decide) (fun c2 => ?_) (fun c2 => ?_)
    · replace H := H.1 c2
      refine ar_iload_n (pc := 38) (i := 3) (k0 := 3) (by decide +kernel) rfl rfl ?_
      exact ar_iret (pc := 39) (x := v3) (by decide +kernel) rfl rfl H
    · replace H := H.2 c2
      refine ar_iload_n (pc := 22) (i := 3) (k0 := 3) (by decide +kernel) rfl rfl ?_
      refine ar_aload_n (pc := 23) (i := 0) (k0 := 0) (by decide +kernel) rfl rfl ?_
      refine ar_getFV (pc := 24) (a := v0) (b := (v0 + 1)) 0 0 (by decide +kernel) t0 rfl (by decide) wf_RX0_9 rfl (fun _ => rfl) rfl ?_
      refine ar_iload (pc := 27) (i := 4) (by decide +kernel) rfl ?_
      obtain ⟨g3, H⟩ := H
      refine ar_iald (pc := 29) (a := (v0 + 1)) (i := v4) (by decide +kernel) (kX0_0 t0).1 g3 (am_lt_eq c2 ((kX0_0 t0).2).symm) ?_
      refine ar_iadd (pc := 30) (x := v3) (y := (h (v0 + 1) v4)) (by decide +kernel) ?_
      refine ar_istore_n (pc := 31) (i := 3) (k0 := 3) (ls2 := [some (.inr (.inr v0)), none, some (.inl v2), some (.inl (am_w32 (v3 + (h (v0 + 1) v4)))), some (.inl v4)]) (by decide +kernel) rfl (by decide) rfl ?_
      refine ar_iinc (pc := 32) (i := 4) (z := 1) (x := v4) (ls2 := [some (.inr (.inr v0)), none, some (.inl v2), some (.inl (am_w32 (v3 + (h (v0 + 1) v4)))), some (.inl (am_w32 (v4 + 1)))]) (by decide +kernel) rfl (by decide) rfl ?_
      refine ar_goto (pc := 35) (tgt := 9) (off := -26) (by decide +kernel) (by decide) ?_
      exact H h0

/-! ByteIntervals$Moment.canPut(II)Z -/
theorem B_X0_canPut_0 {d : Nat} {Q : Int → am_H → Prop} {h : am_H} {v0 v1 v2 : Int} (t0 : am_kd 321 v0 = 10) (H : (v1 < 0 → wf d M_X0_canPut Q 22 [some (.inr (.inr v0)), some (.inl v1), some (.inl v2), none] [] h) ∧ (0 ≤ v1 → ((h v0 3) ≤ v1 → wf d M_X0_canPut Q 22 [some (.inr (.inr v0)), some (.inl v1), some (.inl v2), none] [] h) ∧ (v1 < (h v0 3) → (40 ≤ v1 → wf d M_X0_canPut Q 22 [some (.inr (.inr v0)), some (.inl v1), some (.inl v2), none] [] h) ∧ (v1 < 40 → wf d M_X0_canPut Q 23 [some (.inr (.inr v0)), some (.inl v1), some (.inl v2), none] [.inl 1] h)))) : wf d M_X0_canPut Q 0 [some (.inr (.inr v0)), some (.inl v1), some (.inl v2), none] [] h := by
  intro h0
  refine ar_iload_n (pc := 0) (i := 1) (k0 := 1) (by decide +kernel) rfl rfl ?_
  refine ar_if_lt (pc := 1) (x := v1) (tgt := 22) (off := 21) (by decide +kernel) (by decide) (fun c1 => ?_) (fun c1 => ?_)
  · replace H := H.1 c1
    exact H h0
  · replace H := H.2 c1
    refine ar_iload_n (pc := 4) (i := 1) (k0 := 1) (by decide +kernel) rfl rfl ?_
    refine ar_aload_n (pc := 5) (i := 0) (k0 := 0) (by decide +kernel) rfl rfl ?_
    refine ar_getV (pc := 6) (a := v0) (v := .inl (h v0 3)) 0 3 (by decide +kernel) t0 rfl (by decide) wf_RX0_22 rfl ?_
    refine ar_icmp_ge (pc := 9) (x := v1) (y := (h v0 3)) (tgt := 22) (off := 13) (by decide +kernel) (by decide) (fun c2 => ?_) (fun c2 => ?_)
    · replace H := H.1 c2
      exact H h0
    · replace H := H.2 c2
      refine ar_iload_n (pc := 12) (i := 1) (k0 := 1) (by decide +kernel) rfl rfl ?_
      refine ar_bipush (pc := 13) (z := 40) (by decide +kernel) (by omega) ?_
      refine ar_icmp_ge (pc := 15) (x := v1) (y := 40) (tgt := 22) (off := 7) (by decide +kernel) (by decide) (fun c3 => ?_) (fun c3 => ?_)
      · replace H := H.1 c3
        exact H h0
      · replace H := H.2 c3
        refine ar_iconst (pc := 18) (z := 1) (by decide +kernel) (by unfold am_i32; omega) ?_
        refine ar_goto (pc := 19) (tgt := 23) (off := 4) (by decide +kernel) (by decide) ?_
        exact H h0
theorem B_X0_canPut_22 {d : Nat} {Q : Int → am_H → Prop} {h : am_H} {v0 v1 v2 : Int} (t0 : am_kd 321 v0 = 10) (H : wf d M_X0_canPut Q 23 [some (.inr (.inr v0)), some (.inl v1), some (.inl v2), none] [.inl 0] h) : wf d M_X0_canPut Q 22 [some (.inr (.inr v0)), some (.inl v1), some (.inl v2), none] [] h := by
  intro h0
  refine ar_iconst (pc := 22) (z := 0) (by decide +kernel) (by unfold am_i32; omega) ?_
  exact H h0
theorem B_X0_canPut_23 {d : Nat} {Q : Int → am_H → Prop} {h : am_H} {v0 v1 v2 s0 : Int} (t0 : am_kd 321 v0 = 10) (H : (s0 = 0 → Q 0 h) ∧ (¬ s0 = 0 → (v2 < 0 → Q 0 h) ∧ (0 ≤ v2 → (256 ≤ v2 → Q 0 h) ∧ (v2 < 256 → (0 ≤ v1) ∧ ((v1 < 40) ∧ (((h (v0 + 1) v1) = v2 → Q 0 h) ∧ (¬ (h (v0 + 1) v1) = v2 → Q 1 h))))))) : wf d M_X0_canPut Q 23 [some (.inr (.inr v0)), some (.inl v1), some (.inl v2), none] [.inl s0] h := by
  intro h0
  refine ar_istore_n (pc := 23) (i := 3) (k0 := 3) (ls2 := [some (.inr (.inr v0)), some (.inl v1), some (.inl v2), some (.inl s0)]) (by decide +kernel) rfl (by decide) rfl ?_
  refine ar_iload_n (pc := 24) (i := 3) (k0 := 3) (by decide +kernel) rfl rfl ?_
  refine ar_if_eq (pc := 25) (x := s0) (tgt := 53) (off := 28) (by decide +kernel) (by decide) (fun c1 => ?_) (fun c1 => ?_)
  · replace H := H.1 c1
    refine ar_iconst (pc := 53) (z := 0) (by decide +kernel) (by unfold am_i32; omega) ?_
    exact ar_zret (pc := 54) (x := 0) (by decide +kernel) rfl rfl (by decide) H
  · replace H := H.2 c1
    refine ar_iload_n (pc := 28) (i := 2) (k0 := 2) (by decide +kernel) rfl rfl ?_
    refine ar_if_lt (pc := 29) (x := v2) (tgt := 53) (off := 24) (by decide +kernel) (by decide) (fun c2 => ?_) (fun c2 => ?_)
    · replace H := H.1 c2
      refine ar_iconst (pc := 53) (z := 0) (by decide +kernel) (by unfold am_i32; omega) ?_
      exact ar_zret (pc := 54) (x := 0) (by decide +kernel) rfl rfl (by decide) H
    · replace H := H.2 c2
      refine ar_iload_n (pc := 32) (i := 2) (k0 := 2) (by decide +kernel) rfl rfl ?_
      refine ar_sipush (pc := 33) (z := 256) (by decide +kernel) (by omega) ?_
      refine ar_icmp_ge (pc := 36) (x := v2) (y := 256) (tgt := 53) (off := 17) (by decide +kernel) (by decide) (fun c3 => ?_) (fun c3 => ?_)
      · replace H := H.1 c3
        refine ar_iconst (pc := 53) (z := 0) (by decide +kernel) (by unfold am_i32; omega) ?_
        exact ar_zret (pc := 54) (x := 0) (by decide +kernel) rfl rfl (by decide) H
      · replace H := H.2 c3
        refine ar_aload_n (pc := 39) (i := 0) (k0 := 0) (by decide +kernel) rfl rfl ?_
        refine ar_getFV (pc := 40) (a := v0) (b := (v0 + 1)) 0 0 (by decide +kernel) t0 rfl (by decide) wf_RX0_9 rfl (fun _ => rfl) rfl ?_
        refine ar_iload_n (pc := 43) (i := 1) (k0 := 1) (by decide +kernel) rfl rfl ?_
        obtain ⟨g4, H⟩ := H
        obtain ⟨g5, H⟩ := H
        refine ar_iald (pc := 44) (a := (v0 + 1)) (i := v1) (by decide +kernel) (kX0_0 t0).1 g4 (am_lt_eq g5 ((kX0_0 t0).2).symm) ?_
        refine ar_iload_n (pc := 45) (i := 2) (k0 := 2) (by decide +kernel) rfl rfl ?_
        refine ar_icmp_eq (pc := 46) (x := (h (v0 + 1) v1)) (y := v2) (tgt := 53) (off := 7) (by decide +kernel) (by decide) (fun c6 => ?_) (fun c6 => ?_)
        · replace H := H.1 c6
          refine ar_iconst (pc := 53) (z := 0) (by decide +kernel) (by unfold am_i32; omega) ?_
          exact ar_zret (pc := 54) (x := 0) (by decide +kernel) rfl rfl (by decide) H
        · replace H := H.2 c6
          refine ar_iconst (pc := 49) (z := 1) (by decide +kernel) (by unfold am_i32; omega) ?_
          refine ar_goto (pc := 50) (tgt := 54) (off := 4) (by decide +kernel) (by decide) ?_
          exact ar_zret (pc := 54) (x := 1) (by decide +kernel) rfl rfl (by decide) H

/-! ByteIntervals$Moment.putByte(II)V -/
theorem B_X0_putByte_0 {d : Nat} {Q : Int → am_H → Prop} {h : am_H} {v0 v1 v2 : Int} (t0 : am_kd 321 v0 = 10) (H : (v1 < 0 → Q 0 h) ∧ (0 ≤ v1 → (40 ≤ v1 → Q 0 h) ∧ (v1 < 40 → cf d M_X0_write [.inr (.inr v0), .inl 0, .inl v1, .inl v2] (am_up h (v0 + 1) v1 v2) (fun _ h4 => Q 0 h4)))) : wf (d + 1) M_X0_putByte Q 0 [some (.inr (.inr v0)), some (.inl v1), some (.inl v2)] [] h := by
  intro h0
  refine ar_iload_n (pc := 0) (i := 1) (k0 := 1) (by decide +kernel) rfl rfl ?_
  refine ar_if_lt (pc := 1) (x := v1) (tgt := 24) (off := 23) (by decide +kernel) (by decide) (fun c1 => ?_) (fun c1 => ?_)
  · replace H := H.1 c1
    exact ar_vret (pc := 24) (by decide +kernel) rfl rfl H
  · replace H := H.2 c1
    refine ar_iload_n (pc := 4) (i := 1) (k0 := 1) (by decide +kernel) rfl rfl ?_
    refine ar_bipush (pc := 5) (z := 40) (by decide +kernel) (by omega) ?_
    refine ar_icmp_ge (pc := 7) (x := v1) (y := 40) (tgt := 24) (off := 17) (by decide +kernel) (by decide) (fun c2 => ?_) (fun c2 => ?_)
    · replace H := H.1 c2
      exact ar_vret (pc := 24) (by decide +kernel) rfl rfl H
    · replace H := H.2 c2
      refine ar_aload_n (pc := 10) (i := 0) (k0 := 0) (by decide +kernel) rfl rfl ?_
      refine ar_getFV (pc := 11) (a := v0) (b := (v0 + 1)) 0 0 (by decide +kernel) t0 rfl (by decide) wf_RX0_9 rfl (fun _ => rfl) rfl ?_
      refine ar_iload_n (pc := 14) (i := 1) (k0 := 1) (by decide +kernel) rfl rfl ?_
      refine ar_iload_n (pc := 15) (i := 2) (k0 := 2) (by decide +kernel) rfl rfl ?_
      refine ar_iast (pc := 16) (a := (v0 + 1)) (i := v1) (z := v2) (by decide +kernel) (kX0_0 t0).1 c1 (am_lt_eq c2 ((kX0_0 t0).2).symm) ?_
      refine ar_aload_n (pc := 17) (i := 0) (k0 := 0) (by decide +kernel) rfl rfl ?_
      refine ar_iconst (pc := 18) (z := 0) (by decide +kernel) (by unfold am_i32; omega) ?_
      refine ar_iload_n (pc := 19) (i := 1) (k0 := 1) (by decide +kernel) rfl rfl ?_
      refine ar_iload_n (pc := 20) (i := 2) (k0 := 2) (by decide +kernel) rfl rfl ?_
      refine ar_callV (pc := 21) (M2 := M_X0_write) (a := v0) (ci := 0) (as := [.inl 0, .inl v1, .inl v2]) (n2 := 321) (st := []) (by decide +kernel) rfl wm_RX0_46 wi_yX0_write wl_yX0_write t0 rfl wz_RX0 wc_yX0_write ⟨by decide, by decide, rfl⟩ (by decide) (Nat.le_of_ble_eq_true rfl) (Nat.le_refl _) (Nat.le_refl _) (am_Cl_mono H (fun r3 h4 H => ?_))
      show am_Wp true (d + 1) M_X0_putByte 321 321 h0 Q 24 [some (.inr (.inr v0)), some (.inl v1), some (.inl v2)] [] 321 h4
      exact ar_vret (pc := 24) (by decide +kernel) rfl rfl H

/-! ByteIntervals$Moment.canResize(I)Z -/
theorem B_X0_canResize_0 {d : Nat} {Q : Int → am_H → Prop} {h : am_H} {v0 v1 : Int} (t0 : am_kd 321 v0 = 10) (H : (v1 < 0 → Q 0 h) ∧ (0 ≤ v1 → (40 < v1 → Q 0 h) ∧ (v1 ≤ 40 → (v1 = (h v0 3) → Q 0 h) ∧ (¬ v1 = (h v0 3) → Q 1 h)))) : wf d M_X0_canResize Q 0 [some (.inr (.inr v0)), some (.inl v1)] [] h := by
  intro h0
  refine ar_iload_n (pc := 0) (i := 1) (k0 := 1) (by decide +kernel) rfl rfl ?_
  refine ar_if_lt (pc := 1) (x := v1) (tgt := 22) (off := 21) (by decide +kernel) (by decide) (fun c1 => ?_) (fun c1 => ?_)
  · replace H := H.1 c1
    refine ar_iconst (pc := 22) (z := 0) (by decide +kernel) (by unfold am_i32; omega) ?_
    exact ar_zret (pc := 23) (x := 0) (by decide +kernel) rfl rfl (by decide) H
  · replace H := H.2 c1
    refine ar_iload_n (pc := 4) (i := 1) (k0 := 1) (by decide +kernel) rfl rfl ?_
    refine ar_bipush (pc := 5) (z := 40) (by decide +kernel) (by omega) ?_
    refine ar_icmp_gt (pc := 7) (x := v1) (y := 40) (tgt := 22) (off := 15) (by decide +kernel) (by decide) (fun c2 => ?_) (fun c2 => ?_)
    · replace H := H.1 c2
      refine ar_iconst (pc := 22) (z := 0) (by decide +kernel) (by unfold am_i32; omega) ?_
      exact ar_zret (pc := 23) (x := 0) (by decide +kernel) rfl rfl (by decide) H
    · replace H := H.2 c2
      refine ar_iload_n (pc := 10) (i := 1) (k0 := 1) (by decide +kernel) rfl rfl ?_
      refine ar_aload_n (pc := 11) (i := 0) (k0 := 0) (by decide +kernel) rfl rfl ?_
      refine ar_getV (pc := 12) (a := v0) (v := .inl (h v0 3)) 0 3 (by decide +kernel) t0 rfl (by decide) wf_RX0_22 rfl ?_
      refine ar_icmp_eq (pc := 15) (x := v1) (y := (h v0 3)) (tgt := 22) (off := 7) (by decide +kernel) (by decide) (fun c3 => ?_) (fun c3 => ?_)
      · replace H := H.1 c3
        refine ar_iconst (pc := 22) (z := 0) (by decide +kernel) (by unfold am_i32; omega) ?_
        exact ar_zret (pc := 23) (x := 0) (by decide +kernel) rfl rfl (by decide) H
      · replace H := H.2 c3
        refine ar_iconst (pc := 18) (z := 1) (by decide +kernel) (by unfold am_i32; omega) ?_
        refine ar_goto (pc := 19) (tgt := 23) (off := 4) (by decide +kernel) (by decide) ?_
        exact ar_zret (pc := 23) (x := 1) (by decide +kernel) rfl rfl (by decide) H

/-! ByteIntervals$Moment.resize(I)V -/
theorem B_X0_resize_0 {d : Nat} {Q : Int → am_H → Prop} {h : am_H} {v0 v1 : Int} (t0 : am_kd 321 v0 = 10) (H : cf d M_J9_max_7cf53 [.inl v1, .inl 0] h (fun r1 h2 => wf (d + 1) M_X0_resize Q 6 [some (.inr (.inr v0)), some (.inl v1), some (.inl r1)] [] h2)) : wf (d + 1) M_X0_resize Q 0 [some (.inr (.inr v0)), some (.inl v1), none] [] h := by
  intro h0
  refine ar_iload_n (pc := 0) (i := 1) (k0 := 1) (by decide +kernel) rfl rfl ?_
  refine ar_iconst (pc := 1) (z := 0) (by decide +kernel) (by unfold am_i32; omega) ?_
  refine ar_callS (pc := 2) (M2 := M_J9_max_7cf53) (as := [.inl v1, .inl 0]) (n2 := 321) (st := []) (by decide +kernel) rfl wm_RX0_40 ws_yJ9_max_7cf53 wz_RJ9 wc_yJ9_max_7cf53 ⟨by decide, by decide, rfl⟩ (by decide) (Nat.le_of_ble_eq_true rfl) (Nat.le_refl _) (Nat.le_refl _) (am_Cl_mono H (fun r1 h2 H => ?_))
  show am_Wp true (d + 1) M_X0_resize 321 321 h0 Q 5 [some (.inr (.inr v0)), some (.inl v1), none] [.inl r1] 321 h2
  refine ar_istore_n (pc := 5) (i := 2) (k0 := 2) (ls2 := [some (.inr (.inr v0)), some (.inl v1), some (.inl r1)]) (by decide +kernel) rfl (by decide) rfl ?_
  exact H h0
theorem B_X0_resize_6 {d : Nat} {Q : Int → am_H → Prop} {h : am_H} {v0 v1 v2 : Int} (t0 : am_kd 321 v0 = 10) (H : (40 ≤ v2 → cf d M_X0_write [.inr (.inr v0), .inl 1, .inl v1, .inl 0] (am_up h v0 3 v1) (fun _ h3 => Q 0 h3)) ∧ (v2 < 40 → (0 ≤ v2) ∧ (wf (d + 1) M_X0_resize Q 6 [some (.inr (.inr v0)), some (.inl v1), some (.inl (am_w32 (v2 + 1)))] [] (am_up h (v0 + 1) v2 0)))) : wf (d + 1) M_X0_resize Q 6 [some (.inr (.inr v0)), some (.inl v1), some (.inl v2)] [] h := by
  intro h0
  refine ar_iload_n (pc := 6) (i := 2) (k0 := 2) (by decide +kernel) rfl rfl ?_
  refine ar_bipush (pc := 7) (z := 40) (by decide +kernel) (by omega) ?_
  refine ar_icmp_ge (pc := 9) (x := v2) (y := 40) (tgt := 25) (off := 16) (by decide +kernel) (by decide) (fun c1 => ?_) (fun c1 => ?_)
  · replace H := H.1 c1
    refine ar_aload_n (pc := 25) (i := 0) (k0 := 0) (by decide +kernel) rfl rfl ?_
    refine ar_iload_n (pc := 26) (i := 1) (k0 := 1) (by decide +kernel) rfl rfl ?_
    refine ar_putI (pc := 27) (a := v0) (z := v1) 0 3 (by decide +kernel) t0 rfl (by decide) rfl (fun _ => rfl) rfl wf_RX0_22 ?_
    refine ar_aload_n (pc := 30) (i := 0) (k0 := 0) (by decide +kernel) rfl rfl ?_
    refine ar_iconst (pc := 31) (z := 1) (by decide +kernel) (by unfold am_i32; omega) ?_
    refine ar_iload_n (pc := 32) (i := 1) (k0 := 1) (by decide +kernel) rfl rfl ?_
    refine ar_iconst (pc := 33) (z := 0) (by decide +kernel) (by unfold am_i32; omega) ?_
    refine ar_callV (pc := 34) (M2 := M_X0_write) (a := v0) (ci := 0) (as := [.inl 1, .inl v1, .inl 0]) (n2 := 321) (st := []) (by decide +kernel) rfl wm_RX0_46 wi_yX0_write wl_yX0_write t0 rfl wz_RX0 wc_yX0_write ⟨by decide, by decide, rfl⟩ (by decide) (Nat.le_of_ble_eq_true rfl) (Nat.le_refl _) (Nat.le_refl _) (am_Cl_mono H (fun r2 h3 H => ?_))
    show am_Wp true (d + 1) M_X0_resize 321 321 h0 Q 37 [some (.inr (.inr v0)), some (.inl v1), some (.inl v2)] [] 321 h3
    exact ar_vret (pc := 37) (by decide +kernel) rfl rfl H
  · replace H := H.2 c1
    refine ar_aload_n (pc := 12) (i := 0) (k0 := 0) (by decide +kernel) rfl rfl ?_
    refine ar_getFV (pc := 13) (a := v0) (b := (v0 + 1)) 0 0 (by decide +kernel) t0 rfl (by decide) wf_RX0_9 rfl (fun _ => rfl) rfl ?_
    refine ar_iload_n (pc := 16) (i := 2) (k0 := 2) (by decide +kernel) rfl rfl ?_
    refine ar_iconst (pc := 17) (z := 0) (by decide +kernel) (by unfold am_i32; omega) ?_
    obtain ⟨g4, H⟩ := H
    refine ar_iast (pc := 18) (a := (v0 + 1)) (i := v2) (z := 0) (by decide +kernel) (kX0_0 t0).1 g4 (am_lt_eq c1 ((kX0_0 t0).2).symm) ?_
    refine ar_iinc (pc := 19) (i := 2) (z := 1) (x := v2) (ls2 := [some (.inr (.inr v0)), some (.inl v1), some (.inl (am_w32 (v2 + 1)))]) (by decide +kernel) rfl (by decide) rfl ?_
    refine ar_goto (pc := 22) (tgt := 6) (off := -16) (by decide +kernel) (by decide) ?_
    exact H h0

/-! ByteIntervals$Moment.rot(II)V -/
theorem B_X0_rot_0 {d : Nat} {Q : Int → am_H → Prop} {h : am_H} {v0 v1 v2 : Int} (t0 : am_kd 321 v0 = 10) (H : (v1 < 0 → Q 0 h) ∧ (0 ≤ v1 → (40 ≤ v1 → Q 0 h) ∧ (v1 < 40 → cf d M_X0_write [.inr (.inr v0), .inl 3, .inl v1, .inl (am_ixor (h (v0 + 1) v1) (am_ishl 1 v2))] (am_up h (v0 + 1) v1 (am_ixor (h (v0 + 1) v1) (am_ishl 1 v2))) (fun _ h4 => Q 0 h4)))) : wf (d + 1) M_X0_rot Q 0 [some (.inr (.inr v0)), some (.inl v1), some (.inl v2)] [] h := by
  intro h0
  refine ar_iload_n (pc := 0) (i := 1) (k0 := 1) (by decide +kernel) rfl rfl ?_
  refine ar_if_lt (pc := 1) (x := v1) (tgt := 34) (off := 33) (by decide +kernel) (by decide) (fun c1 => ?_) (fun c1 => ?_)
  · replace H := H.1 c1
    exact ar_vret (pc := 34) (by decide +kernel) rfl rfl H
  · replace H := H.2 c1
    refine ar_iload_n (pc := 4) (i := 1) (k0 := 1) (by decide +kernel) rfl rfl ?_
    refine ar_bipush (pc := 5) (z := 40) (by decide +kernel) (by omega) ?_
    refine ar_icmp_ge (pc := 7) (x := v1) (y := 40) (tgt := 34) (off := 27) (by decide +kernel) (by decide) (fun c2 => ?_) (fun c2 => ?_)
    · replace H := H.1 c2
      exact ar_vret (pc := 34) (by decide +kernel) rfl rfl H
    · replace H := H.2 c2
      refine ar_aload_n (pc := 10) (i := 0) (k0 := 0) (by decide +kernel) rfl rfl ?_
      refine ar_getFV (pc := 11) (a := v0) (b := (v0 + 1)) 0 0 (by decide +kernel) t0 rfl (by decide) wf_RX0_9 rfl (fun _ => rfl) rfl ?_
      refine ar_iload_n (pc := 14) (i := 1) (k0 := 1) (by decide +kernel) rfl rfl ?_
      refine ar_dup2 (pc := 15) (by decide +kernel) trivial trivial ?_
      refine ar_iald (pc := 16) (a := (v0 + 1)) (i := v1) (by decide +kernel) (kX0_0 t0).1 c1 (am_lt_eq c2 ((kX0_0 t0).2).symm) ?_
      refine ar_iconst (pc := 17) (z := 1) (by decide +kernel) (by unfold am_i32; omega) ?_
      refine ar_iload_n (pc := 18) (i := 2) (k0 := 2) (by decide +kernel) rfl rfl ?_
      refine ar_ishl (pc := 19) (x := 1) (y := v2) (by decide +kernel) ?_
      refine ar_ixor (pc := 20) (x := (h (v0 + 1) v1)) (y := (am_ishl 1 v2)) (by decide +kernel) ?_
      refine ar_iast (pc := 21) (a := (v0 + 1)) (i := v1) (z := (am_ixor (h (v0 + 1) v1) (am_ishl 1 v2))) (by decide +kernel) (kX0_0 t0).1 c1 (am_lt_eq c2 ((kX0_0 t0).2).symm) ?_
      refine ar_aload_n (pc := 22) (i := 0) (k0 := 0) (by decide +kernel) rfl rfl ?_
      refine ar_iconst (pc := 23) (z := 3) (by decide +kernel) (by unfold am_i32; omega) ?_
      refine ar_iload_n (pc := 24) (i := 1) (k0 := 1) (by decide +kernel) rfl rfl ?_
      refine ar_aload_n (pc := 25) (i := 0) (k0 := 0) (by decide +kernel) rfl rfl ?_
      refine ar_getFV (pc := 26) (a := v0) (b := (v0 + 1)) 0 0 (by decide +kernel) t0 rfl (by decide) wf_RX0_9 rfl (fun _ => rfl) rfl ?_
      refine ar_iload_n (pc := 29) (i := 1) (k0 := 1) (by decide +kernel) rfl rfl ?_
      refine ar_ialdV (pc := 30) (a := (v0 + 1)) (i := v1) (v := (am_ixor (h (v0 + 1) v1) (am_ishl 1 v2))) (by first | rfl | (simp [am_up, am_cp]; done) | (simp [am_up, am_cp] <;> intros <;> omega)) (by decide +kernel) (kX0_0 t0).1 c1 (am_lt_eq c2 ((kX0_0 t0).2).symm) ?_
      refine ar_callV (pc := 31) (M2 := M_X0_write) (a := v0) (ci := 0) (as := [.inl 3, .inl v1, .inl (am_ixor (h (v0 + 1) v1) (am_ishl 1 v2))]) (n2 := 321) (st := []) (by decide +kernel) rfl wm_RX0_46 wi_yX0_write wl_yX0_write t0 rfl wz_RX0 wc_yX0_write ⟨by decide, by decide, rfl⟩ (by decide) (Nat.le_of_ble_eq_true rfl) (Nat.le_refl _) (Nat.le_refl _) (am_Cl_mono H (fun r3 h4 H => ?_))
      show am_Wp true (d + 1) M_X0_rot 321 321 h0 Q 34 [some (.inr (.inr v0)), some (.inl v1), some (.inl v2)] [] 321 h4
      exact ar_vret (pc := 34) (by decide +kernel) rfl rfl H

/-! ByteIntervals$Moment.takeMended([II)V -/
theorem B_X0_takeMended_0 {d : Nat} {Q : Int → am_H → Prop} {h : am_H} {v0 a1 v2 : Int} (t0 : am_kd 321 v0 = 10) (H : wf (d + 1) M_X0_takeMended Q 2 [some (.inr (.inr v0)), some (.inr (.inr a1)), some (.inl v2), some (.inl 0)] [] h) : wf (d + 1) M_X0_takeMended Q 0 [some (.inr (.inr v0)), some (.inr (.inr a1)), some (.inl v2), none] [] h := by
  intro h0
  refine ar_iconst (pc := 0) (z := 0) (by decide +kernel) (by unfold am_i32; omega) ?_
  refine ar_istore_n (pc := 1) (i := 3) (k0 := 3) (ls2 := [some (.inr (.inr v0)), some (.inr (.inr a1)), some (.inl v2), some (.inl 0)]) (by decide +kernel) rfl (by decide) rfl ?_
  exact H h0
theorem B_X0_takeMended_2 {d : Nat} {Q : Int → am_H → Prop} {h : am_H} {v0 a1 v2 v3 : Int} (t0 : am_kd 321 v0 = 10) (H : (am_kd 321 a1 = 0) ∧ (((am_ln a1) ≤ v3 → wf (d + 1) M_X0_takeMended Q 29 [some (.inr (.inr v0)), none, some (.inl v2), none] [] h) ∧ (v3 < (am_ln a1) → (40 ≤ v3 → wf (d + 1) M_X0_takeMended Q 29 [some (.inr (.inr v0)), none, some (.inl v2), none] [] h) ∧ (v3 < 40 → (0 ≤ v3) ∧ ((v3 < am_ln a1) ∧ (wf (d + 1) M_X0_takeMended Q 2 [some (.inr (.inr v0)), some (.inr (.inr a1)), some (.inl v2), some (.inl (am_w32 (v3 + 1)))] [] (am_up h (v0 + 1) v3 (h a1 v3)))))))) : wf (d + 1) M_X0_takeMended Q 2 [some (.inr (.inr v0)), some (.inr (.inr a1)), some (.inl v2), some (.inl v3)] [] h := by
  intro h0
  refine ar_iload_n (pc := 2) (i := 3) (k0 := 3) (by decide +kernel) rfl rfl ?_
  refine ar_aload_n (pc := 3) (i := 1) (k0 := 1) (by decide +kernel) rfl rfl ?_
  obtain ⟨g1, H⟩ := H
  refine ar_alen (pc := 4) (a := a1) (by decide +kernel) (by rw [g1]; decide) ?_
  refine ar_icmp_ge (pc := 5) (x := v3) (y := (am_ln a1)) (tgt := 29) (off := 24) (by decide +kernel) (by decide) (fun c2 => ?_) (fun c2 => ?_)
  · replace H := H.1 c2
    refine ar_forget [true, false, true, false] rfl ?_
    exact H h0
  · replace H := H.2 c2
    refine ar_iload_n (pc := 8) (i := 3) (k0 := 3) (by decide +kernel) rfl rfl ?_
    refine ar_bipush (pc := 9) (z := 40) (by decide +kernel) (by omega) ?_
    refine ar_icmp_ge (pc := 11) (x := v3) (y := 40) (tgt := 29) (off := 18) (by decide +kernel) (by decide) (fun c3 => ?_) (fun c3 => ?_)
    · replace H := H.1 c3
      refine ar_forget [true, false, true, false] rfl ?_
      exact H h0
    · replace H := H.2 c3
      refine ar_aload_n (pc := 14) (i := 0) (k0 := 0) (by decide +kernel) rfl rfl ?_
      refine ar_getFV (pc := 15) (a := v0) (b := (v0 + 1)) 0 0 (by decide +kernel) t0 rfl (by decide) wf_RX0_9 rfl (fun _ => rfl) rfl ?_
      refine ar_iload_n (pc := 18) (i := 3) (k0 := 3) (by decide +kernel) rfl rfl ?_
      refine ar_aload_n (pc := 19) (i := 1) (k0 := 1) (by decide +kernel) rfl rfl ?_
      refine ar_iload_n (pc := 20) (i := 3) (k0 := 3) (by decide +kernel) rfl rfl ?_
      obtain ⟨g4, H⟩ := H
      obtain ⟨g5, H⟩ := H
      refine ar_iald (pc := 21) (a := a1) (i := v3) (by decide +kernel) g1 g4 g5 ?_
      refine ar_iast (pc := 22) (a := (v0 + 1)) (i := v3) (z := (h a1 v3)) (by decide +kernel) (kX0_0 t0).1 g4 (am_lt_eq c3 ((kX0_0 t0).2).symm) ?_
      refine ar_iinc (pc := 23) (i := 3) (z := 1) (x := v3) (ls2 := [some (.inr (.inr v0)), some (.inr (.inr a1)), some (.inl v2), some (.inl (am_w32 (v3 + 1)))]) (by decide +kernel) rfl (by decide) rfl ?_
      refine ar_goto (pc := 26) (tgt := 2) (off := -24) (by decide +kernel) (by decide) ?_
      exact H h0
theorem B_X0_takeMended_29 {d : Nat} {Q : Int → am_H → Prop} {h : am_H} {v0 v2 : Int} (t0 : am_kd 321 v0 = 10) (H : cf d M_X0_write [.inr (.inr v0), .inl 2, .inl v2, .inl 0] h (fun _ h2 => Q 0 h2)) : wf (d + 1) M_X0_takeMended Q 29 [some (.inr (.inr v0)), none, some (.inl v2), none] [] h := by
  intro h0
  refine ar_aload_n (pc := 29) (i := 0) (k0 := 0) (by decide +kernel) rfl rfl ?_
  refine ar_iconst (pc := 30) (z := 2) (by decide +kernel) (by unfold am_i32; omega) ?_
  refine ar_iload_n (pc := 31) (i := 2) (k0 := 2) (by decide +kernel) rfl rfl ?_
  refine ar_iconst (pc := 32) (z := 0) (by decide +kernel) (by unfold am_i32; omega) ?_
  refine ar_callV (pc := 33) (M2 := M_X0_write) (a := v0) (ci := 0) (as := [.inl 2, .inl v2, .inl 0]) (n2 := 321) (st := []) (by decide +kernel) rfl wm_RX0_46 wi_yX0_write wl_yX0_write t0 rfl wz_RX0 wc_yX0_write ⟨by decide, by decide, rfl⟩ (by decide) (Nat.le_of_ble_eq_true rfl) (Nat.le_refl _) (Nat.le_refl _) (am_Cl_mono H (fun r1 h2 H => ?_))
  show am_Wp true (d + 1) M_X0_takeMended 321 321 h0 Q 36 [some (.inr (.inr v0)), none, some (.inl v2), none] [] 321 h2
  exact ar_vret (pc := 36) (by decide +kernel) rfl rfl H

/-! ByteIntervals$Moment.write(III)V -/
theorem B_X0_write_0 {d : Nat} {Q : Int → am_H → Prop} {h : am_H} {v0 v1 v2 v3 : Int} (t0 : am_kd 321 v0 = 10) (H : ((h v0 2) < 25 → wf d M_X0_write Q 30 [some (.inr (.inr v0)), some (.inl v1), some (.inl v2), some (.inl v3)] [] h) ∧ (25 ≤ (h v0 2) → wf d M_X0_write Q 30 [some (.inr (.inr v0)), some (.inl v1), some (.inl v2), some (.inl v3)] [] (am_up (am_cp h (v0 + 2) 1 (v0 + 2) 0 24) v0 2 24))) : wf d M_X0_write Q 0 [some (.inr (.inr v0)), some (.inl v1), some (.inl v2), some (.inl v3)] [] h := by
  intro h0
  refine ar_aload_n (pc := 0) (i := 0) (k0 := 0) (by decide +kernel) rfl rfl ?_
  refine ar_getV (pc := 1) (a := v0) (v := .inl (h v0 2)) 0 2 (by decide +kernel) t0 rfl (by decide) wf_RX0_18 rfl ?_
  refine ar_bipush (pc := 4) (z := 25) (by decide +kernel) (by omega) ?_
  refine ar_icmp_lt (pc := 6) (x := (h v0 2)) (y := 25) (tgt := 30) (off := 24) (by decide +kernel) (by decide) (fun c1 => ?_) (fun c1 => ?_)
  · replace H := H.1 c1
    exact H h0
  · replace H := H.2 c1
    refine ar_aload_n (pc := 9) (i := 0) (k0 := 0) (by decide +kernel) rfl rfl ?_
    refine ar_getFV (pc := 10) (a := v0) (b := (v0 + 2)) 0 1 (by decide +kernel) t0 rfl (by decide) wf_RX0_15 rfl (fun _ => rfl) rfl ?_
    refine ar_iconst (pc := 13) (z := 1) (by decide +kernel) (by unfold am_i32; omega) ?_
    refine ar_aload_n (pc := 14) (i := 0) (k0 := 0) (by decide +kernel) rfl rfl ?_
    refine ar_getFV (pc := 15) (a := v0) (b := (v0 + 2)) 0 1 (by decide +kernel) t0 rfl (by decide) wf_RX0_15 rfl (fun _ => rfl) rfl ?_
    refine ar_iconst (pc := 18) (z := 0) (by decide +kernel) (by unfold am_i32; omega) ?_
    refine ar_bipush (pc := 19) (z := 24) (by decide +kernel) (by omega) ?_
    refine ar_copy (pc := 21) (a0 := (v0 + 2)) (sp := 1) (a := (v0 + 2)) (dp := 0) (len := 24) (by decide +kernel) wm_RX0_31 wnat wstat wsys (kX0_1 t0).1 (kX0_1 t0).1 (by decide) (by decide) (by decide) (am_le_eq (b := 25) (by decide) ((kX0_1 t0).2).symm) (am_le_eq (b := 25) (by decide) ((kX0_1 t0).2).symm) (Nat.le_of_ble_eq_true rfl) ?_
    refine ar_aload_n (pc := 24) (i := 0) (k0 := 0) (by decide +kernel) rfl rfl ?_
    refine ar_bipush (pc := 25) (z := 24) (by decide +kernel) (by omega) ?_
    refine ar_putI (pc := 27) (a := v0) (z := 24) 0 2 (by decide +kernel) t0 rfl (by decide) rfl (fun _ => rfl) rfl wf_RX0_18 ?_
    exact H h0
theorem B_X0_write_30 {d : Nat} {Q : Int → am_H → Prop} {h : am_H} {v0 v1 v2 v3 : Int} (t0 : am_kd 321 v0 = 10) (H : ((h v0 2) < 0 → Q 0 h) ∧ (0 ≤ (h v0 2) → ((h v0 2) < 25) ∧ (Q 0 (am_up (am_up h (v0 + 2) (h v0 2) (am_ior (am_ior (am_ior (am_ishl (h v0 4) 16) (am_ishl v1 14)) (am_ishl v2 8)) v3)) v0 2 (am_w32 ((h v0 2) + 1)))))) : wf d M_X0_write Q 30 [some (.inr (.inr v0)), some (.inl v1), some (.inl v2), some (.inl v3)] [] h := by
  intro h0
  refine ar_aload_n (pc := 30) (i := 0) (k0 := 0) (by decide +kernel) rfl rfl ?_
  refine ar_getV (pc := 31) (a := v0) (v := .inl (h v0 2)) 0 2 (by decide +kernel) t0 rfl (by decide) wf_RX0_18 rfl ?_
  refine ar_if_lt (pc := 34) (x := (h v0 2)) (tgt := 75) (off := 41) (by decide +kernel) (by decide) (fun c1 => ?_) (fun c1 => ?_)
  · replace H := H.1 c1
    exact ar_vret (pc := 75) (by decide +kernel) rfl rfl H
  · replace H := H.2 c1
    refine ar_aload_n (pc := 37) (i := 0) (k0 := 0) (by decide +kernel) rfl rfl ?_
    refine ar_getFV (pc := 38) (a := v0) (b := (v0 + 2)) 0 1 (by decide +kernel) t0 rfl (by decide) wf_RX0_15 rfl (fun _ => rfl) rfl ?_
    refine ar_aload_n (pc := 41) (i := 0) (k0 := 0) (by decide +kernel) rfl rfl ?_
    refine ar_getV (pc := 42) (a := v0) (v := .inl (h v0 2)) 0 2 (by decide +kernel) t0 rfl (by decide) wf_RX0_18 rfl ?_
    refine ar_aload_n (pc := 45) (i := 0) (k0 := 0) (by decide +kernel) rfl rfl ?_
    refine ar_getV (pc := 46) (a := v0) (v := .inl (h v0 4)) 0 4 (by decide +kernel) t0 rfl (by decide) wf_RX0_25 rfl ?_
    refine ar_bipush (pc := 49) (z := 16) (by decide +kernel) (by omega) ?_
    refine ar_ishl (pc := 51) (x := (h v0 4)) (y := 16) (by decide +kernel) ?_
    refine ar_iload_n (pc := 52) (i := 1) (k0 := 1) (by decide +kernel) rfl rfl ?_
    refine ar_bipush (pc := 53) (z := 14) (by decide +kernel) (by omega) ?_
    refine ar_ishl (pc := 55) (x := v1) (y := 14) (by decide +kernel) ?_
    refine ar_ior (pc := 56) (x := (am_ishl (h v0 4) 16)) (y := (am_ishl v1 14)) (by decide +kernel) ?_
    refine ar_iload_n (pc := 57) (i := 2) (k0 := 2) (by decide +kernel) rfl rfl ?_
    refine ar_bipush (pc := 58) (z := 8) (by decide +kernel) (by omega) ?_
    refine ar_ishl (pc := 60) (x := v2) (y := 8) (by decide +kernel) ?_
    refine ar_ior (pc := 61) (x := (am_ior (am_ishl (h v0 4) 16) (am_ishl v1 14))) (y := (am_ishl v2 8)) (by decide +kernel) ?_
    refine ar_iload_n (pc := 62) (i := 3) (k0 := 3) (by decide +kernel) rfl rfl ?_
    refine ar_ior (pc := 63) (x := (am_ior (am_ior (am_ishl (h v0 4) 16) (am_ishl v1 14)) (am_ishl v2 8))) (y := v3) (by decide +kernel) ?_
    obtain ⟨g2, H⟩ := H
    refine ar_iast (pc := 64) (a := (v0 + 2)) (i := (h v0 2)) (z := (am_ior (am_ior (am_ior (am_ishl (h v0 4) 16) (am_ishl v1 14)) (am_ishl v2 8)) v3)) (by decide +kernel) (kX0_1 t0).1 c1 (am_lt_eq g2 ((kX0_1 t0).2).symm) ?_
    refine ar_aload_n (pc := 65) (i := 0) (k0 := 0) (by decide +kernel) rfl rfl ?_
    refine ar_dup (pc := 66) (by decide +kernel) trivial ?_
    refine ar_getV (pc := 67) (a := v0) (v := .inl (h v0 2)) 0 2 (by decide +kernel) t0 rfl (by decide) wf_RX0_18 (by first | rfl | (simp [am_tv, am_ty, tyX0, am_up, am_cp]; done) | (simp [am_tv, am_ty, tyX0, am_up, am_cp] <;> intros <;> omega)) ?_
    refine ar_iconst (pc := 70) (z := 1) (by decide +kernel) (by unfold am_i32; omega) ?_
    refine ar_iadd (pc := 71) (x := (h v0 2)) (y := 1) (by decide +kernel) ?_
    refine ar_putI (pc := 72) (a := v0) (z := (am_w32 ((h v0 2) + 1))) 0 2 (by decide +kernel) t0 rfl (by decide) rfl (fun _ => rfl) rfl wf_RX0_18 ?_
    exact ar_vret (pc := 75) (by decide +kernel) rfl rfl H

/-! ByteIntervals$Moment.tell(II)I -/
theorem B_X0_tell_0 {d : Nat} {Q : Int → am_H → Prop} {h : am_H} {v0 v1 : Int} (H : (v1 < 0 ∨ 3 < v1 → Q (-2) h) ∧ (v1 = 0 → Q (am_ishr v0 16) h) ∧ (v1 = 1 → Q (am_iand (am_ishr v0 14) 3) h) ∧ (v1 = 2 → Q (am_iand (am_ishr v0 8) 63) h) ∧ (v1 = 3 → Q (am_iand v0 255) h)) : wf d M_X0_tell Q 0 [some (.inl v0), some (.inl v1)] [] h := by
  intro h0
  refine ar_iload_n (pc := 0) (i := 1) (k0 := 1) (by decide +kernel) rfl rfl ?_
  refine ar_table (pc := 1) (dflt := 57) (lo := 0) (hi := 3) (offs := #[31, 36, 43, 51]) (len := 31) (x := v1) (dt := 58) [32, 37, 44, 52] (by decide +kernel) (by decide) (by decide) (by decide) (fun c1 => ?_) (And.intro (fun c1 => ?_) (And.intro (fun c1 => ?_) (And.intro (fun c1 => ?_) (And.intro (fun c1 => ?_) (True.intro)))))
  · replace H := H.1 c1
    refine ar_bipush (pc := 58) (z := (-2)) (by decide +kernel) (by omega) ?_
    exact ar_iret (pc := 60) (x := (-2)) (by decide +kernel) rfl rfl H
  · replace H := H.2.1 c1
    refine ar_iload_n (pc := 32) (i := 0) (k0 := 0) (by decide +kernel) rfl rfl ?_
    refine ar_bipush (pc := 33) (z := 16) (by decide +kernel) (by omega) ?_
    refine ar_ishr (pc := 35) (x := v0) (y := 16) (by decide +kernel) ?_
    exact ar_iret (pc := 36) (x := (am_ishr v0 16)) (by decide +kernel) rfl rfl H
  · replace H := H.2.2.1 c1
    refine ar_iload_n (pc := 37) (i := 0) (k0 := 0) (by decide +kernel) rfl rfl ?_
    refine ar_bipush (pc := 38) (z := 14) (by decide +kernel) (by omega) ?_
    refine ar_ishr (pc := 40) (x := v0) (y := 14) (by decide +kernel) ?_
    refine ar_iconst (pc := 41) (z := 3) (by decide +kernel) (by unfold am_i32; omega) ?_
    refine ar_iand (pc := 42) (x := (am_ishr v0 14)) (y := 3) (by decide +kernel) ?_
    exact ar_iret (pc := 43) (x := (am_iand (am_ishr v0 14) 3)) (by decide +kernel) rfl rfl H
  · replace H := H.2.2.2.1 c1
    refine ar_iload_n (pc := 44) (i := 0) (k0 := 0) (by decide +kernel) rfl rfl ?_
    refine ar_bipush (pc := 45) (z := 8) (by decide +kernel) (by omega) ?_
    refine ar_ishr (pc := 47) (x := v0) (y := 8) (by decide +kernel) ?_
    refine ar_bipush (pc := 48) (z := 63) (by decide +kernel) (by omega) ?_
    refine ar_iand (pc := 50) (x := (am_ishr v0 8)) (y := 63) (by decide +kernel) ?_
    exact ar_iret (pc := 51) (x := (am_iand (am_ishr v0 8) 63)) (by decide +kernel) rfl rfl H
  · replace H := H.2.2.2.2 c1
    refine ar_iload_n (pc := 52) (i := 0) (k0 := 0) (by decide +kernel) rfl rfl ?_
    refine ar_sipush (pc := 53) (z := 255) (by decide +kernel) (by omega) ?_
    refine ar_iand (pc := 56) (x := v0) (y := 255) (by decide +kernel) ?_
    exact ar_iret (pc := 57) (x := (am_iand v0 255)) (by decide +kernel) rfl rfl H

/-! ByteIntervals$State.copy(LByteIntervals$State;)V -/
theorem B_X4_copy_0 {d : Nat} {Q : Int → am_H → Prop} {h : am_H} {v0 a1 : Int} (t0 : am_kd 321 v0 = 14) (H : (am_kd 321 a1 = 14) ∧ (cf d M_X0_copy [.inr (.inr (v0 + 1)), .inr (.inr (a1 + 1))] h (fun _ h3 => wf (d + 1) M_X4_copy Q 13 [some (.inr (.inr v0)), some (.inr (.inr a1)), some (.inl 0)] [] h3))) : wf (d + 1) M_X4_copy Q 0 [some (.inr (.inr v0)), some (.inr (.inr a1)), none] [] h := by
  intro h0
  refine ar_aload_n (pc := 0) (i := 0) (k0 := 0) (by decide +kernel) rfl rfl ?_
  refine ar_getFV (pc := 1) (a := v0) (b := (v0 + 1)) 4 0 (by decide +kernel) t0 rfl (by decide) wf_RX4_12 rfl (fun _ => rfl) rfl ?_
  refine ar_aload_n (pc := 4) (i := 1) (k0 := 1) (by decide +kernel) rfl rfl ?_
  obtain ⟨g1, H⟩ := H
  refine ar_getFV (pc := 5) (a := a1) (b := (a1 + 1)) 4 0 (by decide +kernel) g1 rfl (by decide) wf_RX4_12 rfl (fun _ => rfl) rfl ?_
  refine ar_callVN (pc := 8) (M2 := M_X0_copy) (a := (v0 + 1)) (ci := 0) (as := [.inr (.inr (a1 + 1))]) (n2 := 321) (st := []) (by decide +kernel) rfl wn_RX4_45 wi_yX0_copy wl_yX0_copy (kX4_0 t0).1 rfl wz_RX0 wc_yX0_copy ⟨by decide, by decide, rfl⟩ (by decide) (Nat.le_of_ble_eq_true rfl) (Nat.le_refl _) (Nat.le_refl _) (am_Cl_mono H (fun r2 h3 H => ?_))
  show am_Wp true (d + 1) M_X4_copy 321 321 h0 Q 11 [some (.inr (.inr v0)), some (.inr (.inr a1)), none] [] 321 h3
  refine ar_iconst (pc := 11) (z := 0) (by decide +kernel) (by unfold am_i32; omega) ?_
  refine ar_istore_n (pc := 12) (i := 2) (k0 := 2) (ls2 := [some (.inr (.inr v0)), some (.inr (.inr a1)), some (.inl 0)]) (by decide +kernel) rfl (by decide) rfl ?_
  exact H h0
theorem B_X4_copy_13 {d : Nat} {Q : Int → am_H → Prop} {h : am_H} {v0 a1 v2 : Int} (t0 : am_kd 321 v0 = 14) (H : (30 ≤ v2 → (am_kd 321 a1 = 14) ∧ (Q 0 (am_up (am_cp (am_cp (am_up (am_up (am_up (am_up h v0 2 (h a1 2)) v0 3 ((am_up h v0 2 (h a1 2)) a1 3)) v0 4 ((am_up (am_up h v0 2 (h a1 2)) v0 3 ((am_up h v0 2 (h a1 2)) a1 3)) a1 4)) v0 5 ((am_up (am_up (am_up h v0 2 (h a1 2)) v0 3 ((am_up h v0 2 (h a1 2)) a1 3)) v0 4 ((am_up (am_up h v0 2 (h a1 2)) v0 3 ((am_up h v0 2 (h a1 2)) a1 3)) a1 4)) a1 5)) (a1 + 5) 0 (v0 + 5) 0 8) (a1 + 6) 0 (v0 + 6) 0 8) v0 8 ((am_cp (am_cp (am_up (am_up (am_up (am_up h v0 2 (h a1 2)) v0 3 ((am_up h v0 2 (h a1 2)) a1 3)) v0 4 ((am_up (am_up h v0 2 (h a1 2)) v0 3 ((am_up h v0 2 (h a1 2)) a1 3)) a1 4)) v0 5 ((am_up (am_up (am_up h v0 2 (h a1 2)) v0 3 ((am_up h v0 2 (h a1 2)) a1 3)) v0 4 ((am_up (am_up h v0 2 (h a1 2)) v0 3 ((am_up h v0 2 (h a1 2)) a1 3)) a1 4)) a1 5)) (a1 + 5) 0 (v0 + 5) 0 8) (a1 + 6) 0 (v0 + 6) 0 8) a1 8)))) ∧ (v2 < 30 → (0 ≤ v2) ∧ ((am_kd 321 a1 = 14) ∧ (cf d M_X4_copyStep [.inr (.inr ((v0 + 4) + 3 + 3 * v2)), .inr (.inr ((a1 + 4) + 3 + 3 * v2))] h (fun _ h6 => wf (d + 1) M_X4_copy Q 13 [some (.inr (.inr v0)), some (.inr (.inr a1)), some (.inl (am_w32 (v2 + 1)))] [] h6))))) : wf (d + 1) M_X4_copy Q 13 [some (.inr (.inr v0)), some (.inr (.inr a1)), some (.inl v2)] [] h := by
  intro h0
  refine ar_iload_n (pc := 13) (i := 2) (k0 := 2) (by decide +kernel) rfl rfl ?_
  refine ar_bipush (pc := 14) (z := 30) (by decide +kernel) (by omega) ?_
  refine ar_icmp_ge (pc := 16) (x := v2) (y := 30) (tgt := 40) (off := 24) (by decide +kernel) (by decide) (fun c1 => ?_) (fun c1 => ?_)
  · replace H := H.1 c1
    refine ar_aload_n (pc := 40) (i := 0) (k0 := 0) (by decide +kernel) rfl rfl ?_
    refine ar_aload_n (pc := 41) (i := 1) (k0 := 1) (by decide +kernel) rfl rfl ?_
    obtain ⟨g2, H⟩ := H
    refine ar_getV (pc := 42) (a := a1) (v := .inl (h a1 2)) 4 2 (by decide +kernel) g2 rfl (by decide) wf_RX4_22 rfl ?_
    refine ar_putI (pc := 45) (a := v0) (z := (h a1 2)) 4 2 (by decide +kernel) t0 rfl (by decide) rfl (fun _ => rfl) rfl wf_RX4_22 ?_
    refine ar_aload_n (pc := 48) (i := 0) (k0 := 0) (by decide +kernel) rfl rfl ?_
    refine ar_aload_n (pc := 49) (i := 1) (k0 := 1) (by decide +kernel) rfl rfl ?_
    refine ar_getV (pc := 50) (a := a1) (v := .inl ((am_up h v0 2 (h a1 2)) a1 3)) 4 3 (by decide +kernel) g2 rfl (by decide) wf_RX4_26 rfl ?_
    refine ar_putI (pc := 53) (a := v0) (z := ((am_up h v0 2 (h a1 2)) a1 3)) 4 3 (by decide +kernel) t0 rfl (by decide) rfl (fun _ => rfl) rfl wf_RX4_26 ?_
    refine ar_aload_n (pc := 56) (i := 0) (k0 := 0) (by decide +kernel) rfl rfl ?_
    refine ar_aload_n (pc := 57) (i := 1) (k0 := 1) (by decide +kernel) rfl rfl ?_
    refine ar_getV (pc := 58) (a := a1) (v := .inl ((am_up (am_up h v0 2 (h a1 2)) v0 3 ((am_up h v0 2 (h a1 2)) a1 3)) a1 4)) 4 4 (by decide +kernel) g2 rfl (by decide) wf_RX4_29 rfl ?_
    refine ar_putI (pc := 61) (a := v0) (z := ((am_up (am_up h v0 2 (h a1 2)) v0 3 ((am_up h v0 2 (h a1 2)) a1 3)) a1 4)) 4 4 (by decide +kernel) t0 rfl (by decide) rfl (fun _ => rfl) rfl wf_RX4_29 ?_
    refine ar_aload_n (pc := 64) (i := 0) (k0 := 0) (by decide +kernel) rfl rfl ?_
    refine ar_aload_n (pc := 65) (i := 1) (k0 := 1) (by decide +kernel) rfl rfl ?_
    refine ar_getV (pc := 66) (a := a1) (v := .inl ((am_up (am_up (am_up h v0 2 (h a1 2)) v0 3 ((am_up h v0 2 (h a1 2)) a1 3)) v0 4 ((am_up (am_up h v0 2 (h a1 2)) v0 3 ((am_up h v0 2 (h a1 2)) a1 3)) a1 4)) a1 5)) 4 5 (by decide +kernel) g2 rfl (by decide) wf_RX4_32 rfl ?_
    refine ar_putI (pc := 69) (a := v0) (z := ((am_up (am_up (am_up h v0 2 (h a1 2)) v0 3 ((am_up h v0 2 (h a1 2)) a1 3)) v0 4 ((am_up (am_up h v0 2 (h a1 2)) v0 3 ((am_up h v0 2 (h a1 2)) a1 3)) a1 4)) a1 5)) 4 5 (by decide +kernel) t0 rfl (by decide) rfl (fun _ => rfl) rfl wf_RX4_32 ?_
    refine ar_aload_n (pc := 72) (i := 1) (k0 := 1) (by decide +kernel) rfl rfl ?_
    refine ar_getFV (pc := 73) (a := a1) (b := (a1 + 5)) 4 6 (by decide +kernel) g2 rfl (by decide) wf_RX4_35 rfl (fun _ => rfl) rfl ?_
    refine ar_iconst (pc := 76) (z := 0) (by decide +kernel) (by unfold am_i32; omega) ?_
    refine ar_aload_n (pc := 77) (i := 0) (k0 := 0) (by decide +kernel) rfl rfl ?_
    refine ar_getFV (pc := 78) (a := v0) (b := (v0 + 5)) 4 6 (by decide +kernel) t0 rfl (by decide) wf_RX4_35 rfl (fun _ => rfl) rfl ?_
    refine ar_iconst (pc := 81) (z := 0) (by decide +kernel) (by unfold am_i32; omega) ?_
    refine ar_bipush (pc := 82) (z := 8) (by decide +kernel) (by omega) ?_
    refine ar_copy (pc := 84) (a0 := (a1 + 5)) (sp := 0) (a := (v0 + 5)) (dp := 0) (len := 8) (by decide +kernel) wm_RX4_53 wnat wstat wsys (kX4_6 g2).1 (kX4_6 t0).1 (by decide) (by decide) (by decide) (am_le_eq (b := 8) (by decide) ((kX4_6 g2).2).symm) (am_le_eq (b := 8) (by decide) ((kX4_6 t0).2).symm) (Nat.le_of_ble_eq_true rfl) ?_
    refine ar_aload_n (pc := 87) (i := 1) (k0 := 1) (by decide +kernel) rfl rfl ?_
    refine ar_getFV (pc := 88) (a := a1) (b := (a1 + 6)) 4 7 (by decide +kernel) g2 rfl (by decide) wf_RX4_39 rfl (fun _ => rfl) rfl ?_
    refine ar_iconst (pc := 91) (z := 0) (by decide +kernel) (by unfold am_i32; omega) ?_
    refine ar_aload_n (pc := 92) (i := 0) (k0 := 0) (by decide +kernel) rfl rfl ?_
    refine ar_getFV (pc := 93) (a := v0) (b := (v0 + 6)) 4 7 (by decide +kernel) t0 rfl (by decide) wf_RX4_39 rfl (fun _ => rfl) rfl ?_
    refine ar_iconst (pc := 96) (z := 0) (by decide +kernel) (by unfold am_i32; omega) ?_
    refine ar_bipush (pc := 97) (z := 8) (by decide +kernel) (by omega) ?_
    refine ar_copy (pc := 99) (a0 := (a1 + 6)) (sp := 0) (a := (v0 + 6)) (dp := 0) (len := 8) (by decide +kernel) wm_RX4_53 wnat wstat wsys (kX4_7 g2).1 (kX4_7 t0).1 (by decide) (by decide) (by decide) (am_le_eq (b := 8) (by decide) ((kX4_7 g2).2).symm) (am_le_eq (b := 8) (by decide) ((kX4_7 t0).2).symm) (Nat.le_of_ble_eq_true rfl) ?_
    refine ar_aload_n (pc := 102) (i := 0) (k0 := 0) (by decide +kernel) rfl rfl ?_
    refine ar_aload_n (pc := 103) (i := 1) (k0 := 1) (by decide +kernel) rfl rfl ?_
    refine ar_getV (pc := 104) (a := a1) (v := .inl ((am_cp (am_cp (am_up (am_up (am_up (am_up h v0 2 (h a1 2)) v0 3 ((am_up h v0 2 (h a1 2)) a1 3)) v0 4 ((am_up (am_up h v0 2 (h a1 2)) v0 3 ((am_up h v0 2 (h a1 2)) a1 3)) a1 4)) v0 5 ((am_up (am_up (am_up h v0 2 (h a1 2)) v0 3 ((am_up h v0 2 (h a1 2)) a1 3)) v0 4 ((am_up (am_up h v0 2 (h a1 2)) v0 3 ((am_up h v0 2 (h a1 2)) a1 3)) a1 4)) a1 5)) (a1 + 5) 0 (v0 + 5) 0 8) (a1 + 6) 0 (v0 + 6) 0 8) a1 8)) 4 8 (by decide +kernel) g2 rfl (by decide) wf_RX4_42 rfl ?_
    refine ar_putI (pc := 107) (a := v0) (z := ((am_cp (am_cp (am_up (am_up (am_up (am_up h v0 2 (h a1 2)) v0 3 ((am_up h v0 2 (h a1 2)) a1 3)) v0 4 ((am_up (am_up h v0 2 (h a1 2)) v0 3 ((am_up h v0 2 (h a1 2)) a1 3)) a1 4)) v0 5 ((am_up (am_up (am_up h v0 2 (h a1 2)) v0 3 ((am_up h v0 2 (h a1 2)) a1 3)) v0 4 ((am_up (am_up h v0 2 (h a1 2)) v0 3 ((am_up h v0 2 (h a1 2)) a1 3)) a1 4)) a1 5)) (a1 + 5) 0 (v0 + 5) 0 8) (a1 + 6) 0 (v0 + 6) 0 8) a1 8)) 4 8 (by decide +kernel) t0 rfl (by decide) rfl (fun _ => rfl) rfl wf_RX4_42 ?_
    exact ar_vret (pc := 110) (by decide +kernel) rfl rfl H
  · replace H := H.2 c1
    refine ar_aload_n (pc := 19) (i := 0) (k0 := 0) (by decide +kernel) rfl rfl ?_
    refine ar_getFV (pc := 20) (a := v0) (b := (v0 + 4)) 4 1 (by decide +kernel) t0 rfl (by decide) wf_RX4_18 rfl (fun _ => rfl) rfl ?_
    refine ar_iload_n (pc := 23) (i := 2) (k0 := 2) (by decide +kernel) rfl rfl ?_
    obtain ⟨g3, H⟩ := H
    refine ar_aaldM (pc := 24) (a := (v0 + 4)) (i := v2) (by decide +kernel) (kX4_1 t0).1 g3 (am_lt_eq c1 ((kX4_1 t0).2).symm) ?_
    refine ar_aload_n (pc := 25) (i := 1) (k0 := 1) (by decide +kernel) rfl rfl ?_
    obtain ⟨g4, H⟩ := H
    refine ar_getFV (pc := 26) (a := a1) (b := (a1 + 4)) 4 1 (by decide +kernel) g4 rfl (by decide) wf_RX4_18 rfl (fun _ => rfl) rfl ?_
    refine ar_iload_n (pc := 29) (i := 2) (k0 := 2) (by decide +kernel) rfl rfl ?_
    refine ar_aaldM (pc := 30) (a := (a1 + 4)) (i := v2) (by decide +kernel) (kX4_1 g4).1 g3 (am_lt_eq c1 ((kX4_1 g4).2).symm) ?_
    refine ar_callS (pc := 31) (M2 := M_X4_copyStep) (as := [.inr (.inr ((v0 + 4) + 3 + 3 * v2)), .inr (.inr ((a1 + 4) + 3 + 3 * v2))]) (n2 := 321) (st := []) (by decide +kernel) rfl wm_RX4_49 ws_yX4_copyStep wz_RX4 wc_yX4_copyStep ⟨by decide, by decide, rfl⟩ (by decide) (Nat.le_of_ble_eq_true rfl) (Nat.le_refl _) (Nat.le_refl _) (am_Cl_mono H (fun r5 h6 H => ?_))
    show am_Wp true (d + 1) M_X4_copy 321 321 h0 Q 34 [some (.inr (.inr v0)), some (.inr (.inr a1)), some (.inl v2)] [] 321 h6
    refine ar_iinc (pc := 34) (i := 2) (z := 1) (x := v2) (ls2 := [some (.inr (.inr v0)), some (.inr (.inr a1)), some (.inl (am_w32 (v2 + 1)))]) (by decide +kernel) rfl (by decide) rfl ?_
    refine ar_goto (pc := 37) (tgt := 13) (off := -24) (by decide +kernel) (by decide) ?_
    exact H h0

/-! ByteIntervals$State.copyStep(LByteIntervals$Moment;LByteIntervals$Moment;)V -/
theorem B_X4_copyStep_0 {d : Nat} {Q : Int → am_H → Prop} {h : am_H} {a0 a1 : Int} (H : (0 ≤ a0) ∧ ((a0 = 0 → Q 0 h) ∧ (1 ≤ a0 → (0 ≤ a1) ∧ ((a1 = 0 → Q 0 h) ∧ (1 ≤ a1 → (am_kd 321 a0 = 10) ∧ (cf d M_X0_copy [.inr (.inr a0), .inr (.inr a1)] h (fun _ h6 => Q 0 h6))))))) : wf (d + 1) M_X4_copyStep Q 0 [some (.inr (.inr a0)), some (.inr (.inr a1))] [] h := by
  intro h0
  refine ar_aload_n (pc := 0) (i := 0) (k0 := 0) (by decide +kernel) rfl rfl ?_
  obtain ⟨g2, H⟩ := H
  refine ar_ifnull (pc := 1) (x := a0) (tgt := 13) (off := 12) (by decide +kernel) (by decide) g2 (fun c1 => ?_) (fun c1 => ?_)
  · replace H := H.1 c1
    exact ar_vret (pc := 13) (by decide +kernel) rfl rfl H
  · replace H := H.2 c1
    refine ar_aload_n (pc := 4) (i := 1) (k0 := 1) (by decide +kernel) rfl rfl ?_
    obtain ⟨g4, H⟩ := H
    refine ar_ifnull (pc := 5) (x := a1) (tgt := 13) (off := 8) (by decide +kernel) (by decide) g4 (fun c3 => ?_) (fun c3 => ?_)
    · replace H := H.1 c3
      exact ar_vret (pc := 13) (by decide +kernel) rfl rfl H
    · replace H := H.2 c3
      refine ar_aload_n (pc := 8) (i := 0) (k0 := 0) (by decide +kernel) rfl rfl ?_
      refine ar_aload_n (pc := 9) (i := 1) (k0 := 1) (by decide +kernel) rfl rfl ?_
      obtain ⟨g7, H⟩ := H
      refine ar_callVN (pc := 10) (M2 := M_X0_copy) (a := a0) (ci := 0) (as := [.inr (.inr a1)]) (n2 := 321) (st := []) (by decide +kernel) rfl wn_RX4_45 wi_yX0_copy wl_yX0_copy g7 rfl wz_RX0 wc_yX0_copy ⟨by decide, by decide, rfl⟩ (by decide) (Nat.le_of_ble_eq_true rfl) (Nat.le_refl _) (Nat.le_refl _) (am_Cl_mono H (fun r5 h6 H => ?_))
      show am_Wp true (d + 1) M_X4_copyStep 321 321 h0 Q 13 [some (.inr (.inr a0)), some (.inr (.inr a1))] [] 321 h6
      exact ar_vret (pc := 13) (by decide +kernel) rfl rfl H

/-! ByteIntervals$State.stepAt(I)LByteIntervals$Moment; -/
theorem B_X4_stepAt_0 {d : Nat} {Q : Int → am_H → Prop} {h : am_H} {v0 v1 : Int} (t0 : am_kd 321 v0 = 14) (H : cf d M_J9_floorMod_7cf53 [.inl (am_w32 ((h v0 2) + v1)), .inl 30] h (fun r1 h2 => (0 ≤ r1) ∧ ((r1 < 30) ∧ (Q ((v0 + 4) + 3 + 3 * r1) h2)))) : wf (d + 1) M_X4_stepAt Q 0 [some (.inr (.inr v0)), some (.inl v1)] [] h := by
  intro h0
  refine ar_aload_n (pc := 0) (i := 0) (k0 := 0) (by decide +kernel) rfl rfl ?_
  refine ar_getFV (pc := 1) (a := v0) (b := (v0 + 4)) 4 1 (by decide +kernel) t0 rfl (by decide) wf_RX4_18 rfl (fun _ => rfl) rfl ?_
  refine ar_aload_n (pc := 4) (i := 0) (k0 := 0) (by decide +kernel) rfl rfl ?_
  refine ar_getV (pc := 5) (a := v0) (v := .inl (h v0 2)) 4 2 (by decide +kernel) t0 rfl (by decide) wf_RX4_22 rfl ?_
  refine ar_iload_n (pc := 8) (i := 1) (k0 := 1) (by decide +kernel) rfl rfl ?_
  refine ar_iadd (pc := 9) (x := (h v0 2)) (y := v1) (by decide +kernel) ?_
  refine ar_bipush (pc := 10) (z := 30) (by decide +kernel) (by omega) ?_
  refine ar_callS (pc := 12) (M2 := M_J9_floorMod_7cf53) (as := [.inl (am_w32 ((h v0 2) + v1)), .inl 30]) (n2 := 321) (st := [.inr (.inr (v0 + 4))]) (by decide +kernel) rfl wm_RX4_59 ws_yJ9_floorMod_7cf53 wz_RJ9 wc_yJ9_floorMod_7cf53 ⟨by decide, by decide, rfl⟩ (by decide) (Nat.le_of_ble_eq_true rfl) (Nat.le_refl _) (Nat.le_refl _) (am_Cl_mono H (fun r1 h2 H => ?_))
  show am_Wp true (d + 1) M_X4_stepAt 321 321 h0 Q 15 [some (.inr (.inr v0)), some (.inl v1)] [.inl r1, .inr (.inr (v0 + 4))] 321 h2
  obtain ⟨g3, H⟩ := H
  obtain ⟨g4, H⟩ := H
  refine ar_aaldM (pc := 15) (a := (v0 + 4)) (i := r1) (by decide +kernel) (kX4_1 t0).1 g3 (am_lt_eq g4 ((kX4_1 t0).2).symm) ?_
  exact ar_aret (pc := 16) (x := ((v0 + 4) + 3 + 3 * r1)) (by decide +kernel) rfl rfl H

/-! ByteIntervals$State.keepStep()V -/
theorem B_X4_keepStep_0 {d : Nat} {Q : Int → am_H → Prop} {h : am_H} {v0 : Int} (t0 : am_kd 321 v0 = 14) (H : cf d M_X4_stepAt [.inr (.inr v0), .inl (h v0 3)] h (fun r1 h2 => cf d M_X4_copyStep [.inr (.inr r1), .inr (.inr (v0 + 1))] h2 (fun _ h4 => (30 ≤ (h4 v0 3) → cf d M_J9_floorMod_7cf53 [.inl (am_w32 ((h4 v0 2) + 1)), .inl 30] h4 (fun r6 h7 => Q 0 (am_up h7 v0 2 r6))) ∧ ((h4 v0 3) < 30 → Q 0 (am_up h4 v0 3 (am_w32 ((h4 v0 3) + 1))))))) : wf (d + 1) M_X4_keepStep Q 0 [some (.inr (.inr v0))] [] h := by
  intro h0
  refine ar_aload_n (pc := 0) (i := 0) (k0 := 0) (by decide +kernel) rfl rfl ?_
  refine ar_aload_n (pc := 1) (i := 0) (k0 := 0) (by decide +kernel) rfl rfl ?_
  refine ar_getV (pc := 2) (a := v0) (v := .inl (h v0 3)) 4 3 (by decide +kernel) t0 rfl (by decide) wf_RX4_26 rfl ?_
  refine ar_callV (pc := 5) (M2 := M_X4_stepAt) (a := v0) (ci := 4) (as := [.inl (h v0 3)]) (n2 := 321) (st := []) (by decide +kernel) rfl wm_RX4_65 wi_yX4_stepAt wl_yX4_stepAt t0 rfl wz_RX4 wc_yX4_stepAt ⟨by decide, by decide, rfl⟩ (by decide) (Nat.le_of_ble_eq_true rfl) (Nat.le_refl _) (Nat.le_refl _) (am_Cl_mono H (fun r1 h2 H => ?_))
  show am_Wp true (d + 1) M_X4_keepStep 321 321 h0 Q 8 [some (.inr (.inr v0))] [.inr (.inr r1)] 321 h2
  refine ar_aload_n (pc := 8) (i := 0) (k0 := 0) (by decide +kernel) rfl rfl ?_
  refine ar_getFV (pc := 9) (a := v0) (b := (v0 + 1)) 4 0 (by decide +kernel) t0 rfl (by decide) wf_RX4_12 rfl (fun _ => rfl) rfl ?_
  refine ar_callS (pc := 12) (M2 := M_X4_copyStep) (as := [.inr (.inr r1), .inr (.inr (v0 + 1))]) (n2 := 321) (st := []) (by decide +kernel) rfl wm_RX4_49 ws_yX4_copyStep wz_RX4 wc_yX4_copyStep ⟨by decide, by decide, rfl⟩ (by decide) (Nat.le_of_ble_eq_true rfl) (Nat.le_refl _) (Nat.le_refl _) (am_Cl_mono H (fun r3 h4 H => ?_))
  show am_Wp true (d + 1) M_X4_keepStep 321 321 h0 Q 15 [some (.inr (.inr v0))] [] 321 h4
  refine ar_aload_n (pc := 15) (i := 0) (k0 := 0) (by decide +kernel) rfl rfl ?_
  refine ar_getV (pc := 16) (a := v0) (v := .inl (h4 v0 3)) 4 3 (by decide +kernel) t0 rfl (by decide) wf_RX4_26 rfl ?_
  refine ar_bipush (pc := 19) (z := 30) (by decide +kernel) (by omega) ?_
  refine ar_icmp_ge (pc := 21) (x := (h4 v0 3)) (y := 30) (tgt := 37) (off := 16) (by decide +kernel) (by decide) (fun c5 => ?_) (fun c5 => ?_)
  · replace H := H.1 c5
    refine ar_aload_n (pc := 37) (i := 0) (k0 := 0) (by decide +kernel) rfl rfl ?_
    refine ar_aload_n (pc := 38) (i := 0) (k0 := 0) (by decide +kernel) rfl rfl ?_
    refine ar_getV (pc := 39) (a := v0) (v := .inl (h4 v0 2)) 4 2 (by decide +kernel) t0 rfl (by decide) wf_RX4_22 rfl ?_
    refine ar_iconst (pc := 42) (z := 1) (by decide +kernel) (by unfold am_i32; omega) ?_
    refine ar_iadd (pc := 43) (x := (h4 v0 2)) (y := 1) (by decide +kernel) ?_
    refine ar_bipush (pc := 44) (z := 30) (by decide +kernel) (by omega) ?_
    refine ar_callS (pc := 46) (M2 := M_J9_floorMod_7cf53) (as := [.inl (am_w32 ((h4 v0 2) + 1)), .inl 30]) (n2 := 321) (st := [.inr (.inr v0)]) (by decide +kernel) rfl wm_RX4_59 ws_yJ9_floorMod_7cf53 wz_RJ9 wc_yJ9_floorMod_7cf53 ⟨by decide, by decide, rfl⟩ (by decide) (Nat.le_of_ble_eq_true rfl) (Nat.le_refl _) (Nat.le_refl _) (am_Cl_mono H (fun r6 h7 H => ?_))
    show am_Wp true (d + 1) M_X4_keepStep 321 321 h0 Q 49 [some (.inr (.inr v0))] [.inl r6, .inr (.inr v0)] 321 h7
    refine ar_putI (pc := 49) (a := v0) (z := r6) 4 2 (by decide +kernel) t0 rfl (by decide) rfl (fun _ => rfl) rfl wf_RX4_22 ?_
    exact ar_vret (pc := 52) (by decide +kernel) rfl rfl H
  · replace H := H.2 c5
    refine ar_aload_n (pc := 24) (i := 0) (k0 := 0) (by decide +kernel) rfl rfl ?_
    refine ar_dup (pc := 25) (by decide +kernel) trivial ?_
    refine ar_getV (pc := 26) (a := v0) (v := .inl (h4 v0 3)) 4 3 (by decide +kernel) t0 rfl (by decide) wf_RX4_26 rfl ?_
    refine ar_iconst (pc := 29) (z := 1) (by decide +kernel) (by unfold am_i32; omega) ?_
    refine ar_iadd (pc := 30) (x := (h4 v0 3)) (y := 1) (by decide +kernel) ?_
    refine ar_putI (pc := 31) (a := v0) (z := (am_w32 ((h4 v0 3) + 1))) 4 3 (by decide +kernel) t0 rfl (by decide) rfl (fun _ => rfl) rfl wf_RX4_26 ?_
    refine ar_goto (pc := 34) (tgt := 52) (off := 18) (by decide +kernel) (by decide) ?_
    exact ar_vret (pc := 52) (by decide +kernel) rfl rfl H

/-! ByteIntervals$State.takeBack()I -/
theorem B_X4_takeBack_0 {d : Nat} {Q : Int → am_H → Prop} {h : am_H} {v0 : Int} (t0 : am_kd 321 v0 = 14) (H : (1 ≤ (h v0 3) → cf d M_X4_stepAt [.inr (.inr v0), .inl (am_w32 ((h v0 3) - 1))] (am_up h v0 3 (am_w32 ((h v0 3) - 1))) (fun r2 h3 => cf d M_X4_copyStep [.inr (.inr (v0 + 1)), .inr (.inr r2)] h3 (fun _ h5 => Q (h5 v0 3) h5))) ∧ ((h v0 3) < 1 → Q (-1) h)) : wf (d + 1) M_X4_takeBack Q 0 [some (.inr (.inr v0))] [] h := by
  intro h0
  refine ar_aload_n (pc := 0) (i := 0) (k0 := 0) (by decide +kernel) rfl rfl ?_
  refine ar_getV (pc := 1) (a := v0) (v := .inl (h v0 3)) 4 3 (by decide +kernel) t0 rfl (by decide) wf_RX4_26 rfl ?_
  refine ar_iconst (pc := 4) (z := 1) (by decide +kernel) (by unfold am_i32; omega) ?_
  refine ar_icmp_ge (pc := 5) (x := (h v0 3)) (y := 1) (tgt := 10) (off := 5) (by decide +kernel) (by decide) (fun c1 => ?_) (fun c1 => ?_)
  · replace H := H.1 c1
    refine ar_aload_n (pc := 10) (i := 0) (k0 := 0) (by decide +kernel) rfl rfl ?_
    refine ar_dup (pc := 11) (by decide +kernel) trivial ?_
    refine ar_getV (pc := 12) (a := v0) (v := .inl (h v0 3)) 4 3 (by decide +kernel) t0 rfl (by decide) wf_RX4_26 rfl ?_
    refine ar_iconst (pc := 15) (z := 1) (by decide +kernel) (by unfold am_i32; omega) ?_
    refine ar_isub (pc := 16) (x := (h v0 3)) (y := 1) (by decide +kernel) ?_
    refine ar_putI (pc := 17) (a := v0) (z := (am_w32 ((h v0 3) - 1))) 4 3 (by decide +kernel) t0 rfl (by decide) rfl (fun _ => rfl) rfl wf_RX4_26 ?_
    refine ar_aload_n (pc := 20) (i := 0) (k0 := 0) (by decide +kernel) rfl rfl ?_
    refine ar_getFV (pc := 21) (a := v0) (b := (v0 + 1)) 4 0 (by decide +kernel) t0 rfl (by decide) wf_RX4_12 rfl (fun _ => rfl) rfl ?_
    refine ar_aload_n (pc := 24) (i := 0) (k0 := 0) (by decide +kernel) rfl rfl ?_
    refine ar_aload_n (pc := 25) (i := 0) (k0 := 0) (by decide +kernel) rfl rfl ?_
    refine ar_getV (pc := 26) (a := v0) (v := .inl (am_w32 ((h v0 3) - 1))) 4 3 (by decide +kernel) t0 rfl (by decide) wf_RX4_26 (by first | rfl | (simp [am_tv, am_ty, tyX4, am_up, am_cp]; done) | (simp [am_tv, am_ty, tyX4, am_up, am_cp] <;> intros <;> omega)) ?_
    refine ar_callV (pc := 29) (M2 := M_X4_stepAt) (a := v0) (ci := 4) (as := [.inl (am_w32 ((h v0 3) - 1))]) (n2 := 321) (st := [.inr (.inr (v0 + 1))]) (by decide +kernel) rfl wm_RX4_65 wi_yX4_stepAt wl_yX4_stepAt t0 rfl wz_RX4 wc_yX4_stepAt ⟨by decide, by decide, rfl⟩ (by decide) (Nat.le_of_ble_eq_true rfl) (Nat.le_refl _) (Nat.le_refl _) (am_Cl_mono H (fun r2 h3 H => ?_))
    show am_Wp true (d + 1) M_X4_takeBack 321 321 h0 Q 32 [some (.inr (.inr v0))] [.inr (.inr r2), .inr (.inr (v0 + 1))] 321 h3
    refine ar_callS (pc := 32) (M2 := M_X4_copyStep) (as := [.inr (.inr (v0 + 1)), .inr (.inr r2)]) (n2 := 321) (st := []) (by decide +kernel) rfl wm_RX4_49 ws_yX4_copyStep wz_RX4 wc_yX4_copyStep ⟨by decide, by decide, rfl⟩ (by decide) (Nat.le_of_ble_eq_true rfl) (Nat.le_refl _) (Nat.le_refl _) (am_Cl_mono H (fun r4 h5 H => ?_))
    show am_Wp true (d + 1) M_X4_takeBack 321 321 h0 Q 35 [some (.inr (.inr v0))] [] 321 h5
    refine ar_aload_n (pc := 35) (i := 0) (k0 := 0) (by decide +kernel) rfl rfl ?_
    refine ar_getV (pc := 36) (a := v0) (v := .inl (h5 v0 3)) 4 3 (by decide +kernel) t0 rfl (by decide) wf_RX4_26 rfl ?_
    exact ar_iret (pc := 39) (x := (h5 v0 3)) (by decide +kernel) rfl rfl H
  · replace H := H.2 c1
    refine ar_iconst (pc := 8) (z := (-1)) (by decide +kernel) (by unfold am_i32; omega) ?_
    exact ar_iret (pc := 9) (x := (-1)) (by decide +kernel) rfl rfl H

/-! ByteIntervals$Reading.begin(IIII)V -/
theorem B_X3_begin_0 {d : Nat} {Q : Int → am_H → Prop} {h : am_H} {v0 v1 v2 v3 v4 : Int} (t0 : am_kd 321 v0 = 13) (H : wf (d + 1) M_X3_begin Q 44 [some (.inr (.inr v0)), none, none, none, none, some (.inl 0), none] [] (am_up (am_up (am_up (am_up (am_up (am_up (am_up (am_up h v0 0 v3) v0 1 v4) v0 2 v2) v0 3 v1) v0 4 v1) v0 5 0) v0 10 (-1)) v0 11 0)) : wf (d + 1) M_X3_begin Q 0 [some (.inr (.inr v0)), some (.inl v1), some (.inl v2), some (.inl v3), some (.inl v4), none, none] [] h := by
  intro h0
  refine ar_aload_n (pc := 0) (i := 0) (k0 := 0) (by decide +kernel) rfl rfl ?_
  refine ar_iload_n (pc := 1) (i := 3) (k0 := 3) (by decide +kernel) rfl rfl ?_
  refine ar_putI (pc := 2) (a := v0) (z := v3) 3 0 (by decide +kernel) t0 rfl (by decide) rfl (fun _ => rfl) rfl wf_RX3_25 ?_
  refine ar_aload_n (pc := 5) (i := 0) (k0 := 0) (by decide +kernel) rfl rfl ?_
  refine ar_iload (pc := 6) (i := 4) (by decide +kernel) rfl ?_
  refine ar_putI (pc := 8) (a := v0) (z := v4) 3 1 (by decide +kernel) t0 rfl (by decide) rfl (fun _ => rfl) rfl wf_RX3_29 ?_
  refine ar_aload_n (pc := 11) (i := 0) (k0 := 0) (by decide +kernel) rfl rfl ?_
  refine ar_iload_n (pc := 12) (i := 2) (k0 := 2) (by decide +kernel) rfl rfl ?_
  refine ar_putI (pc := 13) (a := v0) (z := v2) 3 2 (by decide +kernel) t0 rfl (by decide) rfl (fun _ => rfl) rfl wf_RX3_32 ?_
  refine ar_aload_n (pc := 16) (i := 0) (k0 := 0) (by decide +kernel) rfl rfl ?_
  refine ar_iload_n (pc := 17) (i := 1) (k0 := 1) (by decide +kernel) rfl rfl ?_
  refine ar_putI (pc := 18) (a := v0) (z := v1) 3 3 (by decide +kernel) t0 rfl (by decide) rfl (fun _ => rfl) rfl wf_RX3_35 ?_
  refine ar_aload_n (pc := 21) (i := 0) (k0 := 0) (by decide +kernel) rfl rfl ?_
  refine ar_iload_n (pc := 22) (i := 1) (k0 := 1) (by decide +kernel) rfl rfl ?_
  refine ar_putI (pc := 23) (a := v0) (z := v1) 3 4 (by decide +kernel) t0 rfl (by decide) rfl (fun _ => rfl) rfl wf_RX3_38 ?_
  refine ar_aload_n (pc := 26) (i := 0) (k0 := 0) (by decide +kernel) rfl rfl ?_
  refine ar_iconst (pc := 27) (z := 0) (by decide +kernel) (by unfold am_i32; omega) ?_
  refine ar_putI (pc := 28) (a := v0) (z := 0) 3 5 (by decide +kernel) t0 rfl (by decide) rfl (fun _ => rfl) rfl wf_RX3_41 ?_
  refine ar_aload_n (pc := 31) (i := 0) (k0 := 0) (by decide +kernel) rfl rfl ?_
  refine ar_iconst (pc := 32) (z := (-1)) (by decide +kernel) (by unfold am_i32; omega) ?_
  refine ar_putI (pc := 33) (a := v0) (z := (-1)) 3 10 (by decide +kernel) t0 rfl (by decide) rfl (fun _ => rfl) rfl wf_RX3_44 ?_
  refine ar_aload_n (pc := 36) (i := 0) (k0 := 0) (by decide +kernel) rfl rfl ?_
  refine ar_lconst (pc := 37) (i := 0) (z := 0) (by decide +kernel) rfl ?_
  refine ar_putL (pc := 38) (a := v0) (z := 0) 3 11 (by decide +kernel) t0 rfl (by decide) rfl (fun _ => rfl) rfl wf_RX3_47 ?_
  refine ar_iconst (pc := 41) (z := 0) (by decide +kernel) (by unfold am_i32; omega) ?_
  refine ar_istore (pc := 42) (i := 5) (ls2 := [some (.inr (.inr v0)), some (.inl v1), some (.inl v2), some (.inl v3), some (.inl v4), some (.inl 0), none]) (by decide +kernel) (by decide) rfl ?_
  refine ar_forget [true, false, false, false, false, true, true] rfl ?_
  exact H h0
theorem B_X3_begin_44 {d : Nat} {Q : Int → am_H → Prop} {h : am_H} {v0 v5 : Int} (t0 : am_kd 321 v0 = 13) (H : (8 ≤ v5 → Q 0 h) ∧ (v5 < 8 → cf d M_X6_hasBit [.inl (h v0 3), .inl v5] h (fun r2 h3 => (r2 = 0 → wf (d + 1) M_X3_begin Q 68 [some (.inr (.inr v0)), none, none, none, none, some (.inl v5), none] [.inl 0] h3) ∧ (¬ r2 = 0 → wf (d + 1) M_X3_begin Q 68 [some (.inr (.inr v0)), none, none, none, none, some (.inl v5), none] [.inl (-1)] h3)))) : wf (d + 1) M_X3_begin Q 44 [some (.inr (.inr v0)), none, none, none, none, some (.inl v5), none] [] h := by
  intro h0
  refine ar_iload (pc := 44) (i := 5) (by decide +kernel) rfl ?_
  refine ar_bipush (pc := 46) (z := 8) (by decide +kernel) (by omega) ?_
  refine ar_icmp_ge (pc := 48) (x := v5) (y := 8) (tgt := 111) (off := 63) (by decide +kernel) (by decide) (fun c1 => ?_) (fun c1 => ?_)
  · replace H := H.1 c1
    exact ar_vret (pc := 111) (by decide +kernel) rfl rfl H
  · replace H := H.2 c1
    refine ar_aload_n (pc := 51) (i := 0) (k0 := 0) (by decide +kernel) rfl rfl ?_
    refine ar_getV (pc := 52) (a := v0) (v := .inl (h v0 3)) 3 3 (by decide +kernel) t0 rfl (by decide) wf_RX3_35 rfl ?_
    refine ar_iload (pc := 55) (i := 5) (by decide +kernel) rfl ?_
    refine ar_callSN (pc := 57) (M2 := M_X6_hasBit) (as := [.inl (h v0 3), .inl v5]) (n2 := 321) (st := []) (by decide +kernel) rfl wn_RX3_51 ws_yX6_hasBit wz_RX6 wc_yX6_hasBit ⟨by decide, by decide, rfl⟩ (by decide) (Nat.le_of_ble_eq_true rfl) (Nat.le_refl _) (Nat.le_refl _) (am_Cl_mono H (fun r2 h3 H => ?_))
    show am_Wp true (d + 1) M_X3_begin 321 321 h0 Q 60 [some (.inr (.inr v0)), none, none, none, none, some (.inl v5), none] [.inl r2] 321 h3
    refine ar_if_eq (pc := 60) (x := r2) (tgt := 67) (off := 7) (by decide +kernel) (by decide) (fun c4 => ?_) (fun c4 => ?_)
    · replace H := H.1 c4
      refine ar_iconst (pc := 67) (z := 0) (by decide +kernel) (by unfold am_i32; omega) ?_
      exact H h0
    · replace H := H.2 c4
      refine ar_iconst (pc := 63) (z := (-1)) (by decide +kernel) (by unfold am_i32; omega) ?_
      refine ar_goto (pc := 64) (tgt := 68) (off := 4) (by decide +kernel) (by decide) ?_
      exact H h0
theorem B_X3_begin_68 {d : Nat} {Q : Int → am_H → Prop} {h : am_H} {v0 v5 s0 : Int} (t0 : am_kd 321 v0 = 13) (H : (0 ≤ v5) ∧ ((v5 < 8) ∧ (wf (d + 1) M_X3_begin Q 44 [some (.inr (.inr v0)), none, none, none, none, some (.inl (am_w32 (v5 + 1))), none] [] (am_up (am_up (am_up (am_up h (v0 + 1) v5 s0) (v0 + 2) v5 s0) (v0 + 3) v5 s0) (v0 + 4) v5 0)))) : wf (d + 1) M_X3_begin Q 68 [some (.inr (.inr v0)), none, none, none, none, some (.inl v5), none] [.inl s0] h := by
  intro h0
  refine ar_istore (pc := 68) (i := 6) (ls2 := [some (.inr (.inr v0)), none, none, none, none, some (.inl v5), some (.inl s0)]) (by decide +kernel) (by decide) rfl ?_
  refine ar_aload_n (pc := 70) (i := 0) (k0 := 0) (by decide +kernel) rfl rfl ?_
  refine ar_getFV (pc := 71) (a := v0) (b := (v0 + 1)) 3 6 (by decide +kernel) t0 rfl (by decide) wf_RX3_9 rfl (fun _ => rfl) rfl ?_
  refine ar_iload (pc := 74) (i := 5) (by decide +kernel) rfl ?_
  refine ar_iload (pc := 76) (i := 6) (by decide +kernel) rfl ?_
  obtain ⟨g1, H⟩ := H
  obtain ⟨g2, H⟩ := H
  refine ar_iast (pc := 78) (a := (v0 + 1)) (i := v5) (z := s0) (by decide +kernel) (kX3_6 t0).1 g1 (am_lt_eq g2 ((kX3_6 t0).2).symm) ?_
  refine ar_aload_n (pc := 79) (i := 0) (k0 := 0) (by decide +kernel) rfl rfl ?_
  refine ar_getFV (pc := 80) (a := v0) (b := (v0 + 2)) 3 7 (by decide +kernel) t0 rfl (by decide) wf_RX3_15 rfl (fun _ => rfl) rfl ?_
  refine ar_iload (pc := 83) (i := 5) (by decide +kernel) rfl ?_
  refine ar_iload (pc := 85) (i := 6) (by decide +kernel) rfl ?_
  refine ar_iast (pc := 87) (a := (v0 + 2)) (i := v5) (z := s0) (by decide +kernel) (kX3_7 t0).1 g1 (am_lt_eq g2 ((kX3_7 t0).2).symm) ?_
  refine ar_aload_n (pc := 88) (i := 0) (k0 := 0) (by decide +kernel) rfl rfl ?_
  refine ar_getFV (pc := 89) (a := v0) (b := (v0 + 3)) 3 8 (by decide +kernel) t0 rfl (by decide) wf_RX3_18 rfl (fun _ => rfl) rfl ?_
  refine ar_iload (pc := 92) (i := 5) (by decide +kernel) rfl ?_
  refine ar_iload (pc := 94) (i := 6) (by decide +kernel) rfl ?_
  refine ar_iast (pc := 96) (a := (v0 + 3)) (i := v5) (z := s0) (by decide +kernel) (kX3_8 t0).1 g1 (am_lt_eq g2 ((kX3_8 t0).2).symm) ?_
  refine ar_aload_n (pc := 97) (i := 0) (k0 := 0) (by decide +kernel) rfl rfl ?_
  refine ar_getFV (pc := 98) (a := v0) (b := (v0 + 4)) 3 9 (by decide +kernel) t0 rfl (by decide) wf_RX3_21 rfl (fun _ => rfl) rfl ?_
  refine ar_iload (pc := 101) (i := 5) (by decide +kernel) rfl ?_
  refine ar_lconst (pc := 103) (i := 0) (z := 0) (by decide +kernel) rfl ?_
  refine ar_last (pc := 104) (a := (v0 + 4)) (i := v5) (z := 0) (by decide +kernel) (kX3_9 t0).1 g1 (am_lt_eq g2 ((kX3_9 t0).2).symm) ?_
  refine ar_iinc (pc := 105) (i := 5) (z := 1) (x := v5) (ls2 := [some (.inr (.inr v0)), none, none, none, none, some (.inl (am_w32 (v5 + 1))), some (.inl s0)]) (by decide +kernel) rfl (by decide) rfl ?_
  refine ar_goto (pc := 108) (tgt := 44) (off := -64) (by decide +kernel) (by decide) ?_
  refine ar_forget [true, true, true, true, true, true, false] rfl ?_
  exact H h0

/-! ByteIntervals$Reading.copy(LByteIntervals$Reading;)V -/
theorem B_X3_copy_0 {d : Nat} {Q : Int → am_H → Prop} {h : am_H} {v0 a1 : Int} (t0 : am_kd 321 v0 = 13) (H : (am_kd 321 a1 = 13) ∧ (Q 0 (am_cp (am_up (am_up (am_up h v0 3 (h a1 3)) v0 4 ((am_up h v0 3 (h a1 3)) a1 4)) v0 5 ((am_up (am_up h v0 3 (h a1 3)) v0 4 ((am_up h v0 3 (h a1 3)) a1 4)) a1 5)) (a1 + 1) 0 (v0 + 1) 0 8))) : wf d M_X3_copy Q 0 [some (.inr (.inr v0)), some (.inr (.inr a1))] [] h := by
  intro h0
  refine ar_aload_n (pc := 0) (i := 0) (k0 := 0) (by decide +kernel) rfl rfl ?_
  refine ar_aload_n (pc := 1) (i := 1) (k0 := 1) (by decide +kernel) rfl rfl ?_
  obtain ⟨g1, H⟩ := H
  refine ar_getV (pc := 2) (a := a1) (v := .inl (h a1 3)) 3 3 (by decide +kernel) g1 rfl (by decide) wf_RX3_35 rfl ?_
  refine ar_putI (pc := 5) (a := v0) (z := (h a1 3)) 3 3 (by decide +kernel) t0 rfl (by decide) rfl (fun _ => rfl) rfl wf_RX3_35 ?_
  refine ar_aload_n (pc := 8) (i := 0) (k0 := 0) (by decide +kernel) rfl rfl ?_
  refine ar_aload_n (pc := 9) (i := 1) (k0 := 1) (by decide +kernel) rfl rfl ?_
  refine ar_getV (pc := 10) (a := a1) (v := .inl ((am_up h v0 3 (h a1 3)) a1 4)) 3 4 (by decide +kernel) g1 rfl (by decide) wf_RX3_38 rfl ?_
  refine ar_putI (pc := 13) (a := v0) (z := ((am_up h v0 3 (h a1 3)) a1 4)) 3 4 (by decide +kernel) t0 rfl (by decide) rfl (fun _ => rfl) rfl wf_RX3_38 ?_
  refine ar_aload_n (pc := 16) (i := 0) (k0 := 0) (by decide +kernel) rfl rfl ?_
  refine ar_aload_n (pc := 17) (i := 1) (k0 := 1) (by decide +kernel) rfl rfl ?_
  refine ar_getV (pc := 18) (a := a1) (v := .inl ((am_up (am_up h v0 3 (h a1 3)) v0 4 ((am_up h v0 3 (h a1 3)) a1 4)) a1 5)) 3 5 (by decide +kernel) g1 rfl (by decide) wf_RX3_41 rfl ?_
  refine ar_putI (pc := 21) (a := v0) (z := ((am_up (am_up h v0 3 (h a1 3)) v0 4 ((am_up h v0 3 (h a1 3)) a1 4)) a1 5)) 3 5 (by decide +kernel) t0 rfl (by decide) rfl (fun _ => rfl) rfl wf_RX3_41 ?_
  refine ar_aload_n (pc := 24) (i := 1) (k0 := 1) (by decide +kernel) rfl rfl ?_
  refine ar_getFV (pc := 25) (a := a1) (b := (a1 + 1)) 3 6 (by decide +kernel) g1 rfl (by decide) wf_RX3_9 rfl (fun _ => rfl) rfl ?_
  refine ar_iconst (pc := 28) (z := 0) (by decide +kernel) (by unfold am_i32; omega) ?_
  refine ar_aload_n (pc := 29) (i := 0) (k0 := 0) (by decide +kernel) rfl rfl ?_
  refine ar_getFV (pc := 30) (a := v0) (b := (v0 + 1)) 3 6 (by decide +kernel) t0 rfl (by decide) wf_RX3_9 rfl (fun _ => rfl) rfl ?_
  refine ar_iconst (pc := 33) (z := 0) (by decide +kernel) (by unfold am_i32; omega) ?_
  refine ar_bipush (pc := 34) (z := 8) (by decide +kernel) (by omega) ?_
  refine ar_copy (pc := 36) (a0 := (a1 + 1)) (sp := 0) (a := (v0 + 1)) (dp := 0) (len := 8) (by decide +kernel) wm_RX3_55 wnat wstat wsys (kX3_6 g1).1 (kX3_6 t0).1 (by decide) (by decide) (by decide) (am_le_eq (b := 8) (by decide) ((kX3_6 g1).2).symm) (am_le_eq (b := 8) (by decide) ((kX3_6 t0).2).symm) (Nat.le_of_ble_eq_true rfl) ?_
  exact ar_vret (pc := 39) (by decide +kernel) rfl rfl H

/-! ByteIntervals$Reading.how(I)I -/
theorem B_X3_how_0 {d : Nat} {Q : Int → am_H → Prop} {h : am_H} {v0 v1 : Int} (t0 : am_kd 321 v0 = 13) (H : cf d M_X6_hasBit [.inl (h v0 3), .inl v1] h (fun r1 h2 => (¬ r1 = 0 → cf d M_X6_hasBit [.inl (h2 v0 4), .inl v1] h2 (fun r4 h5 => (r4 = 0 → cf d M_X6_hasBit [.inl (h5 v0 5), .inl v1] h5 (fun r7 h8 => (r7 = 0 → Q 0 h8) ∧ (¬ r7 = 0 → Q 2 h8))) ∧ (¬ r4 = 0 → Q 1 h5))) ∧ (r1 = 0 → Q 3 h2))) : wf (d + 1) M_X3_how Q 0 [some (.inr (.inr v0)), some (.inl v1)] [] h := by
  intro h0
  refine ar_aload_n (pc := 0) (i := 0) (k0 := 0) (by decide +kernel) rfl rfl ?_
  refine ar_getV (pc := 1) (a := v0) (v := .inl (h v0 3)) 3 3 (by decide +kernel) t0 rfl (by decide) wf_RX3_35 rfl ?_
  refine ar_iload_n (pc := 4) (i := 1) (k0 := 1) (by decide +kernel) rfl rfl ?_
  refine ar_callSN (pc := 5) (M2 := M_X6_hasBit) (as := [.inl (h v0 3), .inl v1]) (n2 := 321) (st := []) (by decide +kernel) rfl wn_RX3_51 ws_yX6_hasBit wz_RX6 wc_yX6_hasBit ⟨by decide, by decide, rfl⟩ (by decide) (Nat.le_of_ble_eq_true rfl) (Nat.le_refl _) (Nat.le_refl _) (am_Cl_mono H (fun r1 h2 H => ?_))
  show am_Wp true (d + 1) M_X3_how 321 321 h0 Q 8 [some (.inr (.inr v0)), some (.inl v1)] [.inl r1] 321 h2
  refine ar_if_ne (pc := 8) (x := r1) (tgt := 13) (off := 5) (by decide +kernel) (by decide) (fun c3 => ?_) (fun c3 => ?_)
  · replace H := H.1 c3
    refine ar_aload_n (pc := 13) (i := 0) (k0 := 0) (by decide +kernel) rfl rfl ?_
    refine ar_getV (pc := 14) (a := v0) (v := .inl (h2 v0 4)) 3 4 (by decide +kernel) t0 rfl (by decide) wf_RX3_38 rfl ?_
    refine ar_iload_n (pc := 17) (i := 1) (k0 := 1) (by decide +kernel) rfl rfl ?_
    refine ar_callSN (pc := 18) (M2 := M_X6_hasBit) (as := [.inl (h2 v0 4), .inl v1]) (n2 := 321) (st := []) (by decide +kernel) rfl wn_RX3_51 ws_yX6_hasBit wz_RX6 wc_yX6_hasBit ⟨by decide, by decide, rfl⟩ (by decide) (Nat.le_of_ble_eq_true rfl) (Nat.le_refl _) (Nat.le_refl _) (am_Cl_mono H (fun r4 h5 H => ?_))
    show am_Wp true (d + 1) M_X3_how 321 321 h0 Q 21 [some (.inr (.inr v0)), some (.inl v1)] [.inl r4] 321 h5
    refine ar_if_eq (pc := 21) (x := r4) (tgt := 26) (off := 5) (by decide +kernel) (by decide) (fun c6 => ?_) (fun c6 => ?_)
    · replace H := H.1 c6
      refine ar_aload_n (pc := 26) (i := 0) (k0 := 0) (by decide +kernel) rfl rfl ?_
      refine ar_getV (pc := 27) (a := v0) (v := .inl (h5 v0 5)) 3 5 (by decide +kernel) t0 rfl (by decide) wf_RX3_41 rfl ?_
      refine ar_iload_n (pc := 30) (i := 1) (k0 := 1) (by decide +kernel) rfl rfl ?_
      refine ar_callSN (pc := 31) (M2 := M_X6_hasBit) (as := [.inl (h5 v0 5), .inl v1]) (n2 := 321) (st := []) (by decide +kernel) rfl wn_RX3_51 ws_yX6_hasBit wz_RX6 wc_yX6_hasBit ⟨by decide, by decide, rfl⟩ (by decide) (Nat.le_of_ble_eq_true rfl) (Nat.le_refl _) (Nat.le_refl _) (am_Cl_mono H (fun r7 h8 H => ?_))
      show am_Wp true (d + 1) M_X3_how 321 321 h0 Q 34 [some (.inr (.inr v0)), some (.inl v1)] [.inl r7] 321 h8
      refine ar_if_eq (pc := 34) (x := r7) (tgt := 41) (off := 7) (by decide +kernel) (by decide) (fun c9 => ?_) (fun c9 => ?_)
      · replace H := H.1 c9
        refine ar_iconst (pc := 41) (z := 0) (by decide +kernel) (by unfold am_i32; omega) ?_
        exact ar_iret (pc := 42) (x := 0) (by decide +kernel) rfl rfl H
      · replace H := H.2 c9
        refine ar_iconst (pc := 37) (z := 2) (by decide +kernel) (by unfold am_i32; omega) ?_
        refine ar_goto (pc := 38) (tgt := 42) (off := 4) (by decide +kernel) (by decide) ?_
        exact ar_iret (pc := 42) (x := 2) (by decide +kernel) rfl rfl H
    · replace H := H.2 c6
      refine ar_iconst (pc := 24) (z := 1) (by decide +kernel) (by unfold am_i32; omega) ?_
      exact ar_iret (pc := 25) (x := 1) (by decide +kernel) rfl rfl H
  · replace H := H.2 c3
    refine ar_iconst (pc := 11) (z := 3) (by decide +kernel) (by unfold am_i32; omega) ?_
    exact ar_iret (pc := 12) (x := 3) (by decide +kernel) rfl rfl H

/-! ByteIntervals$Reading.isSound()Z -/
theorem B_X3_isSound_0 {d : Nat} {Q : Int → am_H → Prop} {h : am_H} {v0 : Int} (t0 : am_kd 321 v0 = 13) (H : (¬ (h v0 4) = 0 → Q 0 h) ∧ ((h v0 4) = 0 → (¬ (h v0 5) = 0 → Q 0 h) ∧ ((h v0 5) = 0 → (¬ (h v0 10) = (-1) → Q 0 h) ∧ ((h v0 10) = (-1) → Q 1 h)))) : wf d M_X3_isSound Q 0 [some (.inr (.inr v0))] [] h := by
  intro h0
  refine ar_aload_n (pc := 0) (i := 0) (k0 := 0) (by decide +kernel) rfl rfl ?_
  refine ar_getV (pc := 1) (a := v0) (v := .inl (h v0 4)) 3 4 (by decide +kernel) t0 rfl (by decide) wf_RX3_38 rfl ?_
  refine ar_if_ne (pc := 4) (x := (h v0 4)) (tgt := 26) (off := 22) (by decide +kernel) (by decide) (fun c1 => ?_) (fun c1 => ?_)
  · replace H := H.1 c1
    refine ar_iconst (pc := 26) (z := 0) (by decide +kernel) (by unfold am_i32; omega) ?_
    exact ar_zret (pc := 27) (x := 0) (by decide +kernel) rfl rfl (by decide) H
  · replace H := H.2 c1
    refine ar_aload_n (pc := 7) (i := 0) (k0 := 0) (by decide +kernel) rfl rfl ?_
    refine ar_getV (pc := 8) (a := v0) (v := .inl (h v0 5)) 3 5 (by decide +kernel) t0 rfl (by decide) wf_RX3_41 rfl ?_
    refine ar_if_ne (pc := 11) (x := (h v0 5)) (tgt := 26) (off := 15) (by decide +kernel) (by decide) (fun c2 => ?_) (fun c2 => ?_)
    · replace H := H.1 c2
      refine ar_iconst (pc := 26) (z := 0) (by decide +kernel) (by unfold am_i32; omega) ?_
      exact ar_zret (pc := 27) (x := 0) (by decide +kernel) rfl rfl (by decide) H
    · replace H := H.2 c2
      refine ar_aload_n (pc := 14) (i := 0) (k0 := 0) (by decide +kernel) rfl rfl ?_
      refine ar_getV (pc := 15) (a := v0) (v := .inl (h v0 10)) 3 10 (by decide +kernel) t0 rfl (by decide) wf_RX3_44 rfl ?_
      refine ar_iconst (pc := 18) (z := (-1)) (by decide +kernel) (by unfold am_i32; omega) ?_
      refine ar_icmp_ne (pc := 19) (x := (h v0 10)) (y := (-1)) (tgt := 26) (off := 7) (by decide +kernel) (by decide) (fun c3 => ?_) (fun c3 => ?_)
      · replace H := H.1 c3
        refine ar_iconst (pc := 26) (z := 0) (by decide +kernel) (by unfold am_i32; omega) ?_
        exact ar_zret (pc := 27) (x := 0) (by decide +kernel) rfl rfl (by decide) H
      · replace H := H.2 c3
        refine ar_iconst (pc := 22) (z := 1) (by decide +kernel) (by unfold am_i32; omega) ?_
        refine ar_goto (pc := 23) (tgt := 27) (off := 4) (by decide +kernel) (by decide) ?_
        exact ar_zret (pc := 27) (x := 1) (by decide +kernel) rfl rfl (by decide) H

/-! ByteIntervals$Reading.isKnown(I)Z -/
theorem B_X3_isKnown_0 {d : Nat} {Q : Int → am_H → Prop} {h : am_H} {v0 v1 : Int} (t0 : am_kd 321 v0 = 13) (H : cf d M_X6_hasBit [.inl (am_iand (h v0 3) (am_ixor (h v0 4) (-1))), .inl v1] h (fun r1 h2 => (r1 = 0 ∨ r1 = 1) ∧ (Q r1 h2))) : wf (d + 1) M_X3_isKnown Q 0 [some (.inr (.inr v0)), some (.inl v1)] [] h := by
  intro h0
  refine ar_aload_n (pc := 0) (i := 0) (k0 := 0) (by decide +kernel) rfl rfl ?_
  refine ar_getV (pc := 1) (a := v0) (v := .inl (h v0 3)) 3 3 (by decide +kernel) t0 rfl (by decide) wf_RX3_35 rfl ?_
  refine ar_aload_n (pc := 4) (i := 0) (k0 := 0) (by decide +kernel) rfl rfl ?_
  refine ar_getV (pc := 5) (a := v0) (v := .inl (h v0 4)) 3 4 (by decide +kernel) t0 rfl (by decide) wf_RX3_38 rfl ?_
  refine ar_iconst (pc := 8) (z := (-1)) (by decide +kernel) (by unfold am_i32; omega) ?_
  refine ar_ixor (pc := 9) (x := (h v0 4)) (y := (-1)) (by decide +kernel) ?_
  refine ar_iand (pc := 10) (x := (h v0 3)) (y := (am_ixor (h v0 4) (-1))) (by decide +kernel) ?_
  refine ar_iload_n (pc := 11) (i := 1) (k0 := 1) (by decide +kernel) rfl rfl ?_
  refine ar_callSN (pc := 12) (M2 := M_X6_hasBit) (as := [.inl (am_iand (h v0 3) (am_ixor (h v0 4) (-1))), .inl v1]) (n2 := 321) (st := []) (by decide +kernel) rfl wn_RX3_51 ws_yX6_hasBit wz_RX6 wc_yX6_hasBit ⟨by decide, by decide, rfl⟩ (by decide) (Nat.le_of_ble_eq_true rfl) (Nat.le_refl _) (Nat.le_refl _) (am_Cl_mono H (fun r1 h2 H => ?_))
  show am_Wp true (d + 1) M_X3_isKnown 321 321 h0 Q 15 [some (.inr (.inr v0)), some (.inl v1)] [.inl r1] 321 h2
  obtain ⟨g3, H⟩ := H
  exact ar_zret (pc := 15) (x := r1) (by decide +kernel) rfl rfl g3 H

/-! ByteIntervals$Reading.has(II)Z -/
theorem B_X3_has_0 {d : Nat} {Q : Int → am_H → Prop} {h : am_H} {v0 v1 v2 : Int} (t0 : am_kd 321 v0 = 13) (H : cf d M_X6_isField [.inl v1] h (fun r1 h2 => (r1 = 0 → Q 0 h2) ∧ (¬ r1 = 0 → cf d M_X3_isKnown [.inr (.inr v0), .inl v1] h2 (fun r4 h5 => (r4 = 0 → Q 0 h5) ∧ (¬ r4 = 0 → (0 ≤ v1) ∧ ((v1 < 8) ∧ ((¬ (h5 (v0 + 1) v1) = v2 → Q 0 h5) ∧ ((h5 (v0 + 1) v1) = v2 → Q 1 h5)))))))) : wf (d + 1) M_X3_has Q 0 [some (.inr (.inr v0)), some (.inl v1), some (.inl v2)] [] h := by
  intro h0
  refine ar_iload_n (pc := 0) (i := 1) (k0 := 1) (by decide +kernel) rfl rfl ?_
  refine ar_callSN (pc := 1) (M2 := M_X6_isField) (as := [.inl v1]) (n2 := 321) (st := []) (by decide +kernel) rfl wn_RX3_61 ws_yX6_isField wz_RX6 wc_yX6_isField ⟨by decide, by decide, rfl⟩ (by decide) (Nat.le_of_ble_eq_true rfl) (Nat.le_refl _) (Nat.le_refl _) (am_Cl_mono H (fun r1 h2 H => ?_))
  show am_Wp true (d + 1) M_X3_has 321 321 h0 Q 4 [some (.inr (.inr v0)), some (.inl v1), some (.inl v2)] [.inl r1] 321 h2
  refine ar_if_eq (pc := 4) (x := r1) (tgt := 29) (off := 25) (by decide +kernel) (by decide) (fun c3 => ?_) (fun c3 => ?_)
  · replace H := H.1 c3
    refine ar_iconst (pc := 29) (z := 0) (by decide +kernel) (by unfold am_i32; omega) ?_
    exact ar_zret (pc := 30) (x := 0) (by decide +kernel) rfl rfl (by decide) H
  · replace H := H.2 c3
    refine ar_aload_n (pc := 7) (i := 0) (k0 := 0) (by decide +kernel) rfl rfl ?_
    refine ar_iload_n (pc := 8) (i := 1) (k0 := 1) (by decide +kernel) rfl rfl ?_
    refine ar_callV (pc := 9) (M2 := M_X3_isKnown) (a := v0) (ci := 3) (as := [.inl v1]) (n2 := 321) (st := []) (by decide +kernel) rfl wm_RX3_65 wi_yX3_isKnown wl_yX3_isKnown t0 rfl wz_RX3 wc_yX3_isKnown ⟨by decide, by decide, rfl⟩ (by decide) (Nat.le_of_ble_eq_true rfl) (Nat.le_refl _) (Nat.le_refl _) (am_Cl_mono H (fun r4 h5 H => ?_))
    show am_Wp true (d + 1) M_X3_has 321 321 h0 Q 12 [some (.inr (.inr v0)), some (.inl v1), some (.inl v2)] [.inl r4] 321 h5
    refine ar_if_eq (pc := 12) (x := r4) (tgt := 29) (off := 17) (by decide +kernel) (by decide) (fun c6 => ?_) (fun c6 => ?_)
    · replace H := H.1 c6
      refine ar_iconst (pc := 29) (z := 0) (by decide +kernel) (by unfold am_i32; omega) ?_
      exact ar_zret (pc := 30) (x := 0) (by decide +kernel) rfl rfl (by decide) H
    · replace H := H.2 c6
      refine ar_aload_n (pc := 15) (i := 0) (k0 := 0) (by decide +kernel) rfl rfl ?_
      refine ar_getFV (pc := 16) (a := v0) (b := (v0 + 1)) 3 6 (by decide +kernel) t0 rfl (by decide) wf_RX3_9 rfl (fun _ => rfl) rfl ?_
      refine ar_iload_n (pc := 19) (i := 1) (k0 := 1) (by decide +kernel) rfl rfl ?_
      obtain ⟨g7, H⟩ := H
      obtain ⟨g8, H⟩ := H
      refine ar_iald (pc := 20) (a := (v0 + 1)) (i := v1) (by decide +kernel) (kX3_6 t0).1 g7 (am_lt_eq g8 ((kX3_6 t0).2).symm) ?_
      refine ar_iload_n (pc := 21) (i := 2) (k0 := 2) (by decide +kernel) rfl rfl ?_
      refine ar_icmp_ne (pc := 22) (x := (h5 (v0 + 1) v1)) (y := v2) (tgt := 29) (off := 7) (by decide +kernel) (by decide) (fun c9 => ?_) (fun c9 => ?_)
      · replace H := H.1 c9
        refine ar_iconst (pc := 29) (z := 0) (by decide +kernel) (by unfold am_i32; omega) ?_
        exact ar_zret (pc := 30) (x := 0) (by decide +kernel) rfl rfl (by decide) H
      · replace H := H.2 c9
        refine ar_iconst (pc := 25) (z := 1) (by decide +kernel) (by unfold am_i32; omega) ?_
        refine ar_goto (pc := 26) (tgt := 30) (off := 4) (by decide +kernel) (by decide) ?_
        exact ar_zret (pc := 30) (x := 1) (by decide +kernel) rfl rfl (by decide) H

/-! ByteIntervals$Reading.tell(II)I -/
theorem B_X3_tell_0 {d : Nat} {Q : Int → am_H → Prop} {h : am_H} {v0 v1 v2 : Int} (t0 : am_kd 321 v0 = 13) (H : cf d M_X6_isField [.inl v1] h (fun r1 h2 => (r1 = 0 → Q (-2) h2) ∧ (¬ r1 = 0 → (v2 < 0 → Q (-2) h2) ∧ (0 ≤ v2 → (v2 ≤ 3 → cf d M_X3_how [.inr (.inr v0), .inl v1] h2 (fun r6 h7 => (¬ v2 = 3 → (¬ r6 = 3 → (¬ v2 = 0 → (¬ v2 = 1 → (0 ≤ v1) ∧ ((v1 < 8) ∧ (Q (h7 (v0 + 3) v1) h7))) ∧ (v2 = 1 → (0 ≤ v1) ∧ ((v1 < 8) ∧ (Q (h7 (v0 + 2) v1) h7)))) ∧ (v2 = 0 → (0 ≤ v1) ∧ ((v1 < 8) ∧ (Q (h7 (v0 + 1) v1) h7)))) ∧ (r6 = 3 → Q (-2) h7)) ∧ (v2 = 3 → Q r6 h7))) ∧ (3 < v2 → Q (-2) h2))))) : wf (d + 1) M_X3_tell Q 0 [some (.inr (.inr v0)), some (.inl v1), some (.inl v2), none] [] h := by
  intro h0
  refine ar_iload_n (pc := 0) (i := 1) (k0 := 1) (by decide +kernel) rfl rfl ?_
  refine ar_callSN (pc := 1) (M2 := M_X6_isField) (as := [.inl v1]) (n2 := 321) (st := []) (by decide +kernel) rfl wn_RX3_61 ws_yX6_isField wz_RX6 wc_yX6_isField ⟨by decide, by decide, rfl⟩ (by decide) (Nat.le_of_ble_eq_true rfl) (Nat.le_refl _) (Nat.le_refl _) (am_Cl_mono H (fun r1 h2 H => ?_))
  show am_Wp true (d + 1) M_X3_tell 321 321 h0 Q 4 [some (.inr (.inr v0)), some (.inl v1), some (.inl v2), none] [.inl r1] 321 h2
  refine ar_if_eq (pc := 4) (x := r1) (tgt := 16) (off := 12) (by decide +kernel) (by decide) (fun c3 => ?_) (fun c3 => ?_)
  · replace H := H.1 c3
    refine ar_bipush (pc := 16) (z := (-2)) (by decide +kernel) (by omega) ?_
    exact ar_iret (pc := 18) (x := (-2)) (by decide +kernel) rfl rfl H
  · replace H := H.2 c3
    refine ar_iload_n (pc := 7) (i := 2) (k0 := 2) (by decide +kernel) rfl rfl ?_
    refine ar_if_lt (pc := 8) (x := v2) (tgt := 16) (off := 8) (by decide +kernel) (by decide) (fun c4 => ?_) (fun c4 => ?_)
    · replace H := H.1 c4
      refine ar_bipush (pc := 16) (z := (-2)) (by decide +kernel) (by omega) ?_
      exact ar_iret (pc := 18) (x := (-2)) (by decide +kernel) rfl rfl H
    · replace H := H.2 c4
      refine ar_iload_n (pc := 11) (i := 2) (k0 := 2) (by decide +kernel) rfl rfl ?_
      refine ar_iconst (pc := 12) (z := 3) (by decide +kernel) (by unfold am_i32; omega) ?_
      refine ar_icmp_le (pc := 13) (x := v2) (y := 3) (tgt := 19) (off := 6) (by decide +kernel) (by decide) (fun c5 => ?_) (fun c5 => ?_)
      · replace H := H.1 c5
        refine ar_aload_n (pc := 19) (i := 0) (k0 := 0) (by decide +kernel) rfl rfl ?_
        refine ar_iload_n (pc := 20) (i := 1) (k0 := 1) (by decide +kernel) rfl rfl ?_
        refine ar_callV (pc := 21) (M2 := M_X3_how) (a := v0) (ci := 3) (as := [.inl v1]) (n2 := 321) (st := []) (by decide +kernel) rfl wm_RX3_68 wi_yX3_how wl_yX3_how t0 rfl wz_RX3 wc_yX3_how ⟨by decide, by decide, rfl⟩ (by decide) (Nat.le_of_ble_eq_true rfl) (Nat.le_refl _) (Nat.le_refl _) (am_Cl_mono H (fun r6 h7 H => ?_))
        show am_Wp true (d + 1) M_X3_tell 321 321 h0 Q 24 [some (.inr (.inr v0)), some (.inl v1), some (.inl v2), none] [.inl r6] 321 h7
        refine ar_istore_n (pc := 24) (i := 3) (k0 := 3) (ls2 := [some (.inr (.inr v0)), some (.inl v1), some (.inl v2), some (.inl r6)]) (by decide +kernel) rfl (by decide) rfl ?_
        refine ar_iload_n (pc := 25) (i := 2) (k0 := 2) (by decide +kernel) rfl rfl ?_
        refine ar_iconst (pc := 26) (z := 3) (by decide +kernel) (by unfold am_i32; omega) ?_
        refine ar_icmp_ne (pc := 27) (x := v2) (y := 3) (tgt := 32) (off := 5) (by decide +kernel) (by decide) (fun c8 => ?_) (fun c8 => ?_)
        · replace H := H.1 c8
          refine ar_iload_n (pc := 32) (i := 3) (k0 := 3) (by decide +kernel) rfl rfl ?_
          refine ar_iconst (pc := 33) (z := 3) (by decide +kernel) (by unfold am_i32; omega) ?_
          refine ar_icmp_ne (pc := 34) (x := r6) (y := 3) (tgt := 40) (off := 6) (by decide +kernel) (by decide) (fun c9 => ?_) (fun c9 => ?_)
          · replace H := H.1 c9
            refine ar_iload_n (pc := 40) (i := 2) (k0 := 2) (by decide +kernel) rfl rfl ?_
            refine ar_if_ne (pc := 41) (x := v2) (tgt := 51) (off := 10) (by decide +kernel) (by decide) (fun c10 => ?_) (fun c10 => ?_)
            · replace H := H.1 c10
              refine ar_iload_n (pc := 51) (i := 2) (k0 := 2) (by decide +kernel) rfl rfl ?_
              refine ar_iconst (pc := 52) (z := 1) (by decide +kernel) (by unfold am_i32; omega) ?_
              refine ar_icmp_ne (pc := 53) (x := v2) (y := 1) (tgt := 65) (off := 12) (by decide +kernel) (by decide) (fun c11 => ?_) (fun c11 => ?_)
              · replace H := H.1 c11
                refine ar_aload_n (pc := 65) (i := 0) (k0 := 0) (by decide +kernel) rfl rfl ?_
                refine ar_getFV (pc := 66) (a := v0) (b := (v0 + 3)) 3 8 (by decide +kernel) t0 rfl (by decide) wf_RX3_18 rfl (fun _ => rfl) rfl ?_
                refine ar_iload_n (pc := 69) (i := 1) (k0 := 1) (by decide +kernel) rfl rfl ?_
                obtain ⟨g12, H⟩ := H
                obtain ⟨g13, H⟩ := H
                refine ar_iald (pc := 70) (a := (v0 + 3)) (i := v1) (by decide +kernel) (kX3_8 t0).1 g12 (am_lt_eq g13 ((kX3_8 t0).2).symm) ?_
                exact ar_iret (pc := 71) (x := (h7 (v0 + 3) v1)) (by decide +kernel) rfl rfl H
              · replace H := H.2 c11
                refine ar_aload_n (pc := 56) (i := 0) (k0 := 0) (by decide +kernel) rfl rfl ?_
                refine ar_getFV (pc := 57) (a := v0) (b := (v0 + 2)) 3 7 (by decide +kernel) t0 rfl (by decide) wf_RX3_15 rfl (fun _ => rfl) rfl ?_
                refine ar_iload_n (pc := 60) (i := 1) (k0 := 1) (by decide +kernel) rfl rfl ?_
                obtain ⟨g14, H⟩ := H
                obtain ⟨g15, H⟩ := H
                refine ar_iald (pc := 61) (a := (v0 + 2)) (i := v1) (by decide +kernel) (kX3_7 t0).1 g14 (am_lt_eq g15 ((kX3_7 t0).2).symm) ?_
                refine ar_goto (pc := 62) (tgt := 71) (off := 9) (by decide +kernel) (by decide) ?_
                exact ar_iret (pc := 71) (x := (h7 (v0 + 2) v1)) (by decide +kernel) rfl rfl H
            · replace H := H.2 c10
              refine ar_aload_n (pc := 44) (i := 0) (k0 := 0) (by decide +kernel) rfl rfl ?_
              refine ar_getFV (pc := 45) (a := v0) (b := (v0 + 1)) 3 6 (by decide +kernel) t0 rfl (by decide) wf_RX3_9 rfl (fun _ => rfl) rfl ?_
              refine ar_iload_n (pc := 48) (i := 1) (k0 := 1) (by decide +kernel) rfl rfl ?_
              obtain ⟨g16, H⟩ := H
              obtain ⟨g17, H⟩ := H
              refine ar_iald (pc := 49) (a := (v0 + 1)) (i := v1) (by decide +kernel) (kX3_6 t0).1 g16 (am_lt_eq g17 ((kX3_6 t0).2).symm) ?_
              exact ar_iret (pc := 50) (x := (h7 (v0 + 1) v1)) (by decide +kernel) rfl rfl H
          · replace H := H.2 c9
            refine ar_bipush (pc := 37) (z := (-2)) (by decide +kernel) (by omega) ?_
            exact ar_iret (pc := 39) (x := (-2)) (by decide +kernel) rfl rfl H
        · replace H := H.2 c8
          refine ar_iload_n (pc := 30) (i := 3) (k0 := 3) (by decide +kernel) rfl rfl ?_
          exact ar_iret (pc := 31) (x := r6) (by decide +kernel) rfl rfl H
      · replace H := H.2 c5
        refine ar_bipush (pc := 16) (z := (-2)) (by decide +kernel) (by omega) ?_
        exact ar_iret (pc := 18) (x := (-2)) (by decide +kernel) rfl rfl H

/-! ByteIntervals$Reading.covered(I)J -/
theorem B_X3_covered_0 {d : Nat} {Q : Int → am_H → Prop} {h : am_H} {v0 v1 : Int} (t0 : am_kd 321 v0 = 13) (H : cf d M_X6_isField [.inl v1] h (fun r1 h2 => (r1 = 0 → Q 0 h2) ∧ (¬ r1 = 0 → cf d M_X3_isKnown [.inr (.inr v0), .inl v1] h2 (fun r4 h5 => (r4 = 0 → Q 0 h5) ∧ (¬ r4 = 0 → (0 ≤ v1) ∧ ((v1 < 8) ∧ (cf d M_X6_span [.inl (h5 (v0 + 2) v1), .inl (h5 (v0 + 3) v1)] h5 (fun r9 h10 => Q r9 h10)))))))) : wf (d + 1) M_X3_covered Q 0 [some (.inr (.inr v0)), some (.inl v1)] [] h := by
  intro h0
  refine ar_iload_n (pc := 0) (i := 1) (k0 := 1) (by decide +kernel) rfl rfl ?_
  refine ar_callSN (pc := 1) (M2 := M_X6_isField) (as := [.inl v1]) (n2 := 321) (st := []) (by decide +kernel) rfl wn_RX3_61 ws_yX6_isField wz_RX6 wc_yX6_isField ⟨by decide, by decide, rfl⟩ (by decide) (Nat.le_of_ble_eq_true rfl) (Nat.le_refl _) (Nat.le_refl _) (am_Cl_mono H (fun r1 h2 H => ?_))
  show am_Wp true (d + 1) M_X3_covered 321 321 h0 Q 4 [some (.inr (.inr v0)), some (.inl v1)] [.inl r1] 321 h2
  refine ar_if_eq (pc := 4) (x := r1) (tgt := 33) (off := 29) (by decide +kernel) (by decide) (fun c3 => ?_) (fun c3 => ?_)
  · replace H := H.1 c3
    refine ar_lconst (pc := 33) (i := 0) (z := 0) (by decide +kernel) rfl ?_
    exact ar_lret (pc := 34) (x := 0) (by decide +kernel) rfl rfl H
  · replace H := H.2 c3
    refine ar_aload_n (pc := 7) (i := 0) (k0 := 0) (by decide +kernel) rfl rfl ?_
    refine ar_iload_n (pc := 8) (i := 1) (k0 := 1) (by decide +kernel) rfl rfl ?_
    refine ar_callV (pc := 9) (M2 := M_X3_isKnown) (a := v0) (ci := 3) (as := [.inl v1]) (n2 := 321) (st := []) (by decide +kernel) rfl wm_RX3_65 wi_yX3_isKnown wl_yX3_isKnown t0 rfl wz_RX3 wc_yX3_isKnown ⟨by decide, by decide, rfl⟩ (by decide) (Nat.le_of_ble_eq_true rfl) (Nat.le_refl _) (Nat.le_refl _) (am_Cl_mono H (fun r4 h5 H => ?_))
    show am_Wp true (d + 1) M_X3_covered 321 321 h0 Q 12 [some (.inr (.inr v0)), some (.inl v1)] [.inl r4] 321 h5
    refine ar_if_eq (pc := 12) (x := r4) (tgt := 33) (off := 21) (by decide +kernel) (by decide) (fun c6 => ?_) (fun c6 => ?_)
    · replace H := H.1 c6
      refine ar_lconst (pc := 33) (i := 0) (z := 0) (by decide +kernel) rfl ?_
      exact ar_lret (pc := 34) (x := 0) (by decide +kernel) rfl rfl H
    · replace H := H.2 c6
      refine ar_aload_n (pc := 15) (i := 0) (k0 := 0) (by decide +kernel) rfl rfl ?_
      refine ar_getFV (pc := 16) (a := v0) (b := (v0 + 2)) 3 7 (by decide +kernel) t0 rfl (by decide) wf_RX3_15 rfl (fun _ => rfl) rfl ?_
      refine ar_iload_n (pc := 19) (i := 1) (k0 := 1) (by decide +kernel) rfl rfl ?_
      obtain ⟨g7, H⟩ := H
      obtain ⟨g8, H⟩ := H
      refine ar_iald (pc := 20) (a := (v0 + 2)) (i := v1) (by decide +kernel) (kX3_7 t0).1 g7 (am_lt_eq g8 ((kX3_7 t0).2).symm) ?_
      refine ar_aload_n (pc := 21) (i := 0) (k0 := 0) (by decide +kernel) rfl rfl ?_
      refine ar_getFV (pc := 22) (a := v0) (b := (v0 + 3)) 3 8 (by decide +kernel) t0 rfl (by decide) wf_RX3_18 rfl (fun _ => rfl) rfl ?_
      refine ar_iload_n (pc := 25) (i := 1) (k0 := 1) (by decide +kernel) rfl rfl ?_
      refine ar_iald (pc := 26) (a := (v0 + 3)) (i := v1) (by decide +kernel) (kX3_8 t0).1 g7 (am_lt_eq g8 ((kX3_8 t0).2).symm) ?_
      refine ar_callSN (pc := 27) (M2 := M_X6_span) (as := [.inl (h5 (v0 + 2) v1), .inl (h5 (v0 + 3) v1)]) (n2 := 321) (st := []) (by decide +kernel) rfl wn_RX3_72 ws_yX6_span wz_RX6 wc_yX6_span ⟨by decide, by decide, rfl⟩ (by decide) (Nat.le_of_ble_eq_true rfl) (Nat.le_refl _) (Nat.le_refl _) (am_Cl_mono H (fun r9 h10 H => ?_))
      show am_Wp true (d + 1) M_X3_covered 321 321 h0 Q 30 [some (.inr (.inr v0)), some (.inl v1)] [.inr (.inl r9)] 321 h10
      refine ar_goto (pc := 30) (tgt := 34) (off := 4) (by decide +kernel) (by decide) ?_
      exact ar_lret (pc := 34) (x := r9) (by decide +kernel) rfl rfl H

/-! ByteIntervals$Reading.looksOf(I)J -/
theorem B_X3_looksOf_0 {d : Nat} {Q : Int → am_H → Prop} {h : am_H} {v0 v1 : Int} (t0 : am_kd 321 v0 = 13) (H : wf (d + 1) M_X3_looksOf Q 5 [some (.inr (.inr v0)), some (.inl v1), some (.inr (.inl 0)), none, some (.inl 0)] [] h) : wf (d + 1) M_X3_looksOf Q 0 [some (.inr (.inr v0)), some (.inl v1), none, none, none] [] h := by
  intro h0
  refine ar_lconst (pc := 0) (i := 0) (z := 0) (by decide +kernel) rfl ?_
  refine ar_lstore_n (pc := 1) (i := 2) (k0 := 2) (ls2 := [some (.inr (.inr v0)), some (.inl v1), some (.inr (.inl 0)), none, none]) (by decide +kernel) rfl (by decide) rfl ?_
  refine ar_iconst (pc := 2) (z := 0) (by decide +kernel) (by unfold am_i32; omega) ?_
  refine ar_istore (pc := 3) (i := 4) (ls2 := [some (.inr (.inr v0)), some (.inl v1), some (.inr (.inl 0)), none, some (.inl 0)]) (by decide +kernel) (by decide) rfl ?_
  exact H h0
theorem B_X3_looksOf_5 {d : Nat} {Q : Int → am_H → Prop} {h : am_H} {v0 v1 v2 v4 : Int} (t0 : am_kd 321 v0 = 13) (H : (8 ≤ v4 → Q v2 h) ∧ (v4 < 8 → cf d M_X6_hasBit [.inl v1, .inl v4] h (fun r2 h3 => (r2 = 0 → wf (d + 1) M_X3_looksOf Q 33 [some (.inr (.inr v0)), some (.inl v1), none, none, some (.inl v4)] [.inr (.inl 0), .inr (.inl v2)] h3) ∧ (¬ r2 = 0 → (0 ≤ v4) ∧ (wf (d + 1) M_X3_looksOf Q 33 [some (.inr (.inr v0)), some (.inl v1), none, none, some (.inl v4)] [.inr (.inl (h3 (v0 + 4) v4)), .inr (.inl v2)] h3))))) : wf (d + 1) M_X3_looksOf Q 5 [some (.inr (.inr v0)), some (.inl v1), some (.inr (.inl v2)), none, some (.inl v4)] [] h := by
  intro h0
  refine ar_iload (pc := 5) (i := 4) (by decide +kernel) rfl ?_
  refine ar_bipush (pc := 7) (z := 8) (by decide +kernel) (by omega) ?_
  refine ar_icmp_ge (pc := 9) (x := v4) (y := 8) (tgt := 41) (off := 32) (by decide +kernel) (by decide) (fun c1 => ?_) (fun c1 => ?_)
  · replace H := H.1 c1
    refine ar_lload_n (pc := 41) (i := 2) (k0 := 2) (by decide +kernel) rfl rfl ?_
    exact ar_lret (pc := 42) (x := v2) (by decide +kernel) rfl rfl H
  · replace H := H.2 c1
    refine ar_lload_n (pc := 12) (i := 2) (k0 := 2) (by decide +kernel) rfl rfl ?_
    refine ar_iload_n (pc := 13) (i := 1) (k0 := 1) (by decide +kernel) rfl rfl ?_
    refine ar_iload (pc := 14) (i := 4) (by decide +kernel) rfl ?_
    refine ar_callSN (pc := 16) (M2 := M_X6_hasBit) (as := [.inl v1, .inl v4]) (n2 := 321) (st := [.inr (.inl v2)]) (by decide +kernel) rfl wn_RX3_51 ws_yX6_hasBit wz_RX6 wc_yX6_hasBit ⟨by decide, by decide, rfl⟩ (by decide) (Nat.le_of_ble_eq_true rfl) (Nat.le_refl _) (Nat.le_refl _) (am_Cl_mono H (fun r2 h3 H => ?_))
    show am_Wp true (d + 1) M_X3_looksOf 321 321 h0 Q 19 [some (.inr (.inr v0)), some (.inl v1), some (.inr (.inl v2)), none, some (.inl v4)] [.inl r2, .inr (.inl v2)] 321 h3
    refine ar_if_eq (pc := 19) (x := r2) (tgt := 32) (off := 13) (by decide +kernel) (by decide) (fun c4 => ?_) (fun c4 => ?_)
    · replace H := H.1 c4
      refine ar_lconst (pc := 32) (i := 0) (z := 0) (by decide +kernel) rfl ?_
      refine ar_forget [true, true, false, true, true] rfl ?_
      exact H h0
    · replace H := H.2 c4
      refine ar_aload_n (pc := 22) (i := 0) (k0 := 0) (by decide +kernel) rfl rfl ?_
      refine ar_getFV (pc := 23) (a := v0) (b := (v0 + 4)) 3 9 (by decide +kernel) t0 rfl (by decide) wf_RX3_21 rfl (fun _ => rfl) rfl ?_
      refine ar_iload (pc := 26) (i := 4) (by decide +kernel) rfl ?_
      obtain ⟨g5, H⟩ := H
      refine ar_lald (pc := 28) (a := (v0 + 4)) (i := v4) (by decide +kernel) (kX3_9 t0).1 g5 (am_lt_eq c1 ((kX3_9 t0).2).symm) ?_
      refine ar_goto (pc := 29) (tgt := 33) (off := 4) (by decide +kernel) (by decide) ?_
      refine ar_forget [true, true, false, true, true] rfl ?_
      exact H h0
theorem B_X3_looksOf_33 {d : Nat} {Q : Int → am_H → Prop} {h : am_H} {v0 v1 v4 s0 s1 : Int} (t0 : am_kd 321 v0 = 13) (H : wf (d + 1) M_X3_looksOf Q 5 [some (.inr (.inr v0)), some (.inl v1), some (.inr (.inl (am_lor s0 s1))), none, some (.inl (am_w32 (v4 + 1)))] [] h) : wf (d + 1) M_X3_looksOf Q 33 [some (.inr (.inr v0)), some (.inl v1), none, none, some (.inl v4)] [.inr (.inl s1), .inr (.inl s0)] h := by
  intro h0
  refine ar_lor (pc := 33) (x := s0) (y := s1) (by decide +kernel) ?_
  refine ar_lstore_n (pc := 34) (i := 2) (k0 := 2) (ls2 := [some (.inr (.inr v0)), some (.inl v1), some (.inr (.inl (am_lor s0 s1))), none, some (.inl v4)]) (by decide +kernel) rfl (by decide) rfl ?_
  refine ar_iinc (pc := 35) (i := 4) (z := 1) (x := v4) (ls2 := [some (.inr (.inr v0)), some (.inl v1), some (.inr (.inl (am_lor s0 s1))), none, some (.inl (am_w32 (v4 + 1)))]) (by decide +kernel) rfl (by decide) rfl ?_
  refine ar_goto (pc := 38) (tgt := 5) (off := -33) (by decide +kernel) (by decide) ?_
  exact H h0

/-! ByteIntervals$Reading.likeFields(LByteIntervals$Reading;)I -/
theorem B_X3_likeFields_0 {d : Nat} {Q : Int → am_H → Prop} {h : am_H} {v0 a1 : Int} (t0 : am_kd 321 v0 = 13) (H : wf (d + 1) M_X3_likeFields Q 4 [some (.inr (.inr v0)), some (.inr (.inr a1)), some (.inl 0), some (.inl 0)] [] h) : wf (d + 1) M_X3_likeFields Q 0 [some (.inr (.inr v0)), some (.inr (.inr a1)), none, none] [] h := by
  intro h0
  refine ar_iconst (pc := 0) (z := 0) (by decide +kernel) (by unfold am_i32; omega) ?_
  refine ar_istore_n (pc := 1) (i := 2) (k0 := 2) (ls2 := [some (.inr (.inr v0)), some (.inr (.inr a1)), some (.inl 0), none]) (by decide +kernel) rfl (by decide) rfl ?_
  refine ar_iconst (pc := 2) (z := 0) (by decide +kernel) (by unfold am_i32; omega) ?_
  refine ar_istore_n (pc := 3) (i := 3) (k0 := 3) (ls2 := [some (.inr (.inr v0)), some (.inr (.inr a1)), some (.inl 0), some (.inl 0)]) (by decide +kernel) rfl (by decide) rfl ?_
  exact H h0
theorem B_X3_likeFields_4 {d : Nat} {Q : Int → am_H → Prop} {h : am_H} {v0 a1 v2 v3 : Int} (t0 : am_kd 321 v0 = 13) (H : (8 ≤ v3 → Q v2 h) ∧ (v3 < 8 → (0 ≤ v3) ∧ ((am_kd 321 a1 = 13) ∧ ((¬ (h (v0 + 1) v3) = (h (a1 + 1) v3) → wf (d + 1) M_X3_likeFields Q 44 [some (.inr (.inr v0)), some (.inr (.inr a1)), some (.inl v2), some (.inl v3)] [] h) ∧ ((h (v0 + 1) v3) = (h (a1 + 1) v3) → cf d M_X3_how [.inr (.inr v0), .inl v3] h (fun r5 h6 => cf d M_X3_how [.inr (.inr a1), .inl v3] h6 (fun r7 h8 => (¬ r5 = r7 → wf (d + 1) M_X3_likeFields Q 44 [some (.inr (.inr v0)), some (.inr (.inr a1)), some (.inl v2), some (.inl v3)] [] h8) ∧ (r5 = r7 → wf (d + 1) M_X3_likeFields Q 44 [some (.inr (.inr v0)), some (.inr (.inr a1)), some (.inl (am_ior v2 (am_ishl 1 v3))), some (.inl v3)] [] h8)))))))) : wf (d + 1) M_X3_likeFields Q 4 [some (.inr (.inr v0)), some (.inr (.inr a1)), some (.inl v2), some (.inl v3)] [] h := by
  intro h0
  refine ar_iload_n (pc := 4) (i := 3) (k0 := 3) (by decide +kernel) rfl rfl ?_
  refine ar_bipush (pc := 5) (z := 8) (by decide +kernel) (by omega) ?_
  refine ar_icmp_ge (pc := 7) (x := v3) (y := 8) (tgt := 50) (off := 43) (by decide +kernel) (by decide) (fun c1 => ?_) (fun c1 => ?_)
  · replace H := H.1 c1
    refine ar_iload_n (pc := 50) (i := 2) (k0 := 2) (by decide +kernel) rfl rfl ?_
    exact ar_iret (pc := 51) (x := v2) (by decide +kernel) rfl rfl H
  · replace H := H.2 c1
    refine ar_aload_n (pc := 10) (i := 0) (k0 := 0) (by decide +kernel) rfl rfl ?_
    refine ar_getFV (pc := 11) (a := v0) (b := (v0 + 1)) 3 6 (by decide +kernel) t0 rfl (by decide) wf_RX3_9 rfl (fun _ => rfl) rfl ?_
    refine ar_iload_n (pc := 14) (i := 3) (k0 := 3) (by decide +kernel) rfl rfl ?_
    obtain ⟨g2, H⟩ := H
    refine ar_iald (pc := 15) (a := (v0 + 1)) (i := v3) (by decide +kernel) (kX3_6 t0).1 g2 (am_lt_eq c1 ((kX3_6 t0).2).symm) ?_
    refine ar_aload_n (pc := 16) (i := 1) (k0 := 1) (by decide +kernel) rfl rfl ?_
    obtain ⟨g3, H⟩ := H
    refine ar_getFV (pc := 17) (a := a1) (b := (a1 + 1)) 3 6 (by decide +kernel) g3 rfl (by decide) wf_RX3_9 rfl (fun _ => rfl) rfl ?_
    refine ar_iload_n (pc := 20) (i := 3) (k0 := 3) (by decide +kernel) rfl rfl ?_
    refine ar_iald (pc := 21) (a := (a1 + 1)) (i := v3) (by decide +kernel) (kX3_6 g3).1 g2 (am_lt_eq c1 ((kX3_6 g3).2).symm) ?_
    refine ar_icmp_ne (pc := 22) (x := (h (v0 + 1) v3)) (y := (h (a1 + 1) v3)) (tgt := 44) (off := 22) (by decide +kernel) (by decide) (fun c4 => ?_) (fun c4 => ?_)
    · replace H := H.1 c4
      exact H h0
    · replace H := H.2 c4
      refine ar_aload_n (pc := 25) (i := 0) (k0 := 0) (by decide +kernel) rfl rfl ?_
      refine ar_iload_n (pc := 26) (i := 3) (k0 := 3) (by decide +kernel) rfl rfl ?_
      refine ar_callV (pc := 27) (M2 := M_X3_how) (a := v0) (ci := 3) (as := [.inl v3]) (n2 := 321) (st := []) (by decide +kernel) rfl wm_RX3_68 wi_yX3_how wl_yX3_how t0 rfl wz_RX3 wc_yX3_how ⟨by decide, by decide, rfl⟩ (by decide) (Nat.le_of_ble_eq_true rfl) (Nat.le_refl _) (Nat.le_refl _) (am_Cl_mono H (fun r5 h6 H => ?_))
      show am_Wp true (d + 1) M_X3_likeFields 321 321 h0 Q 30 [some (.inr (.inr v0)), some (.inr (.inr a1)), some (.inl v2), some (.inl v3)] [.inl r5] 321 h6
      refine ar_aload_n (pc := 30) (i := 1) (k0 := 1) (by decide +kernel) rfl rfl ?_
      refine ar_iload_n (pc := 31) (i := 3) (k0 := 3) (by decide +kernel) rfl rfl ?_
      refine ar_callV (pc := 32) (M2 := M_X3_how) (a := a1) (ci := 3) (as := [.inl v3]) (n2 := 321) (st := [.inl r5]) (by decide +kernel) rfl wm_RX3_68 wi_yX3_how wl_yX3_how g3 rfl wz_RX3 wc_yX3_how ⟨by decide, by decide, rfl⟩ (by decide) (Nat.le_of_ble_eq_true rfl) (Nat.le_refl _) (Nat.le_refl _) (am_Cl_mono H (fun r7 h8 H => ?_))
      show am_Wp true (d + 1) M_X3_likeFields 321 321 h0 Q 35 [some (.inr (.inr v0)), some (.inr (.inr a1)), some (.inl v2), some (.inl v3)] [.inl r7, .inl r5] 321 h8
      refine ar_icmp_ne (pc := 35) (x := r5) (y := r7) (tgt := 44) (off := 9) (by decide +kernel) (by decide) (fun c9 => ?_) (fun c9 => ?_)
      · replace H := H.1 c9
        exact H h0
      · replace H := H.2 c9
        refine ar_iload_n (pc := 38) (i := 2) (k0 := 2) (by decide +kernel) rfl rfl ?_
        refine ar_iconst (pc := 39) (z := 1) (by decide +kernel) (by unfold am_i32; omega) ?_
        refine ar_iload_n (pc := 40) (i := 3) (k0 := 3) (by decide +kernel) rfl rfl ?_
        refine ar_ishl (pc := 41) (x := 1) (y := v3) (by decide +kernel) ?_
        refine ar_ior (pc := 42) (x := v2) (y := (am_ishl 1 v3)) (by decide +kernel) ?_
        refine ar_istore_n (pc := 43) (i := 2) (k0 := 2) (ls2 := [some (.inr (.inr v0)), some (.inr (.inr a1)), some (.inl (am_ior v2 (am_ishl 1 v3))), some (.inl v3)]) (by decide +kernel) rfl (by decide) rfl ?_
        exact H h0
theorem B_X3_likeFields_44 {d : Nat} {Q : Int → am_H → Prop} {h : am_H} {v0 a1 v2 v3 : Int} (t0 : am_kd 321 v0 = 13) (H : wf (d + 1) M_X3_likeFields Q 4 [some (.inr (.inr v0)), some (.inr (.inr a1)), some (.inl v2), some (.inl (am_w32 (v3 + 1)))] [] h) : wf (d + 1) M_X3_likeFields Q 44 [some (.inr (.inr v0)), some (.inr (.inr a1)), some (.inl v2), some (.inl v3)] [] h := by
  intro h0
  refine ar_iinc (pc := 44) (i := 3) (z := 1) (x := v3) (ls2 := [some (.inr (.inr v0)), some (.inr (.inr a1)), some (.inl v2), some (.inl (am_w32 (v3 + 1)))]) (by decide +kernel) rfl (by decide) rfl ?_
  refine ar_goto (pc := 47) (tgt := 4) (off := -43) (by decide +kernel) (by decide) ?_
  exact H h0

/-! ByteIntervals$Text.clear()V -/
theorem B_X5_clear_0 {d : Nat} {Q : Int → am_H → Prop} {h : am_H} {v0 : Int} (t0 : am_kd 321 v0 = 15) (H : wf d M_X5_clear Q 17 [some (.inr (.inr v0)), some (.inl 0)] [] (am_up (am_up (am_up h v0 0 0) v0 5 (-1)) v0 6 0)) : wf d M_X5_clear Q 0 [some (.inr (.inr v0)), none] [] h := by
  intro h0
  refine ar_aload_n (pc := 0) (i := 0) (k0 := 0) (by decide +kernel) rfl rfl ?_
  refine ar_iconst (pc := 1) (z := 0) (by decide +kernel) (by unfold am_i32; omega) ?_
  refine ar_putI (pc := 2) (a := v0) (z := 0) 5 0 (by decide +kernel) t0 rfl (by decide) rfl (fun _ => rfl) rfl wf_RX5_48 ?_
  refine ar_aload_n (pc := 5) (i := 0) (k0 := 0) (by decide +kernel) rfl rfl ?_
  refine ar_iconst (pc := 6) (z := (-1)) (by decide +kernel) (by unfold am_i32; omega) ?_
  refine ar_putI (pc := 7) (a := v0) (z := (-1)) 5 5 (by decide +kernel) t0 rfl (by decide) rfl (fun _ => rfl) rfl wf_RX5_52 ?_
  refine ar_aload_n (pc := 10) (i := 0) (k0 := 0) (by decide +kernel) rfl rfl ?_
  refine ar_iconst (pc := 11) (z := 0) (by decide +kernel) (by unfold am_i32; omega) ?_
  refine ar_putI (pc := 12) (a := v0) (z := 0) 5 6 (by decide +kernel) t0 rfl (by decide) rfl (fun _ => rfl) rfl wf_RX5_55 ?_
  refine ar_iconst (pc := 15) (z := 0) (by decide +kernel) (by unfold am_i32; omega) ?_
  refine ar_istore_n (pc := 16) (i := 1) (k0 := 1) (ls2 := [some (.inr (.inr v0)), some (.inl 0)]) (by decide +kernel) rfl (by decide) rfl ?_
  exact H h0
theorem B_X5_clear_17 {d : Nat} {Q : Int → am_H → Prop} {h : am_H} {v0 v1 : Int} (t0 : am_kd 321 v0 = 15) (H : (8 ≤ v1 → Q 0 h) ∧ (v1 < 8 → (0 ≤ v1) ∧ (wf d M_X5_clear Q 17 [some (.inr (.inr v0)), some (.inl (am_w32 (v1 + 1)))] [] (am_up (am_up (am_up h (v0 + 5) v1 (-1)) (v0 + 9) v1 0) (v0 + 10) v1 0)))) : wf d M_X5_clear Q 17 [some (.inr (.inr v0)), some (.inl v1)] [] h := by
  intro h0
  refine ar_iload_n (pc := 17) (i := 1) (k0 := 1) (by decide +kernel) rfl rfl ?_
  refine ar_bipush (pc := 18) (z := 8) (by decide +kernel) (by omega) ?_
  refine ar_icmp_ge (pc := 20) (x := v1) (y := 8) (tgt := 50) (off := 30) (by decide +kernel) (by decide) (fun c1 => ?_) (fun c1 => ?_)
  · replace H := H.1 c1
    exact ar_vret (pc := 50) (by decide +kernel) rfl rfl H
  · replace H := H.2 c1
    refine ar_aload_n (pc := 23) (i := 0) (k0 := 0) (by decide +kernel) rfl rfl ?_
    refine ar_getFV (pc := 24) (a := v0) (b := (v0 + 5)) 5 7 (by decide +kernel) t0 rfl (by decide) wf_RX5_24 rfl (fun _ => rfl) rfl ?_
    refine ar_iload_n (pc := 27) (i := 1) (k0 := 1) (by decide +kernel) rfl rfl ?_
    refine ar_iconst (pc := 28) (z := (-1)) (by decide +kernel) (by unfold am_i32; omega) ?_
    obtain ⟨g2, H⟩ := H
    refine ar_iast (pc := 29) (a := (v0 + 5)) (i := v1) (z := (-1)) (by decide +kernel) (kX5_7 t0).1 g2 (am_lt_eq c1 ((kX5_7 t0).2).symm) ?_
    refine ar_aload_n (pc := 30) (i := 0) (k0 := 0) (by decide +kernel) rfl rfl ?_
    refine ar_getFV (pc := 31) (a := v0) (b := (v0 + 9)) 5 11 (by decide +kernel) t0 rfl (by decide) wf_RX5_36 rfl (fun _ => rfl) rfl ?_
    refine ar_iload_n (pc := 34) (i := 1) (k0 := 1) (by decide +kernel) rfl rfl ?_
    refine ar_iconst (pc := 35) (z := 0) (by decide +kernel) (by unfold am_i32; omega) ?_
    refine ar_iast (pc := 36) (a := (v0 + 9)) (i := v1) (z := 0) (by decide +kernel) (kX5_11 t0).1 g2 (am_lt_eq c1 ((kX5_11 t0).2).symm) ?_
    refine ar_aload_n (pc := 37) (i := 0) (k0 := 0) (by decide +kernel) rfl rfl ?_
    refine ar_getFV (pc := 38) (a := v0) (b := (v0 + 10)) 5 12 (by decide +kernel) t0 rfl (by decide) wf_RX5_39 rfl (fun _ => rfl) rfl ?_
    refine ar_iload_n (pc := 41) (i := 1) (k0 := 1) (by decide +kernel) rfl rfl ?_
    refine ar_iconst (pc := 42) (z := 0) (by decide +kernel) (by unfold am_i32; omega) ?_
    refine ar_iast (pc := 43) (a := (v0 + 10)) (i := v1) (z := 0) (by decide +kernel) (kX5_12 t0).1 g2 (am_lt_eq c1 ((kX5_12 t0).2).symm) ?_
    refine ar_iinc (pc := 44) (i := 1) (z := 1) (x := v1) (ls2 := [some (.inr (.inr v0)), some (.inl (am_w32 (v1 + 1)))]) (by decide +kernel) rfl (by decide) rfl ?_
    refine ar_goto (pc := 47) (tgt := 17) (off := -30) (by decide +kernel) (by decide) ?_
    exact H h0

/-! ByteIntervals$Text.tells(I)Z -/
theorem B_X5_tells_0 {d : Nat} {Q : Int → am_H → Prop} {h : am_H} {v0 v1 : Int} (t0 : am_kd 321 v0 = 15) (H : cf d M_X6_hasBit [.inl (h v0 6), .inl v1] h (fun r1 h2 => (r1 = 0 ∨ r1 = 1) ∧ (Q r1 h2))) : wf (d + 1) M_X5_tells Q 0 [some (.inr (.inr v0)), some (.inl v1)] [] h := by
  intro h0
  refine ar_aload_n (pc := 0) (i := 0) (k0 := 0) (by decide +kernel) rfl rfl ?_
  refine ar_getV (pc := 1) (a := v0) (v := .inl (h v0 6)) 5 6 (by decide +kernel) t0 rfl (by decide) wf_RX5_55 rfl ?_
  refine ar_iload_n (pc := 4) (i := 1) (k0 := 1) (by decide +kernel) rfl rfl ?_
  refine ar_callSN (pc := 5) (M2 := M_X6_hasBit) (as := [.inl (h v0 6), .inl v1]) (n2 := 321) (st := []) (by decide +kernel) rfl wn_RX5_58 ws_yX6_hasBit wz_RX6 wc_yX6_hasBit ⟨by decide, by decide, rfl⟩ (by decide) (Nat.le_of_ble_eq_true rfl) (Nat.le_refl _) (Nat.le_refl _) (am_Cl_mono H (fun r1 h2 H => ?_))
  show am_Wp true (d + 1) M_X5_tells 321 321 h0 Q 8 [some (.inr (.inr v0)), some (.inl v1)] [.inl r1] 321 h2
  obtain ⟨g3, H⟩ := H
  exact ar_zret (pc := 8) (x := r1) (by decide +kernel) rfl rfl g3 H

/-! ByteIntervals$Text.sort()V -/
theorem B_X5_sort_0 {d : Nat} {Q : Int → am_H → Prop} {h : am_H} {v0 : Int} (t0 : am_kd 321 v0 = 15) (H : wf (d + 1) M_X5_sort Q 9 [some (.inr (.inr v0)), some (.inl 0), some (.inl 0), none] [] (am_up h v0 14 0)) : wf (d + 1) M_X5_sort Q 0 [some (.inr (.inr v0)), none, none, none] [] h := by
  intro h0
  refine ar_aload_n (pc := 0) (i := 0) (k0 := 0) (by decide +kernel) rfl rfl ?_
  refine ar_iconst (pc := 1) (z := 0) (by decide +kernel) (by unfold am_i32; omega) ?_
  refine ar_putI (pc := 2) (a := v0) (z := 0) 5 14 (by decide +kernel) t0 rfl (by decide) rfl (fun _ => rfl) rfl wf_RX5_62 ?_
  refine ar_iconst (pc := 5) (z := 0) (by decide +kernel) (by unfold am_i32; omega) ?_
  refine ar_istore_n (pc := 6) (i := 1) (k0 := 1) (ls2 := [some (.inr (.inr v0)), some (.inl 0), none, none]) (by decide +kernel) rfl (by decide) rfl ?_
  refine ar_iconst (pc := 7) (z := 0) (by decide +kernel) (by unfold am_i32; omega) ?_
  refine ar_istore_n (pc := 8) (i := 2) (k0 := 2) (ls2 := [some (.inr (.inr v0)), some (.inl 0), some (.inl 0), none]) (by decide +kernel) rfl (by decide) rfl ?_
  exact H h0
theorem B_X5_sort_9 {d : Nat} {Q : Int → am_H → Prop} {h : am_H} {v0 v1 v2 : Int} (t0 : am_kd 321 v0 = 15) (H : (8 ≤ v2 → cf d M_X5_gatherNeeded [.inr (.inr v0)] (am_up h v0 15 (am_iand (h v0 6) (am_ixor v1 (-1)))) (fun _ h3 => Q 0 h3)) ∧ (v2 < 8 → cf d M_X5_lowestReady [.inr (.inr v0), .inl v1] h (fun r4 h5 => (r4 = (-1) → wf (d + 1) M_X5_sort Q 46 [some (.inr (.inr v0)), some (.inl v1), some (.inl v2), none] [] h5) ∧ (¬ r4 = (-1) → (0 ≤ v2) ∧ (wf (d + 1) M_X5_sort Q 46 [some (.inr (.inr v0)), some (.inl (am_ior v1 (am_ishl 1 r4))), some (.inl v2), none] [] (am_up (am_up h5 (v0 + 11) v2 r4) v0 14 (am_w32 (v2 + 1)))))))) : wf (d + 1) M_X5_sort Q 9 [some (.inr (.inr v0)), some (.inl v1), some (.inl v2), none] [] h := by
  intro h0
  refine ar_iload_n (pc := 9) (i := 2) (k0 := 2) (by decide +kernel) rfl rfl ?_
  refine ar_bipush (pc := 10) (z := 8) (by decide +kernel) (by omega) ?_
  refine ar_icmp_ge (pc := 12) (x := v2) (y := 8) (tgt := 52) (off := 40) (by decide +kernel) (by decide) (fun c1 => ?_) (fun c1 => ?_)
  · replace H := H.1 c1
    refine ar_aload_n (pc := 52) (i := 0) (k0 := 0) (by decide +kernel) rfl rfl ?_
    refine ar_aload_n (pc := 53) (i := 0) (k0 := 0) (by decide +kernel) rfl rfl ?_
    refine ar_getV (pc := 54) (a := v0) (v := .inl (h v0 6)) 5 6 (by decide +kernel) t0 rfl (by decide) wf_RX5_55 rfl ?_
    refine ar_iload_n (pc := 57) (i := 1) (k0 := 1) (by decide +kernel) rfl rfl ?_
    refine ar_iconst (pc := 58) (z := (-1)) (by decide +kernel) (by unfold am_i32; omega) ?_
    refine ar_ixor (pc := 59) (x := v1) (y := (-1)) (by decide +kernel) ?_
    refine ar_iand (pc := 60) (x := (h v0 6)) (y := (am_ixor v1 (-1))) (by decide +kernel) ?_
    refine ar_putI (pc := 61) (a := v0) (z := (am_iand (h v0 6) (am_ixor v1 (-1)))) 5 15 (by decide +kernel) t0 rfl (by decide) rfl (fun _ => rfl) rfl wf_RX5_69 ?_
    refine ar_aload_n (pc := 64) (i := 0) (k0 := 0) (by decide +kernel) rfl rfl ?_
    refine ar_callV (pc := 65) (M2 := M_X5_gatherNeeded) (a := v0) (ci := 5) (as := []) (n2 := 321) (st := []) (by decide +kernel) rfl wm_RX5_72 wi_yX5_gatherNeeded wl_yX5_gatherNeeded t0 rfl wz_RX5 wc_yX5_gatherNeeded ⟨by decide, by decide, rfl⟩ (by decide) (Nat.le_of_ble_eq_true rfl) (Nat.le_refl _) (Nat.le_refl _) (am_Cl_mono H (fun r2 h3 H => ?_))
    show am_Wp true (d + 1) M_X5_sort 321 321 h0 Q 68 [some (.inr (.inr v0)), some (.inl v1), some (.inl v2), none] [] 321 h3
    exact ar_vret (pc := 68) (by decide +kernel) rfl rfl H
  · replace H := H.2 c1
    refine ar_aload_n (pc := 15) (i := 0) (k0 := 0) (by decide +kernel) rfl rfl ?_
    refine ar_iload_n (pc := 16) (i := 1) (k0 := 1) (by decide +kernel) rfl rfl ?_
    refine ar_callV (pc := 17) (M2 := M_X5_lowestReady) (a := v0) (ci := 5) (as := [.inl v1]) (n2 := 321) (st := []) (by decide +kernel) rfl wm_RX5_65 wi_yX5_lowestReady wl_yX5_lowestReady t0 rfl wz_RX5 wc_yX5_lowestReady ⟨by decide, by decide, rfl⟩ (by decide) (Nat.le_of_ble_eq_true rfl) (Nat.le_refl _) (Nat.le_refl _) (am_Cl_mono H (fun r4 h5 H => ?_))
    show am_Wp true (d + 1) M_X5_sort 321 321 h0 Q 20 [some (.inr (.inr v0)), some (.inl v1), some (.inl v2), none] [.inl r4] 321 h5
    refine ar_istore_n (pc := 20) (i := 3) (k0 := 3) (ls2 := [some (.inr (.inr v0)), some (.inl v1), some (.inl v2), some (.inl r4)]) (by decide +kernel) rfl (by decide) rfl ?_
    refine ar_iload_n (pc := 21) (i := 3) (k0 := 3) (by decide +kernel) rfl rfl ?_
    refine ar_iconst (pc := 22) (z := (-1)) (by decide +kernel) (by unfold am_i32; omega) ?_
    refine ar_icmp_eq (pc := 23) (x := r4) (y := (-1)) (tgt := 46) (off := 23) (by decide +kernel) (by decide) (fun c6 => ?_) (fun c6 => ?_)
    · replace H := H.1 c6
      refine ar_forget [true, true, true, false] rfl ?_
      exact H h0
    · replace H := H.2 c6
      refine ar_iload_n (pc := 26) (i := 1) (k0 := 1) (by decide +kernel) rfl rfl ?_
      refine ar_iconst (pc := 27) (z := 1) (by decide +kernel) (by unfold am_i32; omega) ?_
      refine ar_iload_n (pc := 28) (i := 3) (k0 := 3) (by decide +kernel) rfl rfl ?_
      refine ar_ishl (pc := 29) (x := 1) (y := r4) (by decide +kernel) ?_
      refine ar_ior (pc := 30) (x := v1) (y := (am_ishl 1 r4)) (by decide +kernel) ?_
      refine ar_istore_n (pc := 31) (i := 1) (k0 := 1) (ls2 := [some (.inr (.inr v0)), some (.inl (am_ior v1 (am_ishl 1 r4))), some (.inl v2), some (.inl r4)]) (by decide +kernel) rfl (by decide) rfl ?_
      refine ar_aload_n (pc := 32) (i := 0) (k0 := 0) (by decide +kernel) rfl rfl ?_
      refine ar_getFV (pc := 33) (a := v0) (b := (v0 + 11)) 5 13 (by decide +kernel) t0 rfl (by decide) wf_RX5_42 rfl (fun _ => rfl) rfl ?_
      refine ar_iload_n (pc := 36) (i := 2) (k0 := 2) (by decide +kernel) rfl rfl ?_
      refine ar_iload_n (pc := 37) (i := 3) (k0 := 3) (by decide +kernel) rfl rfl ?_
      obtain ⟨g7, H⟩ := H
      refine ar_iast (pc := 38) (a := (v0 + 11)) (i := v2) (z := r4) (by decide +kernel) (kX5_13 t0).1 g7 (am_lt_eq c1 ((kX5_13 t0).2).symm) ?_
      refine ar_aload_n (pc := 39) (i := 0) (k0 := 0) (by decide +kernel) rfl rfl ?_
      refine ar_iload_n (pc := 40) (i := 2) (k0 := 2) (by decide +kernel) rfl rfl ?_
      refine ar_iconst (pc := 41) (z := 1) (by decide +kernel) (by unfold am_i32; omega) ?_
      refine ar_iadd (pc := 42) (x := v2) (y := 1) (by decide +kernel) ?_
      refine ar_putI (pc := 43) (a := v0) (z := (am_w32 (v2 + 1))) 5 14 (by decide +kernel) t0 rfl (by decide) rfl (fun _ => rfl) rfl wf_RX5_62 ?_
      refine ar_forget [true, true, true, false] rfl ?_
      exact H h0
theorem B_X5_sort_46 {d : Nat} {Q : Int → am_H → Prop} {h : am_H} {v0 v1 v2 : Int} (t0 : am_kd 321 v0 = 15) (H : wf (d + 1) M_X5_sort Q 9 [some (.inr (.inr v0)), some (.inl v1), some (.inl (am_w32 (v2 + 1))), none] [] h) : wf (d + 1) M_X5_sort Q 46 [some (.inr (.inr v0)), some (.inl v1), some (.inl v2), none] [] h := by
  intro h0
  refine ar_iinc (pc := 46) (i := 2) (z := 1) (x := v2) (ls2 := [some (.inr (.inr v0)), some (.inl v1), some (.inl (am_w32 (v2 + 1))), none]) (by decide +kernel) rfl (by decide) rfl ?_
  refine ar_goto (pc := 49) (tgt := 9) (off := -40) (by decide +kernel) (by decide) ?_
  exact H h0

/-! ByteIntervals$Text.lowestReady(I)I -/
theorem B_X5_lowestReady_0 {d : Nat} {Q : Int → am_H → Prop} {h : am_H} {v0 v1 : Int} (t0 : am_kd 321 v0 = 15) (H : wf (d + 1) M_X5_lowestReady Q 2 [some (.inr (.inr v0)), some (.inl v1), some (.inl 0), none] [] h) : wf (d + 1) M_X5_lowestReady Q 0 [some (.inr (.inr v0)), some (.inl v1), none, none] [] h := by
  intro h0
  refine ar_iconst (pc := 0) (z := 0) (by decide +kernel) (by unfold am_i32; omega) ?_
  refine ar_istore_n (pc := 1) (i := 2) (k0 := 2) (ls2 := [some (.inr (.inr v0)), some (.inl v1), some (.inl 0), none]) (by decide +kernel) rfl (by decide) rfl ?_
  exact H h0
theorem B_X5_lowestReady_2 {d : Nat} {Q : Int → am_H → Prop} {h : am_H} {v0 v1 v2 : Int} (t0 : am_kd 321 v0 = 15) (H : (8 ≤ v2 → Q (-1) h) ∧ (v2 < 8 → cf d M_X5_tells [.inr (.inr v0), .inl v2] h (fun r2 h3 => (r2 = 0 → wf (d + 1) M_X5_lowestReady Q 28 [some (.inr (.inr v0)), some (.inl v1), some (.inl v2), none] [] h3) ∧ (¬ r2 = 0 → cf d M_X6_hasBit [.inl v1, .inl v2] h3 (fun r5 h6 => (¬ r5 = 0 → wf (d + 1) M_X5_lowestReady Q 28 [some (.inr (.inr v0)), some (.inl v1), some (.inl v2), none] [] h6) ∧ (r5 = 0 → wf (d + 1) M_X5_lowestReady Q 29 [some (.inr (.inr v0)), some (.inl v1), some (.inl v2), none] [.inl 1] h6)))))) : wf (d + 1) M_X5_lowestReady Q 2 [some (.inr (.inr v0)), some (.inl v1), some (.inl v2), none] [] h := by
  intro h0
  refine ar_iload_n (pc := 2) (i := 2) (k0 := 2) (by decide +kernel) rfl rfl ?_
  refine ar_bipush (pc := 3) (z := 8) (by decide +kernel) (by omega) ?_
  refine ar_icmp_ge (pc := 5) (x := v2) (y := 8) (tgt := 60) (off := 55) (by decide +kernel) (by decide) (fun c1 => ?_) (fun c1 => ?_)
  · replace H := H.1 c1
    refine ar_iconst (pc := 60) (z := (-1)) (by decide +kernel) (by unfold am_i32; omega) ?_
    exact ar_iret (pc := 61) (x := (-1)) (by decide +kernel) rfl rfl H
  · replace H := H.2 c1
    refine ar_aload_n (pc := 8) (i := 0) (k0 := 0) (by decide +kernel) rfl rfl ?_
    refine ar_iload_n (pc := 9) (i := 2) (k0 := 2) (by decide +kernel) rfl rfl ?_
    refine ar_callV (pc := 10) (M2 := M_X5_tells) (a := v0) (ci := 5) (as := [.inl v2]) (n2 := 321) (st := []) (by decide +kernel) rfl wm_RX5_75 wi_yX5_tells wl_yX5_tells t0 rfl wz_RX5 wc_yX5_tells ⟨by decide, by decide, rfl⟩ (by decide) (Nat.le_of_ble_eq_true rfl) (Nat.le_refl _) (Nat.le_refl _) (am_Cl_mono H (fun r2 h3 H => ?_))
    show am_Wp true (d + 1) M_X5_lowestReady 321 321 h0 Q 13 [some (.inr (.inr v0)), some (.inl v1), some (.inl v2), none] [.inl r2] 321 h3
    refine ar_if_eq (pc := 13) (x := r2) (tgt := 28) (off := 15) (by decide +kernel) (by decide) (fun c4 => ?_) (fun c4 => ?_)
    · replace H := H.1 c4
      exact H h0
    · replace H := H.2 c4
      refine ar_iload_n (pc := 16) (i := 1) (k0 := 1) (by decide +kernel) rfl rfl ?_
      refine ar_iload_n (pc := 17) (i := 2) (k0 := 2) (by decide +kernel) rfl rfl ?_
      refine ar_callSN (pc := 18) (M2 := M_X6_hasBit) (as := [.inl v1, .inl v2]) (n2 := 321) (st := []) (by decide +kernel) rfl wn_RX5_58 ws_yX6_hasBit wz_RX6 wc_yX6_hasBit ⟨by decide, by decide, rfl⟩ (by decide) (Nat.le_of_ble_eq_true rfl) (Nat.le_refl _) (Nat.le_refl _) (am_Cl_mono H (fun r5 h6 H => ?_))
      show am_Wp true (d + 1) M_X5_lowestReady 321 321 h0 Q 21 [some (.inr (.inr v0)), some (.inl v1), some (.inl v2), none] [.inl r5] 321 h6
      refine ar_if_ne (pc := 21) (x := r5) (tgt := 28) (off := 7) (by decide +kernel) (by decide) (fun c7 => ?_) (fun c7 => ?_)
      · replace H := H.1 c7
        exact H h0
      · replace H := H.2 c7
        refine ar_iconst (pc := 24) (z := 1) (by decide +kernel) (by unfold am_i32; omega) ?_
        refine ar_goto (pc := 25) (tgt := 29) (off := 4) (by decide +kernel) (by decide) ?_
        exact H h0
theorem B_X5_lowestReady_28 {d : Nat} {Q : Int → am_H → Prop} {h : am_H} {v0 v1 v2 : Int} (t0 : am_kd 321 v0 = 15) (H : wf (d + 1) M_X5_lowestReady Q 29 [some (.inr (.inr v0)), some (.inl v1), some (.inl v2), none] [.inl 0] h) : wf (d + 1) M_X5_lowestReady Q 28 [some (.inr (.inr v0)), some (.inl v1), some (.inl v2), none] [] h := by
  intro h0
  refine ar_iconst (pc := 28) (z := 0) (by decide +kernel) (by unfold am_i32; omega) ?_
  exact H h0
theorem B_X5_lowestReady_29 {d : Nat} {Q : Int → am_H → Prop} {h : am_H} {v0 v1 v2 s0 : Int} (t0 : am_kd 321 v0 = 15) (H : (s0 = 0 → wf (d + 1) M_X5_lowestReady Q 54 [some (.inr (.inr v0)), some (.inl v1), some (.inl v2), none] [] h) ∧ (¬ s0 = 0 → (0 ≤ v2) ∧ ((v2 < 8) ∧ ((¬ (am_iand (am_iand (h (v0 + 9) v2) (h v0 6)) (am_ixor v1 (-1))) = 0 → wf (d + 1) M_X5_lowestReady Q 54 [some (.inr (.inr v0)), some (.inl v1), some (.inl v2), none] [] h) ∧ ((am_iand (am_iand (h (v0 + 9) v2) (h v0 6)) (am_ixor v1 (-1))) = 0 → Q v2 h))))) : wf (d + 1) M_X5_lowestReady Q 29 [some (.inr (.inr v0)), some (.inl v1), some (.inl v2), none] [.inl s0] h := by
  intro h0
  refine ar_istore_n (pc := 29) (i := 3) (k0 := 3) (ls2 := [some (.inr (.inr v0)), some (.inl v1), some (.inl v2), some (.inl s0)]) (by decide +kernel) rfl (by decide) rfl ?_
  refine ar_iload_n (pc := 30) (i := 3) (k0 := 3) (by decide +kernel) rfl rfl ?_
  refine ar_if_eq (pc := 31) (x := s0) (tgt := 54) (off := 23) (by decide +kernel) (by decide) (fun c1 => ?_) (fun c1 => ?_)
  · replace H := H.1 c1
    refine ar_forget [true, true, true, false] rfl ?_
    exact H h0
  · replace H := H.2 c1
    refine ar_aload_n (pc := 34) (i := 0) (k0 := 0) (by decide +kernel) rfl rfl ?_
    refine ar_getFV (pc := 35) (a := v0) (b := (v0 + 9)) 5 11 (by decide +kernel) t0 rfl (by decide) wf_RX5_36 rfl (fun _ => rfl) rfl ?_
    refine ar_iload_n (pc := 38) (i := 2) (k0 := 2) (by decide +kernel) rfl rfl ?_
    obtain ⟨g2, H⟩ := H
    obtain ⟨g3, H⟩ := H
    refine ar_iald (pc := 39) (a := (v0 + 9)) (i := v2) (by decide +kernel) (kX5_11 t0).1 g2 (am_lt_eq g3 ((kX5_11 t0).2).symm) ?_
    refine ar_aload_n (pc := 40) (i := 0) (k0 := 0) (by decide +kernel) rfl rfl ?_
    refine ar_getV (pc := 41) (a := v0) (v := .inl (h v0 6)) 5 6 (by decide +kernel) t0 rfl (by decide) wf_RX5_55 rfl ?_
    refine ar_iand (pc := 44) (x := (h (v0 + 9) v2)) (y := (h v0 6)) (by decide +kernel) ?_
    refine ar_iload_n (pc := 45) (i := 1) (k0 := 1) (by decide +kernel) rfl rfl ?_
    refine ar_iconst (pc := 46) (z := (-1)) (by decide +kernel) (by unfold am_i32; omega) ?_
    refine ar_ixor (pc := 47) (x := v1) (y := (-1)) (by decide +kernel) ?_
    refine ar_iand (pc := 48) (x := (am_iand (h (v0 + 9) v2) (h v0 6))) (y := (am_ixor v1 (-1))) (by decide +kernel) ?_
    refine ar_if_ne (pc := 49) (x := (am_iand (am_iand (h (v0 + 9) v2) (h v0 6)) (am_ixor v1 (-1)))) (tgt := 54) (off := 5) (by decide +kernel) (by decide) (fun c4 => ?_) (fun c4 => ?_)
    · replace H := H.1 c4
      refine ar_forget [true, true, true, false] rfl ?_
      exact H h0
    · replace H := H.2 c4
      refine ar_iload_n (pc := 52) (i := 2) (k0 := 2) (by decide +kernel) rfl rfl ?_
      exact ar_iret (pc := 53) (x := v2) (by decide +kernel) rfl rfl H
theorem B_X5_lowestReady_54 {d : Nat} {Q : Int → am_H → Prop} {h : am_H} {v0 v1 v2 : Int} (t0 : am_kd 321 v0 = 15) (H : wf (d + 1) M_X5_lowestReady Q 2 [some (.inr (.inr v0)), some (.inl v1), some (.inl (am_w32 (v2 + 1))), none] [] h) : wf (d + 1) M_X5_lowestReady Q 54 [some (.inr (.inr v0)), some (.inl v1), some (.inl v2), none] [] h := by
  intro h0
  refine ar_iinc (pc := 54) (i := 2) (z := 1) (x := v2) (ls2 := [some (.inr (.inr v0)), some (.inl v1), some (.inl (am_w32 (v2 + 1))), none]) (by decide +kernel) rfl (by decide) rfl ?_
  refine ar_goto (pc := 57) (tgt := 2) (off := -55) (by decide +kernel) (by decide) ?_
  exact H h0

/-! ByteIntervals$Text.gatherNeeded()V -/
theorem B_X5_gatherNeeded_0 {d : Nat} {Q : Int → am_H → Prop} {h : am_H} {v0 : Int} (t0 : am_kd 321 v0 = 15) (H : wf (d + 1) M_X5_gatherNeeded Q 17 [some (.inr (.inr v0)), some (.inl 0), none, none] [] (am_up (am_up (am_up h v0 18 0) v0 19 0) v0 17 0)) : wf (d + 1) M_X5_gatherNeeded Q 0 [some (.inr (.inr v0)), none, none, none] [] h := by
  intro h0
  refine ar_aload_n (pc := 0) (i := 0) (k0 := 0) (by decide +kernel) rfl rfl ?_
  refine ar_iconst (pc := 1) (z := 0) (by decide +kernel) (by unfold am_i32; omega) ?_
  refine ar_putI (pc := 2) (a := v0) (z := 0) 5 18 (by decide +kernel) t0 rfl (by decide) rfl (fun _ => rfl) rfl wf_RX5_79 ?_
  refine ar_aload_n (pc := 5) (i := 0) (k0 := 0) (by decide +kernel) rfl rfl ?_
  refine ar_iconst (pc := 6) (z := 0) (by decide +kernel) (by unfold am_i32; omega) ?_
  refine ar_putI (pc := 7) (a := v0) (z := 0) 5 19 (by decide +kernel) t0 rfl (by decide) rfl (fun _ => rfl) rfl wf_RX5_82 ?_
  refine ar_aload_n (pc := 10) (i := 0) (k0 := 0) (by decide +kernel) rfl rfl ?_
  refine ar_iconst (pc := 11) (z := 0) (by decide +kernel) (by unfold am_i32; omega) ?_
  refine ar_putZ (pc := 12) (a := v0) (z := 0) 5 17 (by decide +kernel) t0 rfl (by decide) rfl (fun _ => rfl) rfl (by decide) wf_RX5_85 ?_
  refine ar_iconst (pc := 15) (z := 0) (by decide +kernel) (by unfold am_i32; omega) ?_
  refine ar_istore_n (pc := 16) (i := 1) (k0 := 1) (ls2 := [some (.inr (.inr v0)), some (.inl 0), none, none]) (by decide +kernel) rfl (by decide) rfl ?_
  exact H h0
theorem B_X5_gatherNeeded_17 {d : Nat} {Q : Int → am_H → Prop} {h : am_H} {v0 v1 : Int} (t0 : am_kd 321 v0 = 15) (H : (8 ≤ v1 → wf (d + 1) M_X5_gatherNeeded Q 64 [some (.inr (.inr v0)), some (.inl 0), none, none] [] h) ∧ (v1 < 8 → (0 ≤ v1) ∧ ((¬ (h v0 17) = 0 → wf (d + 1) M_X5_gatherNeeded Q 48 [some (.inr (.inr v0)), some (.inl v1), none, none] [.inr (.inr v0)] (am_up h (v0 + 12) v1 0)) ∧ ((h v0 17) = 0 → (¬ (h (v0 + 5) v1) = 1 → wf (d + 1) M_X5_gatherNeeded Q 53 [some (.inr (.inr v0)), some (.inl v1), none, none] [.inl 0, .inr (.inr v0)] (am_up h (v0 + 12) v1 0)) ∧ ((h (v0 + 5) v1) = 1 → wf (d + 1) M_X5_gatherNeeded Q 48 [some (.inr (.inr v0)), some (.inl v1), none, none] [.inr (.inr v0)] (am_up h (v0 + 12) v1 0)))))) : wf (d + 1) M_X5_gatherNeeded Q 17 [some (.inr (.inr v0)), some (.inl v1), none, none] [] h := by
  intro h0
  refine ar_iload_n (pc := 17) (i := 1) (k0 := 1) (by decide +kernel) rfl rfl ?_
  refine ar_bipush (pc := 18) (z := 8) (by decide +kernel) (by omega) ?_
  refine ar_icmp_ge (pc := 20) (x := v1) (y := 8) (tgt := 62) (off := 42) (by decide +kernel) (by decide) (fun c1 => ?_) (fun c1 => ?_)
  · replace H := H.1 c1
    refine ar_iconst (pc := 62) (z := 0) (by decide +kernel) (by unfold am_i32; omega) ?_
    refine ar_istore_n (pc := 63) (i := 1) (k0 := 1) (ls2 := [some (.inr (.inr v0)), some (.inl 0), none, none]) (by decide +kernel) rfl (by decide) rfl ?_
    exact H h0
  · replace H := H.2 c1
    refine ar_aload_n (pc := 23) (i := 0) (k0 := 0) (by decide +kernel) rfl rfl ?_
    refine ar_getFV (pc := 24) (a := v0) (b := (v0 + 12)) 5 16 (by decide +kernel) t0 rfl (by decide) wf_RX5_45 rfl (fun _ => rfl) rfl ?_
    refine ar_iload_n (pc := 27) (i := 1) (k0 := 1) (by decide +kernel) rfl rfl ?_
    refine ar_iconst (pc := 28) (z := 0) (by decide +kernel) (by unfold am_i32; omega) ?_
    obtain ⟨g2, H⟩ := H
    refine ar_iast (pc := 29) (a := (v0 + 12)) (i := v1) (z := 0) (by decide +kernel) (kX5_16 t0).1 g2 (am_lt_eq c1 ((kX5_16 t0).2).symm) ?_
    refine ar_aload_n (pc := 30) (i := 0) (k0 := 0) (by decide +kernel) rfl rfl ?_
    refine ar_aload_n (pc := 31) (i := 0) (k0 := 0) (by decide +kernel) rfl rfl ?_
    refine ar_getV (pc := 32) (a := v0) (v := .inl (h v0 17)) 5 17 (by decide +kernel) t0 rfl (by decide) wf_RX5_85 (by first | rfl | (simp [am_tv, am_ty, tyX5, am_up, am_cp]; done) | (simp [am_tv, am_ty, tyX5, am_up, am_cp] <;> intros <;> omega)) ?_
    refine ar_if_ne (pc := 35) (x := (h v0 17)) (tgt := 48) (off := 13) (by decide +kernel) (by decide) (fun c3 => ?_) (fun c3 => ?_)
    · replace H := H.1 c3
      exact H h0
    · replace H := H.2 c3
      refine ar_aload_n (pc := 38) (i := 0) (k0 := 0) (by decide +kernel) rfl rfl ?_
      refine ar_getFV (pc := 39) (a := v0) (b := (v0 + 5)) 5 7 (by decide +kernel) t0 rfl (by decide) wf_RX5_24 rfl (fun _ => rfl) rfl ?_
      refine ar_iload_n (pc := 42) (i := 1) (k0 := 1) (by decide +kernel) rfl rfl ?_
      refine ar_ialdV (pc := 43) (a := (v0 + 5)) (i := v1) (v := (h (v0 + 5) v1)) (by first | rfl | (simp [am_up, am_cp]; done) | (simp [am_up, am_cp] <;> intros <;> omega)) (by decide +kernel) (kX5_7 t0).1 g2 (am_lt_eq c1 ((kX5_7 t0).2).symm) ?_
      refine ar_iconst (pc := 44) (z := 1) (by decide +kernel) (by unfold am_i32; omega) ?_
      refine ar_icmp_ne (pc := 45) (x := (h (v0 + 5) v1)) (y := 1) (tgt := 52) (off := 7) (by decide +kernel) (by decide) (fun c4 => ?_) (fun c4 => ?_)
      · replace H := H.1 c4
        refine ar_iconst (pc := 52) (z := 0) (by decide +kernel) (by unfold am_i32; omega) ?_
        exact H h0
      · replace H := H.2 c4
        exact H h0
theorem B_X5_gatherNeeded_48 {d : Nat} {Q : Int → am_H → Prop} {h : am_H} {v0 v1 : Int} (t0 : am_kd 321 v0 = 15) (H : wf (d + 1) M_X5_gatherNeeded Q 53 [some (.inr (.inr v0)), some (.inl v1), none, none] [.inl 1, .inr (.inr v0)] h) : wf (d + 1) M_X5_gatherNeeded Q 48 [some (.inr (.inr v0)), some (.inl v1), none, none] [.inr (.inr v0)] h := by
  intro h0
  refine ar_iconst (pc := 48) (z := 1) (by decide +kernel) (by unfold am_i32; omega) ?_
  refine ar_goto (pc := 49) (tgt := 53) (off := 4) (by decide +kernel) (by decide) ?_
  exact H h0
theorem B_X5_gatherNeeded_53 {d : Nat} {Q : Int → am_H → Prop} {h : am_H} {v0 v1 s1 : Int} (t0 : am_kd 321 v0 = 15) (H : (s1 = 0 ∨ s1 = 1) ∧ (wf (d + 1) M_X5_gatherNeeded Q 17 [some (.inr (.inr v0)), some (.inl (am_w32 (v1 + 1))), none, none] [] (am_up h v0 17 s1))) : wf (d + 1) M_X5_gatherNeeded Q 53 [some (.inr (.inr v0)), some (.inl v1), none, none] [.inl s1, .inr (.inr v0)] h := by
  intro h0
  obtain ⟨g1, H⟩ := H
  refine ar_putZ (pc := 53) (a := v0) (z := s1) 5 17 (by decide +kernel) t0 rfl (by decide) rfl (fun _ => rfl) rfl g1 wf_RX5_85 ?_
  refine ar_iinc (pc := 56) (i := 1) (z := 1) (x := v1) (ls2 := [some (.inr (.inr v0)), some (.inl (am_w32 (v1 + 1))), none, none]) (by decide +kernel) rfl (by decide) rfl ?_
  refine ar_goto (pc := 59) (tgt := 17) (off := -42) (by decide +kernel) (by decide) ?_
  exact H h0
theorem B_X5_gatherNeeded_64 {d : Nat} {Q : Int → am_H → Prop} {h : am_H} {v0 v1 : Int} (t0 : am_kd 321 v0 = 15) (H : ((h v0 14) ≤ v1 → Q 0 h) ∧ (v1 < (h v0 14) → (8 ≤ v1 → Q 0 h) ∧ (v1 < 8 → (0 ≤ v1) ∧ (cf d M_X6_isField [.inl (h (v0 + 11) v1)] h (fun r4 h5 => (r4 = 0 → wf (d + 1) M_X5_gatherNeeded Q 205 [some (.inr (.inr v0)), some (.inl v1), none, none] [] h5) ∧ (¬ r4 = 0 → (0 ≤ (h (v0 + 11) v1)) ∧ (((h (v0 + 11) v1) < 8) ∧ (wf (d + 1) M_X5_gatherNeeded Q 103 [some (.inr (.inr v0)), some (.inl v1), some (.inl (h (v0 + 11) v1)), some (.inl 0)] [] (am_up h5 (v0 + 12) (h (v0 + 11) v1) (am_ishl 1 (h (v0 + 11) v1))))))))))) : wf (d + 1) M_X5_gatherNeeded Q 64 [some (.inr (.inr v0)), some (.inl v1), none, none] [] h := by
  intro h0
  refine ar_iload_n (pc := 64) (i := 1) (k0 := 1) (by decide +kernel) rfl rfl ?_
  refine ar_aload_n (pc := 65) (i := 0) (k0 := 0) (by decide +kernel) rfl rfl ?_
  refine ar_getV (pc := 66) (a := v0) (v := .inl (h v0 14)) 5 14 (by decide +kernel) t0 rfl (by decide) wf_RX5_62 rfl ?_
  refine ar_icmp_ge (pc := 69) (x := v1) (y := (h v0 14)) (tgt := 211) (off := 142) (by decide +kernel) (by decide) (fun c1 => ?_) (fun c1 => ?_)
  · replace H := H.1 c1
    exact ar_vret (pc := 211) (by decide +kernel) rfl rfl H
  · replace H := H.2 c1
    refine ar_iload_n (pc := 72) (i := 1) (k0 := 1) (by decide +kernel) rfl rfl ?_
    refine ar_bipush (pc := 73) (z := 8) (by decide +kernel) (by omega) ?_
    refine ar_icmp_ge (pc := 75) (x := v1) (y := 8) (tgt := 211) (off := 136) (by decide +kernel) (by decide) (fun c2 => ?_) (fun c2 => ?_)
    · replace H := H.1 c2
      exact ar_vret (pc := 211) (by decide +kernel) rfl rfl H
    · replace H := H.2 c2
      refine ar_aload_n (pc := 78) (i := 0) (k0 := 0) (by decide +kernel) rfl rfl ?_
      refine ar_getFV (pc := 79) (a := v0) (b := (v0 + 11)) 5 13 (by decide +kernel) t0 rfl (by decide) wf_RX5_42 rfl (fun _ => rfl) rfl ?_
      refine ar_iload_n (pc := 82) (i := 1) (k0 := 1) (by decide +kernel) rfl rfl ?_
      obtain ⟨g3, H⟩ := H
      refine ar_iald (pc := 83) (a := (v0 + 11)) (i := v1) (by decide +kernel) (kX5_13 t0).1 g3 (am_lt_eq c2 ((kX5_13 t0).2).symm) ?_
      refine ar_istore_n (pc := 84) (i := 2) (k0 := 2) (ls2 := [some (.inr (.inr v0)), some (.inl v1), some (.inl (h (v0 + 11) v1)), none]) (by decide +kernel) rfl (by decide) rfl ?_
      refine ar_iload_n (pc := 85) (i := 2) (k0 := 2) (by decide +kernel) rfl rfl ?_
      refine ar_callSN (pc := 86) (M2 := M_X6_isField) (as := [.inl (h (v0 + 11) v1)]) (n2 := 321) (st := []) (by decide +kernel) rfl wn_RX5_89 ws_yX6_isField wz_RX6 wc_yX6_isField ⟨by decide, by decide, rfl⟩ (by decide) (Nat.le_of_ble_eq_true rfl) (Nat.le_refl _) (Nat.le_refl _) (am_Cl_mono H (fun r4 h5 H => ?_))
      show am_Wp true (d + 1) M_X5_gatherNeeded 321 321 h0 Q 89 [some (.inr (.inr v0)), some (.inl v1), some (.inl (h (v0 + 11) v1)), none] [.inl r4] 321 h5
      refine ar_if_eq (pc := 89) (x := r4) (tgt := 205) (off := 116) (by decide +kernel) (by decide) (fun c6 => ?_) (fun c6 => ?_)
      · replace H := H.1 c6
        refine ar_forget [true, true, false, true] rfl ?_
        exact H h0
      · replace H := H.2 c6
        refine ar_aload_n (pc := 92) (i := 0) (k0 := 0) (by decide +kernel) rfl rfl ?_
        refine ar_getFV (pc := 93) (a := v0) (b := (v0 + 12)) 5 16 (by decide +kernel) t0 rfl (by decide) wf_RX5_45 rfl (fun _ => rfl) rfl ?_
        refine ar_iload_n (pc := 96) (i := 2) (k0 := 2) (by decide +kernel) rfl rfl ?_
        refine ar_iconst (pc := 97) (z := 1) (by decide +kernel) (by unfold am_i32; omega) ?_
        refine ar_iload_n (pc := 98) (i := 2) (k0 := 2) (by decide +kernel) rfl rfl ?_
        refine ar_ishl (pc := 99) (x := 1) (y := (h (v0 + 11) v1)) (by decide +kernel) ?_
        obtain ⟨g7, H⟩ := H
        obtain ⟨g8, H⟩ := H
        refine ar_iast (pc := 100) (a := (v0 + 12)) (i := (h (v0 + 11) v1)) (z := (am_ishl 1 (h (v0 + 11) v1))) (by decide +kernel) (kX5_16 t0).1 g7 (am_lt_eq g8 ((kX5_16 t0).2).symm) ?_
        refine ar_iconst (pc := 101) (z := 0) (by decide +kernel) (by unfold am_i32; omega) ?_
        refine ar_istore_n (pc := 102) (i := 3) (k0 := 3) (ls2 := [some (.inr (.inr v0)), some (.inl v1), some (.inl (h (v0 + 11) v1)), some (.inl 0)]) (by decide +kernel) rfl (by decide) rfl ?_
        exact H h0
theorem B_X5_gatherNeeded_103 {d : Nat} {Q : Int → am_H → Prop} {h : am_H} {v0 v1 v2 v3 : Int} (t0 : am_kd 321 v0 = 15) (H : (8 ≤ v3 → (0 ≤ v2) ∧ ((v2 < 8) ∧ ((¬ (h (v0 + 5) v2) = 1 → wf (d + 1) M_X5_gatherNeeded Q 172 [some (.inr (.inr v0)), some (.inl v1), some (.inl v2), none] [.inl 0, .inl (h v0 18), .inr (.inr v0)] h) ∧ ((h (v0 + 5) v2) = 1 → wf (d + 1) M_X5_gatherNeeded Q 172 [some (.inr (.inr v0)), some (.inl v1), some (.inl v2), none] [.inl (h (v0 + 12) v2), .inl (h v0 18), .inr (.inr v0)] h)))) ∧ (v3 < 8 → (0 ≤ v2) ∧ ((v2 < 8) ∧ (cf d M_X6_hasBit [.inl (h (v0 + 9) v2), .inl v3] h (fun r7 h8 => (r7 = 0 → wf (d + 1) M_X5_gatherNeeded Q 139 [some (.inr (.inr v0)), some (.inl v1), some (.inl v2), some (.inl v3)] [.inl 0, .inl (h (v0 + 12) v2), .inl v2, .inr (.inr (v0 + 12))] h8) ∧ (¬ r7 = 0 → (0 ≤ v3) ∧ (wf (d + 1) M_X5_gatherNeeded Q 139 [some (.inr (.inr v0)), some (.inl v1), some (.inl v2), some (.inl v3)] [.inl (h8 (v0 + 12) v3), .inl (h (v0 + 12) v2), .inl v2, .inr (.inr (v0 + 12))] h8))))))) : wf (d + 1) M_X5_gatherNeeded Q 103 [some (.inr (.inr v0)), some (.inl v1), some (.inl v2), some (.inl v3)] [] h := by
  intro h0
  refine ar_iload_n (pc := 103) (i := 3) (k0 := 3) (by decide +kernel) rfl rfl ?_
  refine ar_bipush (pc := 104) (z := 8) (by decide +kernel) (by omega) ?_
  refine ar_icmp_ge (pc := 106) (x := v3) (y := 8) (tgt := 147) (off := 41) (by decide +kernel) (by decide) (fun c1 => ?_) (fun c1 => ?_)
  · replace H := H.1 c1
    refine ar_aload_n (pc := 147) (i := 0) (k0 := 0) (by decide +kernel) rfl rfl ?_
    refine ar_dup (pc := 148) (by decide +kernel) trivial ?_
    refine ar_getV (pc := 149) (a := v0) (v := .inl (h v0 18)) 5 18 (by decide +kernel) t0 rfl (by decide) wf_RX5_79 rfl ?_
    refine ar_aload_n (pc := 152) (i := 0) (k0 := 0) (by decide +kernel) rfl rfl ?_
    refine ar_getFV (pc := 153) (a := v0) (b := (v0 + 5)) 5 7 (by decide +kernel) t0 rfl (by decide) wf_RX5_24 rfl (fun _ => rfl) rfl ?_
    refine ar_iload_n (pc := 156) (i := 2) (k0 := 2) (by decide +kernel) rfl rfl ?_
    obtain ⟨g2, H⟩ := H
    obtain ⟨g3, H⟩ := H
    refine ar_iald (pc := 157) (a := (v0 + 5)) (i := v2) (by decide +kernel) (kX5_7 t0).1 g2 (am_lt_eq g3 ((kX5_7 t0).2).symm) ?_
    refine ar_iconst (pc := 158) (z := 1) (by decide +kernel) (by unfold am_i32; omega) ?_
    refine ar_icmp_ne (pc := 159) (x := (h (v0 + 5) v2)) (y := 1) (tgt := 171) (off := 12) (by decide +kernel) (by decide) (fun c4 => ?_) (fun c4 => ?_)
    · replace H := H.1 c4
      refine ar_iconst (pc := 171) (z := 0) (by decide +kernel) (by unfold am_i32; omega) ?_
      refine ar_forget [true, true, true, false] rfl ?_
      exact H h0
    · replace H := H.2 c4
      refine ar_aload_n (pc := 162) (i := 0) (k0 := 0) (by decide +kernel) rfl rfl ?_
      refine ar_getFV (pc := 163) (a := v0) (b := (v0 + 12)) 5 16 (by decide +kernel) t0 rfl (by decide) wf_RX5_45 rfl (fun _ => rfl) rfl ?_
      refine ar_iload_n (pc := 166) (i := 2) (k0 := 2) (by decide +kernel) rfl rfl ?_
      refine ar_iald (pc := 167) (a := (v0 + 12)) (i := v2) (by decide +kernel) (kX5_16 t0).1 g2 (am_lt_eq g3 ((kX5_16 t0).2).symm) ?_
      refine ar_goto (pc := 168) (tgt := 172) (off := 4) (by decide +kernel) (by decide) ?_
      refine ar_forget [true, true, true, false] rfl ?_
      exact H h0
  · replace H := H.2 c1
    refine ar_aload_n (pc := 109) (i := 0) (k0 := 0) (by decide +kernel) rfl rfl ?_
    refine ar_getFV (pc := 110) (a := v0) (b := (v0 + 12)) 5 16 (by decide +kernel) t0 rfl (by decide) wf_RX5_45 rfl (fun _ => rfl) rfl ?_
    refine ar_iload_n (pc := 113) (i := 2) (k0 := 2) (by decide +kernel) rfl rfl ?_
    refine ar_dup2 (pc := 114) (by decide +kernel) trivial trivial ?_
    obtain ⟨g5, H⟩ := H
    obtain ⟨g6, H⟩ := H
    refine ar_iald (pc := 115) (a := (v0 + 12)) (i := v2) (by decide +kernel) (kX5_16 t0).1 g5 (am_lt_eq g6 ((kX5_16 t0).2).symm) ?_
    refine ar_aload_n (pc := 116) (i := 0) (k0 := 0) (by decide +kernel) rfl rfl ?_
    refine ar_getFV (pc := 117) (a := v0) (b := (v0 + 9)) 5 11 (by decide +kernel) t0 rfl (by decide) wf_RX5_36 rfl (fun _ => rfl) rfl ?_
    refine ar_iload_n (pc := 120) (i := 2) (k0 := 2) (by decide +kernel) rfl rfl ?_
    refine ar_iald (pc := 121) (a := (v0 + 9)) (i := v2) (by decide +kernel) (kX5_11 t0).1 g5 (am_lt_eq g6 ((kX5_11 t0).2).symm) ?_
    refine ar_iload_n (pc := 122) (i := 3) (k0 := 3) (by decide +kernel) rfl rfl ?_
    refine ar_callSN (pc := 123) (M2 := M_X6_hasBit) (as := [.inl (h (v0 + 9) v2), .inl v3]) (n2 := 321) (st := [.inl (h (v0 + 12) v2), .inl v2, .inr (.inr (v0 + 12))]) (by decide +kernel) rfl wn_RX5_58 ws_yX6_hasBit wz_RX6 wc_yX6_hasBit ⟨by decide, by decide, rfl⟩ (by decide) (Nat.le_of_ble_eq_true rfl) (Nat.le_refl _) (Nat.le_refl _) (am_Cl_mono H (fun r7 h8 H => ?_))
    show am_Wp true (d + 1) M_X5_gatherNeeded 321 321 h0 Q 126 [some (.inr (.inr v0)), some (.inl v1), some (.inl v2), some (.inl v3)] [.inl r7, .inl (h (v0 + 12) v2), .inl v2, .inr (.inr (v0 + 12))] 321 h8
    refine ar_if_eq (pc := 126) (x := r7) (tgt := 138) (off := 12) (by decide +kernel) (by decide) (fun c9 => ?_) (fun c9 => ?_)
    · replace H := H.1 c9
      refine ar_iconst (pc := 138) (z := 0) (by decide +kernel) (by unfold am_i32; omega) ?_
      exact H h0
    · replace H := H.2 c9
      refine ar_aload_n (pc := 129) (i := 0) (k0 := 0) (by decide +kernel) rfl rfl ?_
      refine ar_getFV (pc := 130) (a := v0) (b := (v0 + 12)) 5 16 (by decide +kernel) t0 rfl (by decide) wf_RX5_45 rfl (fun _ => rfl) rfl ?_
      refine ar_iload_n (pc := 133) (i := 3) (k0 := 3) (by decide +kernel) rfl rfl ?_
      obtain ⟨g10, H⟩ := H
      refine ar_iald (pc := 134) (a := (v0 + 12)) (i := v3) (by decide +kernel) (kX5_16 t0).1 g10 (am_lt_eq c1 ((kX5_16 t0).2).symm) ?_
      refine ar_goto (pc := 135) (tgt := 139) (off := 4) (by decide +kernel) (by decide) ?_
      exact H h0
theorem B_X5_gatherNeeded_139 {d : Nat} {Q : Int → am_H → Prop} {h : am_H} {v0 v1 v2 v3 s1 s2 s3 : Int} (t0 : am_kd 321 v0 = 15) (H : (0 ≤ s1) ∧ ((s1 < 8) ∧ (wf (d + 1) M_X5_gatherNeeded Q 103 [some (.inr (.inr v0)), some (.inl v1), some (.inl v2), some (.inl (am_w32 (v3 + 1)))] [] (am_up h (v0 + 12) s1 (am_ior s2 s3))))) : wf (d + 1) M_X5_gatherNeeded Q 139 [some (.inr (.inr v0)), some (.inl v1), some (.inl v2), some (.inl v3)] [.inl s3, .inl s2, .inl s1, .inr (.inr (v0 + 12))] h := by
  intro h0
  refine ar_ior (pc := 139) (x := s2) (y := s3) (by decide +kernel) ?_
  obtain ⟨g1, H⟩ := H
  obtain ⟨g2, H⟩ := H
  refine ar_iast (pc := 140) (a := (v0 + 12)) (i := s1) (z := (am_ior s2 s3)) (by decide +kernel) (kX5_16 t0).1 g1 (am_lt_eq g2 ((kX5_16 t0).2).symm) ?_
  refine ar_iinc (pc := 141) (i := 3) (z := 1) (x := v3) (ls2 := [some (.inr (.inr v0)), some (.inl v1), some (.inl v2), some (.inl (am_w32 (v3 + 1)))]) (by decide +kernel) rfl (by decide) rfl ?_
  refine ar_goto (pc := 144) (tgt := 103) (off := -41) (by decide +kernel) (by decide) ?_
  exact H h0
theorem B_X5_gatherNeeded_172 {d : Nat} {Q : Int → am_H → Prop} {h : am_H} {v0 v1 v2 s1 s2 : Int} (t0 : am_kd 321 v0 = 15) (H : (0 ≤ v2) ∧ ((v2 < 8) ∧ ((¬ (h (v0 + 5) v2) = 2 → wf (d + 1) M_X5_gatherNeeded Q 201 [some (.inr (.inr v0)), some (.inl v1), none, none] [.inl 0, .inl (h v0 19), .inr (.inr v0)] (am_up h v0 18 (am_ior s1 s2))) ∧ ((h (v0 + 5) v2) = 2 → wf (d + 1) M_X5_gatherNeeded Q 201 [some (.inr (.inr v0)), some (.inl v1), none, none] [.inl (h (v0 + 12) v2), .inl (h v0 19), .inr (.inr v0)] (am_up h v0 18 (am_ior s1 s2)))))) : wf (d + 1) M_X5_gatherNeeded Q 172 [some (.inr (.inr v0)), some (.inl v1), some (.inl v2), none] [.inl s2, .inl s1, .inr (.inr v0)] h := by
  intro h0
  refine ar_ior (pc := 172) (x := s1) (y := s2) (by decide +kernel) ?_
  refine ar_putI (pc := 173) (a := v0) (z := (am_ior s1 s2)) 5 18 (by decide +kernel) t0 rfl (by decide) rfl (fun _ => rfl) rfl wf_RX5_79 ?_
  refine ar_aload_n (pc := 176) (i := 0) (k0 := 0) (by decide +kernel) rfl rfl ?_
  refine ar_dup (pc := 177) (by decide +kernel) trivial ?_
  refine ar_getV (pc := 178) (a := v0) (v := .inl (h v0 19)) 5 19 (by decide +kernel) t0 rfl (by decide) wf_RX5_82 (by first | rfl | (simp [am_tv, am_ty, tyX5, am_up, am_cp]; done) | (simp [am_tv, am_ty, tyX5, am_up, am_cp] <;> intros <;> omega)) ?_
  refine ar_aload_n (pc := 181) (i := 0) (k0 := 0) (by decide +kernel) rfl rfl ?_
  refine ar_getFV (pc := 182) (a := v0) (b := (v0 + 5)) 5 7 (by decide +kernel) t0 rfl (by decide) wf_RX5_24 rfl (fun _ => rfl) rfl ?_
  refine ar_iload_n (pc := 185) (i := 2) (k0 := 2) (by decide +kernel) rfl rfl ?_
  obtain ⟨g1, H⟩ := H
  obtain ⟨g2, H⟩ := H
  refine ar_ialdV (pc := 186) (a := (v0 + 5)) (i := v2) (v := (h (v0 + 5) v2)) (by first | rfl | (simp [am_up, am_cp]; done) | (simp [am_up, am_cp] <;> intros <;> omega)) (by decide +kernel) (kX5_7 t0).1 g1 (am_lt_eq g2 ((kX5_7 t0).2).symm) ?_
  refine ar_iconst (pc := 187) (z := 2) (by decide +kernel) (by unfold am_i32; omega) ?_
  refine ar_icmp_ne (pc := 188) (x := (h (v0 + 5) v2)) (y := 2) (tgt := 200) (off := 12) (by decide +kernel) (by decide) (fun c3 => ?_) (fun c3 => ?_)
  · replace H := H.1 c3
    refine ar_iconst (pc := 200) (z := 0) (by decide +kernel) (by unfold am_i32; omega) ?_
    refine ar_forget [true, true, false, true] rfl ?_
    exact H h0
  · replace H := H.2 c3
    refine ar_aload_n (pc := 191) (i := 0) (k0 := 0) (by decide +kernel) rfl rfl ?_
    refine ar_getFV (pc := 192) (a := v0) (b := (v0 + 12)) 5 16 (by decide +kernel) t0 rfl (by decide) wf_RX5_45 rfl (fun _ => rfl) rfl ?_
    refine ar_iload_n (pc := 195) (i := 2) (k0 := 2) (by decide +kernel) rfl rfl ?_
    refine ar_ialdV (pc := 196) (a := (v0 + 12)) (i := v2) (v := (h (v0 + 12) v2)) (by first | rfl | (simp [am_up, am_cp]; done) | (simp [am_up, am_cp] <;> intros <;> omega)) (by decide +kernel) (kX5_16 t0).1 g1 (am_lt_eq g2 ((kX5_16 t0).2).symm) ?_
    refine ar_goto (pc := 197) (tgt := 201) (off := 4) (by decide +kernel) (by decide) ?_
    refine ar_forget [true, true, false, true] rfl ?_
    exact H h0
theorem B_X5_gatherNeeded_201 {d : Nat} {Q : Int → am_H → Prop} {h : am_H} {v0 v1 s1 s2 : Int} (t0 : am_kd 321 v0 = 15) (H : wf (d + 1) M_X5_gatherNeeded Q 205 [some (.inr (.inr v0)), some (.inl v1), none, none] [] (am_up h v0 19 (am_ior s1 s2))) : wf (d + 1) M_X5_gatherNeeded Q 201 [some (.inr (.inr v0)), some (.inl v1), none, none] [.inl s2, .inl s1, .inr (.inr v0)] h := by
  intro h0
  refine ar_ior (pc := 201) (x := s1) (y := s2) (by decide +kernel) ?_
  refine ar_putI (pc := 202) (a := v0) (z := (am_ior s1 s2)) 5 19 (by decide +kernel) t0 rfl (by decide) rfl (fun _ => rfl) rfl wf_RX5_82 ?_
  exact H h0
theorem B_X5_gatherNeeded_205 {d : Nat} {Q : Int → am_H → Prop} {h : am_H} {v0 v1 : Int} (t0 : am_kd 321 v0 = 15) (H : wf (d + 1) M_X5_gatherNeeded Q 64 [some (.inr (.inr v0)), some (.inl (am_w32 (v1 + 1))), none, none] [] h) : wf (d + 1) M_X5_gatherNeeded Q 205 [some (.inr (.inr v0)), some (.inl v1), none, none] [] h := by
  intro h0
  refine ar_iinc (pc := 205) (i := 1) (z := 1) (x := v1) (ls2 := [some (.inr (.inr v0)), some (.inl (am_w32 (v1 + 1))), none, none]) (by decide +kernel) rfl (by decide) rfl ?_
  refine ar_goto (pc := 208) (tgt := 64) (off := -144) (by decide +kernel) (by decide) ?_
  exact H h0

/-! ByteIntervals$Text.mostOf(I)I -/
theorem B_X5_mostOf_0 {d : Nat} {Q : Int → am_H → Prop} {h : am_H} {v0 v1 : Int} (t0 : am_kd 321 v0 = 15) (H : cf d M_X6_isField [.inl v1] h (fun r1 h2 => (r1 = 0 → wf (d + 1) M_X5_mostOf Q 17 [none, none] [.inl (-1)] h2) ∧ (¬ r1 = 0 → (0 ≤ v1) ∧ ((v1 < 8) ∧ (wf (d + 1) M_X5_mostOf Q 17 [none, none] [.inl (h2 (v0 + 5) v1)] h2))))) : wf (d + 1) M_X5_mostOf Q 0 [some (.inr (.inr v0)), some (.inl v1)] [] h := by
  intro h0
  refine ar_iload_n (pc := 0) (i := 1) (k0 := 1) (by decide +kernel) rfl rfl ?_
  refine ar_callSN (pc := 1) (M2 := M_X6_isField) (as := [.inl v1]) (n2 := 321) (st := []) (by decide +kernel) rfl wn_RX5_89 ws_yX6_isField wz_RX6 wc_yX6_isField ⟨by decide, by decide, rfl⟩ (by decide) (Nat.le_of_ble_eq_true rfl) (Nat.le_refl _) (Nat.le_refl _) (am_Cl_mono H (fun r1 h2 H => ?_))
  show am_Wp true (d + 1) M_X5_mostOf 321 321 h0 Q 4 [some (.inr (.inr v0)), some (.inl v1)] [.inl r1] 321 h2
  refine ar_if_eq (pc := 4) (x := r1) (tgt := 16) (off := 12) (by decide +kernel) (by decide) (fun c3 => ?_) (fun c3 => ?_)
  · replace H := H.1 c3
    refine ar_iconst (pc := 16) (z := (-1)) (by decide +kernel) (by unfold am_i32; omega) ?_
    refine ar_forget [false, false] rfl ?_
    exact H h0
  · replace H := H.2 c3
    refine ar_aload_n (pc := 7) (i := 0) (k0 := 0) (by decide +kernel) rfl rfl ?_
    refine ar_getFV (pc := 8) (a := v0) (b := (v0 + 5)) 5 7 (by decide +kernel) t0 rfl (by decide) wf_RX5_24 rfl (fun _ => rfl) rfl ?_
    refine ar_iload_n (pc := 11) (i := 1) (k0 := 1) (by decide +kernel) rfl rfl ?_
    obtain ⟨g4, H⟩ := H
    obtain ⟨g5, H⟩ := H
    refine ar_iald (pc := 12) (a := (v0 + 5)) (i := v1) (by decide +kernel) (kX5_7 t0).1 g4 (am_lt_eq g5 ((kX5_7 t0).2).symm) ?_
    refine ar_goto (pc := 13) (tgt := 17) (off := 4) (by decide +kernel) (by decide) ?_
    refine ar_forget [false, false] rfl ?_
    exact H h0
theorem B_X5_mostOf_17 {d : Nat} {Q : Int → am_H → Prop} {h : am_H} {s0 : Int} (H : (s0 < 0 ∨ 2 < s0 → Q (-1) h) ∧ (s0 = 0 → Q 16777215 h) ∧ (s0 = 1 → Q 255 h) ∧ (s0 = 2 → Q 9 h)) : wf (d + 1) M_X5_mostOf Q 17 [none, none] [.inl s0] h := by
  intro h0
  refine ar_table (pc := 17) (dflt := 37) (lo := 0) (hi := 2) (offs := #[27, 30, 34]) (len := 27) (x := s0) (dt := 54) [44, 47, 51] (by decide +kernel) (by decide) (by decide) (by decide) (fun c1 => ?_) (And.intro (fun c1 => ?_) (And.intro (fun c1 => ?_) (And.intro (fun c1 => ?_) (True.intro))))
  · replace H := H.1 c1
    refine ar_iconst (pc := 54) (z := (-1)) (by decide +kernel) (by unfold am_i32; omega) ?_
    exact ar_iret (pc := 55) (x := (-1)) (by decide +kernel) rfl rfl H
  · replace H := H.2.1 c1
    refine ar_ldc (pc := 44) (z := 16777215) (by decide +kernel) wk_RX5_92 (by unfold am_i32; omega) ?_
    exact ar_iret (pc := 46) (x := 16777215) (by decide +kernel) rfl rfl H
  · replace H := H.2.2.1 c1
    refine ar_sipush (pc := 47) (z := 255) (by decide +kernel) (by omega) ?_
    exact ar_iret (pc := 50) (x := 255) (by decide +kernel) rfl rfl H
  · replace H := H.2.2.2 c1
    refine ar_bipush (pc := 51) (z := 9) (by decide +kernel) (by omega) ?_
    exact ar_iret (pc := 53) (x := 9) (by decide +kernel) rfl rfl H

