/-! ByteIntervals.feed(IIIII)I -/
theorem B_X6_feed_0 {d : Nat} {Q : Int → am_H → Prop} {h : am_H} {v1 v2 v3 v4 v5 : Int} (H : ((h 1 1) < 0 → Q (-1) h) ∧ (0 ≤ (h 1 1) → ((am_w32 ((h 1 1) + 20)) ≤ 300 → cf d M_X6_putOnTape [.inr (.inr 1), .inl v1] h (fun _ h4 => cf d M_X6_putOnTape [.inr (.inr 1), .inl v2] h4 (fun _ h6 => cf d M_X6_putOnTape [.inr (.inr 1), .inl v3] h6 (fun _ h8 => cf d M_X6_putOnTape [.inr (.inr 1), .inl v4] h8 (fun _ h10 => cf d M_X6_putOnTape [.inr (.inr 1), .inl v5] h10 (fun _ h12 => Q (h12 1 1) h12)))))) ∧ (300 < (am_w32 ((h 1 1) + 20)) → Q (-1) h))) : wf (d + 1) M_X6_feed Q 0 [some (.inr (.inr 1)), some (.inl v1), some (.inl v2), some (.inl v3), some (.inl v4), some (.inl v5)] [] h := by
  intro h0
  refine ar_aload_n (pc := 0) (i := 0) (k0 := 0) (by decide +kernel) rfl rfl ?_
  refine ar_getV (pc := 1) (a := 1) (v := .inl (h 1 1)) 6 1 (by decide +kernel) k_1 rfl (by decide) wf_RX6_13 rfl ?_
  refine ar_if_lt (pc := 4) (x := (h 1 1)) (tgt := 20) (off := 16) (by decide +kernel) (by decide) (fun c1 => ?_) (fun c1 => ?_)
  · replace H := H.1 c1
    refine ar_iconst (pc := 20) (z := (-1)) (by decide +kernel) (by unfold am_i32; omega) ?_
    exact ar_iret (pc := 21) (x := (-1)) (by decide +kernel) rfl rfl H
  · replace H := H.2 c1
    refine ar_aload_n (pc := 7) (i := 0) (k0 := 0) (by decide +kernel) rfl rfl ?_
    refine ar_getV (pc := 8) (a := 1) (v := .inl (h 1 1)) 6 1 (by decide +kernel) k_1 rfl (by decide) wf_RX6_13 rfl ?_
    refine ar_bipush (pc := 11) (z := 20) (by decide +kernel) (by omega) ?_
    refine ar_iadd (pc := 13) (x := (h 1 1)) (y := 20) (by decide +kernel) ?_
    refine ar_sipush (pc := 14) (z := 300) (by decide +kernel) (by omega) ?_
    refine ar_icmp_le (pc := 17) (x := (am_w32 ((h 1 1) + 20))) (y := 300) (tgt := 22) (off := 5) (by decide +kernel) (by decide) (fun c2 => ?_) (fun c2 => ?_)
    · replace H := H.1 c2
      refine ar_aload_n (pc := 22) (i := 0) (k0 := 0) (by decide +kernel) rfl rfl ?_
      refine ar_iload_n (pc := 23) (i := 1) (k0 := 1) (by decide +kernel) rfl rfl ?_
      refine ar_callV (pc := 24) (M2 := M_X6_putOnTape) (a := 1) (ci := 6) (as := [.inl v1]) (n2 := 321) (st := []) (by decide +kernel) rfl wm_RX6_61 wi_yX6_putOnTape wl_yX6_putOnTape k_1 rfl wz_RX6 wc_yX6_putOnTape ⟨by decide, by decide, rfl⟩ (by decide) (Nat.le_of_ble_eq_true rfl) (Nat.le_refl _) (Nat.le_refl _) (am_Cl_mono H (fun r3 h4 H => ?_))
      show am_Wp true (d + 1) M_X6_feed 321 321 h0 Q 27 [some (.inr (.inr 1)), some (.inl v1), some (.inl v2), some (.inl v3), some (.inl v4), some (.inl v5)] [] 321 h4
      refine ar_aload_n (pc := 27) (i := 0) (k0 := 0) (by decide +kernel) rfl rfl ?_
      refine ar_iload_n (pc := 28) (i := 2) (k0 := 2) (by decide +kernel) rfl rfl ?_
      refine ar_callV (pc := 29) (M2 := M_X6_putOnTape) (a := 1) (ci := 6) (as := [.inl v2]) (n2 := 321) (st := []) (by decide +kernel) rfl wm_RX6_61 wi_yX6_putOnTape wl_yX6_putOnTape k_1 rfl wz_RX6 wc_yX6_putOnTape ⟨by decide, by decide, rfl⟩ (by decide) (Nat.le_of_ble_eq_true rfl) (Nat.le_refl _) (Nat.le_refl _) (am_Cl_mono H (fun r5 h6 H => ?_))
      show am_Wp true (d + 1) M_X6_feed 321 321 h0 Q 32 [some (.inr (.inr 1)), some (.inl v1), some (.inl v2), some (.inl v3), some (.inl v4), some (.inl v5)] [] 321 h6
      refine ar_aload_n (pc := 32) (i := 0) (k0 := 0) (by decide +kernel) rfl rfl ?_
      refine ar_iload_n (pc := 33) (i := 3) (k0 := 3) (by decide +kernel) rfl rfl ?_
      refine ar_callV (pc := 34) (M2 := M_X6_putOnTape) (a := 1) (ci := 6) (as := [.inl v3]) (n2 := 321) (st := []) (by decide +kernel) rfl wm_RX6_61 wi_yX6_putOnTape wl_yX6_putOnTape k_1 rfl wz_RX6 wc_yX6_putOnTape ⟨by decide, by decide, rfl⟩ (by decide) (Nat.le_of_ble_eq_true rfl) (Nat.le_refl _) (Nat.le_refl _) (am_Cl_mono H (fun r7 h8 H => ?_))
      show am_Wp true (d + 1) M_X6_feed 321 321 h0 Q 37 [some (.inr (.inr 1)), some (.inl v1), some (.inl v2), some (.inl v3), some (.inl v4), some (.inl v5)] [] 321 h8
      refine ar_aload_n (pc := 37) (i := 0) (k0 := 0) (by decide +kernel) rfl rfl ?_
      refine ar_iload (pc := 38) (i := 4) (by decide +kernel) rfl ?_
      refine ar_callV (pc := 40) (M2 := M_X6_putOnTape) (a := 1) (ci := 6) (as := [.inl v4]) (n2 := 321) (st := []) (by decide +kernel) rfl wm_RX6_61 wi_yX6_putOnTape wl_yX6_putOnTape k_1 rfl wz_RX6 wc_yX6_putOnTape ⟨by decide, by decide, rfl⟩ (by decide) (Nat.le_of_ble_eq_true rfl) (Nat.le_refl _) (Nat.le_refl _) (am_Cl_mono H (fun r9 h10 H => ?_))
      show am_Wp true (d + 1) M_X6_feed 321 321 h0 Q 43 [some (.inr (.inr 1)), some (.inl v1), some (.inl v2), some (.inl v3), some (.inl v4), some (.inl v5)] [] 321 h10
      refine ar_aload_n (pc := 43) (i := 0) (k0 := 0) (by decide +kernel) rfl rfl ?_
      refine ar_iload (pc := 44) (i := 5) (by decide +kernel) rfl ?_
      refine ar_callV (pc := 46) (M2 := M_X6_putOnTape) (a := 1) (ci := 6) (as := [.inl v5]) (n2 := 321) (st := []) (by decide +kernel) rfl wm_RX6_61 wi_yX6_putOnTape wl_yX6_putOnTape k_1 rfl wz_RX6 wc_yX6_putOnTape ⟨by decide, by decide, rfl⟩ (by decide) (Nat.le_of_ble_eq_true rfl) (Nat.le_refl _) (Nat.le_refl _) (am_Cl_mono H (fun r11 h12 H => ?_))
      show am_Wp true (d + 1) M_X6_feed 321 321 h0 Q 49 [some (.inr (.inr 1)), some (.inl v1), some (.inl v2), some (.inl v3), some (.inl v4), some (.inl v5)] [] 321 h12
      refine ar_aload_n (pc := 49) (i := 0) (k0 := 0) (by decide +kernel) rfl rfl ?_
      refine ar_getV (pc := 50) (a := 1) (v := .inl (h12 1 1)) 6 1 (by decide +kernel) k_1 rfl (by decide) wf_RX6_13 rfl ?_
      exact ar_iret (pc := 53) (x := (h12 1 1)) (by decide +kernel) rfl rfl H
    · replace H := H.2 c2
      refine ar_iconst (pc := 20) (z := (-1)) (by decide +kernel) (by unfold am_i32; omega) ?_
      exact ar_iret (pc := 21) (x := (-1)) (by decide +kernel) rfl rfl H

/-! ByteIntervals.putOnTape(I)V -/
theorem B_X6_putOnTape_0 {d : Nat} {Q : Int → am_H → Prop} {h : am_H} {v1 : Int} (H : wf d M_X6_putOnTape Q 3 [some (.inr (.inr 1)), some (.inl v1), some (.inl 24)] [] h) : wf d M_X6_putOnTape Q 0 [some (.inr (.inr 1)), some (.inl v1), none] [] h := by
  intro h0
  refine ar_bipush (pc := 0) (z := 24) (by decide +kernel) (by omega) ?_
  refine ar_istore_n (pc := 2) (i := 2) (k0 := 2) (ls2 := [some (.inr (.inr 1)), some (.inl v1), some (.inl 24)]) (by decide +kernel) rfl (by decide) rfl ?_
  exact H h0
theorem B_X6_putOnTape_3 {d : Nat} {Q : Int → am_H → Prop} {h : am_H} {v1 v2 : Int} (H : (v2 < 0 → Q 0 h) ∧ (0 ≤ v2 → ((h 1 1) < 0 → wf d M_X6_putOnTape Q 52 [some (.inr (.inr 1)), some (.inl v1), some (.inl v2)] [] h) ∧ (0 ≤ (h 1 1) → (300 ≤ (h 1 1) → wf d M_X6_putOnTape Q 52 [some (.inr (.inr 1)), some (.inl v1), some (.inl v2)] [] h) ∧ ((h 1 1) < 300 → wf d M_X6_putOnTape Q 52 [some (.inr (.inr 1)), some (.inl v1), some (.inl v2)] [] (am_up (am_up h 2 (h 1 1) (am_iand (am_ishr v1 v2) 255)) 1 1 (am_w32 ((h 1 1) + 1))))))) : wf d M_X6_putOnTape Q 3 [some (.inr (.inr 1)), some (.inl v1), some (.inl v2)] [] h := by
  intro h0
  refine ar_iload_n (pc := 3) (i := 2) (k0 := 2) (by decide +kernel) rfl rfl ?_
  refine ar_if_lt (pc := 4) (x := v2) (tgt := 58) (off := 54) (by decide +kernel) (by decide) (fun c1 => ?_) (fun c1 => ?_)
  · replace H := H.1 c1
    exact ar_vret (pc := 58) (by decide +kernel) rfl rfl H
  · replace H := H.2 c1
    refine ar_aload_n (pc := 7) (i := 0) (k0 := 0) (by decide +kernel) rfl rfl ?_
    refine ar_getV (pc := 8) (a := 1) (v := .inl (h 1 1)) 6 1 (by decide +kernel) k_1 rfl (by decide) wf_RX6_13 rfl ?_
    refine ar_if_lt (pc := 11) (x := (h 1 1)) (tgt := 52) (off := 41) (by decide +kernel) (by decide) (fun c2 => ?_) (fun c2 => ?_)
    · replace H := H.1 c2
      exact H h0
    · replace H := H.2 c2
      refine ar_aload_n (pc := 14) (i := 0) (k0 := 0) (by decide +kernel) rfl rfl ?_
      refine ar_getV (pc := 15) (a := 1) (v := .inl (h 1 1)) 6 1 (by decide +kernel) k_1 rfl (by decide) wf_RX6_13 rfl ?_
      refine ar_aload_n (pc := 18) (i := 0) (k0 := 0) (by decide +kernel) rfl rfl ?_
      refine ar_getFV (pc := 19) (a := 1) (b := 2) 6 0 (by decide +kernel) k_1 rfl (by decide) wf_RX6_9 rfl (fun _ => rfl) rfl ?_
      refine ar_alen (pc := 22) (a := 2) (by decide +kernel) (by rw [k_2]; decide) ?_
      rw [l_2]
      refine ar_icmp_ge (pc := 23) (x := (h 1 1)) (y := 300) (tgt := 52) (off := 29) (by decide +kernel) (by decide) (fun c3 => ?_) (fun c3 => ?_)
      · replace H := H.1 c3
        exact H h0
      · replace H := H.2 c3
        refine ar_aload_n (pc := 26) (i := 0) (k0 := 0) (by decide +kernel) rfl rfl ?_
        refine ar_getFV (pc := 27) (a := 1) (b := 2) 6 0 (by decide +kernel) k_1 rfl (by decide) wf_RX6_9 rfl (fun _ => rfl) rfl ?_
        refine ar_aload_n (pc := 30) (i := 0) (k0 := 0) (by decide +kernel) rfl rfl ?_
        refine ar_getV (pc := 31) (a := 1) (v := .inl (h 1 1)) 6 1 (by decide +kernel) k_1 rfl (by decide) wf_RX6_13 rfl ?_
        refine ar_iload_n (pc := 34) (i := 1) (k0 := 1) (by decide +kernel) rfl rfl ?_
        refine ar_iload_n (pc := 35) (i := 2) (k0 := 2) (by decide +kernel) rfl rfl ?_
        refine ar_ishr (pc := 36) (x := v1) (y := v2) (by decide +kernel) ?_
        refine ar_sipush (pc := 37) (z := 255) (by decide +kernel) (by omega) ?_
        refine ar_iand (pc := 40) (x := (am_ishr v1 v2)) (y := 255) (by decide +kernel) ?_
        refine ar_iast (pc := 41) (a := 2) (i := (h 1 1)) (z := (am_iand (am_ishr v1 v2) 255)) (by decide +kernel) k_2 c2 (am_lt_eq c3 (l_2).symm) ?_
        refine ar_aload_n (pc := 42) (i := 0) (k0 := 0) (by decide +kernel) rfl rfl ?_
        refine ar_dup (pc := 43) (by decide +kernel) trivial ?_
        refine ar_getV (pc := 44) (a := 1) (v := .inl (h 1 1)) 6 1 (by decide +kernel) k_1 rfl (by decide) wf_RX6_13 (by first | rfl | (simp [am_tv, am_ty, tyX6, am_up, am_cp]; done) | (simp [am_tv, am_ty, tyX6, am_up, am_cp] <;> intros <;> omega)) ?_
        refine ar_iconst (pc := 47) (z := 1) (by decide +kernel) (by unfold am_i32; omega) ?_
        refine ar_iadd (pc := 48) (x := (h 1 1)) (y := 1) (by decide +kernel) ?_
        refine ar_putI (pc := 49) (a := 1) (z := (am_w32 ((h 1 1) + 1))) 6 1 (by decide +kernel) k_1 rfl (by decide) rfl (fun _ => rfl) rfl wf_RX6_13 ?_
        exact H h0
theorem B_X6_putOnTape_52 {d : Nat} {Q : Int → am_H → Prop} {h : am_H} {v1 v2 : Int} (H : wf d M_X6_putOnTape Q 3 [some (.inr (.inr 1)), some (.inl v1), some (.inl (am_w32 (v2 + (-8))))] [] h) : wf d M_X6_putOnTape Q 52 [some (.inr (.inr 1)), some (.inl v1), some (.inl v2)] [] h := by
  intro h0
  refine ar_iinc (pc := 52) (i := 2) (z := (-8)) (x := v2) (ls2 := [some (.inr (.inr 1)), some (.inl v1), some (.inl (am_w32 (v2 + (-8))))]) (by decide +kernel) rfl (by decide) rfl ?_
  refine ar_goto (pc := 55) (tgt := 3) (off := -52) (by decide +kernel) (by decide) ?_
  exact H h0

/-! ByteIntervals.end(I)I -/
theorem B_X6_end_0 {d : Nat} {Q : Int → am_H → Prop} {h : am_H} {v1 : Int} (H : (v1 < 0 → Q (-1) h) ∧ (0 ≤ v1 → (v1 ≤ (h 1 1) → Q v1 (am_up h 1 1 v1)) ∧ ((h 1 1) < v1 → Q (-1) h))) : wf d M_X6_end Q 0 [some (.inr (.inr 1)), some (.inl v1)] [] h := by
  intro h0
  refine ar_iload_n (pc := 0) (i := 1) (k0 := 1) (by decide +kernel) rfl rfl ?_
  refine ar_if_lt (pc := 1) (x := v1) (tgt := 12) (off := 11) (by decide +kernel) (by decide) (fun c1 => ?_) (fun c1 => ?_)
  · replace H := H.1 c1
    refine ar_iconst (pc := 12) (z := (-1)) (by decide +kernel) (by unfold am_i32; omega) ?_
    exact ar_iret (pc := 13) (x := (-1)) (by decide +kernel) rfl rfl H
  · replace H := H.2 c1
    refine ar_iload_n (pc := 4) (i := 1) (k0 := 1) (by decide +kernel) rfl rfl ?_
    refine ar_aload_n (pc := 5) (i := 0) (k0 := 0) (by decide +kernel) rfl rfl ?_
    refine ar_getV (pc := 6) (a := 1) (v := .inl (h 1 1)) 6 1 (by decide +kernel) k_1 rfl (by decide) wf_RX6_13 rfl ?_
    refine ar_icmp_le (pc := 9) (x := v1) (y := (h 1 1)) (tgt := 14) (off := 5) (by decide +kernel) (by decide) (fun c2 => ?_) (fun c2 => ?_)
    · replace H := H.1 c2
      refine ar_aload_n (pc := 14) (i := 0) (k0 := 0) (by decide +kernel) rfl rfl ?_
      refine ar_iload_n (pc := 15) (i := 1) (k0 := 1) (by decide +kernel) rfl rfl ?_
      refine ar_putI (pc := 16) (a := 1) (z := v1) 6 1 (by decide +kernel) k_1 rfl (by decide) rfl (fun _ => rfl) rfl wf_RX6_13 ?_
      refine ar_iload_n (pc := 19) (i := 1) (k0 := 1) (by decide +kernel) rfl rfl ?_
      exact ar_iret (pc := 20) (x := v1) (by decide +kernel) rfl rfl H
    · replace H := H.2 c2
      refine ar_iconst (pc := 12) (z := (-1)) (by decide +kernel) (by unfold am_i32; omega) ?_
      exact ar_iret (pc := 13) (x := (-1)) (by decide +kernel) rfl rfl H

/-! ByteIntervals.text()I -/
theorem B_X6_text_0 {d : Nat} {Q : Int → am_H → Prop} {h : am_H} (H : ((h 4 4) < 0 → Q (-1) h) ∧ (0 ≤ (h 4 4) → (4 ≤ (h 4 4) → Q (-1) h) ∧ ((h 4 4) < 4 → (0 ≤ (3 + 239 + 13 * (h 4 4))) ∧ ((1 ≤ (3 + 239 + 13 * (h 4 4)) → cf d M_X1_parse [.inr (.inr 201), .inr (.inr 2), .inl (h 1 1), .inr (.inr (3 + 239 + 13 * (h 4 4)))] h (fun r5 h6 => (¬ r5 = 0 → wf (d + 1) M_X6_text Q 76 [some (.inr (.inr 1)), some (.inl (h 4 4))] [.inl (h6 201 13), .inr (.inr 1)] (am_up h6 1 2 r5)) ∧ (r5 = 0 → wf (d + 1) M_X6_text Q 76 [some (.inr (.inr 1)), some (.inl (h 4 4))] [.inl (-1), .inr (.inr 1)] (am_up h6 1 2 r5)))) ∧ ((3 + 239 + 13 * (h 4 4)) = 0 → Q (-1) h))))) : wf (d + 1) M_X6_text Q 0 [some (.inr (.inr 1)), none] [] h := by
  intro h0
  refine ar_aload_n (pc := 0) (i := 0) (k0 := 0) (by decide +kernel) rfl rfl ?_
  refine ar_getFV (pc := 1) (a := 1) (b := 4) 6 5 (by decide +kernel) k_1 rfl (by decide) wf_RX6_32 rfl (fun _ => rfl) rfl ?_
  refine ar_getNV (pc := 4) (a := 4) (v := .inl (h 4 4)) 4 4 (by decide +kernel) k_4 rfl (by decide) wg_RX6_65 rfl ?_
  refine ar_istore_n (pc := 7) (i := 1) (k0 := 1) (ls2 := [some (.inr (.inr 1)), some (.inl (h 4 4))]) (by decide +kernel) rfl (by decide) rfl ?_
  refine ar_iload_n (pc := 8) (i := 1) (k0 := 1) (by decide +kernel) rfl rfl ?_
  refine ar_if_lt (pc := 9) (x := (h 4 4)) (tgt := 30) (off := 21) (by decide +kernel) (by decide) (fun c1 => ?_) (fun c1 => ?_)
  · replace H := H.1 c1
    refine ar_iconst (pc := 30) (z := (-1)) (by decide +kernel) (by unfold am_i32; omega) ?_
    exact ar_iret (pc := 31) (x := (-1)) (by decide +kernel) rfl rfl H
  · replace H := H.2 c1
    refine ar_iload_n (pc := 12) (i := 1) (k0 := 1) (by decide +kernel) rfl rfl ?_
    refine ar_aload_n (pc := 13) (i := 0) (k0 := 0) (by decide +kernel) rfl rfl ?_
    refine ar_getFV (pc := 14) (a := 1) (b := 3) 6 4 (by decide +kernel) k_1 rfl (by decide) wf_RX6_25 rfl (fun _ => rfl) rfl ?_
    refine ar_alen (pc := 17) (a := 3) (by decide +kernel) (by rw [k_3]; decide) ?_
    rw [l_3]
    refine ar_icmp_ge (pc := 18) (x := (h 4 4)) (y := 4) (tgt := 30) (off := 12) (by decide +kernel) (by decide) (fun c2 => ?_) (fun c2 => ?_)
    · replace H := H.1 c2
      refine ar_iconst (pc := 30) (z := (-1)) (by decide +kernel) (by unfold am_i32; omega) ?_
      exact ar_iret (pc := 31) (x := (-1)) (by decide +kernel) rfl rfl H
    · replace H := H.2 c2
      refine ar_aload_n (pc := 21) (i := 0) (k0 := 0) (by decide +kernel) rfl rfl ?_
      refine ar_getFV (pc := 22) (a := 1) (b := 3) 6 4 (by decide +kernel) k_1 rfl (by decide) wf_RX6_25 rfl (fun _ => rfl) rfl ?_
      refine ar_iload_n (pc := 25) (i := 1) (k0 := 1) (by decide +kernel) rfl rfl ?_
      refine ar_aaldT (pc := 26) (a := 3) (i := (h 4 4)) (by decide +kernel) k_3 c1 (am_lt_eq c2 (l_3).symm) ?_
      obtain ⟨g4, H⟩ := H
      refine ar_ifnonnull (pc := 27) (x := (3 + 239 + 13 * (h 4 4))) (tgt := 32) (off := 5) (by decide +kernel) (by decide) g4 (fun c3 => ?_) (fun c3 => ?_)
      · replace H := H.1 c3
        refine ar_aload_n (pc := 32) (i := 0) (k0 := 0) (by decide +kernel) rfl rfl ?_
        refine ar_aload_n (pc := 33) (i := 0) (k0 := 0) (by decide +kernel) rfl rfl ?_
        refine ar_getFV (pc := 34) (a := 1) (b := 201) 6 8 (by decide +kernel) k_1 rfl (by decide) wf_RX6_49 rfl (fun _ => rfl) rfl ?_
        refine ar_aload_n (pc := 37) (i := 0) (k0 := 0) (by decide +kernel) rfl rfl ?_
        refine ar_getFV (pc := 38) (a := 1) (b := 2) 6 0 (by decide +kernel) k_1 rfl (by decide) wf_RX6_9 rfl (fun _ => rfl) rfl ?_
        refine ar_aload_n (pc := 41) (i := 0) (k0 := 0) (by decide +kernel) rfl rfl ?_
        refine ar_getV (pc := 42) (a := 1) (v := .inl (h 1 1)) 6 1 (by decide +kernel) k_1 rfl (by decide) wf_RX6_13 rfl ?_
        refine ar_aload_n (pc := 45) (i := 0) (k0 := 0) (by decide +kernel) rfl rfl ?_
        refine ar_getFV (pc := 46) (a := 1) (b := 3) 6 4 (by decide +kernel) k_1 rfl (by decide) wf_RX6_25 rfl (fun _ => rfl) rfl ?_
        refine ar_iload_n (pc := 49) (i := 1) (k0 := 1) (by decide +kernel) rfl rfl ?_
        refine ar_aaldT (pc := 50) (a := 3) (i := (h 4 4)) (by decide +kernel) k_3 c1 (am_lt_eq c2 (l_3).symm) ?_
        refine ar_callVN (pc := 51) (M2 := M_X1_parse) (a := 201) (ci := 1) (as := [.inr (.inr 2), .inl (h 1 1), .inr (.inr (3 + 239 + 13 * (h 4 4)))]) (n2 := 321) (st := [.inr (.inr 1)]) (by decide +kernel) rfl wn_RX6_68 wi_yX1_parse wl_yX1_parse k_201 rfl wz_RX1 wc_yX1_parse ⟨by decide, by decide, rfl⟩ (by decide) (Nat.le_of_ble_eq_true rfl) (Nat.le_refl _) (Nat.le_refl _) (am_Cl_mono H (fun r5 h6 H => ?_))
        show am_Wp true (d + 1) M_X6_text 321 321 h0 Q 54 [some (.inr (.inr 1)), some (.inl (h 4 4))] [.inl r5, .inr (.inr 1)] 321 h6
        refine ar_putI (pc := 54) (a := 1) (z := r5) 6 2 (by decide +kernel) k_1 rfl (by decide) rfl (fun _ => rfl) rfl wf_RX6_17 ?_
        refine ar_aload_n (pc := 57) (i := 0) (k0 := 0) (by decide +kernel) rfl rfl ?_
        refine ar_aload_n (pc := 58) (i := 0) (k0 := 0) (by decide +kernel) rfl rfl ?_
        refine ar_getV (pc := 59) (a := 1) (v := .inl r5) 6 2 (by decide +kernel) k_1 rfl (by decide) wf_RX6_17 (by first | rfl | (simp [am_tv, am_ty, tyX6, am_up, am_cp]; done) | (simp [am_tv, am_ty, tyX6, am_up, am_cp] <;> intros <;> omega)) ?_
        refine ar_if_ne (pc := 62) (x := r5) (tgt := 69) (off := 7) (by decide +kernel) (by decide) (fun c7 => ?_) (fun c7 => ?_)
        · replace H := H.1 c7
          refine ar_aload_n (pc := 69) (i := 0) (k0 := 0) (by decide +kernel) rfl rfl ?_
          refine ar_getFV (pc := 70) (a := 1) (b := 201) 6 8 (by decide +kernel) k_1 rfl (by decide) wf_RX6_49 rfl (fun _ => rfl) rfl ?_
          refine ar_getNV (pc := 73) (a := 201) (v := .inl (h6 201 13)) 1 13 (by decide +kernel) k_201 rfl (by decide) wg_RX6_72 (by first | rfl | (simp [am_tv, am_ty, tyX1, am_up, am_cp]; done) | (simp [am_tv, am_ty, tyX1, am_up, am_cp] <;> intros <;> omega)) ?_
          exact H h0
        · replace H := H.2 c7
          refine ar_iconst (pc := 65) (z := (-1)) (by decide +kernel) (by unfold am_i32; omega) ?_
          refine ar_goto (pc := 66) (tgt := 76) (off := 10) (by decide +kernel) (by decide) ?_
          exact H h0
      · replace H := H.2 c3
        refine ar_iconst (pc := 30) (z := (-1)) (by decide +kernel) (by unfold am_i32; omega) ?_
        exact ar_iret (pc := 31) (x := (-1)) (by decide +kernel) rfl rfl H
theorem B_X6_text_76 {d : Nat} {Q : Int → am_H → Prop} {h : am_H} {v1 s1 : Int} (H : ((h 1 2) = 0 → Q v1 (am_up (am_up (am_up h 1 3 s1) 1 1 0) 4 4 (am_w32 (v1 + 1)))) ∧ (¬ (h 1 2) = 0 → Q (-1) (am_up (am_up h 1 3 s1) 1 1 0))) : wf (d + 1) M_X6_text Q 76 [some (.inr (.inr 1)), some (.inl v1)] [.inl s1, .inr (.inr 1)] h := by
  intro h0
  refine ar_putI (pc := 76) (a := 1) (z := s1) 6 3 (by decide +kernel) k_1 rfl (by decide) rfl (fun _ => rfl) rfl wf_RX6_20 ?_
  refine ar_aload_n (pc := 79) (i := 0) (k0 := 0) (by decide +kernel) rfl rfl ?_
  refine ar_iconst (pc := 80) (z := 0) (by decide +kernel) (by unfold am_i32; omega) ?_
  refine ar_putI (pc := 81) (a := 1) (z := 0) 6 1 (by decide +kernel) k_1 rfl (by decide) rfl (fun _ => rfl) rfl wf_RX6_13 ?_
  refine ar_aload_n (pc := 84) (i := 0) (k0 := 0) (by decide +kernel) rfl rfl ?_
  refine ar_getV (pc := 85) (a := 1) (v := .inl (h 1 2)) 6 2 (by decide +kernel) k_1 rfl (by decide) wf_RX6_17 (by first | rfl | (simp [am_tv, am_ty, tyX6, am_up, am_cp]; done) | (simp [am_tv, am_ty, tyX6, am_up, am_cp] <;> intros <;> omega)) ?_
  refine ar_if_eq (pc := 88) (x := (h 1 2)) (tgt := 93) (off := 5) (by decide +kernel) (by decide) (fun c1 => ?_) (fun c1 => ?_)
  · replace H := H.1 c1
    refine ar_aload_n (pc := 93) (i := 0) (k0 := 0) (by decide +kernel) rfl rfl ?_
    refine ar_getFV (pc := 94) (a := 1) (b := 4) 6 5 (by decide +kernel) k_1 rfl (by decide) wf_RX6_32 rfl (fun _ => rfl) rfl ?_
    refine ar_iload_n (pc := 97) (i := 1) (k0 := 1) (by decide +kernel) rfl rfl ?_
    refine ar_iconst (pc := 98) (z := 1) (by decide +kernel) (by unfold am_i32; omega) ?_
    refine ar_iadd (pc := 99) (x := v1) (y := 1) (by decide +kernel) ?_
    refine ar_putIN (pc := 100) (a := 4) (z := (am_w32 (v1 + 1))) 4 4 (by decide +kernel) k_4 rfl (by decide) rfl (fun _ => rfl) rfl wg_RX6_65 ?_
    refine ar_iload_n (pc := 103) (i := 1) (k0 := 1) (by decide +kernel) rfl rfl ?_
    exact ar_iret (pc := 104) (x := v1) (by decide +kernel) rfl rfl H
  · replace H := H.2 c1
    refine ar_iconst (pc := 91) (z := (-1)) (by decide +kernel) (by unfold am_i32; omega) ?_
    exact ar_iret (pc := 92) (x := (-1)) (by decide +kernel) rfl rfl H

/-! ByteIntervals.fault(I)I -/
theorem B_X6_fault_0 {d : Nat} {Q : Int → am_H → Prop} {h : am_H} {v1 : Int} (H : (¬ v1 = 0 → (¬ v1 = 1 → Q (-1) h) ∧ (v1 = 1 → Q (h 1 3) h)) ∧ (v1 = 0 → Q (h 1 2) h)) : wf d M_X6_fault Q 0 [some (.inr (.inr 1)), some (.inl v1)] [] h := by
  intro h0
  refine ar_iload_n (pc := 0) (i := 1) (k0 := 1) (by decide +kernel) rfl rfl ?_
  refine ar_if_ne (pc := 1) (x := v1) (tgt := 9) (off := 8) (by decide +kernel) (by decide) (fun c1 => ?_) (fun c1 => ?_)
  · replace H := H.1 c1
    refine ar_iload_n (pc := 9) (i := 1) (k0 := 1) (by decide +kernel) rfl rfl ?_
    refine ar_iconst (pc := 10) (z := 1) (by decide +kernel) (by unfold am_i32; omega) ?_
    refine ar_icmp_ne (pc := 11) (x := v1) (y := 1) (tgt := 21) (off := 10) (by decide +kernel) (by decide) (fun c2 => ?_) (fun c2 => ?_)
    · replace H := H.1 c2
      refine ar_iconst (pc := 21) (z := (-1)) (by decide +kernel) (by unfold am_i32; omega) ?_
      exact ar_iret (pc := 22) (x := (-1)) (by decide +kernel) rfl rfl H
    · replace H := H.2 c2
      refine ar_aload_n (pc := 14) (i := 0) (k0 := 0) (by decide +kernel) rfl rfl ?_
      refine ar_getV (pc := 15) (a := 1) (v := .inl (h 1 3)) 6 3 (by decide +kernel) k_1 rfl (by decide) wf_RX6_20 rfl ?_
      refine ar_goto (pc := 18) (tgt := 22) (off := 4) (by decide +kernel) (by decide) ?_
      exact ar_iret (pc := 22) (x := (h 1 3)) (by decide +kernel) rfl rfl H
  · replace H := H.2 c1
    refine ar_aload_n (pc := 4) (i := 0) (k0 := 0) (by decide +kernel) rfl rfl ?_
    refine ar_getV (pc := 5) (a := 1) (v := .inl (h 1 2)) 6 2 (by decide +kernel) k_1 rfl (by decide) wf_RX6_17 rfl ?_
    exact ar_iret (pc := 8) (x := (h 1 2)) (by decide +kernel) rfl rfl H

/-! ByteIntervals.textAt(I)LByteIntervals$Text; -/
theorem B_X6_textAt_0 {d : Nat} {Q : Int → am_H → Prop} {h : am_H} {v1 : Int} (H : (v1 < 0 → wf d M_X6_textAt Q 28 [some (.inr (.inr 1)), some (.inl v1), none] [] h) ∧ (0 ≤ v1 → ((h 4 4) ≤ v1 → wf d M_X6_textAt Q 28 [some (.inr (.inr 1)), some (.inl v1), none] [] h) ∧ (v1 < (h 4 4) → (4 ≤ v1 → wf d M_X6_textAt Q 28 [some (.inr (.inr 1)), some (.inl v1), none] [] h) ∧ (v1 < 4 → wf d M_X6_textAt Q 29 [some (.inr (.inr 1)), some (.inl v1), none] [.inl 1] h)))) : wf d M_X6_textAt Q 0 [some (.inr (.inr 1)), some (.inl v1), none] [] h := by
  intro h0
  refine ar_iload_n (pc := 0) (i := 1) (k0 := 1) (by decide +kernel) rfl rfl ?_
  refine ar_if_lt (pc := 1) (x := v1) (tgt := 28) (off := 27) (by decide +kernel) (by decide) (fun c1 => ?_) (fun c1 => ?_)
  · replace H := H.1 c1
    exact H h0
  · replace H := H.2 c1
    refine ar_iload_n (pc := 4) (i := 1) (k0 := 1) (by decide +kernel) rfl rfl ?_
    refine ar_aload_n (pc := 5) (i := 0) (k0 := 0) (by decide +kernel) rfl rfl ?_
    refine ar_getFV (pc := 6) (a := 1) (b := 4) 6 5 (by decide +kernel) k_1 rfl (by decide) wf_RX6_32 rfl (fun _ => rfl) rfl ?_
    refine ar_getNV (pc := 9) (a := 4) (v := .inl (h 4 4)) 4 4 (by decide +kernel) k_4 rfl (by decide) wg_RX6_65 rfl ?_
    refine ar_icmp_ge (pc := 12) (x := v1) (y := (h 4 4)) (tgt := 28) (off := 16) (by decide +kernel) (by decide) (fun c2 => ?_) (fun c2 => ?_)
    · replace H := H.1 c2
      exact H h0
    · replace H := H.2 c2
      refine ar_iload_n (pc := 15) (i := 1) (k0 := 1) (by decide +kernel) rfl rfl ?_
      refine ar_aload_n (pc := 16) (i := 0) (k0 := 0) (by decide +kernel) rfl rfl ?_
      refine ar_getFV (pc := 17) (a := 1) (b := 3) 6 4 (by decide +kernel) k_1 rfl (by decide) wf_RX6_25 rfl (fun _ => rfl) rfl ?_
      refine ar_alen (pc := 20) (a := 3) (by decide +kernel) (by rw [k_3]; decide) ?_
      rw [l_3]
      refine ar_icmp_ge (pc := 21) (x := v1) (y := 4) (tgt := 28) (off := 7) (by decide +kernel) (by decide) (fun c3 => ?_) (fun c3 => ?_)
      · replace H := H.1 c3
        exact H h0
      · replace H := H.2 c3
        refine ar_iconst (pc := 24) (z := 1) (by decide +kernel) (by unfold am_i32; omega) ?_
        refine ar_goto (pc := 25) (tgt := 29) (off := 4) (by decide +kernel) (by decide) ?_
        exact H h0
theorem B_X6_textAt_28 {d : Nat} {Q : Int → am_H → Prop} {h : am_H} {v1 : Int} (H : wf d M_X6_textAt Q 29 [some (.inr (.inr 1)), some (.inl v1), none] [.inl 0] h) : wf d M_X6_textAt Q 28 [some (.inr (.inr 1)), some (.inl v1), none] [] h := by
  intro h0
  refine ar_iconst (pc := 28) (z := 0) (by decide +kernel) (by unfold am_i32; omega) ?_
  exact H h0
theorem B_X6_textAt_29 {d : Nat} {Q : Int → am_H → Prop} {h : am_H} {v1 s0 : Int} (H : (s0 = 0 → Q 0 h) ∧ (¬ s0 = 0 → (0 ≤ v1) ∧ ((v1 < 4) ∧ (Q (3 + 239 + 13 * v1) h)))) : wf d M_X6_textAt Q 29 [some (.inr (.inr 1)), some (.inl v1), none] [.inl s0] h := by
  intro h0
  refine ar_istore_n (pc := 29) (i := 2) (k0 := 2) (ls2 := [some (.inr (.inr 1)), some (.inl v1), some (.inl s0)]) (by decide +kernel) rfl (by decide) rfl ?_
  refine ar_iload_n (pc := 30) (i := 2) (k0 := 2) (by decide +kernel) rfl rfl ?_
  refine ar_if_eq (pc := 31) (x := s0) (tgt := 43) (off := 12) (by decide +kernel) (by decide) (fun c1 => ?_) (fun c1 => ?_)
  · replace H := H.1 c1
    refine ar_null (pc := 43) (by decide +kernel) ?_
    exact ar_aret (pc := 44) (x := 0) (by decide +kernel) rfl rfl H
  · replace H := H.2 c1
    refine ar_aload_n (pc := 34) (i := 0) (k0 := 0) (by decide +kernel) rfl rfl ?_
    refine ar_getFV (pc := 35) (a := 1) (b := 3) 6 4 (by decide +kernel) k_1 rfl (by decide) wf_RX6_25 rfl (fun _ => rfl) rfl ?_
    refine ar_iload_n (pc := 38) (i := 1) (k0 := 1) (by decide +kernel) rfl rfl ?_
    obtain ⟨g2, H⟩ := H
    obtain ⟨g3, H⟩ := H
    refine ar_aaldT (pc := 39) (a := 3) (i := v1) (by decide +kernel) k_3 g2 (am_lt_eq g3 (l_3).symm) ?_
    refine ar_goto (pc := 40) (tgt := 44) (off := 4) (by decide +kernel) (by decide) ?_
    exact ar_aret (pc := 44) (x := (3 + 239 + 13 * v1)) (by decide +kernel) rfl rfl H

/-! ByteIntervals.theText()LByteIntervals$Text; -/
theorem B_X6_theText_0 {d : Nat} {Q : Int → am_H → Prop} {h : am_H} (H : cf d M_X6_textAt [.inr (.inr 1), .inl (h 4 5)] h (fun r1 h2 => Q r1 h2)) : wf (d + 1) M_X6_theText Q 0 [some (.inr (.inr 1))] [] h := by
  intro h0
  refine ar_aload_n (pc := 0) (i := 0) (k0 := 0) (by decide +kernel) rfl rfl ?_
  refine ar_aload_n (pc := 1) (i := 0) (k0 := 0) (by decide +kernel) rfl rfl ?_
  refine ar_getFV (pc := 2) (a := 1) (b := 4) 6 5 (by decide +kernel) k_1 rfl (by decide) wf_RX6_32 rfl (fun _ => rfl) rfl ?_
  refine ar_getNV (pc := 5) (a := 4) (v := .inl (h 4 5)) 4 5 (by decide +kernel) k_4 rfl (by decide) wg_RX6_75 rfl ?_
  refine ar_callV (pc := 8) (M2 := M_X6_textAt) (a := 1) (ci := 6) (as := [.inl (h 4 5)]) (n2 := 321) (st := []) (by decide +kernel) rfl wm_RX6_78 wi_yX6_textAt wl_yX6_textAt k_1 rfl wz_RX6 wc_yX6_textAt ⟨by decide, by decide, rfl⟩ (by decide) (Nat.le_of_ble_eq_true rfl) (Nat.le_refl _) (Nat.le_refl _) (am_Cl_mono H (fun r1 h2 H => ?_))
  show am_Wp true (d + 1) M_X6_theText 321 321 h0 Q 11 [some (.inr (.inr 1))] [.inr (.inr r1)] 321 h2
  exact ar_aret (pc := 11) (x := r1) (by decide +kernel) rfl rfl H

/-! ByteIntervals.by(I)Z -/
theorem B_X6_by_0 {d : Nat} {Q : Int → am_H → Prop} {h : am_H} {v1 : Int} (H : (v1 = (-1) → wf (d + 1) M_X6_by Q 15 [some (.inr (.inr 1)), some (.inl v1)] [] h) ∧ (¬ v1 = (-1) → cf d M_X6_textAt [.inr (.inr 1), .inl v1] h (fun r2 h3 => (0 ≤ r2) ∧ ((1 ≤ r2 → wf (d + 1) M_X6_by Q 15 [some (.inr (.inr 1)), some (.inl v1)] [] h3) ∧ (r2 = 0 → Q 0 h3))))) : wf (d + 1) M_X6_by Q 0 [some (.inr (.inr 1)), some (.inl v1)] [] h := by
  intro h0
  refine ar_iload_n (pc := 0) (i := 1) (k0 := 1) (by decide +kernel) rfl rfl ?_
  refine ar_iconst (pc := 1) (z := (-1)) (by decide +kernel) (by unfold am_i32; omega) ?_
  refine ar_icmp_eq (pc := 2) (x := v1) (y := (-1)) (tgt := 15) (off := 13) (by decide +kernel) (by decide) (fun c1 => ?_) (fun c1 => ?_)
  · replace H := H.1 c1
    exact H h0
  · replace H := H.2 c1
    refine ar_aload_n (pc := 5) (i := 0) (k0 := 0) (by decide +kernel) rfl rfl ?_
    refine ar_iload_n (pc := 6) (i := 1) (k0 := 1) (by decide +kernel) rfl rfl ?_
    refine ar_callV (pc := 7) (M2 := M_X6_textAt) (a := 1) (ci := 6) (as := [.inl v1]) (n2 := 321) (st := []) (by decide +kernel) rfl wm_RX6_78 wi_yX6_textAt wl_yX6_textAt k_1 rfl wz_RX6 wc_yX6_textAt ⟨by decide, by decide, rfl⟩ (by decide) (Nat.le_of_ble_eq_true rfl) (Nat.le_refl _) (Nat.le_refl _) (am_Cl_mono H (fun r2 h3 H => ?_))
    show am_Wp true (d + 1) M_X6_by 321 321 h0 Q 10 [some (.inr (.inr 1)), some (.inl v1)] [.inr (.inr r2)] 321 h3
    obtain ⟨g5, H⟩ := H
    refine ar_ifnonnull (pc := 10) (x := r2) (tgt := 15) (off := 5) (by decide +kernel) (by decide) g5 (fun c4 => ?_) (fun c4 => ?_)
    · replace H := H.1 c4
      exact H h0
    · replace H := H.2 c4
      refine ar_iconst (pc := 13) (z := 0) (by decide +kernel) (by unfold am_i32; omega) ?_
      exact ar_zret (pc := 14) (x := 0) (by decide +kernel) rfl rfl (by decide) H
theorem B_X6_by_15 {d : Nat} {Q : Int → am_H → Prop} {h : am_H} {v1 : Int} (H : Q 1 (am_up h 4 5 v1)) : wf (d + 1) M_X6_by Q 15 [some (.inr (.inr 1)), some (.inl v1)] [] h := by
  intro h0
  refine ar_aload_n (pc := 15) (i := 0) (k0 := 0) (by decide +kernel) rfl rfl ?_
  refine ar_getFV (pc := 16) (a := 1) (b := 4) 6 5 (by decide +kernel) k_1 rfl (by decide) wf_RX6_32 rfl (fun _ => rfl) rfl ?_
  refine ar_iload_n (pc := 19) (i := 1) (k0 := 1) (by decide +kernel) rfl rfl ?_
  refine ar_putIN (pc := 20) (a := 4) (z := v1) 4 5 (by decide +kernel) k_4 rfl (by decide) rfl (fun _ => rfl) rfl wg_RX6_75 ?_
  refine ar_iconst (pc := 23) (z := 1) (by decide +kernel) (by unfold am_i32; omega) ?_
  exact ar_zret (pc := 24) (x := 1) (by decide +kernel) rfl rfl (by decide) H

/-! ByteIntervals.set(II)Z -/
theorem B_X6_set_0 {d : Nat} {Q : Int → am_H → Prop} {h : am_H} {v1 v2 : Int} (H : cf d M_X0_canPut [.inr (.inr 5), .inl v1, .inl v2] h (fun r1 h2 => (¬ r1 = 0 → cf d M_X4_keepStep [.inr (.inr 4)] h2 (fun _ h5 => cf d M_X0_putByte [.inr (.inr 5), .inl v1, .inl v2] h5 (fun _ h7 => Q 1 h7))) ∧ (r1 = 0 → Q 0 h2))) : wf (d + 1) M_X6_set Q 0 [some (.inr (.inr 1)), some (.inl v1), some (.inl v2)] [] h := by
  intro h0
  refine ar_aload_n (pc := 0) (i := 0) (k0 := 0) (by decide +kernel) rfl rfl ?_
  refine ar_getFV (pc := 1) (a := 1) (b := 4) 6 5 (by decide +kernel) k_1 rfl (by decide) wf_RX6_32 rfl (fun _ => rfl) rfl ?_
  refine ar_getFNV (pc := 4) (a := 4) (b := 5) 4 0 (by decide +kernel) k_4 rfl (by decide) wg_RX6_82 rfl (fun _ => rfl) rfl ?_
  refine ar_iload_n (pc := 7) (i := 1) (k0 := 1) (by decide +kernel) rfl rfl ?_
  refine ar_iload_n (pc := 8) (i := 2) (k0 := 2) (by decide +kernel) rfl rfl ?_
  refine ar_callVN (pc := 9) (M2 := M_X0_canPut) (a := 5) (ci := 0) (as := [.inl v1, .inl v2]) (n2 := 321) (st := []) (by decide +kernel) rfl wn_RX6_85 wi_yX0_canPut wl_yX0_canPut k_5 rfl wz_RX0 wc_yX0_canPut ⟨by decide, by decide, rfl⟩ (by decide) (Nat.le_of_ble_eq_true rfl) (Nat.le_refl _) (Nat.le_refl _) (am_Cl_mono H (fun r1 h2 H => ?_))
  show am_Wp true (d + 1) M_X6_set 321 321 h0 Q 12 [some (.inr (.inr 1)), some (.inl v1), some (.inl v2)] [.inl r1] 321 h2
  refine ar_if_ne (pc := 12) (x := r1) (tgt := 17) (off := 5) (by decide +kernel) (by decide) (fun c3 => ?_) (fun c3 => ?_)
  · replace H := H.1 c3
    refine ar_aload_n (pc := 17) (i := 0) (k0 := 0) (by decide +kernel) rfl rfl ?_
    refine ar_getFV (pc := 18) (a := 1) (b := 4) 6 5 (by decide +kernel) k_1 rfl (by decide) wf_RX6_32 rfl (fun _ => rfl) rfl ?_
    refine ar_callVN (pc := 21) (M2 := M_X4_keepStep) (a := 4) (ci := 4) (as := []) (n2 := 321) (st := []) (by decide +kernel) rfl wn_RX6_89 wi_yX4_keepStep wl_yX4_keepStep k_4 rfl wz_RX4 wc_yX4_keepStep ⟨by decide, by decide, rfl⟩ (by decide) (Nat.le_of_ble_eq_true rfl) (Nat.le_refl _) (Nat.le_refl _) (am_Cl_mono H (fun r4 h5 H => ?_))
    show am_Wp true (d + 1) M_X6_set 321 321 h0 Q 24 [some (.inr (.inr 1)), some (.inl v1), some (.inl v2)] [] 321 h5
    refine ar_aload_n (pc := 24) (i := 0) (k0 := 0) (by decide +kernel) rfl rfl ?_
    refine ar_getFV (pc := 25) (a := 1) (b := 4) 6 5 (by decide +kernel) k_1 rfl (by decide) wf_RX6_32 rfl (fun _ => rfl) rfl ?_
    refine ar_getFNV (pc := 28) (a := 4) (b := 5) 4 0 (by decide +kernel) k_4 rfl (by decide) wg_RX6_82 rfl (fun _ => rfl) rfl ?_
    refine ar_iload_n (pc := 31) (i := 1) (k0 := 1) (by decide +kernel) rfl rfl ?_
    refine ar_iload_n (pc := 32) (i := 2) (k0 := 2) (by decide +kernel) rfl rfl ?_
    refine ar_callVN (pc := 33) (M2 := M_X0_putByte) (a := 5) (ci := 0) (as := [.inl v1, .inl v2]) (n2 := 321) (st := []) (by decide +kernel) rfl wn_RX6_92 wi_yX0_putByte wl_yX0_putByte k_5 rfl wz_RX0 wc_yX0_putByte ⟨by decide, by decide, rfl⟩ (by decide) (Nat.le_of_ble_eq_true rfl) (Nat.le_refl _) (Nat.le_refl _) (am_Cl_mono H (fun r6 h7 H => ?_))
    show am_Wp true (d + 1) M_X6_set 321 321 h0 Q 36 [some (.inr (.inr 1)), some (.inl v1), some (.inl v2)] [] 321 h7
    refine ar_iconst (pc := 36) (z := 1) (by decide +kernel) (by unfold am_i32; omega) ?_
    exact ar_zret (pc := 37) (x := 1) (by decide +kernel) rfl rfl (by decide) H
  · replace H := H.2 c3
    refine ar_iconst (pc := 15) (z := 0) (by decide +kernel) (by unfold am_i32; omega) ?_
    exact ar_zret (pc := 16) (x := 0) (by decide +kernel) rfl rfl (by decide) H

/-! ByteIntervals.size(I)Z -/
theorem B_X6_size_0 {d : Nat} {Q : Int → am_H → Prop} {h : am_H} {v1 : Int} (H : cf d M_X0_canResize [.inr (.inr 5), .inl v1] h (fun r1 h2 => (¬ r1 = 0 → cf d M_X4_keepStep [.inr (.inr 4)] h2 (fun _ h5 => cf d M_X0_resize [.inr (.inr 5), .inl v1] h5 (fun _ h7 => Q 1 h7))) ∧ (r1 = 0 → Q 0 h2))) : wf (d + 1) M_X6_size Q 0 [some (.inr (.inr 1)), some (.inl v1)] [] h := by
  intro h0
  refine ar_aload_n (pc := 0) (i := 0) (k0 := 0) (by decide +kernel) rfl rfl ?_
  refine ar_getFV (pc := 1) (a := 1) (b := 4) 6 5 (by decide +kernel) k_1 rfl (by decide) wf_RX6_32 rfl (fun _ => rfl) rfl ?_
  refine ar_getFNV (pc := 4) (a := 4) (b := 5) 4 0 (by decide +kernel) k_4 rfl (by decide) wg_RX6_82 rfl (fun _ => rfl) rfl ?_
  refine ar_iload_n (pc := 7) (i := 1) (k0 := 1) (by decide +kernel) rfl rfl ?_
  refine ar_callVN (pc := 8) (M2 := M_X0_canResize) (a := 5) (ci := 0) (as := [.inl v1]) (n2 := 321) (st := []) (by decide +kernel) rfl wn_RX6_96 wi_yX0_canResize wl_yX0_canResize k_5 rfl wz_RX0 wc_yX0_canResize ⟨by decide, by decide, rfl⟩ (by decide) (Nat.le_of_ble_eq_true rfl) (Nat.le_refl _) (Nat.le_refl _) (am_Cl_mono H (fun r1 h2 H => ?_))
  show am_Wp true (d + 1) M_X6_size 321 321 h0 Q 11 [some (.inr (.inr 1)), some (.inl v1)] [.inl r1] 321 h2
  refine ar_if_ne (pc := 11) (x := r1) (tgt := 16) (off := 5) (by decide +kernel) (by decide) (fun c3 => ?_) (fun c3 => ?_)
  · replace H := H.1 c3
    refine ar_aload_n (pc := 16) (i := 0) (k0 := 0) (by decide +kernel) rfl rfl ?_
    refine ar_getFV (pc := 17) (a := 1) (b := 4) 6 5 (by decide +kernel) k_1 rfl (by decide) wf_RX6_32 rfl (fun _ => rfl) rfl ?_
    refine ar_callVN (pc := 20) (M2 := M_X4_keepStep) (a := 4) (ci := 4) (as := []) (n2 := 321) (st := []) (by decide +kernel) rfl wn_RX6_89 wi_yX4_keepStep wl_yX4_keepStep k_4 rfl wz_RX4 wc_yX4_keepStep ⟨by decide, by decide, rfl⟩ (by decide) (Nat.le_of_ble_eq_true rfl) (Nat.le_refl _) (Nat.le_refl _) (am_Cl_mono H (fun r4 h5 H => ?_))
    show am_Wp true (d + 1) M_X6_size 321 321 h0 Q 23 [some (.inr (.inr 1)), some (.inl v1)] [] 321 h5
    refine ar_aload_n (pc := 23) (i := 0) (k0 := 0) (by decide +kernel) rfl rfl ?_
    refine ar_getFV (pc := 24) (a := 1) (b := 4) 6 5 (by decide +kernel) k_1 rfl (by decide) wf_RX6_32 rfl (fun _ => rfl) rfl ?_
    refine ar_getFNV (pc := 27) (a := 4) (b := 5) 4 0 (by decide +kernel) k_4 rfl (by decide) wg_RX6_82 rfl (fun _ => rfl) rfl ?_
    refine ar_iload_n (pc := 30) (i := 1) (k0 := 1) (by decide +kernel) rfl rfl ?_
    refine ar_callVN (pc := 31) (M2 := M_X0_resize) (a := 5) (ci := 0) (as := [.inl v1]) (n2 := 321) (st := []) (by decide +kernel) rfl wn_RX6_100 wi_yX0_resize wl_yX0_resize k_5 rfl wz_RX0 wc_yX0_resize ⟨by decide, by decide, rfl⟩ (by decide) (Nat.le_of_ble_eq_true rfl) (Nat.le_refl _) (Nat.le_refl _) (am_Cl_mono H (fun r6 h7 H => ?_))
    show am_Wp true (d + 1) M_X6_size 321 321 h0 Q 34 [some (.inr (.inr 1)), some (.inl v1)] [] 321 h7
    refine ar_iconst (pc := 34) (z := 1) (by decide +kernel) (by unfold am_i32; omega) ?_
    exact ar_zret (pc := 35) (x := 1) (by decide +kernel) rfl rfl (by decide) H
  · replace H := H.2 c3
    refine ar_iconst (pc := 14) (z := 0) (by decide +kernel) (by unfold am_i32; omega) ?_
    exact ar_zret (pc := 15) (x := 0) (by decide +kernel) rfl rfl (by decide) H

/-! ByteIntervals.mend()I -/
theorem B_X6_mend_0 {d : Nat} {Q : Int → am_H → Prop} {h : am_H} (H : cf d M_X6_theText [.inr (.inr 1)] h (fun r1 h2 => cf d M_X2_mended [.inr (.inr 218), .inr (.inr r1), .inr (.inr 5)] h2 (fun r3 h4 => (¬ r3 = (-1) → cf d M_X4_keepStep [.inr (.inr 4)] h4 (fun _ h7 => cf d M_X0_takeMended [.inr (.inr 5), .inr (.inr 240), .inl r3] h7 (fun _ h9 => Q r3 h9))) ∧ (r3 = (-1) → Q (-1) h4)))) : wf (d + 1) M_X6_mend Q 0 [some (.inr (.inr 1)), none] [] h := by
  intro h0
  refine ar_aload_n (pc := 0) (i := 0) (k0 := 0) (by decide +kernel) rfl rfl ?_
  refine ar_getFV (pc := 1) (a := 1) (b := 218) 6 9 (by decide +kernel) k_1 rfl (by decide) wf_RX6_56 rfl (fun _ => rfl) rfl ?_
  refine ar_aload_n (pc := 4) (i := 0) (k0 := 0) (by decide +kernel) rfl rfl ?_
  refine ar_callV (pc := 5) (M2 := M_X6_theText) (a := 1) (ci := 6) (as := []) (n2 := 321) (st := [.inr (.inr 218)]) (by decide +kernel) rfl wm_RX6_103 wi_yX6_theText wl_yX6_theText k_1 rfl wz_RX6 wc_yX6_theText ⟨by decide, by decide, rfl⟩ (by decide) (Nat.le_of_ble_eq_true rfl) (Nat.le_refl _) (Nat.le_refl _) (am_Cl_mono H (fun r1 h2 H => ?_))
  show am_Wp true (d + 1) M_X6_mend 321 321 h0 Q 8 [some (.inr (.inr 1)), none] [.inr (.inr r1), .inr (.inr 218)] 321 h2
  refine ar_aload_n (pc := 8) (i := 0) (k0 := 0) (by decide +kernel) rfl rfl ?_
  refine ar_getFV (pc := 9) (a := 1) (b := 4) 6 5 (by decide +kernel) k_1 rfl (by decide) wf_RX6_32 rfl (fun _ => rfl) rfl ?_
  refine ar_getFNV (pc := 12) (a := 4) (b := 5) 4 0 (by decide +kernel) k_4 rfl (by decide) wg_RX6_82 rfl (fun _ => rfl) rfl ?_
  refine ar_callVN (pc := 15) (M2 := M_X2_mended) (a := 218) (ci := 2) (as := [.inr (.inr r1), .inr (.inr 5)]) (n2 := 321) (st := []) (by decide +kernel) rfl wn_RX6_107 wi_yX2_mended wl_yX2_mended k_218 rfl wz_RX2 wc_yX2_mended ⟨by decide, by decide, rfl⟩ (by decide) (Nat.le_of_ble_eq_true rfl) (Nat.le_refl _) (Nat.le_refl _) (am_Cl_mono H (fun r3 h4 H => ?_))
  show am_Wp true (d + 1) M_X6_mend 321 321 h0 Q 18 [some (.inr (.inr 1)), none] [.inl r3] 321 h4
  refine ar_istore_n (pc := 18) (i := 1) (k0 := 1) (ls2 := [some (.inr (.inr 1)), some (.inl r3)]) (by decide +kernel) rfl (by decide) rfl ?_
  refine ar_iload_n (pc := 19) (i := 1) (k0 := 1) (by decide +kernel) rfl rfl ?_
  refine ar_iconst (pc := 20) (z := (-1)) (by decide +kernel) (by unfold am_i32; omega) ?_
  refine ar_icmp_ne (pc := 21) (x := r3) (y := (-1)) (tgt := 26) (off := 5) (by decide +kernel) (by decide) (fun c5 => ?_) (fun c5 => ?_)
  · replace H := H.1 c5
    refine ar_aload_n (pc := 26) (i := 0) (k0 := 0) (by decide +kernel) rfl rfl ?_
    refine ar_getFV (pc := 27) (a := 1) (b := 4) 6 5 (by decide +kernel) k_1 rfl (by decide) wf_RX6_32 rfl (fun _ => rfl) rfl ?_
    refine ar_callVN (pc := 30) (M2 := M_X4_keepStep) (a := 4) (ci := 4) (as := []) (n2 := 321) (st := []) (by decide +kernel) rfl wn_RX6_89 wi_yX4_keepStep wl_yX4_keepStep k_4 rfl wz_RX4 wc_yX4_keepStep ⟨by decide, by decide, rfl⟩ (by decide) (Nat.le_of_ble_eq_true rfl) (Nat.le_refl _) (Nat.le_refl _) (am_Cl_mono H (fun r6 h7 H => ?_))
    show am_Wp true (d + 1) M_X6_mend 321 321 h0 Q 33 [some (.inr (.inr 1)), some (.inl r3)] [] 321 h7
    refine ar_aload_n (pc := 33) (i := 0) (k0 := 0) (by decide +kernel) rfl rfl ?_
    refine ar_getFV (pc := 34) (a := 1) (b := 4) 6 5 (by decide +kernel) k_1 rfl (by decide) wf_RX6_32 rfl (fun _ => rfl) rfl ?_
    refine ar_getFNV (pc := 37) (a := 4) (b := 5) 4 0 (by decide +kernel) k_4 rfl (by decide) wg_RX6_82 rfl (fun _ => rfl) rfl ?_
    refine ar_aload_n (pc := 40) (i := 0) (k0 := 0) (by decide +kernel) rfl rfl ?_
    refine ar_getFV (pc := 41) (a := 1) (b := 218) 6 9 (by decide +kernel) k_1 rfl (by decide) wf_RX6_56 rfl (fun _ => rfl) rfl ?_
    refine ar_getFNV (pc := 44) (a := 218) (b := 240) 2 5 (by decide +kernel) k_218 rfl (by decide) wg_RX6_111 rfl (fun _ => rfl) rfl ?_
    refine ar_iload_n (pc := 47) (i := 1) (k0 := 1) (by decide +kernel) rfl rfl ?_
    refine ar_callVN (pc := 48) (M2 := M_X0_takeMended) (a := 5) (ci := 0) (as := [.inr (.inr 240), .inl r3]) (n2 := 321) (st := []) (by decide +kernel) rfl wn_RX6_114 wi_yX0_takeMended wl_yX0_takeMended k_5 rfl wz_RX0 wc_yX0_takeMended ⟨by decide, by decide, rfl⟩ (by decide) (Nat.le_of_ble_eq_true rfl) (Nat.le_refl _) (Nat.le_refl _) (am_Cl_mono H (fun r8 h9 H => ?_))
    show am_Wp true (d + 1) M_X6_mend 321 321 h0 Q 51 [some (.inr (.inr 1)), some (.inl r3)] [] 321 h9
    refine ar_iload_n (pc := 51) (i := 1) (k0 := 1) (by decide +kernel) rfl rfl ?_
    exact ar_iret (pc := 52) (x := r3) (by decide +kernel) rfl rfl H
  · replace H := H.2 c5
    refine ar_iconst (pc := 24) (z := (-1)) (by decide +kernel) (by unfold am_i32; omega) ?_
    exact ar_iret (pc := 25) (x := (-1)) (by decide +kernel) rfl rfl H

/-! ByteIntervals.day(I)I -/
theorem B_X6_day_0 {d : Nat} {Q : Int → am_H → Prop} {h : am_H} {v1 : Int} (H : (v1 < 1 → Q (-1) h) ∧ (1 ≤ v1 → (60 < v1 → Q (-1) h) ∧ (v1 ≤ 60 → (v1 ≤ (am_w32 (9999 - (h 5 4))) → cf d M_X6_passDays [.inr (.inr 1), .inl v1] h (fun r4 h5 => Q r4 h5)) ∧ ((am_w32 (9999 - (h 5 4))) < v1 → Q (-1) h)))) : wf (d + 1) M_X6_day Q 0 [some (.inr (.inr 1)), some (.inl v1)] [] h := by
  intro h0
  refine ar_iload_n (pc := 0) (i := 1) (k0 := 1) (by decide +kernel) rfl rfl ?_
  refine ar_iconst (pc := 1) (z := 1) (by decide +kernel) (by unfold am_i32; omega) ?_
  refine ar_icmp_lt (pc := 2) (x := v1) (y := 1) (tgt := 29) (off := 27) (by decide +kernel) (by decide) (fun c1 => ?_) (fun c1 => ?_)
  · replace H := H.1 c1
    refine ar_iconst (pc := 29) (z := (-1)) (by decide +kernel) (by unfold am_i32; omega) ?_
    exact ar_iret (pc := 30) (x := (-1)) (by decide +kernel) rfl rfl H
  · replace H := H.2 c1
    refine ar_iload_n (pc := 5) (i := 1) (k0 := 1) (by decide +kernel) rfl rfl ?_
    refine ar_bipush (pc := 6) (z := 60) (by decide +kernel) (by omega) ?_
    refine ar_icmp_gt (pc := 8) (x := v1) (y := 60) (tgt := 29) (off := 21) (by decide +kernel) (by decide) (fun c2 => ?_) (fun c2 => ?_)
    · replace H := H.1 c2
      refine ar_iconst (pc := 29) (z := (-1)) (by decide +kernel) (by unfold am_i32; omega) ?_
      exact ar_iret (pc := 30) (x := (-1)) (by decide +kernel) rfl rfl H
    · replace H := H.2 c2
      refine ar_iload_n (pc := 11) (i := 1) (k0 := 1) (by decide +kernel) rfl rfl ?_
      refine ar_sipush (pc := 12) (z := 9999) (by decide +kernel) (by omega) ?_
      refine ar_aload_n (pc := 15) (i := 0) (k0 := 0) (by decide +kernel) rfl rfl ?_
      refine ar_getFV (pc := 16) (a := 1) (b := 4) 6 5 (by decide +kernel) k_1 rfl (by decide) wf_RX6_32 rfl (fun _ => rfl) rfl ?_
      refine ar_getFNV (pc := 19) (a := 4) (b := 5) 4 0 (by decide +kernel) k_4 rfl (by decide) wg_RX6_82 rfl (fun _ => rfl) rfl ?_
      refine ar_getNV (pc := 22) (a := 5) (v := .inl (h 5 4)) 0 4 (by decide +kernel) k_5 rfl (by decide) wg_RX6_118 rfl ?_
      refine ar_isub (pc := 25) (x := 9999) (y := (h 5 4)) (by decide +kernel) ?_
      refine ar_icmp_le (pc := 26) (x := v1) (y := (am_w32 (9999 - (h 5 4)))) (tgt := 31) (off := 5) (by decide +kernel) (by decide) (fun c3 => ?_) (fun c3 => ?_)
      · replace H := H.1 c3
        refine ar_aload_n (pc := 31) (i := 0) (k0 := 0) (by decide +kernel) rfl rfl ?_
        refine ar_iload_n (pc := 32) (i := 1) (k0 := 1) (by decide +kernel) rfl rfl ?_
        refine ar_callV (pc := 33) (M2 := M_X6_passDays) (a := 1) (ci := 6) (as := [.inl v1]) (n2 := 321) (st := []) (by decide +kernel) rfl wm_RX6_121 wi_yX6_passDays wl_yX6_passDays k_1 rfl wz_RX6 wc_yX6_passDays ⟨by decide, by decide, rfl⟩ (by decide) (Nat.le_of_ble_eq_true rfl) (Nat.le_refl _) (Nat.le_refl _) (am_Cl_mono H (fun r4 h5 H => ?_))
        show am_Wp true (d + 1) M_X6_day 321 321 h0 Q 36 [some (.inr (.inr 1)), some (.inl v1)] [.inl r4] 321 h5
        exact ar_iret (pc := 36) (x := r4) (by decide +kernel) rfl rfl H
      · replace H := H.2 c3
        refine ar_iconst (pc := 29) (z := (-1)) (by decide +kernel) (by unfold am_i32; omega) ?_
        exact ar_iret (pc := 30) (x := (-1)) (by decide +kernel) rfl rfl H

/-! ByteIntervals.passDays(I)I -/
theorem B_X6_passDays_0 {d : Nat} {Q : Int → am_H → Prop} {h : am_H} {v1 : Int} (H : wf (d + 1) M_X6_passDays Q 4 [some (.inr (.inr 1)), some (.inl v1), some (.inl 0), some (.inl 0)] [] h) : wf (d + 1) M_X6_passDays Q 0 [some (.inr (.inr 1)), some (.inl v1), none, none] [] h := by
  intro h0
  refine ar_iconst (pc := 0) (z := 0) (by decide +kernel) (by unfold am_i32; omega) ?_
  refine ar_istore_n (pc := 1) (i := 2) (k0 := 2) (ls2 := [some (.inr (.inr 1)), some (.inl v1), some (.inl 0), none]) (by decide +kernel) rfl (by decide) rfl ?_
  refine ar_iconst (pc := 2) (z := 0) (by decide +kernel) (by unfold am_i32; omega) ?_
  refine ar_istore_n (pc := 3) (i := 3) (k0 := 3) (ls2 := [some (.inr (.inr 1)), some (.inl v1), some (.inl 0), some (.inl 0)]) (by decide +kernel) rfl (by decide) rfl ?_
  exact H h0
theorem B_X6_passDays_4 {d : Nat} {Q : Int → am_H → Prop} {h : am_H} {v1 v2 v3 : Int} (H : (v1 ≤ v3 → Q v2 h) ∧ (v3 < v1 → cf d M_X4_keepStep [.inr (.inr 4)] h (fun _ h3 => cf d M_X6_passDay [.inr (.inr 1), .inr (.inr 5)] h3 (fun r4 h5 => (r4 = 0 → wf (d + 1) M_X6_passDays Q 36 [some (.inr (.inr 1)), some (.inl v1), none, some (.inl v3)] [.inl 0, .inl v2] h5) ∧ (¬ r4 = 0 → wf (d + 1) M_X6_passDays Q 36 [some (.inr (.inr 1)), some (.inl v1), none, some (.inl v3)] [.inl 1, .inl v2] h5))))) : wf (d + 1) M_X6_passDays Q 4 [some (.inr (.inr 1)), some (.inl v1), some (.inl v2), some (.inl v3)] [] h := by
  intro h0
  refine ar_iload_n (pc := 4) (i := 3) (k0 := 3) (by decide +kernel) rfl rfl ?_
  refine ar_iload_n (pc := 5) (i := 1) (k0 := 1) (by decide +kernel) rfl rfl ?_
  refine ar_icmp_ge (pc := 6) (x := v3) (y := v1) (tgt := 44) (off := 38) (by decide +kernel) (by decide) (fun c1 => ?_) (fun c1 => ?_)
  · replace H := H.1 c1
    refine ar_iload_n (pc := 44) (i := 2) (k0 := 2) (by decide +kernel) rfl rfl ?_
    exact ar_iret (pc := 45) (x := v2) (by decide +kernel) rfl rfl H
  · replace H := H.2 c1
    refine ar_aload_n (pc := 9) (i := 0) (k0 := 0) (by decide +kernel) rfl rfl ?_
    refine ar_getFV (pc := 10) (a := 1) (b := 4) 6 5 (by decide +kernel) k_1 rfl (by decide) wf_RX6_32 rfl (fun _ => rfl) rfl ?_
    refine ar_callVN (pc := 13) (M2 := M_X4_keepStep) (a := 4) (ci := 4) (as := []) (n2 := 321) (st := []) (by decide +kernel) rfl wn_RX6_89 wi_yX4_keepStep wl_yX4_keepStep k_4 rfl wz_RX4 wc_yX4_keepStep ⟨by decide, by decide, rfl⟩ (by decide) (Nat.le_of_ble_eq_true rfl) (Nat.le_refl _) (Nat.le_refl _) (am_Cl_mono H (fun r2 h3 H => ?_))
    show am_Wp true (d + 1) M_X6_passDays 321 321 h0 Q 16 [some (.inr (.inr 1)), some (.inl v1), some (.inl v2), some (.inl v3)] [] 321 h3
    refine ar_iload_n (pc := 16) (i := 2) (k0 := 2) (by decide +kernel) rfl rfl ?_
    refine ar_aload_n (pc := 17) (i := 0) (k0 := 0) (by decide +kernel) rfl rfl ?_
    refine ar_aload_n (pc := 18) (i := 0) (k0 := 0) (by decide +kernel) rfl rfl ?_
    refine ar_getFV (pc := 19) (a := 1) (b := 4) 6 5 (by decide +kernel) k_1 rfl (by decide) wf_RX6_32 rfl (fun _ => rfl) rfl ?_
    refine ar_getFNV (pc := 22) (a := 4) (b := 5) 4 0 (by decide +kernel) k_4 rfl (by decide) wg_RX6_82 rfl (fun _ => rfl) rfl ?_
    refine ar_callV (pc := 25) (M2 := M_X6_passDay) (a := 1) (ci := 6) (as := [.inr (.inr 5)]) (n2 := 321) (st := [.inl v2]) (by decide +kernel) rfl wm_RX6_125 wi_yX6_passDay wl_yX6_passDay k_1 rfl wz_RX6 wc_yX6_passDay ⟨by decide, by decide, rfl⟩ (by decide) (Nat.le_of_ble_eq_true rfl) (Nat.le_refl _) (Nat.le_refl _) (am_Cl_mono H (fun r4 h5 H => ?_))
    show am_Wp true (d + 1) M_X6_passDays 321 321 h0 Q 28 [some (.inr (.inr 1)), some (.inl v1), some (.inl v2), some (.inl v3)] [.inl r4, .inl v2] 321 h5
    refine ar_if_eq (pc := 28) (x := r4) (tgt := 35) (off := 7) (by decide +kernel) (by decide) (fun c6 => ?_) (fun c6 => ?_)
    · replace H := H.1 c6
      refine ar_iconst (pc := 35) (z := 0) (by decide +kernel) (by unfold am_i32; omega) ?_
      refine ar_forget [true, true, false, true] rfl ?_
      exact H h0
    · replace H := H.2 c6
      refine ar_iconst (pc := 31) (z := 1) (by decide +kernel) (by unfold am_i32; omega) ?_
      refine ar_goto (pc := 32) (tgt := 36) (off := 4) (by decide +kernel) (by decide) ?_
      refine ar_forget [true, true, false, true] rfl ?_
      exact H h0
theorem B_X6_passDays_36 {d : Nat} {Q : Int → am_H → Prop} {h : am_H} {v1 v3 s0 s1 : Int} (H : wf (d + 1) M_X6_passDays Q 4 [some (.inr (.inr 1)), some (.inl v1), some (.inl (am_w32 (s0 + s1))), some (.inl (am_w32 (v3 + 1)))] [] h) : wf (d + 1) M_X6_passDays Q 36 [some (.inr (.inr 1)), some (.inl v1), none, some (.inl v3)] [.inl s1, .inl s0] h := by
  intro h0
  refine ar_iadd (pc := 36) (x := s0) (y := s1) (by decide +kernel) ?_
  refine ar_istore_n (pc := 37) (i := 2) (k0 := 2) (ls2 := [some (.inr (.inr 1)), some (.inl v1), some (.inl (am_w32 (s0 + s1))), some (.inl v3)]) (by decide +kernel) rfl (by decide) rfl ?_
  refine ar_iinc (pc := 38) (i := 3) (z := 1) (x := v3) (ls2 := [some (.inr (.inr 1)), some (.inl v1), some (.inl (am_w32 (s0 + s1))), some (.inl (am_w32 (v3 + 1)))]) (by decide +kernel) rfl (by decide) rfl ?_
  refine ar_goto (pc := 41) (tgt := 4) (off := -37) (by decide +kernel) (by decide) ?_
  exact H h0

/-! ByteIntervals.passDay(LByteIntervals$Moment;)Z -/
theorem B_X6_passDay_0 {d : Nat} {Q : Int → am_H → Prop} {h : am_H} {a1 : Int} (H : (am_kd 321 a1 = 10) ∧ (((h a1 3) ≤ 0 → wf (d + 1) M_X6_passDay Q 65 [none, some (.inr (.inr a1)), some (.inl 0), none, none] [] h) ∧ (0 < (h a1 3) → cf d M_X0_draw [.inr (.inr a1), .inl (h a1 3)] h (fun r3 h4 => cf d M_X0_draw [.inr (.inr a1), .inl 8] h4 (fun r5 h6 => cf d M_X0_draw [.inr (.inr a1), .inl 10] h6 (fun r7 h8 => cf d M_X6_theText [.inr (.inr 1)] h8 (fun r9 h10 => cf d M_X2_rots [.inr (.inr 218), .inr (.inr r9), .inr (.inr a1), .inl r3] h10 (fun r11 h12 => (r11 ≤ r7 → wf (d + 1) M_X6_passDay Q 53 [none, some (.inr (.inr a1)), none, some (.inl r3), some (.inl r5)] [.inl 0] h12) ∧ (r7 < r11 → wf (d + 1) M_X6_passDay Q 53 [none, some (.inr (.inr a1)), none, some (.inl r3), some (.inl r5)] [.inl 1] h12))))))))) : wf (d + 1) M_X6_passDay Q 0 [some (.inr (.inr 1)), some (.inr (.inr a1)), none, none, none] [] h := by
  intro h0
  refine ar_iconst (pc := 0) (z := 0) (by decide +kernel) (by unfold am_i32; omega) ?_
  refine ar_istore_n (pc := 1) (i := 2) (k0 := 2) (ls2 := [some (.inr (.inr 1)), some (.inr (.inr a1)), some (.inl 0), none, none]) (by decide +kernel) rfl (by decide) rfl ?_
  refine ar_aload_n (pc := 2) (i := 1) (k0 := 1) (by decide +kernel) rfl rfl ?_
  obtain ⟨g1, H⟩ := H
  refine ar_getNV (pc := 3) (a := a1) (v := .inl (h a1 3)) 0 3 (by decide +kernel) g1 rfl (by decide) wg_RX6_129 rfl ?_
  refine ar_if_le (pc := 6) (x := (h a1 3)) (tgt := 65) (off := 59) (by decide +kernel) (by decide) (fun c2 => ?_) (fun c2 => ?_)
  · replace H := H.1 c2
    refine ar_forget [false, true, true, true, true] rfl ?_
    exact H h0
  · replace H := H.2 c2
    refine ar_aload_n (pc := 9) (i := 1) (k0 := 1) (by decide +kernel) rfl rfl ?_
    refine ar_aload_n (pc := 10) (i := 1) (k0 := 1) (by decide +kernel) rfl rfl ?_
    refine ar_getNV (pc := 11) (a := a1) (v := .inl (h a1 3)) 0 3 (by decide +kernel) g1 rfl (by decide) wg_RX6_129 rfl ?_
    refine ar_callVN (pc := 14) (M2 := M_X0_draw) (a := a1) (ci := 0) (as := [.inl (h a1 3)]) (n2 := 321) (st := []) (by decide +kernel) rfl wn_RX6_132 wi_yX0_draw wl_yX0_draw g1 rfl wz_RX0 wc_yX0_draw ⟨by decide, by decide, rfl⟩ (by decide) (Nat.le_of_ble_eq_true rfl) (Nat.le_refl _) (Nat.le_refl _) (am_Cl_mono H (fun r3 h4 H => ?_))
    show am_Wp true (d + 1) M_X6_passDay 321 321 h0 Q 17 [some (.inr (.inr 1)), some (.inr (.inr a1)), some (.inl 0), none, none] [.inl r3] 321 h4
    refine ar_istore_n (pc := 17) (i := 3) (k0 := 3) (ls2 := [some (.inr (.inr 1)), some (.inr (.inr a1)), some (.inl 0), some (.inl r3), none]) (by decide +kernel) rfl (by decide) rfl ?_
    refine ar_aload_n (pc := 18) (i := 1) (k0 := 1) (by decide +kernel) rfl rfl ?_
    refine ar_bipush (pc := 19) (z := 8) (by decide +kernel) (by omega) ?_
    refine ar_callVN (pc := 21) (M2 := M_X0_draw) (a := a1) (ci := 0) (as := [.inl 8]) (n2 := 321) (st := []) (by decide +kernel) rfl wn_RX6_132 wi_yX0_draw wl_yX0_draw g1 rfl wz_RX0 wc_yX0_draw ⟨by decide, by decide, rfl⟩ (by decide) (Nat.le_of_ble_eq_true rfl) (Nat.le_refl _) (Nat.le_refl _) (am_Cl_mono H (fun r5 h6 H => ?_))
    show am_Wp true (d + 1) M_X6_passDay 321 321 h0 Q 24 [some (.inr (.inr 1)), some (.inr (.inr a1)), some (.inl 0), some (.inl r3), none] [.inl r5] 321 h6
    refine ar_istore (pc := 24) (i := 4) (ls2 := [some (.inr (.inr 1)), some (.inr (.inr a1)), some (.inl 0), some (.inl r3), some (.inl r5)]) (by decide +kernel) (by decide) rfl ?_
    refine ar_aload_n (pc := 26) (i := 1) (k0 := 1) (by decide +kernel) rfl rfl ?_
    refine ar_bipush (pc := 27) (z := 10) (by decide +kernel) (by omega) ?_
    refine ar_callVN (pc := 29) (M2 := M_X0_draw) (a := a1) (ci := 0) (as := [.inl 10]) (n2 := 321) (st := []) (by decide +kernel) rfl wn_RX6_132 wi_yX0_draw wl_yX0_draw g1 rfl wz_RX0 wc_yX0_draw ⟨by decide, by decide, rfl⟩ (by decide) (Nat.le_of_ble_eq_true rfl) (Nat.le_refl _) (Nat.le_refl _) (am_Cl_mono H (fun r7 h8 H => ?_))
    show am_Wp true (d + 1) M_X6_passDay 321 321 h0 Q 32 [some (.inr (.inr 1)), some (.inr (.inr a1)), some (.inl 0), some (.inl r3), some (.inl r5)] [.inl r7] 321 h8
    refine ar_aload_n (pc := 32) (i := 0) (k0 := 0) (by decide +kernel) rfl rfl ?_
    refine ar_getFV (pc := 33) (a := 1) (b := 218) 6 9 (by decide +kernel) k_1 rfl (by decide) wf_RX6_56 rfl (fun _ => rfl) rfl ?_
    refine ar_aload_n (pc := 36) (i := 0) (k0 := 0) (by decide +kernel) rfl rfl ?_
    refine ar_callV (pc := 37) (M2 := M_X6_theText) (a := 1) (ci := 6) (as := []) (n2 := 321) (st := [.inr (.inr 218), .inl r7]) (by decide +kernel) rfl wm_RX6_103 wi_yX6_theText wl_yX6_theText k_1 rfl wz_RX6 wc_yX6_theText ⟨by decide, by decide, rfl⟩ (by decide) (Nat.le_of_ble_eq_true rfl) (Nat.le_refl _) (Nat.le_refl _) (am_Cl_mono H (fun r9 h10 H => ?_))
    show am_Wp true (d + 1) M_X6_passDay 321 321 h0 Q 40 [some (.inr (.inr 1)), some (.inr (.inr a1)), some (.inl 0), some (.inl r3), some (.inl r5)] [.inr (.inr r9), .inr (.inr 218), .inl r7] 321 h10
    refine ar_aload_n (pc := 40) (i := 1) (k0 := 1) (by decide +kernel) rfl rfl ?_
    refine ar_iload_n (pc := 41) (i := 3) (k0 := 3) (by decide +kernel) rfl rfl ?_
    refine ar_callVN (pc := 42) (M2 := M_X2_rots) (a := 218) (ci := 2) (as := [.inr (.inr r9), .inr (.inr a1), .inl r3]) (n2 := 321) (st := [.inl r7]) (by decide +kernel) rfl wn_RX6_135 wi_yX2_rots wl_yX2_rots k_218 rfl wz_RX2 wc_yX2_rots ⟨by decide, by decide, rfl⟩ (by decide) (Nat.le_of_ble_eq_true rfl) (Nat.le_refl _) (Nat.le_refl _) (am_Cl_mono H (fun r11 h12 H => ?_))
    show am_Wp true (d + 1) M_X6_passDay 321 321 h0 Q 45 [some (.inr (.inr 1)), some (.inr (.inr a1)), some (.inl 0), some (.inl r3), some (.inl r5)] [.inl r11, .inl r7] 321 h12
    refine ar_icmp_ge (pc := 45) (x := r7) (y := r11) (tgt := 52) (off := 7) (by decide +kernel) (by decide) (fun c13 => ?_) (fun c13 => ?_)
    · replace H := H.1 c13
      refine ar_iconst (pc := 52) (z := 0) (by decide +kernel) (by unfold am_i32; omega) ?_
      refine ar_forget [false, true, false, true, true] rfl ?_
      exact H h0
    · replace H := H.2 c13
      refine ar_iconst (pc := 48) (z := 1) (by decide +kernel) (by unfold am_i32; omega) ?_
      refine ar_goto (pc := 49) (tgt := 53) (off := 4) (by decide +kernel) (by decide) ?_
      refine ar_forget [false, true, false, true, true] rfl ?_
      exact H h0
theorem B_X6_passDay_53 {d : Nat} {Q : Int → am_H → Prop} {h : am_H} {a1 v3 v4 s0 : Int} (H : (s0 = 0 → wf (d + 1) M_X6_passDay Q 65 [none, some (.inr (.inr a1)), some (.inl s0), none, none] [] h) ∧ (¬ s0 = 0 → (am_kd 321 a1 = 10) ∧ (cf d M_X0_rot [.inr (.inr a1), .inl v3, .inl v4] h (fun _ h3 => wf (d + 1) M_X6_passDay Q 65 [none, some (.inr (.inr a1)), some (.inl s0), none, none] [] h3)))) : wf (d + 1) M_X6_passDay Q 53 [none, some (.inr (.inr a1)), none, some (.inl v3), some (.inl v4)] [.inl s0] h := by
  intro h0
  refine ar_istore_n (pc := 53) (i := 2) (k0 := 2) (ls2 := [none, some (.inr (.inr a1)), some (.inl s0), some (.inl v3), some (.inl v4)]) (by decide +kernel) rfl (by decide) rfl ?_
  refine ar_iload_n (pc := 54) (i := 2) (k0 := 2) (by decide +kernel) rfl rfl ?_
  refine ar_if_eq (pc := 55) (x := s0) (tgt := 65) (off := 10) (by decide +kernel) (by decide) (fun c1 => ?_) (fun c1 => ?_)
  · replace H := H.1 c1
    refine ar_forget [true, true, true, false, false] rfl ?_
    exact H h0
  · replace H := H.2 c1
    refine ar_aload_n (pc := 58) (i := 1) (k0 := 1) (by decide +kernel) rfl rfl ?_
    refine ar_iload_n (pc := 59) (i := 3) (k0 := 3) (by decide +kernel) rfl rfl ?_
    refine ar_iload (pc := 60) (i := 4) (by decide +kernel) rfl ?_
    obtain ⟨g4, H⟩ := H
    refine ar_callVN (pc := 62) (M2 := M_X0_rot) (a := a1) (ci := 0) (as := [.inl v3, .inl v4]) (n2 := 321) (st := []) (by decide +kernel) rfl wn_RX6_139 wi_yX0_rot wl_yX0_rot g4 rfl wz_RX0 wc_yX0_rot ⟨by decide, by decide, rfl⟩ (by decide) (Nat.le_of_ble_eq_true rfl) (Nat.le_refl _) (Nat.le_refl _) (am_Cl_mono H (fun r2 h3 H => ?_))
    show am_Wp true (d + 1) M_X6_passDay 321 321 h0 Q 65 [none, some (.inr (.inr a1)), some (.inl s0), some (.inl v3), some (.inl v4)] [] 321 h3
    refine ar_forget [true, true, true, false, false] rfl ?_
    exact H h0
theorem B_X6_passDay_65 {d : Nat} {Q : Int → am_H → Prop} {h : am_H} {a1 v2 : Int} (H : (am_kd 321 a1 = 10) ∧ ((v2 = 0 ∨ v2 = 1) ∧ (Q v2 (am_up h a1 4 (am_w32 ((h a1 4) + 1)))))) : wf (d + 1) M_X6_passDay Q 65 [none, some (.inr (.inr a1)), some (.inl v2), none, none] [] h := by
  intro h0
  refine ar_aload_n (pc := 65) (i := 1) (k0 := 1) (by decide +kernel) rfl rfl ?_
  refine ar_dup (pc := 66) (by decide +kernel) trivial ?_
  obtain ⟨g1, H⟩ := H
  refine ar_getNV (pc := 67) (a := a1) (v := .inl (h a1 4)) 0 4 (by decide +kernel) g1 rfl (by decide) wg_RX6_118 rfl ?_
  refine ar_iconst (pc := 70) (z := 1) (by decide +kernel) (by unfold am_i32; omega) ?_
  refine ar_iadd (pc := 71) (x := (h a1 4)) (y := 1) (by decide +kernel) ?_
  refine ar_putIN (pc := 72) (a := a1) (z := (am_w32 ((h a1 4) + 1))) 0 4 (by decide +kernel) g1 rfl (by decide) rfl (fun _ => rfl) rfl wg_RX6_118 ?_
  refine ar_iload_n (pc := 75) (i := 2) (k0 := 2) (by decide +kernel) rfl rfl ?_
  obtain ⟨g2, H⟩ := H
  exact ar_zret (pc := 76) (x := v2) (by decide +kernel) rfl rfl g2 H

/-! ByteIntervals.played(I)I -/
theorem B_X6_played_0 {d : Nat} {Q : Int → am_H → Prop} {h : am_H} {v1 : Int} (H : cf d M_X6_textAt [.inr (.inr 1), .inl v1] h (fun r1 h2 => (0 ≤ r1) ∧ ((1 ≤ r1 → wf (d + 1) M_X6_played Q 15 [some (.inr (.inr 1)), none, some (.inr (.inr r1)), some (.inl 0), none, none] [] h2) ∧ (r1 = 0 → Q (-2) h2)))) : wf (d + 1) M_X6_played Q 0 [some (.inr (.inr 1)), some (.inl v1), none, none, none, none] [] h := by
  intro h0
  refine ar_aload_n (pc := 0) (i := 0) (k0 := 0) (by decide +kernel) rfl rfl ?_
  refine ar_iload_n (pc := 1) (i := 1) (k0 := 1) (by decide +kernel) rfl rfl ?_
  refine ar_callV (pc := 2) (M2 := M_X6_textAt) (a := 1) (ci := 6) (as := [.inl v1]) (n2 := 321) (st := []) (by decide +kernel) rfl wm_RX6_78 wi_yX6_textAt wl_yX6_textAt k_1 rfl wz_RX6 wc_yX6_textAt ⟨by decide, by decide, rfl⟩ (by decide) (Nat.le_of_ble_eq_true rfl) (Nat.le_refl _) (Nat.le_refl _) (am_Cl_mono H (fun r1 h2 H => ?_))
  show am_Wp true (d + 1) M_X6_played 321 321 h0 Q 5 [some (.inr (.inr 1)), some (.inl v1), none, none, none, none] [.inr (.inr r1)] 321 h2
  refine ar_astore_n (pc := 5) (i := 2) (k0 := 2) (ls2 := [some (.inr (.inr 1)), some (.inl v1), some (.inr (.inr r1)), none, none, none]) (by decide +kernel) rfl (by decide) rfl ?_
  refine ar_aload_n (pc := 6) (i := 2) (k0 := 2) (by decide +kernel) rfl rfl ?_
  obtain ⟨g4, H⟩ := H
  refine ar_ifnonnull (pc := 7) (x := r1) (tgt := 13) (off := 6) (by decide +kernel) (by decide) g4 (fun c3 => ?_) (fun c3 => ?_)
  · replace H := H.1 c3
    refine ar_iconst (pc := 13) (z := 0) (by decide +kernel) (by unfold am_i32; omega) ?_
    refine ar_istore_n (pc := 14) (i := 3) (k0 := 3) (ls2 := [some (.inr (.inr 1)), some (.inl v1), some (.inr (.inr r1)), some (.inl 0), none, none]) (by decide +kernel) rfl (by decide) rfl ?_
    refine ar_forget [true, false, true, true, true, true] rfl ?_
    exact H h0
  · replace H := H.2 c3
    refine ar_bipush (pc := 10) (z := (-2)) (by decide +kernel) (by omega) ?_
    exact ar_iret (pc := 12) (x := (-2)) (by decide +kernel) rfl rfl H
theorem B_X6_played_15 {d : Nat} {Q : Int → am_H → Prop} {h : am_H} {v2 v3 : Int} (H : (am_kd 321 v2 = 15) ∧ (((h v2 0) ≤ v3 → Q (-1) h) ∧ (v3 < (h v2 0) → (24 ≤ v3 → Q (-1) h) ∧ (v3 < 24 → (0 ≤ v3) ∧ (((h (v2 + 1) v3) < 5 ∨ 8 < (h (v2 + 1) v3) → wf (d + 1) M_X6_played Q 175 [some (.inr (.inr 1)), none, some (.inr (.inr v2)), some (.inl v3), some (.inl 1), none] [] h) ∧ ((h (v2 + 1) v3) = 5 → cf d M_X6_set [.inr (.inr 1), .inl (h (v2 + 2) v3), .inl (h (v2 + 3) v3)] h (fun r6 h7 => wf (d + 1) M_X6_played Q 175 [some (.inr (.inr 1)), none, some (.inr (.inr v2)), some (.inl v3), some (.inl r6), none] [] h7)) ∧ ((h (v2 + 1) v3) = 6 → cf d M_X6_size [.inr (.inr 1), .inl (h (v2 + 2) v3)] h (fun r8 h9 => wf (d + 1) M_X6_played Q 175 [some (.inr (.inr 1)), none, some (.inr (.inr v2)), some (.inl v3), some (.inl r8), none] [] h9)) ∧ ((h (v2 + 1) v3) = 7 → cf d M_X6_mend [.inr (.inr 1)] h (fun r10 h11 => (r10 = (-1) → wf (d + 1) M_X6_played Q 117 [some (.inr (.inr 1)), none, some (.inr (.inr v2)), some (.inl v3), none, none] [.inl 0] h11) ∧ (¬ r10 = (-1) → wf (d + 1) M_X6_played Q 117 [some (.inr (.inr 1)), none, some (.inr (.inr v2)), some (.inl v3), none, none] [.inl 1] h11))) ∧ ((h (v2 + 1) v3) = 8 → cf d M_J9_min_7cf53 [.inl (h (v2 + 2) v3), .inl (am_w32 (9999 - (h 5 4)))] h (fun r13 h14 => cf d M_X6_passDays [.inr (.inr 1), .inl r13] h14 (fun _ h16 => (¬ r13 = (h16 (v2 + 2) v3) → wf (d + 1) M_X6_played Q 170 [some (.inr (.inr 1)), none, some (.inr (.inr v2)), some (.inl v3), none, none] [.inl 0] h16) ∧ (r13 = (h16 (v2 + 2) v3) → wf (d + 1) M_X6_played Q 170 [some (.inr (.inr 1)), none, some (.inr (.inr v2)), some (.inl v3), none, none] [.inl 1] h16))))))))) : wf (d + 1) M_X6_played Q 15 [some (.inr (.inr 1)), none, some (.inr (.inr v2)), some (.inl v3), none, none] [] h := by
  intro h0
  refine ar_iload_n (pc := 15) (i := 3) (k0 := 3) (by decide +kernel) rfl rfl ?_
  refine ar_aload_n (pc := 16) (i := 2) (k0 := 2) (by decide +kernel) rfl rfl ?_
  obtain ⟨g1, H⟩ := H
  refine ar_getNV (pc := 17) (a := v2) (v := .inl (h v2 0)) 5 0 (by decide +kernel) g1 rfl (by decide) wg_RX6_142 rfl ?_
  refine ar_icmp_ge (pc := 20) (x := v3) (y := (h v2 0)) (tgt := 188) (off := 168) (by decide +kernel) (by decide) (fun c2 => ?_) (fun c2 => ?_)
  · replace H := H.1 c2
    refine ar_iconst (pc := 188) (z := (-1)) (by decide +kernel) (by unfold am_i32; omega) ?_
    exact ar_iret (pc := 189) (x := (-1)) (by decide +kernel) rfl rfl H
  · replace H := H.2 c2
    refine ar_iload_n (pc := 23) (i := 3) (k0 := 3) (by decide +kernel) rfl rfl ?_
    refine ar_bipush (pc := 24) (z := 24) (by decide +kernel) (by omega) ?_
    refine ar_icmp_ge (pc := 26) (x := v3) (y := 24) (tgt := 188) (off := 162) (by decide +kernel) (by decide) (fun c3 => ?_) (fun c3 => ?_)
    · replace H := H.1 c3
      refine ar_iconst (pc := 188) (z := (-1)) (by decide +kernel) (by unfold am_i32; omega) ?_
      exact ar_iret (pc := 189) (x := (-1)) (by decide +kernel) rfl rfl H
    · replace H := H.2 c3
      refine ar_iconst (pc := 29) (z := 1) (by decide +kernel) (by unfold am_i32; omega) ?_
      refine ar_istore (pc := 30) (i := 4) (ls2 := [some (.inr (.inr 1)), none, some (.inr (.inr v2)), some (.inl v3), some (.inl 1), none]) (by decide +kernel) (by decide) rfl ?_
      refine ar_aload_n (pc := 32) (i := 2) (k0 := 2) (by decide +kernel) rfl rfl ?_
      refine ar_getFNV (pc := 33) (a := v2) (b := (v2 + 1)) 5 1 (by decide +kernel) g1 rfl (by decide) wg_RX6_145 rfl (fun _ => rfl) rfl ?_
      refine ar_iload_n (pc := 36) (i := 3) (k0 := 3) (by decide +kernel) rfl rfl ?_
      obtain ⟨g4, H⟩ := H
      refine ar_iald (pc := 37) (a := (v2 + 1)) (i := v3) (by decide +kernel) (kX5_1 g1).1 g4 (am_lt_eq c3 ((kX5_1 g1).2).symm) ?_
      refine ar_table (pc := 38) (dflt := 137) (lo := 5) (hi := 8) (offs := #[30, 51, 66, 84]) (len := 30) (x := (h (v2 + 1) v3)) (dt := 175) [68, 89, 104, 122] (by decide +kernel) (by decide) (by decide) (by decide) (fun c5 => ?_) (And.intro (fun c5 => ?_) (And.intro (fun c5 => ?_) (And.intro (fun c5 => ?_) (And.intro (fun c5 => ?_) (True.intro)))))
      · replace H := H.1 c5
        exact H h0
      · replace H := H.2.1 c5
        refine ar_aload_n (pc := 68) (i := 0) (k0 := 0) (by decide +kernel) rfl rfl ?_
        refine ar_aload_n (pc := 69) (i := 2) (k0 := 2) (by decide +kernel) rfl rfl ?_
        refine ar_getFNV (pc := 70) (a := v2) (b := (v2 + 2)) 5 2 (by decide +kernel) g1 rfl (by decide) wg_RX6_148 rfl (fun _ => rfl) rfl ?_
        refine ar_iload_n (pc := 73) (i := 3) (k0 := 3) (by decide +kernel) rfl rfl ?_
        refine ar_iald (pc := 74) (a := (v2 + 2)) (i := v3) (by decide +kernel) (kX5_2 g1).1 g4 (am_lt_eq c3 ((kX5_2 g1).2).symm) ?_
        refine ar_aload_n (pc := 75) (i := 2) (k0 := 2) (by decide +kernel) rfl rfl ?_
        refine ar_getFNV (pc := 76) (a := v2) (b := (v2 + 3)) 5 3 (by decide +kernel) g1 rfl (by decide) wg_RX6_151 rfl (fun _ => rfl) rfl ?_
        refine ar_iload_n (pc := 79) (i := 3) (k0 := 3) (by decide +kernel) rfl rfl ?_
        refine ar_iald (pc := 80) (a := (v2 + 3)) (i := v3) (by decide +kernel) (kX5_3 g1).1 g4 (am_lt_eq c3 ((kX5_3 g1).2).symm) ?_
        refine ar_callV (pc := 81) (M2 := M_X6_set) (a := 1) (ci := 6) (as := [.inl (h (v2 + 2) v3), .inl (h (v2 + 3) v3)]) (n2 := 321) (st := []) (by decide +kernel) rfl wm_RX6_154 wi_yX6_set wl_yX6_set k_1 rfl wz_RX6 wc_yX6_set ⟨by decide, by decide, rfl⟩ (by decide) (Nat.le_of_ble_eq_true rfl) (Nat.le_refl _) (Nat.le_refl _) (am_Cl_mono H (fun r6 h7 H => ?_))
        show am_Wp true (d + 1) M_X6_played 321 321 h0 Q 84 [some (.inr (.inr 1)), none, some (.inr (.inr v2)), some (.inl v3), some (.inl 1), none] [.inl r6] 321 h7
        refine ar_istore (pc := 84) (i := 4) (ls2 := [some (.inr (.inr 1)), none, some (.inr (.inr v2)), some (.inl v3), some (.inl r6), none]) (by decide +kernel) (by decide) rfl ?_
        refine ar_goto (pc := 86) (tgt := 175) (off := 89) (by decide +kernel) (by decide) ?_
        exact H h0
      · replace H := H.2.2.1 c5
        refine ar_aload_n (pc := 89) (i := 0) (k0 := 0) (by decide +kernel) rfl rfl ?_
        refine ar_aload_n (pc := 90) (i := 2) (k0 := 2) (by decide +kernel) rfl rfl ?_
        refine ar_getFNV (pc := 91) (a := v2) (b := (v2 + 2)) 5 2 (by decide +kernel) g1 rfl (by decide) wg_RX6_148 rfl (fun _ => rfl) rfl ?_
        refine ar_iload_n (pc := 94) (i := 3) (k0 := 3) (by decide +kernel) rfl rfl ?_
        refine ar_iald (pc := 95) (a := (v2 + 2)) (i := v3) (by decide +kernel) (kX5_2 g1).1 g4 (am_lt_eq c3 ((kX5_2 g1).2).symm) ?_
        refine ar_callV (pc := 96) (M2 := M_X6_size) (a := 1) (ci := 6) (as := [.inl (h (v2 + 2) v3)]) (n2 := 321) (st := []) (by decide +kernel) rfl wm_RX6_157 wi_yX6_size wl_yX6_size k_1 rfl wz_RX6 wc_yX6_size ⟨by decide, by decide, rfl⟩ (by decide) (Nat.le_of_ble_eq_true rfl) (Nat.le_refl _) (Nat.le_refl _) (am_Cl_mono H (fun r8 h9 H => ?_))
        show am_Wp true (d + 1) M_X6_played 321 321 h0 Q 99 [some (.inr (.inr 1)), none, some (.inr (.inr v2)), some (.inl v3), some (.inl 1), none] [.inl r8] 321 h9
        refine ar_istore (pc := 99) (i := 4) (ls2 := [some (.inr (.inr 1)), none, some (.inr (.inr v2)), some (.inl v3), some (.inl r8), none]) (by decide +kernel) (by decide) rfl ?_
        refine ar_goto (pc := 101) (tgt := 175) (off := 74) (by decide +kernel) (by decide) ?_
        exact H h0
      · replace H := H.2.2.2.1 c5
        refine ar_aload_n (pc := 104) (i := 0) (k0 := 0) (by decide +kernel) rfl rfl ?_
        refine ar_callV (pc := 105) (M2 := M_X6_mend) (a := 1) (ci := 6) (as := []) (n2 := 321) (st := []) (by decide +kernel) rfl wm_RX6_159 wi_yX6_mend wl_yX6_mend k_1 rfl wz_RX6 wc_yX6_mend ⟨by decide, by decide, rfl⟩ (by decide) (Nat.le_of_ble_eq_true rfl) (Nat.le_refl _) (Nat.le_refl _) (am_Cl_mono H (fun r10 h11 H => ?_))
        show am_Wp true (d + 1) M_X6_played 321 321 h0 Q 108 [some (.inr (.inr 1)), none, some (.inr (.inr v2)), some (.inl v3), some (.inl 1), none] [.inl r10] 321 h11
        refine ar_iconst (pc := 108) (z := (-1)) (by decide +kernel) (by unfold am_i32; omega) ?_
        refine ar_icmp_eq (pc := 109) (x := r10) (y := (-1)) (tgt := 116) (off := 7) (by decide +kernel) (by decide) (fun c12 => ?_) (fun c12 => ?_)
        · replace H := H.1 c12
          refine ar_iconst (pc := 116) (z := 0) (by decide +kernel) (by unfold am_i32; omega) ?_
          refine ar_forget [true, true, true, true, false, true] rfl ?_
          exact H h0
        · replace H := H.2 c12
          refine ar_iconst (pc := 112) (z := 1) (by decide +kernel) (by unfold am_i32; omega) ?_
          refine ar_goto (pc := 113) (tgt := 117) (off := 4) (by decide +kernel) (by decide) ?_
          refine ar_forget [true, true, true, true, false, true] rfl ?_
          exact H h0
      · replace H := H.2.2.2.2 c5
        refine ar_aload_n (pc := 122) (i := 2) (k0 := 2) (by decide +kernel) rfl rfl ?_
        refine ar_getFNV (pc := 123) (a := v2) (b := (v2 + 2)) 5 2 (by decide +kernel) g1 rfl (by decide) wg_RX6_148 rfl (fun _ => rfl) rfl ?_
        refine ar_iload_n (pc := 126) (i := 3) (k0 := 3) (by decide +kernel) rfl rfl ?_
        refine ar_iald (pc := 127) (a := (v2 + 2)) (i := v3) (by decide +kernel) (kX5_2 g1).1 g4 (am_lt_eq c3 ((kX5_2 g1).2).symm) ?_
        refine ar_sipush (pc := 128) (z := 9999) (by decide +kernel) (by omega) ?_
        refine ar_aload_n (pc := 131) (i := 0) (k0 := 0) (by decide +kernel) rfl rfl ?_
        refine ar_getFV (pc := 132) (a := 1) (b := 4) 6 5 (by decide +kernel) k_1 rfl (by decide) wf_RX6_32 rfl (fun _ => rfl) rfl ?_
        refine ar_getFNV (pc := 135) (a := 4) (b := 5) 4 0 (by decide +kernel) k_4 rfl (by decide) wg_RX6_82 rfl (fun _ => rfl) rfl ?_
        refine ar_getNV (pc := 138) (a := 5) (v := .inl (h 5 4)) 0 4 (by decide +kernel) k_5 rfl (by decide) wg_RX6_118 rfl ?_
        refine ar_isub (pc := 141) (x := 9999) (y := (h 5 4)) (by decide +kernel) ?_
        refine ar_callS (pc := 142) (M2 := M_J9_min_7cf53) (as := [.inl (h (v2 + 2) v3), .inl (am_w32 (9999 - (h 5 4)))]) (n2 := 321) (st := []) (by decide +kernel) rfl wm_RX6_163 ws_yJ9_min_7cf53 wz_RJ9 wc_yJ9_min_7cf53 ⟨by decide, by decide, rfl⟩ (by decide) (Nat.le_of_ble_eq_true rfl) (Nat.le_refl _) (Nat.le_refl _) (am_Cl_mono H (fun r13 h14 H => ?_))
        show am_Wp true (d + 1) M_X6_played 321 321 h0 Q 145 [some (.inr (.inr 1)), none, some (.inr (.inr v2)), some (.inl v3), some (.inl 1), none] [.inl r13] 321 h14
        refine ar_istore (pc := 145) (i := 5) (ls2 := [some (.inr (.inr 1)), none, some (.inr (.inr v2)), some (.inl v3), some (.inl 1), some (.inl r13)]) (by decide +kernel) (by decide) rfl ?_
        refine ar_aload_n (pc := 147) (i := 0) (k0 := 0) (by decide +kernel) rfl rfl ?_
        refine ar_iload (pc := 148) (i := 5) (by decide +kernel) rfl ?_
        refine ar_callV (pc := 150) (M2 := M_X6_passDays) (a := 1) (ci := 6) (as := [.inl r13]) (n2 := 321) (st := []) (by decide +kernel) rfl wm_RX6_121 wi_yX6_passDays wl_yX6_passDays k_1 rfl wz_RX6 wc_yX6_passDays ⟨by decide, by decide, rfl⟩ (by decide) (Nat.le_of_ble_eq_true rfl) (Nat.le_refl _) (Nat.le_refl _) (am_Cl_mono H (fun r15 h16 H => ?_))
        show am_Wp true (d + 1) M_X6_played 321 321 h0 Q 153 [some (.inr (.inr 1)), none, some (.inr (.inr v2)), some (.inl v3), some (.inl 1), some (.inl r13)] [.inl r15] 321 h16
        refine ar_pop (pc := 153) (by decide +kernel) trivial ?_
        refine ar_iload (pc := 154) (i := 5) (by decide +kernel) rfl ?_
        refine ar_aload_n (pc := 156) (i := 2) (k0 := 2) (by decide +kernel) rfl rfl ?_
        refine ar_getFNV (pc := 157) (a := v2) (b := (v2 + 2)) 5 2 (by decide +kernel) g1 rfl (by decide) wg_RX6_148 rfl (fun _ => rfl) rfl ?_
        refine ar_iload_n (pc := 160) (i := 3) (k0 := 3) (by decide +kernel) rfl rfl ?_
        refine ar_iald (pc := 161) (a := (v2 + 2)) (i := v3) (by decide +kernel) (kX5_2 g1).1 g4 (am_lt_eq c3 ((kX5_2 g1).2).symm) ?_
        refine ar_icmp_ne (pc := 162) (x := r13) (y := (h16 (v2 + 2) v3)) (tgt := 169) (off := 7) (by decide +kernel) (by decide) (fun c17 => ?_) (fun c17 => ?_)
        · replace H := H.1 c17
          refine ar_iconst (pc := 169) (z := 0) (by decide +kernel) (by unfold am_i32; omega) ?_
          refine ar_forget [true, true, true, true, false, false] rfl ?_
          exact H h0
        · replace H := H.2 c17
          refine ar_iconst (pc := 165) (z := 1) (by decide +kernel) (by unfold am_i32; omega) ?_
          refine ar_goto (pc := 166) (tgt := 170) (off := 4) (by decide +kernel) (by decide) ?_
          refine ar_forget [true, true, true, true, false, false] rfl ?_
          exact H h0
theorem B_X6_played_117 {d : Nat} {Q : Int → am_H → Prop} {h : am_H} {v2 v3 s0 : Int} (H : wf (d + 1) M_X6_played Q 175 [some (.inr (.inr 1)), none, some (.inr (.inr v2)), some (.inl v3), some (.inl s0), none] [] h) : wf (d + 1) M_X6_played Q 117 [some (.inr (.inr 1)), none, some (.inr (.inr v2)), some (.inl v3), none, none] [.inl s0] h := by
  intro h0
  refine ar_istore (pc := 117) (i := 4) (ls2 := [some (.inr (.inr 1)), none, some (.inr (.inr v2)), some (.inl v3), some (.inl s0), none]) (by decide +kernel) (by decide) rfl ?_
  refine ar_goto (pc := 119) (tgt := 175) (off := 56) (by decide +kernel) (by decide) ?_
  exact H h0
theorem B_X6_played_170 {d : Nat} {Q : Int → am_H → Prop} {h : am_H} {v2 v3 s0 : Int} (H : wf (d + 1) M_X6_played Q 175 [some (.inr (.inr 1)), none, some (.inr (.inr v2)), some (.inl v3), some (.inl s0), none] [] h) : wf (d + 1) M_X6_played Q 170 [some (.inr (.inr 1)), none, some (.inr (.inr v2)), some (.inl v3), none, none] [.inl s0] h := by
  intro h0
  refine ar_istore (pc := 170) (i := 4) (ls2 := [some (.inr (.inr 1)), none, some (.inr (.inr v2)), some (.inl v3), some (.inl s0), none]) (by decide +kernel) (by decide) rfl ?_
  refine ar_goto (pc := 172) (tgt := 175) (off := 3) (by decide +kernel) (by decide) ?_
  exact H h0
theorem B_X6_played_175 {d : Nat} {Q : Int → am_H → Prop} {h : am_H} {v2 v3 v4 : Int} (H : (¬ v4 = 0 → wf (d + 1) M_X6_played Q 15 [some (.inr (.inr 1)), none, some (.inr (.inr v2)), some (.inl (am_w32 (v3 + 1))), none, none] [] h) ∧ (v4 = 0 → Q v3 h)) : wf (d + 1) M_X6_played Q 175 [some (.inr (.inr 1)), none, some (.inr (.inr v2)), some (.inl v3), some (.inl v4), none] [] h := by
  intro h0
  refine ar_iload (pc := 175) (i := 4) (by decide +kernel) rfl ?_
  refine ar_if_ne (pc := 177) (x := v4) (tgt := 182) (off := 5) (by decide +kernel) (by decide) (fun c1 => ?_) (fun c1 => ?_)
  · replace H := H.1 c1
    refine ar_iinc (pc := 182) (i := 3) (z := 1) (x := v3) (ls2 := [some (.inr (.inr 1)), none, some (.inr (.inr v2)), some (.inl (am_w32 (v3 + 1))), some (.inl v4), none]) (by decide +kernel) rfl (by decide) rfl ?_
    refine ar_goto (pc := 185) (tgt := 15) (off := -170) (by decide +kernel) (by decide) ?_
    refine ar_forget [true, true, true, true, false, true] rfl ?_
    exact H h0
  · replace H := H.2 c1
    refine ar_iload_n (pc := 180) (i := 3) (k0 := 3) (by decide +kernel) rfl rfl ?_
    exact ar_iret (pc := 181) (x := v3) (by decide +kernel) rfl rfl H

/-! ByteIntervals.years(II)I -/
theorem B_X6_years_0 {d : Nat} {Q : Int → am_H → Prop} {h : am_H} {v1 v2 : Int} (H : (v1 < 0 → Q (-1) h) ∧ (0 ≤ v1 → (9999 < v1 → Q (-1) h) ∧ (v1 ≤ 9999 → (v2 < 1 → Q (-1) h) ∧ (1 ≤ v2 → (v2 ≤ 40 → cf d M_X4_keepStep [.inr (.inr 4)] h (fun _ h6 => wf (d + 1) M_X6_years Q 53 [some (.inr (.inr 1)), none, some (.inl v2), some (.inr (.inr 5)), some (.inl 0), none] [] (am_up h6 5 5 (am_w32 ((am_w32 (v1 * 2)) + 479))))) ∧ (40 < v2 → Q (-1) h))))) : wf (d + 1) M_X6_years Q 0 [some (.inr (.inr 1)), some (.inl v1), some (.inl v2), none, none, none] [] h := by
  intro h0
  refine ar_iload_n (pc := 0) (i := 1) (k0 := 1) (by decide +kernel) rfl rfl ?_
  refine ar_if_lt (pc := 1) (x := v1) (tgt := 22) (off := 21) (by decide +kernel) (by decide) (fun c1 => ?_) (fun c1 => ?_)
  · replace H := H.1 c1
    refine ar_iconst (pc := 22) (z := (-1)) (by decide +kernel) (by unfold am_i32; omega) ?_
    exact ar_iret (pc := 23) (x := (-1)) (by decide +kernel) rfl rfl H
  · replace H := H.2 c1
    refine ar_iload_n (pc := 4) (i := 1) (k0 := 1) (by decide +kernel) rfl rfl ?_
    refine ar_sipush (pc := 5) (z := 9999) (by decide +kernel) (by omega) ?_
    refine ar_icmp_gt (pc := 8) (x := v1) (y := 9999) (tgt := 22) (off := 14) (by decide +kernel) (by decide) (fun c2 => ?_) (fun c2 => ?_)
    · replace H := H.1 c2
      refine ar_iconst (pc := 22) (z := (-1)) (by decide +kernel) (by unfold am_i32; omega) ?_
      exact ar_iret (pc := 23) (x := (-1)) (by decide +kernel) rfl rfl H
    · replace H := H.2 c2
      refine ar_iload_n (pc := 11) (i := 2) (k0 := 2) (by decide +kernel) rfl rfl ?_
      refine ar_iconst (pc := 12) (z := 1) (by decide +kernel) (by unfold am_i32; omega) ?_
      refine ar_icmp_lt (pc := 13) (x := v2) (y := 1) (tgt := 22) (off := 9) (by decide +kernel) (by decide) (fun c3 => ?_) (fun c3 => ?_)
      · replace H := H.1 c3
        refine ar_iconst (pc := 22) (z := (-1)) (by decide +kernel) (by unfold am_i32; omega) ?_
        exact ar_iret (pc := 23) (x := (-1)) (by decide +kernel) rfl rfl H
      · replace H := H.2 c3
        refine ar_iload_n (pc := 16) (i := 2) (k0 := 2) (by decide +kernel) rfl rfl ?_
        refine ar_bipush (pc := 17) (z := 40) (by decide +kernel) (by omega) ?_
        refine ar_icmp_le (pc := 19) (x := v2) (y := 40) (tgt := 24) (off := 5) (by decide +kernel) (by decide) (fun c4 => ?_) (fun c4 => ?_)
        · replace H := H.1 c4
          refine ar_aload_n (pc := 24) (i := 0) (k0 := 0) (by decide +kernel) rfl rfl ?_
          refine ar_getFV (pc := 25) (a := 1) (b := 4) 6 5 (by decide +kernel) k_1 rfl (by decide) wf_RX6_32 rfl (fun _ => rfl) rfl ?_
          refine ar_callVN (pc := 28) (M2 := M_X4_keepStep) (a := 4) (ci := 4) (as := []) (n2 := 321) (st := []) (by decide +kernel) rfl wn_RX6_89 wi_yX4_keepStep wl_yX4_keepStep k_4 rfl wz_RX4 wc_yX4_keepStep ⟨by decide, by decide, rfl⟩ (by decide) (Nat.le_of_ble_eq_true rfl) (Nat.le_refl _) (Nat.le_refl _) (am_Cl_mono H (fun r5 h6 H => ?_))
          show am_Wp true (d + 1) M_X6_years 321 321 h0 Q 31 [some (.inr (.inr 1)), some (.inl v1), some (.inl v2), none, none, none] [] 321 h6
          refine ar_aload_n (pc := 31) (i := 0) (k0 := 0) (by decide +kernel) rfl rfl ?_
          refine ar_getFV (pc := 32) (a := 1) (b := 4) 6 5 (by decide +kernel) k_1 rfl (by decide) wf_RX6_32 rfl (fun _ => rfl) rfl ?_
          refine ar_getFNV (pc := 35) (a := 4) (b := 5) 4 0 (by decide +kernel) k_4 rfl (by decide) wg_RX6_82 rfl (fun _ => rfl) rfl ?_
          refine ar_astore_n (pc := 38) (i := 3) (k0 := 3) (ls2 := [some (.inr (.inr 1)), some (.inl v1), some (.inl v2), some (.inr (.inr 5)), none, none]) (by decide +kernel) rfl (by decide) rfl ?_
          refine ar_aload_n (pc := 39) (i := 3) (k0 := 3) (by decide +kernel) rfl rfl ?_
          refine ar_iload_n (pc := 40) (i := 1) (k0 := 1) (by decide +kernel) rfl rfl ?_
          refine ar_iconst (pc := 41) (z := 2) (by decide +kernel) (by unfold am_i32; omega) ?_
          refine ar_imul (pc := 42) (x := v1) (y := 2) (by decide +kernel) ?_
          refine ar_sipush (pc := 43) (z := 479) (by decide +kernel) (by omega) ?_
          refine ar_iadd (pc := 46) (x := (am_w32 (v1 * 2))) (y := 479) (by decide +kernel) ?_
          refine ar_putIN (pc := 47) (a := 5) (z := (am_w32 ((am_w32 (v1 * 2)) + 479))) 0 5 (by decide +kernel) k_5 rfl (by decide) rfl (fun _ => rfl) rfl wg_RX6_169 ?_
          refine ar_iconst (pc := 50) (z := 0) (by decide +kernel) (by unfold am_i32; omega) ?_
          refine ar_istore (pc := 51) (i := 4) (ls2 := [some (.inr (.inr 1)), some (.inl v1), some (.inl v2), some (.inr (.inr 5)), some (.inl 0), none]) (by decide +kernel) (by decide) rfl ?_
          refine ar_forget [true, false, true, true, true, true] rfl ?_
          exact H h0
        · replace H := H.2 c4
          refine ar_iconst (pc := 22) (z := (-1)) (by decide +kernel) (by unfold am_i32; omega) ?_
          exact ar_iret (pc := 23) (x := (-1)) (by decide +kernel) rfl rfl H
theorem B_X6_years_53 {d : Nat} {Q : Int → am_H → Prop} {h : am_H} {v2 v4 : Int} (H : (v2 ≤ v4 → Q (h 5 4) h) ∧ (v4 < v2 → cf d M_X0_drawAnew [.inr (.inr 5)] h (fun _ h3 => cf d M_X6_passYear [.inr (.inr 1), .inr (.inr 5), .inl (h 5 5)] h3 (fun _ h5 => wf (d + 1) M_X6_years Q 53 [some (.inr (.inr 1)), none, some (.inl v2), some (.inr (.inr 5)), some (.inl (am_w32 (v4 + 1))), none] [] h5)))) : wf (d + 1) M_X6_years Q 53 [some (.inr (.inr 1)), none, some (.inl v2), some (.inr (.inr 5)), some (.inl v4), none] [] h := by
  intro h0
  refine ar_iload (pc := 53) (i := 4) (by decide +kernel) rfl ?_
  refine ar_iload_n (pc := 55) (i := 2) (k0 := 2) (by decide +kernel) rfl rfl ?_
  refine ar_icmp_ge (pc := 56) (x := v4) (y := v2) (tgt := 82) (off := 26) (by decide +kernel) (by decide) (fun c1 => ?_) (fun c1 => ?_)
  · replace H := H.1 c1
    refine ar_aload_n (pc := 82) (i := 3) (k0 := 3) (by decide +kernel) rfl rfl ?_
    refine ar_getNV (pc := 83) (a := 5) (v := .inl (h 5 4)) 0 4 (by decide +kernel) k_5 rfl (by decide) wg_RX6_118 rfl ?_
    exact ar_iret (pc := 86) (x := (h 5 4)) (by decide +kernel) rfl rfl H
  · replace H := H.2 c1
    refine ar_aload_n (pc := 59) (i := 3) (k0 := 3) (by decide +kernel) rfl rfl ?_
    refine ar_getNV (pc := 60) (a := 5) (v := .inl (h 5 5)) 0 5 (by decide +kernel) k_5 rfl (by decide) wg_RX6_169 rfl ?_
    refine ar_istore (pc := 63) (i := 5) (ls2 := [some (.inr (.inr 1)), none, some (.inl v2), some (.inr (.inr 5)), some (.inl v4), some (.inl (h 5 5))]) (by decide +kernel) (by decide) rfl ?_
    refine ar_aload_n (pc := 65) (i := 3) (k0 := 3) (by decide +kernel) rfl rfl ?_
    refine ar_callVN (pc := 66) (M2 := M_X0_drawAnew) (a := 5) (ci := 0) (as := []) (n2 := 321) (st := []) (by decide +kernel) rfl wn_RX6_172 wi_yX0_drawAnew wl_yX0_drawAnew k_5 rfl wz_RX0 wc_yX0_drawAnew ⟨by decide, by decide, rfl⟩ (by decide) (Nat.le_of_ble_eq_true rfl) (Nat.le_refl _) (Nat.le_refl _) (am_Cl_mono H (fun r2 h3 H => ?_))
    show am_Wp true (d + 1) M_X6_years 321 321 h0 Q 69 [some (.inr (.inr 1)), none, some (.inl v2), some (.inr (.inr 5)), some (.inl v4), some (.inl (h 5 5))] [] 321 h3
    refine ar_aload_n (pc := 69) (i := 0) (k0 := 0) (by decide +kernel) rfl rfl ?_
    refine ar_aload_n (pc := 70) (i := 3) (k0 := 3) (by decide +kernel) rfl rfl ?_
    refine ar_iload (pc := 71) (i := 5) (by decide +kernel) rfl ?_
    refine ar_callV (pc := 73) (M2 := M_X6_passYear) (a := 1) (ci := 6) (as := [.inr (.inr 5), .inl (h 5 5)]) (n2 := 321) (st := []) (by decide +kernel) rfl wm_RX6_175 wi_yX6_passYear wl_yX6_passYear k_1 rfl wz_RX6 wc_yX6_passYear ⟨by decide, by decide, rfl⟩ (by decide) (Nat.le_of_ble_eq_true rfl) (Nat.le_refl _) (Nat.le_refl _) (am_Cl_mono H (fun r4 h5 H => ?_))
    show am_Wp true (d + 1) M_X6_years 321 321 h0 Q 76 [some (.inr (.inr 1)), none, some (.inl v2), some (.inr (.inr 5)), some (.inl v4), some (.inl (h 5 5))] [] 321 h5
    refine ar_iinc (pc := 76) (i := 4) (z := 1) (x := v4) (ls2 := [some (.inr (.inr 1)), none, some (.inl v2), some (.inr (.inr 5)), some (.inl (am_w32 (v4 + 1))), some (.inl (h 5 5))]) (by decide +kernel) rfl (by decide) rfl ?_
    refine ar_goto (pc := 79) (tgt := 53) (off := -26) (by decide +kernel) (by decide) ?_
    refine ar_forget [true, true, true, true, true, false] rfl ?_
    exact H h0

/-! ByteIntervals.passYear(LByteIntervals$Moment;I)V -/
theorem B_X6_passYear_0 {d : Nat} {Q : Int → am_H → Prop} {h : am_H} {a1 v2 : Int} (H : (¬ (am_w32 (v2.tmod 6)) = 0 → (¬ (am_w32 (v2.tmod 6)) = 1 → (¬ (am_w32 (v2.tmod 6)) = 2 → (am_kd 321 a1 = 10) ∧ ((9999 ≤ (h a1 4) → Q 0 h) ∧ ((h a1 4) < 9999 → cf d M_X6_passDay [.inr (.inr 1), .inr (.inr a1)] h (fun _ h7 => Q 0 h7)))) ∧ ((am_w32 (v2.tmod 6)) = 2 → (¬ (am_w32 (v2.tmod 4)) = 0 → wf (d + 1) M_X6_passYear Q 112 [some (.inr (.inr 1)), some (.inr (.inr a1)), none, none, none] [.inl (-1)] h) ∧ ((am_w32 (v2.tmod 4)) = 0 → cf d M_X6_theText [.inr (.inr 1)] h (fun r9 h10 => cf d M_X2_mended [.inr (.inr 218), .inr (.inr r9), .inr (.inr a1)] h10 (fun r11 h12 => wf (d + 1) M_X6_passYear Q 112 [some (.inr (.inr 1)), some (.inr (.inr a1)), none, none, none] [.inl r11] h12))))) ∧ ((am_w32 (v2.tmod 6)) = 1 → (¬ (am_w32 (v2.tmod 4)) = 3 → wf (d + 1) M_X6_passYear Q 82 [none, none, none, none, none] [] h) ∧ ((am_w32 (v2.tmod 4)) = 3 → (am_kd 321 a1 = 10) ∧ (cf d M_X0_canResize [.inr (.inr a1), .inl (am_w32 ((am_w32 (v2.tdiv 6)).tmod 41))] h (fun r14 h15 => (r14 = 0 → wf (d + 1) M_X6_passYear Q 82 [none, none, none, none, none] [] h15) ∧ (¬ r14 = 0 → cf d M_X0_resize [.inr (.inr a1), .inl (am_w32 ((am_w32 (v2.tdiv 6)).tmod 41))] h15 (fun _ h19 => wf (d + 1) M_X6_passYear Q 82 [none, none, none, none, none] [] h19))))))) ∧ ((am_w32 (v2.tmod 6)) = 0 → (am_kd 321 a1 = 10) ∧ (cf d M_X0_canPut [.inr (.inr a1), .inl (am_w32 ((am_w32 (v2.tdiv 6)).tmod 40)), .inl (am_w32 (v2.tmod 256))] h (fun r20 h21 => (r20 = 0 → wf (d + 1) M_X6_passYear Q 43 [none, none, none, none, none] [] h21) ∧ (¬ r20 = 0 → cf d M_X0_putByte [.inr (.inr a1), .inl (am_w32 ((am_w32 (v2.tdiv 6)).tmod 40)), .inl (am_w32 (v2.tmod 256))] h21 (fun _ h25 => wf (d + 1) M_X6_passYear Q 43 [none, none, none, none, none] [] h25)))))) : wf (d + 1) M_X6_passYear Q 0 [some (.inr (.inr 1)), some (.inr (.inr a1)), some (.inl v2), none, none] [] h := by
  intro h0
  refine ar_iload_n (pc := 0) (i := 2) (k0 := 2) (by decide +kernel) rfl rfl ?_
  refine ar_bipush (pc := 1) (z := 6) (by decide +kernel) (by omega) ?_
  refine ar_irem (pc := 3) (x := v2) (y := 6) (by decide +kernel) (by decide) ?_
  refine ar_istore_n (pc := 4) (i := 3) (k0 := 3) (ls2 := [some (.inr (.inr 1)), some (.inr (.inr a1)), some (.inl v2), some (.inl (am_w32 (v2.tmod 6))), none]) (by decide +kernel) rfl (by decide) rfl ?_
  refine ar_iload_n (pc := 5) (i := 3) (k0 := 3) (by decide +kernel) rfl rfl ?_
  refine ar_if_ne (pc := 6) (x := (am_w32 (v2.tmod 6))) (tgt := 46) (off := 40) (by decide +kernel) (by decide) (fun c1 => ?_) (fun c1 => ?_)
  · replace H := H.1 c1
    refine ar_iload_n (pc := 46) (i := 3) (k0 := 3) (by decide +kernel) rfl rfl ?_
    refine ar_iconst (pc := 47) (z := 1) (by decide +kernel) (by unfold am_i32; omega) ?_
    refine ar_icmp_ne (pc := 48) (x := (am_w32 (v2.tmod 6))) (y := 1) (tgt := 85) (off := 37) (by decide +kernel) (by decide) (fun c2 => ?_) (fun c2 => ?_)
    · replace H := H.1 c2
      refine ar_iload_n (pc := 85) (i := 3) (k0 := 3) (by decide +kernel) rfl rfl ?_
      refine ar_iconst (pc := 86) (z := 2) (by decide +kernel) (by unfold am_i32; omega) ?_
      refine ar_icmp_ne (pc := 87) (x := (am_w32 (v2.tmod 6))) (y := 2) (tgt := 136) (off := 49) (by decide +kernel) (by decide) (fun c3 => ?_) (fun c3 => ?_)
      · replace H := H.1 c3
        refine ar_aload_n (pc := 136) (i := 1) (k0 := 1) (by decide +kernel) rfl rfl ?_
        obtain ⟨g4, H⟩ := H
        refine ar_getNV (pc := 137) (a := a1) (v := .inl (h a1 4)) 0 4 (by decide +kernel) g4 rfl (by decide) wg_RX6_118 rfl ?_
        refine ar_sipush (pc := 140) (z := 9999) (by decide +kernel) (by omega) ?_
        refine ar_icmp_ge (pc := 143) (x := (h a1 4)) (y := 9999) (tgt := 152) (off := 9) (by decide +kernel) (by decide) (fun c5 => ?_) (fun c5 => ?_)
        · replace H := H.1 c5
          exact ar_vret (pc := 152) (by decide +kernel) rfl rfl H
        · replace H := H.2 c5
          refine ar_aload_n (pc := 146) (i := 0) (k0 := 0) (by decide +kernel) rfl rfl ?_
          refine ar_aload_n (pc := 147) (i := 1) (k0 := 1) (by decide +kernel) rfl rfl ?_
          refine ar_callV (pc := 148) (M2 := M_X6_passDay) (a := 1) (ci := 6) (as := [.inr (.inr a1)]) (n2 := 321) (st := []) (by decide +kernel) rfl wm_RX6_125 wi_yX6_passDay wl_yX6_passDay k_1 rfl wz_RX6 wc_yX6_passDay ⟨by decide, by decide, rfl⟩ (by decide) (Nat.le_of_ble_eq_true rfl) (Nat.le_refl _) (Nat.le_refl _) (am_Cl_mono H (fun r6 h7 H => ?_))
          show am_Wp true (d + 1) M_X6_passYear 321 321 h0 Q 151 [some (.inr (.inr 1)), some (.inr (.inr a1)), some (.inl v2), some (.inl (am_w32 (v2.tmod 6))), none] [.inl r6] 321 h7
          refine ar_pop (pc := 151) (by decide +kernel) trivial ?_
          exact ar_vret (pc := 152) (by decide +kernel) rfl rfl H
      · replace H := H.2 c3
        refine ar_iload_n (pc := 90) (i := 2) (k0 := 2) (by decide +kernel) rfl rfl ?_
        refine ar_iconst (pc := 91) (z := 4) (by decide +kernel) (by unfold am_i32; omega) ?_
        refine ar_irem (pc := 92) (x := v2) (y := 4) (by decide +kernel) (by decide) ?_
        refine ar_if_ne (pc := 93) (x := (am_w32 (v2.tmod 4))) (tgt := 111) (off := 18) (by decide +kernel) (by decide) (fun c8 => ?_) (fun c8 => ?_)
        · replace H := H.1 c8
          refine ar_iconst (pc := 111) (z := (-1)) (by decide +kernel) (by unfold am_i32; omega) ?_
          refine ar_forget [true, true, false, false, true] rfl ?_
          exact H h0
        · replace H := H.2 c8
          refine ar_aload_n (pc := 96) (i := 0) (k0 := 0) (by decide +kernel) rfl rfl ?_
          refine ar_getFV (pc := 97) (a := 1) (b := 218) 6 9 (by decide +kernel) k_1 rfl (by decide) wf_RX6_56 rfl (fun _ => rfl) rfl ?_
          refine ar_aload_n (pc := 100) (i := 0) (k0 := 0) (by decide +kernel) rfl rfl ?_
          refine ar_callV (pc := 101) (M2 := M_X6_theText) (a := 1) (ci := 6) (as := []) (n2 := 321) (st := [.inr (.inr 218)]) (by decide +kernel) rfl wm_RX6_103 wi_yX6_theText wl_yX6_theText k_1 rfl wz_RX6 wc_yX6_theText ⟨by decide, by decide, rfl⟩ (by decide) (Nat.le_of_ble_eq_true rfl) (Nat.le_refl _) (Nat.le_refl _) (am_Cl_mono H (fun r9 h10 H => ?_))
          show am_Wp true (d + 1) M_X6_passYear 321 321 h0 Q 104 [some (.inr (.inr 1)), some (.inr (.inr a1)), some (.inl v2), some (.inl (am_w32 (v2.tmod 6))), none] [.inr (.inr r9), .inr (.inr 218)] 321 h10
          refine ar_aload_n (pc := 104) (i := 1) (k0 := 1) (by decide +kernel) rfl rfl ?_
          refine ar_callVN (pc := 105) (M2 := M_X2_mended) (a := 218) (ci := 2) (as := [.inr (.inr r9), .inr (.inr a1)]) (n2 := 321) (st := []) (by decide +kernel) rfl wn_RX6_107 wi_yX2_mended wl_yX2_mended k_218 rfl wz_RX2 wc_yX2_mended ⟨by decide, by decide, rfl⟩ (by decide) (Nat.le_of_ble_eq_true rfl) (Nat.le_refl _) (Nat.le_refl _) (am_Cl_mono H (fun r11 h12 H => ?_))
          show am_Wp true (d + 1) M_X6_passYear 321 321 h0 Q 108 [some (.inr (.inr 1)), some (.inr (.inr a1)), some (.inl v2), some (.inl (am_w32 (v2.tmod 6))), none] [.inl r11] 321 h12
          refine ar_goto (pc := 108) (tgt := 112) (off := 4) (by decide +kernel) (by decide) ?_
          refine ar_forget [true, true, false, false, true] rfl ?_
          exact H h0
    · replace H := H.2 c2
      refine ar_iload_n (pc := 51) (i := 2) (k0 := 2) (by decide +kernel) rfl rfl ?_
      refine ar_bipush (pc := 52) (z := 6) (by decide +kernel) (by omega) ?_
      refine ar_idiv (pc := 54) (x := v2) (y := 6) (by decide +kernel) (by decide) ?_
      refine ar_bipush (pc := 55) (z := 41) (by decide +kernel) (by omega) ?_
      refine ar_irem (pc := 57) (x := (am_w32 (v2.tdiv 6))) (y := 41) (by decide +kernel) (by decide) ?_
      refine ar_istore (pc := 58) (i := 4) (ls2 := [some (.inr (.inr 1)), some (.inr (.inr a1)), some (.inl v2), some (.inl (am_w32 (v2.tmod 6))), some (.inl (am_w32 ((am_w32 (v2.tdiv 6)).tmod 41)))]) (by decide +kernel) (by decide) rfl ?_
      refine ar_iload_n (pc := 60) (i := 2) (k0 := 2) (by decide +kernel) rfl rfl ?_
      refine ar_iconst (pc := 61) (z := 4) (by decide +kernel) (by unfold am_i32; omega) ?_
      refine ar_irem (pc := 62) (x := v2) (y := 4) (by decide +kernel) (by decide) ?_
      refine ar_iconst (pc := 63) (z := 3) (by decide +kernel) (by unfold am_i32; omega) ?_
      refine ar_icmp_ne (pc := 64) (x := (am_w32 (v2.tmod 4))) (y := 3) (tgt := 82) (off := 18) (by decide +kernel) (by decide) (fun c13 => ?_) (fun c13 => ?_)
      · replace H := H.1 c13
        refine ar_forget [false, false, false, false, false] rfl ?_
        exact H h0
      · replace H := H.2 c13
        refine ar_aload_n (pc := 67) (i := 1) (k0 := 1) (by decide +kernel) rfl rfl ?_
        refine ar_iload (pc := 68) (i := 4) (by decide +kernel) rfl ?_
        obtain ⟨g16, H⟩ := H
        refine ar_callVN (pc := 70) (M2 := M_X0_canResize) (a := a1) (ci := 0) (as := [.inl (am_w32 ((am_w32 (v2.tdiv 6)).tmod 41))]) (n2 := 321) (st := []) (by decide +kernel) rfl wn_RX6_96 wi_yX0_canResize wl_yX0_canResize g16 rfl wz_RX0 wc_yX0_canResize ⟨by decide, by decide, rfl⟩ (by decide) (Nat.le_of_ble_eq_true rfl) (Nat.le_refl _) (Nat.le_refl _) (am_Cl_mono H (fun r14 h15 H => ?_))
        show am_Wp true (d + 1) M_X6_passYear 321 321 h0 Q 73 [some (.inr (.inr 1)), some (.inr (.inr a1)), some (.inl v2), some (.inl (am_w32 (v2.tmod 6))), some (.inl (am_w32 ((am_w32 (v2.tdiv 6)).tmod 41)))] [.inl r14] 321 h15
        refine ar_if_eq (pc := 73) (x := r14) (tgt := 82) (off := 9) (by decide +kernel) (by decide) (fun c17 => ?_) (fun c17 => ?_)
        · replace H := H.1 c17
          refine ar_forget [false, false, false, false, false] rfl ?_
          exact H h0
        · replace H := H.2 c17
          refine ar_aload_n (pc := 76) (i := 1) (k0 := 1) (by decide +kernel) rfl rfl ?_
          refine ar_iload (pc := 77) (i := 4) (by decide +kernel) rfl ?_
          refine ar_callVN (pc := 79) (M2 := M_X0_resize) (a := a1) (ci := 0) (as := [.inl (am_w32 ((am_w32 (v2.tdiv 6)).tmod 41))]) (n2 := 321) (st := []) (by decide +kernel) rfl wn_RX6_100 wi_yX0_resize wl_yX0_resize g16 rfl wz_RX0 wc_yX0_resize ⟨by decide, by decide, rfl⟩ (by decide) (Nat.le_of_ble_eq_true rfl) (Nat.le_refl _) (Nat.le_refl _) (am_Cl_mono H (fun r18 h19 H => ?_))
          show am_Wp true (d + 1) M_X6_passYear 321 321 h0 Q 82 [some (.inr (.inr 1)), some (.inr (.inr a1)), some (.inl v2), some (.inl (am_w32 (v2.tmod 6))), some (.inl (am_w32 ((am_w32 (v2.tdiv 6)).tmod 41)))] [] 321 h19
          refine ar_forget [false, false, false, false, false] rfl ?_
          exact H h0
  · replace H := H.2 c1
    refine ar_iload_n (pc := 9) (i := 2) (k0 := 2) (by decide +kernel) rfl rfl ?_
    refine ar_bipush (pc := 10) (z := 6) (by decide +kernel) (by omega) ?_
    refine ar_idiv (pc := 12) (x := v2) (y := 6) (by decide +kernel) (by decide) ?_
    refine ar_bipush (pc := 13) (z := 40) (by decide +kernel) (by omega) ?_
    refine ar_irem (pc := 15) (x := (am_w32 (v2.tdiv 6))) (y := 40) (by decide +kernel) (by decide) ?_
    refine ar_istore (pc := 16) (i := 4) (ls2 := [some (.inr (.inr 1)), some (.inr (.inr a1)), some (.inl v2), some (.inl (am_w32 (v2.tmod 6))), some (.inl (am_w32 ((am_w32 (v2.tdiv 6)).tmod 40)))]) (by decide +kernel) (by decide) rfl ?_
    refine ar_aload_n (pc := 18) (i := 1) (k0 := 1) (by decide +kernel) rfl rfl ?_
    refine ar_iload (pc := 19) (i := 4) (by decide +kernel) rfl ?_
    refine ar_iload_n (pc := 21) (i := 2) (k0 := 2) (by decide +kernel) rfl rfl ?_
    refine ar_sipush (pc := 22) (z := 256) (by decide +kernel) (by omega) ?_
    refine ar_irem (pc := 25) (x := v2) (y := 256) (by decide +kernel) (by decide) ?_
    obtain ⟨g22, H⟩ := H
    refine ar_callVN (pc := 26) (M2 := M_X0_canPut) (a := a1) (ci := 0) (as := [.inl (am_w32 ((am_w32 (v2.tdiv 6)).tmod 40)), .inl (am_w32 (v2.tmod 256))]) (n2 := 321) (st := []) (by decide +kernel) rfl wn_RX6_85 wi_yX0_canPut wl_yX0_canPut g22 rfl wz_RX0 wc_yX0_canPut ⟨by decide, by decide, rfl⟩ (by decide) (Nat.le_of_ble_eq_true rfl) (Nat.le_refl _) (Nat.le_refl _) (am_Cl_mono H (fun r20 h21 H => ?_))
    show am_Wp true (d + 1) M_X6_passYear 321 321 h0 Q 29 [some (.inr (.inr 1)), some (.inr (.inr a1)), some (.inl v2), some (.inl (am_w32 (v2.tmod 6))), some (.inl (am_w32 ((am_w32 (v2.tdiv 6)).tmod 40)))] [.inl r20] 321 h21
    refine ar_if_eq (pc := 29) (x := r20) (tgt := 43) (off := 14) (by decide +kernel) (by decide) (fun c23 => ?_) (fun c23 => ?_)
    · replace H := H.1 c23
      refine ar_forget [false, false, false, false, false] rfl ?_
      exact H h0
    · replace H := H.2 c23
      refine ar_aload_n (pc := 32) (i := 1) (k0 := 1) (by decide +kernel) rfl rfl ?_
      refine ar_iload (pc := 33) (i := 4) (by decide +kernel) rfl ?_
      refine ar_iload_n (pc := 35) (i := 2) (k0 := 2) (by decide +kernel) rfl rfl ?_
      refine ar_sipush (pc := 36) (z := 256) (by decide +kernel) (by omega) ?_
      refine ar_irem (pc := 39) (x := v2) (y := 256) (by decide +kernel) (by decide) ?_
      refine ar_callVN (pc := 40) (M2 := M_X0_putByte) (a := a1) (ci := 0) (as := [.inl (am_w32 ((am_w32 (v2.tdiv 6)).tmod 40)), .inl (am_w32 (v2.tmod 256))]) (n2 := 321) (st := []) (by decide +kernel) rfl wn_RX6_92 wi_yX0_putByte wl_yX0_putByte g22 rfl wz_RX0 wc_yX0_putByte ⟨by decide, by decide, rfl⟩ (by decide) (Nat.le_of_ble_eq_true rfl) (Nat.le_refl _) (Nat.le_refl _) (am_Cl_mono H (fun r24 h25 H => ?_))
      show am_Wp true (d + 1) M_X6_passYear 321 321 h0 Q 43 [some (.inr (.inr 1)), some (.inr (.inr a1)), some (.inl v2), some (.inl (am_w32 (v2.tmod 6))), some (.inl (am_w32 ((am_w32 (v2.tdiv 6)).tmod 40)))] [] 321 h25
      refine ar_forget [false, false, false, false, false] rfl ?_
      exact H h0
theorem B_X6_passYear_43 {d : Nat} {Q : Int → am_H → Prop} {h : am_H} (H : Q 0 h) : wf (d + 1) M_X6_passYear Q 43 [none, none, none, none, none] [] h := by
  intro h0
  refine ar_goto (pc := 43) (tgt := 152) (off := 109) (by decide +kernel) (by decide) ?_
  exact ar_vret (pc := 152) (by decide +kernel) rfl rfl H
theorem B_X6_passYear_82 {d : Nat} {Q : Int → am_H → Prop} {h : am_H} (H : Q 0 h) : wf (d + 1) M_X6_passYear Q 82 [none, none, none, none, none] [] h := by
  intro h0
  refine ar_goto (pc := 82) (tgt := 152) (off := 70) (by decide +kernel) (by decide) ?_
  exact ar_vret (pc := 152) (by decide +kernel) rfl rfl H
theorem B_X6_passYear_112 {d : Nat} {Q : Int → am_H → Prop} {h : am_H} {a1 s0 : Int} (H : (s0 = (-1) → wf (d + 1) M_X6_passYear Q 133 [none, none, none, none, none] [] h) ∧ (¬ s0 = (-1) → (am_kd 321 a1 = 10) ∧ (cf d M_X0_takeMended [.inr (.inr a1), .inr (.inr 240), .inl s0] h (fun _ h3 => wf (d + 1) M_X6_passYear Q 133 [none, none, none, none, none] [] h3)))) : wf (d + 1) M_X6_passYear Q 112 [some (.inr (.inr 1)), some (.inr (.inr a1)), none, none, none] [.inl s0] h := by
  intro h0
  refine ar_istore (pc := 112) (i := 4) (ls2 := [some (.inr (.inr 1)), some (.inr (.inr a1)), none, none, some (.inl s0)]) (by decide +kernel) (by decide) rfl ?_
  refine ar_iload (pc := 114) (i := 4) (by decide +kernel) rfl ?_
  refine ar_iconst (pc := 116) (z := (-1)) (by decide +kernel) (by unfold am_i32; omega) ?_
  refine ar_icmp_eq (pc := 117) (x := s0) (y := (-1)) (tgt := 133) (off := 16) (by decide +kernel) (by decide) (fun c1 => ?_) (fun c1 => ?_)
  · replace H := H.1 c1
    refine ar_forget [false, false, true, true, false] rfl ?_
    exact H h0
  · replace H := H.2 c1
    refine ar_aload_n (pc := 120) (i := 1) (k0 := 1) (by decide +kernel) rfl rfl ?_
    refine ar_aload_n (pc := 121) (i := 0) (k0 := 0) (by decide +kernel) rfl rfl ?_
    refine ar_getFV (pc := 122) (a := 1) (b := 218) 6 9 (by decide +kernel) k_1 rfl (by decide) wf_RX6_56 rfl (fun _ => rfl) rfl ?_
    refine ar_getFNV (pc := 125) (a := 218) (b := 240) 2 5 (by decide +kernel) k_218 rfl (by decide) wg_RX6_111 rfl (fun _ => rfl) rfl ?_
    refine ar_iload (pc := 128) (i := 4) (by decide +kernel) rfl ?_
    obtain ⟨g4, H⟩ := H
    refine ar_callVN (pc := 130) (M2 := M_X0_takeMended) (a := a1) (ci := 0) (as := [.inr (.inr 240), .inl s0]) (n2 := 321) (st := []) (by decide +kernel) rfl wn_RX6_114 wi_yX0_takeMended wl_yX0_takeMended g4 rfl wz_RX0 wc_yX0_takeMended ⟨by decide, by decide, rfl⟩ (by decide) (Nat.le_of_ble_eq_true rfl) (Nat.le_refl _) (Nat.le_refl _) (am_Cl_mono H (fun r2 h3 H => ?_))
    show am_Wp true (d + 1) M_X6_passYear 321 321 h0 Q 133 [some (.inr (.inr 1)), some (.inr (.inr a1)), none, none, some (.inl s0)] [] 321 h3
    refine ar_forget [false, false, true, true, false] rfl ?_
    exact H h0
theorem B_X6_passYear_133 {d : Nat} {Q : Int → am_H → Prop} {h : am_H} (H : Q 0 h) : wf (d + 1) M_X6_passYear Q 133 [none, none, none, none, none] [] h := by
  intro h0
  refine ar_goto (pc := 133) (tgt := 152) (off := 19) (by decide +kernel) (by decide) ?_
  exact ar_vret (pc := 152) (by decide +kernel) rfl rfl H

/-! ByteIntervals.undo()I -/
theorem B_X6_undo_0 {d : Nat} {Q : Int → am_H → Prop} {h : am_H} (H : cf d M_X4_takeBack [.inr (.inr 4)] h (fun r1 h2 => Q r1 h2)) : wf (d + 1) M_X6_undo Q 0 [some (.inr (.inr 1))] [] h := by
  intro h0
  refine ar_aload_n (pc := 0) (i := 0) (k0 := 0) (by decide +kernel) rfl rfl ?_
  refine ar_getFV (pc := 1) (a := 1) (b := 4) 6 5 (by decide +kernel) k_1 rfl (by decide) wf_RX6_32 rfl (fun _ => rfl) rfl ?_
  refine ar_callVN (pc := 4) (M2 := M_X4_takeBack) (a := 4) (ci := 4) (as := []) (n2 := 321) (st := []) (by decide +kernel) rfl wn_RX6_179 wi_yX4_takeBack wl_yX4_takeBack k_4 rfl wz_RX4 wc_yX4_takeBack ⟨by decide, by decide, rfl⟩ (by decide) (Nat.le_of_ble_eq_true rfl) (Nat.le_refl _) (Nat.le_refl _) (am_Cl_mono H (fun r1 h2 H => ?_))
  show am_Wp true (d + 1) M_X6_undo 321 321 h0 Q 7 [some (.inr (.inr 1))] [.inl r1] 321 h2
  exact ar_iret (pc := 7) (x := r1) (by decide +kernel) rfl rfl H

/-! ByteIntervals.at(I)I -/
theorem B_X6_at_0 {d : Nat} {Q : Int → am_H → Prop} {h : am_H} {v1 : Int} (H : (v1 < 0 → Q (-1) h) ∧ (0 ≤ v1 → (40 ≤ v1 → Q (-1) h) ∧ (v1 < 40 → Q (h 6 v1) h))) : wf d M_X6_at Q 0 [some (.inr (.inr 1)), some (.inl v1)] [] h := by
  intro h0
  refine ar_iload_n (pc := 0) (i := 1) (k0 := 1) (by decide +kernel) rfl rfl ?_
  refine ar_if_lt (pc := 1) (x := v1) (tgt := 25) (off := 24) (by decide +kernel) (by decide) (fun c1 => ?_) (fun c1 => ?_)
  · replace H := H.1 c1
    refine ar_iconst (pc := 25) (z := (-1)) (by decide +kernel) (by unfold am_i32; omega) ?_
    exact ar_iret (pc := 26) (x := (-1)) (by decide +kernel) rfl rfl H
  · replace H := H.2 c1
    refine ar_iload_n (pc := 4) (i := 1) (k0 := 1) (by decide +kernel) rfl rfl ?_
    refine ar_bipush (pc := 5) (z := 40) (by decide +kernel) (by omega) ?_
    refine ar_icmp_ge (pc := 7) (x := v1) (y := 40) (tgt := 25) (off := 18) (by decide +kernel) (by decide) (fun c2 => ?_) (fun c2 => ?_)
    · replace H := H.1 c2
      refine ar_iconst (pc := 25) (z := (-1)) (by decide +kernel) (by unfold am_i32; omega) ?_
      exact ar_iret (pc := 26) (x := (-1)) (by decide +kernel) rfl rfl H
    · replace H := H.2 c2
      refine ar_aload_n (pc := 10) (i := 0) (k0 := 0) (by decide +kernel) rfl rfl ?_
      refine ar_getFV (pc := 11) (a := 1) (b := 4) 6 5 (by decide +kernel) k_1 rfl (by decide) wf_RX6_32 rfl (fun _ => rfl) rfl ?_
      refine ar_getFNV (pc := 14) (a := 4) (b := 5) 4 0 (by decide +kernel) k_4 rfl (by decide) wg_RX6_82 rfl (fun _ => rfl) rfl ?_
      refine ar_getFNV (pc := 17) (a := 5) (b := 6) 0 0 (by decide +kernel) k_5 rfl (by decide) wg_RX6_182 rfl (fun _ => rfl) rfl ?_
      refine ar_iload_n (pc := 20) (i := 1) (k0 := 1) (by decide +kernel) rfl rfl ?_
      refine ar_iald (pc := 21) (a := 6) (i := v1) (by decide +kernel) k_6 c1 (am_lt_eq c2 (l_6).symm) ?_
      refine ar_goto (pc := 22) (tgt := 26) (off := 4) (by decide +kernel) (by decide) ?_
      exact ar_iret (pc := 26) (x := (h 6 v1)) (by decide +kernel) rfl rfl H

/-! ByteIntervals.is(I)I -/
theorem B_X6_is_0 {d : Nat} {Q : Int → am_H → Prop} {h : am_H} {v1 : Int} (H : (v1 < 0 ∨ 3 < v1 → Q (-2) h) ∧ (v1 = 0 → Q (h 5 4) h) ∧ (v1 = 1 → Q (h 5 5) h) ∧ (v1 = 2 → Q (h 5 3) h) ∧ (v1 = 3 → cf d M_X0_together [.inr (.inr 5), .inl 0, .inl (h 5 3)] h (fun r2 h3 => Q r2 h3))) : wf (d + 1) M_X6_is Q 0 [some (.inr (.inr 1)), some (.inl v1), none] [] h := by
  intro h0
  refine ar_aload_n (pc := 0) (i := 0) (k0 := 0) (by decide +kernel) rfl rfl ?_
  refine ar_getFV (pc := 1) (a := 1) (b := 4) 6 5 (by decide +kernel) k_1 rfl (by decide) wf_RX6_32 rfl (fun _ => rfl) rfl ?_
  refine ar_getFNV (pc := 4) (a := 4) (b := 5) 4 0 (by decide +kernel) k_4 rfl (by decide) wg_RX6_82 rfl (fun _ => rfl) rfl ?_
  refine ar_astore_n (pc := 7) (i := 2) (k0 := 2) (ls2 := [some (.inr (.inr 1)), some (.inl v1), some (.inr (.inr 5))]) (by decide +kernel) rfl (by decide) rfl ?_
  refine ar_iload_n (pc := 8) (i := 1) (k0 := 1) (by decide +kernel) rfl rfl ?_
  refine ar_table (pc := 9) (dflt := 56) (lo := 0) (hi := 3) (offs := #[31, 36, 41, 46]) (len := 31) (x := v1) (dt := 65) [40, 45, 50, 55] (by decide +kernel) (by decide) (by decide) (by decide) (fun c1 => ?_) (And.intro (fun c1 => ?_) (And.intro (fun c1 => ?_) (And.intro (fun c1 => ?_) (And.intro (fun c1 => ?_) (True.intro)))))
  · replace H := H.1 c1
    refine ar_bipush (pc := 65) (z := (-2)) (by decide +kernel) (by omega) ?_
    exact ar_iret (pc := 67) (x := (-2)) (by decide +kernel) rfl rfl H
  · replace H := H.2.1 c1
    refine ar_aload_n (pc := 40) (i := 2) (k0 := 2) (by decide +kernel) rfl rfl ?_
    refine ar_getNV (pc := 41) (a := 5) (v := .inl (h 5 4)) 0 4 (by decide +kernel) k_5 rfl (by decide) wg_RX6_118 rfl ?_
    exact ar_iret (pc := 44) (x := (h 5 4)) (by decide +kernel) rfl rfl H
  · replace H := H.2.2.1 c1
    refine ar_aload_n (pc := 45) (i := 2) (k0 := 2) (by decide +kernel) rfl rfl ?_
    refine ar_getNV (pc := 46) (a := 5) (v := .inl (h 5 5)) 0 5 (by decide +kernel) k_5 rfl (by decide) wg_RX6_169 rfl ?_
    exact ar_iret (pc := 49) (x := (h 5 5)) (by decide +kernel) rfl rfl H
  · replace H := H.2.2.2.1 c1
    refine ar_aload_n (pc := 50) (i := 2) (k0 := 2) (by decide +kernel) rfl rfl ?_
    refine ar_getNV (pc := 51) (a := 5) (v := .inl (h 5 3)) 0 3 (by decide +kernel) k_5 rfl (by decide) wg_RX6_129 rfl ?_
    exact ar_iret (pc := 54) (x := (h 5 3)) (by decide +kernel) rfl rfl H
  · replace H := H.2.2.2.2 c1
    refine ar_aload_n (pc := 55) (i := 2) (k0 := 2) (by decide +kernel) rfl rfl ?_
    refine ar_iconst (pc := 56) (z := 0) (by decide +kernel) (by unfold am_i32; omega) ?_
    refine ar_aload_n (pc := 57) (i := 2) (k0 := 2) (by decide +kernel) rfl rfl ?_
    refine ar_getNV (pc := 58) (a := 5) (v := .inl (h 5 3)) 0 3 (by decide +kernel) k_5 rfl (by decide) wg_RX6_129 rfl ?_
    refine ar_callVN (pc := 61) (M2 := M_X0_together) (a := 5) (ci := 0) (as := [.inl 0, .inl (h 5 3)]) (n2 := 321) (st := []) (by decide +kernel) rfl wn_RX6_185 wi_yX0_together wl_yX0_together k_5 rfl wz_RX0 wc_yX0_together ⟨by decide, by decide, rfl⟩ (by decide) (Nat.le_of_ble_eq_true rfl) (Nat.le_refl _) (Nat.le_refl _) (am_Cl_mono H (fun r2 h3 H => ?_))
    show am_Wp true (d + 1) M_X6_is 321 321 h0 Q 64 [some (.inr (.inr 1)), some (.inl v1), some (.inr (.inr 5))] [.inl r2] 321 h3
    exact ar_iret (pc := 64) (x := r2) (by decide +kernel) rfl rfl H

/-! ByteIntervals.book(II)I -/
theorem B_X6_book_0 {d : Nat} {Q : Int → am_H → Prop} {h : am_H} {v1 v2 : Int} (H : (¬ v1 = (-1) → (v1 < 0 → Q (-2) h) ∧ (0 ≤ v1 → ((h 5 2) ≤ v1 → Q (-2) h) ∧ (v1 < (h 5 2) → (v1 < 25 → cf d M_X0_tell [.inl (h 7 v1), .inl v2] h (fun r5 h6 => Q r5 h6)) ∧ (25 ≤ v1 → Q (-2) h)))) ∧ (v1 = (-1) → Q (h 5 2) h)) : wf (d + 1) M_X6_book Q 0 [some (.inr (.inr 1)), some (.inl v1), some (.inl v2), none] [] h := by
  intro h0
  refine ar_aload_n (pc := 0) (i := 0) (k0 := 0) (by decide +kernel) rfl rfl ?_
  refine ar_getFV (pc := 1) (a := 1) (b := 4) 6 5 (by decide +kernel) k_1 rfl (by decide) wf_RX6_32 rfl (fun _ => rfl) rfl ?_
  refine ar_getFNV (pc := 4) (a := 4) (b := 5) 4 0 (by decide +kernel) k_4 rfl (by decide) wg_RX6_82 rfl (fun _ => rfl) rfl ?_
  refine ar_astore_n (pc := 7) (i := 3) (k0 := 3) (ls2 := [some (.inr (.inr 1)), some (.inl v1), some (.inl v2), some (.inr (.inr 5))]) (by decide +kernel) rfl (by decide) rfl ?_
  refine ar_iload_n (pc := 8) (i := 1) (k0 := 1) (by decide +kernel) rfl rfl ?_
  refine ar_iconst (pc := 9) (z := (-1)) (by decide +kernel) (by unfold am_i32; omega) ?_
  refine ar_icmp_ne (pc := 10) (x := v1) (y := (-1)) (tgt := 18) (off := 8) (by decide +kernel) (by decide) (fun c1 => ?_) (fun c1 => ?_)
  · replace H := H.1 c1
    refine ar_iload_n (pc := 18) (i := 1) (k0 := 1) (by decide +kernel) rfl rfl ?_
    refine ar_if_lt (pc := 19) (x := v1) (tgt := 36) (off := 17) (by decide +kernel) (by decide) (fun c2 => ?_) (fun c2 => ?_)
    · replace H := H.1 c2
      refine ar_bipush (pc := 36) (z := (-2)) (by decide +kernel) (by omega) ?_
      exact ar_iret (pc := 38) (x := (-2)) (by decide +kernel) rfl rfl H
    · replace H := H.2 c2
      refine ar_iload_n (pc := 22) (i := 1) (k0 := 1) (by decide +kernel) rfl rfl ?_
      refine ar_aload_n (pc := 23) (i := 3) (k0 := 3) (by decide +kernel) rfl rfl ?_
      refine ar_getNV (pc := 24) (a := 5) (v := .inl (h 5 2)) 0 2 (by decide +kernel) k_5 rfl (by decide) wg_RX6_188 rfl ?_
      refine ar_icmp_ge (pc := 27) (x := v1) (y := (h 5 2)) (tgt := 36) (off := 9) (by decide +kernel) (by decide) (fun c3 => ?_) (fun c3 => ?_)
      · replace H := H.1 c3
        refine ar_bipush (pc := 36) (z := (-2)) (by decide +kernel) (by omega) ?_
        exact ar_iret (pc := 38) (x := (-2)) (by decide +kernel) rfl rfl H
      · replace H := H.2 c3
        refine ar_iload_n (pc := 30) (i := 1) (k0 := 1) (by decide +kernel) rfl rfl ?_
        refine ar_bipush (pc := 31) (z := 25) (by decide +kernel) (by omega) ?_
        refine ar_icmp_lt (pc := 33) (x := v1) (y := 25) (tgt := 39) (off := 6) (by decide +kernel) (by decide) (fun c4 => ?_) (fun c4 => ?_)
        · replace H := H.1 c4
          refine ar_aload_n (pc := 39) (i := 3) (k0 := 3) (by decide +kernel) rfl rfl ?_
          refine ar_getFNV (pc := 40) (a := 5) (b := 7) 0 1 (by decide +kernel) k_5 rfl (by decide) wg_RX6_191 rfl (fun _ => rfl) rfl ?_
          refine ar_iload_n (pc := 43) (i := 1) (k0 := 1) (by decide +kernel) rfl rfl ?_
          refine ar_iald (pc := 44) (a := 7) (i := v1) (by decide +kernel) k_7 c2 (am_lt_eq c4 (l_7).symm) ?_
          refine ar_iload_n (pc := 45) (i := 2) (k0 := 2) (by decide +kernel) rfl rfl ?_
          refine ar_callSN (pc := 46) (M2 := M_X0_tell) (as := [.inl (h 7 v1), .inl v2]) (n2 := 321) (st := []) (by decide +kernel) rfl wn_RX6_194 ws_yX0_tell wz_RX0 wc_yX0_tell ⟨by decide, by decide, rfl⟩ (by decide) (Nat.le_of_ble_eq_true rfl) (Nat.le_refl _) (Nat.le_refl _) (am_Cl_mono H (fun r5 h6 H => ?_))
          show am_Wp true (d + 1) M_X6_book 321 321 h0 Q 49 [some (.inr (.inr 1)), some (.inl v1), some (.inl v2), some (.inr (.inr 5))] [.inl r5] 321 h6
          exact ar_iret (pc := 49) (x := r5) (by decide +kernel) rfl rfl H
        · replace H := H.2 c4
          refine ar_bipush (pc := 36) (z := (-2)) (by decide +kernel) (by omega) ?_
          exact ar_iret (pc := 38) (x := (-2)) (by decide +kernel) rfl rfl H
  · replace H := H.2 c1
    refine ar_aload_n (pc := 13) (i := 3) (k0 := 3) (by decide +kernel) rfl rfl ?_
    refine ar_getNV (pc := 14) (a := 5) (v := .inl (h 5 2)) 0 2 (by decide +kernel) k_5 rfl (by decide) wg_RX6_188 rfl ?_
    exact ar_iret (pc := 17) (x := (h 5 2)) (by decide +kernel) rfl rfl H

/-! ByteIntervals.foretold(II)I -/
theorem B_X6_foretold_0 {d : Nat} {Q : Int → am_H → Prop} {h : am_H} {v1 v2 : Int} (H : (v1 < 1 → Q (-1) h) ∧ (1 ≤ v1 → (60 < v1 → Q (-1) h) ∧ (v1 ≤ 60 → (v2 < 0 → Q (-1) h) ∧ (0 ≤ v2 → (v2 < 40 → cf d M_X0_copy [.inr (.inr 198), .inr (.inr 5)] h (fun _ h6 => wf (d + 1) M_X6_foretold Q 39 [some (.inr (.inr 1)), some (.inl v1), some (.inl v2), some (.inl 0)] [] h6)) ∧ (40 ≤ v2 → Q (-1) h))))) : wf (d + 1) M_X6_foretold Q 0 [some (.inr (.inr 1)), some (.inl v1), some (.inl v2), none] [] h := by
  intro h0
  refine ar_iload_n (pc := 0) (i := 1) (k0 := 1) (by decide +kernel) rfl rfl ?_
  refine ar_iconst (pc := 1) (z := 1) (by decide +kernel) (by unfold am_i32; omega) ?_
  refine ar_icmp_lt (pc := 2) (x := v1) (y := 1) (tgt := 21) (off := 19) (by decide +kernel) (by decide) (fun c1 => ?_) (fun c1 => ?_)
  · replace H := H.1 c1
    refine ar_iconst (pc := 21) (z := (-1)) (by decide +kernel) (by unfold am_i32; omega) ?_
    exact ar_iret (pc := 22) (x := (-1)) (by decide +kernel) rfl rfl H
  · replace H := H.2 c1
    refine ar_iload_n (pc := 5) (i := 1) (k0 := 1) (by decide +kernel) rfl rfl ?_
    refine ar_bipush (pc := 6) (z := 60) (by decide +kernel) (by omega) ?_
    refine ar_icmp_gt (pc := 8) (x := v1) (y := 60) (tgt := 21) (off := 13) (by decide +kernel) (by decide) (fun c2 => ?_) (fun c2 => ?_)
    · replace H := H.1 c2
      refine ar_iconst (pc := 21) (z := (-1)) (by decide +kernel) (by unfold am_i32; omega) ?_
      exact ar_iret (pc := 22) (x := (-1)) (by decide +kernel) rfl rfl H
    · replace H := H.2 c2
      refine ar_iload_n (pc := 11) (i := 2) (k0 := 2) (by decide +kernel) rfl rfl ?_
      refine ar_if_lt (pc := 12) (x := v2) (tgt := 21) (off := 9) (by decide +kernel) (by decide) (fun c3 => ?_) (fun c3 => ?_)
      · replace H := H.1 c3
        refine ar_iconst (pc := 21) (z := (-1)) (by decide +kernel) (by unfold am_i32; omega) ?_
        exact ar_iret (pc := 22) (x := (-1)) (by decide +kernel) rfl rfl H
      · replace H := H.2 c3
        refine ar_iload_n (pc := 15) (i := 2) (k0 := 2) (by decide +kernel) rfl rfl ?_
        refine ar_bipush (pc := 16) (z := 40) (by decide +kernel) (by omega) ?_
        refine ar_icmp_lt (pc := 18) (x := v2) (y := 40) (tgt := 23) (off := 5) (by decide +kernel) (by decide) (fun c4 => ?_) (fun c4 => ?_)
        · replace H := H.1 c4
          refine ar_aload_n (pc := 23) (i := 0) (k0 := 0) (by decide +kernel) rfl rfl ?_
          refine ar_getFV (pc := 24) (a := 1) (b := 198) 6 7 (by decide +kernel) k_1 rfl (by decide) wf_RX6_42 rfl (fun _ => rfl) rfl ?_
          refine ar_aload_n (pc := 27) (i := 0) (k0 := 0) (by decide +kernel) rfl rfl ?_
          refine ar_getFV (pc := 28) (a := 1) (b := 4) 6 5 (by decide +kernel) k_1 rfl (by decide) wf_RX6_32 rfl (fun _ => rfl) rfl ?_
          refine ar_getFNV (pc := 31) (a := 4) (b := 5) 4 0 (by decide +kernel) k_4 rfl (by decide) wg_RX6_82 rfl (fun _ => rfl) rfl ?_
          refine ar_callVN (pc := 34) (M2 := M_X0_copy) (a := 198) (ci := 0) (as := [.inr (.inr 5)]) (n2 := 321) (st := []) (by decide +kernel) rfl wn_RX6_197 wi_yX0_copy wl_yX0_copy k_198 rfl wz_RX0 wc_yX0_copy ⟨by decide, by decide, rfl⟩ (by decide) (Nat.le_of_ble_eq_true rfl) (Nat.le_refl _) (Nat.le_refl _) (am_Cl_mono H (fun r5 h6 H => ?_))
          show am_Wp true (d + 1) M_X6_foretold 321 321 h0 Q 37 [some (.inr (.inr 1)), some (.inl v1), some (.inl v2), none] [] 321 h6
          refine ar_iconst (pc := 37) (z := 0) (by decide +kernel) (by unfold am_i32; omega) ?_
          refine ar_istore_n (pc := 38) (i := 3) (k0 := 3) (ls2 := [some (.inr (.inr 1)), some (.inl v1), some (.inl v2), some (.inl 0)]) (by decide +kernel) rfl (by decide) rfl ?_
          exact H h0
        · replace H := H.2 c4
          refine ar_iconst (pc := 21) (z := (-1)) (by decide +kernel) (by unfold am_i32; omega) ?_
          exact ar_iret (pc := 22) (x := (-1)) (by decide +kernel) rfl rfl H
theorem B_X6_foretold_39 {d : Nat} {Q : Int → am_H → Prop} {h : am_H} {v1 v2 v3 : Int} (H : (v1 ≤ v3 → wf (d + 1) M_X6_foretold Q 72 [some (.inr (.inr 1)), none, some (.inl v2), none] [] h) ∧ (v3 < v1 → (9999 ≤ (h 198 4) → wf (d + 1) M_X6_foretold Q 72 [some (.inr (.inr 1)), none, some (.inl v2), none] [] h) ∧ ((h 198 4) < 9999 → cf d M_X6_passDay [.inr (.inr 1), .inr (.inr 198)] h (fun _ h4 => wf (d + 1) M_X6_foretold Q 39 [some (.inr (.inr 1)), some (.inl v1), some (.inl v2), some (.inl (am_w32 (v3 + 1)))] [] h4)))) : wf (d + 1) M_X6_foretold Q 39 [some (.inr (.inr 1)), some (.inl v1), some (.inl v2), some (.inl v3)] [] h := by
  intro h0
  refine ar_iload_n (pc := 39) (i := 3) (k0 := 3) (by decide +kernel) rfl rfl ?_
  refine ar_iload_n (pc := 40) (i := 1) (k0 := 1) (by decide +kernel) rfl rfl ?_
  refine ar_icmp_ge (pc := 41) (x := v3) (y := v1) (tgt := 72) (off := 31) (by decide +kernel) (by decide) (fun c1 => ?_) (fun c1 => ?_)
  · replace H := H.1 c1
    refine ar_forget [true, false, true, false] rfl ?_
    exact H h0
  · replace H := H.2 c1
    refine ar_aload_n (pc := 44) (i := 0) (k0 := 0) (by decide +kernel) rfl rfl ?_
    refine ar_getFV (pc := 45) (a := 1) (b := 198) 6 7 (by decide +kernel) k_1 rfl (by decide) wf_RX6_42 rfl (fun _ => rfl) rfl ?_
    refine ar_getNV (pc := 48) (a := 198) (v := .inl (h 198 4)) 0 4 (by decide +kernel) k_198 rfl (by decide) wg_RX6_118 rfl ?_
    refine ar_sipush (pc := 51) (z := 9999) (by decide +kernel) (by omega) ?_
    refine ar_icmp_ge (pc := 54) (x := (h 198 4)) (y := 9999) (tgt := 72) (off := 18) (by decide +kernel) (by decide) (fun c2 => ?_) (fun c2 => ?_)
    · replace H := H.1 c2
      refine ar_forget [true, false, true, false] rfl ?_
      exact H h0
    · replace H := H.2 c2
      refine ar_aload_n (pc := 57) (i := 0) (k0 := 0) (by decide +kernel) rfl rfl ?_
      refine ar_aload_n (pc := 58) (i := 0) (k0 := 0) (by decide +kernel) rfl rfl ?_
      refine ar_getFV (pc := 59) (a := 1) (b := 198) 6 7 (by decide +kernel) k_1 rfl (by decide) wf_RX6_42 rfl (fun _ => rfl) rfl ?_
      refine ar_callV (pc := 62) (M2 := M_X6_passDay) (a := 1) (ci := 6) (as := [.inr (.inr 198)]) (n2 := 321) (st := []) (by decide +kernel) rfl wm_RX6_125 wi_yX6_passDay wl_yX6_passDay k_1 rfl wz_RX6 wc_yX6_passDay ⟨by decide, by decide, rfl⟩ (by decide) (Nat.le_of_ble_eq_true rfl) (Nat.le_refl _) (Nat.le_refl _) (am_Cl_mono H (fun r3 h4 H => ?_))
      show am_Wp true (d + 1) M_X6_foretold 321 321 h0 Q 65 [some (.inr (.inr 1)), some (.inl v1), some (.inl v2), some (.inl v3)] [.inl r3] 321 h4
      refine ar_pop (pc := 65) (by decide +kernel) trivial ?_
      refine ar_iinc (pc := 66) (i := 3) (z := 1) (x := v3) (ls2 := [some (.inr (.inr 1)), some (.inl v1), some (.inl v2), some (.inl (am_w32 (v3 + 1)))]) (by decide +kernel) rfl (by decide) rfl ?_
      refine ar_goto (pc := 69) (tgt := 39) (off := -30) (by decide +kernel) (by decide) ?_
      exact H h0
theorem B_X6_foretold_72 {d : Nat} {Q : Int → am_H → Prop} {h : am_H} {v2 : Int} (H : (0 ≤ v2) ∧ ((v2 < 40) ∧ (Q (h 199 v2) h))) : wf (d + 1) M_X6_foretold Q 72 [some (.inr (.inr 1)), none, some (.inl v2), none] [] h := by
  intro h0
  refine ar_aload_n (pc := 72) (i := 0) (k0 := 0) (by decide +kernel) rfl rfl ?_
  refine ar_getFV (pc := 73) (a := 1) (b := 198) 6 7 (by decide +kernel) k_1 rfl (by decide) wf_RX6_42 rfl (fun _ => rfl) rfl ?_
  refine ar_getFNV (pc := 76) (a := 198) (b := 199) 0 0 (by decide +kernel) k_198 rfl (by decide) wg_RX6_182 rfl (fun _ => rfl) rfl ?_
  refine ar_iload_n (pc := 79) (i := 2) (k0 := 2) (by decide +kernel) rfl rfl ?_
  obtain ⟨g1, H⟩ := H
  obtain ⟨g2, H⟩ := H
  refine ar_iald (pc := 80) (a := 199) (i := v2) (by decide +kernel) k_199 g1 (am_lt_eq g2 (l_199).symm) ?_
  exact ar_iret (pc := 81) (x := (h 199 v2)) (by decide +kernel) rfl rfl H

/-! ByteIntervals.number(II)I -/
theorem B_X6_number_0 {d : Nat} {Q : Int → am_H → Prop} {h : am_H} {v1 v2 : Int} (H : cf d M_X0_covers [.inr (.inr 5), .inl v1, .inl v2] h (fun r1 h2 => (r1 = 0 → Q (-1) h2) ∧ (¬ r1 = 0 → ((am_w32 (v2 - v1)) ≤ 3 → cf d M_X6_asNumber [.inr (.inr 6), .inl v1, .inl v2] h2 (fun r5 h6 => Q r5 h6)) ∧ (3 < (am_w32 (v2 - v1)) → Q (-1) h2)))) : wf (d + 1) M_X6_number Q 0 [some (.inr (.inr 1)), some (.inl v1), some (.inl v2)] [] h := by
  intro h0
  refine ar_aload_n (pc := 0) (i := 0) (k0 := 0) (by decide +kernel) rfl rfl ?_
  refine ar_getFV (pc := 1) (a := 1) (b := 4) 6 5 (by decide +kernel) k_1 rfl (by decide) wf_RX6_32 rfl (fun _ => rfl) rfl ?_
  refine ar_getFNV (pc := 4) (a := 4) (b := 5) 4 0 (by decide +kernel) k_4 rfl (by decide) wg_RX6_82 rfl (fun _ => rfl) rfl ?_
  refine ar_iload_n (pc := 7) (i := 1) (k0 := 1) (by decide +kernel) rfl rfl ?_
  refine ar_iload_n (pc := 8) (i := 2) (k0 := 2) (by decide +kernel) rfl rfl ?_
  refine ar_callVN (pc := 9) (M2 := M_X0_covers) (a := 5) (ci := 0) (as := [.inl v1, .inl v2]) (n2 := 321) (st := []) (by decide +kernel) rfl wn_RX6_201 wi_yX0_covers wl_yX0_covers k_5 rfl wz_RX0 wc_yX0_covers ⟨by decide, by decide, rfl⟩ (by decide) (Nat.le_of_ble_eq_true rfl) (Nat.le_refl _) (Nat.le_refl _) (am_Cl_mono H (fun r1 h2 H => ?_))
  show am_Wp true (d + 1) M_X6_number 321 321 h0 Q 12 [some (.inr (.inr 1)), some (.inl v1), some (.inl v2)] [.inl r1] 321 h2
  refine ar_if_eq (pc := 12) (x := r1) (tgt := 22) (off := 10) (by decide +kernel) (by decide) (fun c3 => ?_) (fun c3 => ?_)
  · replace H := H.1 c3
    refine ar_iconst (pc := 22) (z := (-1)) (by decide +kernel) (by unfold am_i32; omega) ?_
    exact ar_iret (pc := 23) (x := (-1)) (by decide +kernel) rfl rfl H
  · replace H := H.2 c3
    refine ar_iload_n (pc := 15) (i := 2) (k0 := 2) (by decide +kernel) rfl rfl ?_
    refine ar_iload_n (pc := 16) (i := 1) (k0 := 1) (by decide +kernel) rfl rfl ?_
    refine ar_isub (pc := 17) (x := v2) (y := v1) (by decide +kernel) ?_
    refine ar_iconst (pc := 18) (z := 3) (by decide +kernel) (by unfold am_i32; omega) ?_
    refine ar_icmp_le (pc := 19) (x := (am_w32 (v2 - v1))) (y := 3) (tgt := 24) (off := 5) (by decide +kernel) (by decide) (fun c4 => ?_) (fun c4 => ?_)
    · replace H := H.1 c4
      refine ar_aload_n (pc := 24) (i := 0) (k0 := 0) (by decide +kernel) rfl rfl ?_
      refine ar_getFV (pc := 25) (a := 1) (b := 4) 6 5 (by decide +kernel) k_1 rfl (by decide) wf_RX6_32 rfl (fun _ => rfl) rfl ?_
      refine ar_getFNV (pc := 28) (a := 4) (b := 5) 4 0 (by decide +kernel) k_4 rfl (by decide) wg_RX6_82 rfl (fun _ => rfl) rfl ?_
      refine ar_getFNV (pc := 31) (a := 5) (b := 6) 0 0 (by decide +kernel) k_5 rfl (by decide) wg_RX6_182 rfl (fun _ => rfl) rfl ?_
      refine ar_iload_n (pc := 34) (i := 1) (k0 := 1) (by decide +kernel) rfl rfl ?_
      refine ar_iload_n (pc := 35) (i := 2) (k0 := 2) (by decide +kernel) rfl rfl ?_
      refine ar_callS (pc := 36) (M2 := M_X6_asNumber) (as := [.inr (.inr 6), .inl v1, .inl v2]) (n2 := 321) (st := []) (by decide +kernel) rfl wm_RX6_204 ws_yX6_asNumber wz_RX6 wc_yX6_asNumber ⟨by decide, by decide, rfl⟩ (by decide) (Nat.le_of_ble_eq_true rfl) (Nat.le_refl _) (Nat.le_refl _) (am_Cl_mono H (fun r5 h6 H => ?_))
      show am_Wp true (d + 1) M_X6_number 321 321 h0 Q 39 [some (.inr (.inr 1)), some (.inl v1), some (.inl v2)] [.inl r5] 321 h6
      exact ar_iret (pc := 39) (x := r5) (by decide +kernel) rfl rfl H
    · replace H := H.2 c4
      refine ar_iconst (pc := 22) (z := (-1)) (by decide +kernel) (by unfold am_i32; omega) ?_
      exact ar_iret (pc := 23) (x := (-1)) (by decide +kernel) rfl rfl H

/-! ByteIntervals.sum(II)I -/
theorem B_X6_sum_0 {d : Nat} {Q : Int → am_H → Prop} {h : am_H} {v1 v2 : Int} (H : cf d M_X0_covers [.inr (.inr 5), .inl v1, .inl v2] h (fun r1 h2 => (r1 = 0 → Q (-1) h2) ∧ (¬ r1 = 0 → cf d M_X0_together [.inr (.inr 5), .inl v1, .inl v2] h2 (fun r4 h5 => Q r4 h5)))) : wf (d + 1) M_X6_sum Q 0 [some (.inr (.inr 1)), some (.inl v1), some (.inl v2)] [] h := by
  intro h0
  refine ar_aload_n (pc := 0) (i := 0) (k0 := 0) (by decide +kernel) rfl rfl ?_
  refine ar_getFV (pc := 1) (a := 1) (b := 4) 6 5 (by decide +kernel) k_1 rfl (by decide) wf_RX6_32 rfl (fun _ => rfl) rfl ?_
  refine ar_getFNV (pc := 4) (a := 4) (b := 5) 4 0 (by decide +kernel) k_4 rfl (by decide) wg_RX6_82 rfl (fun _ => rfl) rfl ?_
  refine ar_iload_n (pc := 7) (i := 1) (k0 := 1) (by decide +kernel) rfl rfl ?_
  refine ar_iload_n (pc := 8) (i := 2) (k0 := 2) (by decide +kernel) rfl rfl ?_
  refine ar_callVN (pc := 9) (M2 := M_X0_covers) (a := 5) (ci := 0) (as := [.inl v1, .inl v2]) (n2 := 321) (st := []) (by decide +kernel) rfl wn_RX6_201 wi_yX0_covers wl_yX0_covers k_5 rfl wz_RX0 wc_yX0_covers ⟨by decide, by decide, rfl⟩ (by decide) (Nat.le_of_ble_eq_true rfl) (Nat.le_refl _) (Nat.le_refl _) (am_Cl_mono H (fun r1 h2 H => ?_))
  show am_Wp true (d + 1) M_X6_sum 321 321 h0 Q 12 [some (.inr (.inr 1)), some (.inl v1), some (.inl v2)] [.inl r1] 321 h2
  refine ar_if_eq (pc := 12) (x := r1) (tgt := 30) (off := 18) (by decide +kernel) (by decide) (fun c3 => ?_) (fun c3 => ?_)
  · replace H := H.1 c3
    refine ar_iconst (pc := 30) (z := (-1)) (by decide +kernel) (by unfold am_i32; omega) ?_
    exact ar_iret (pc := 31) (x := (-1)) (by decide +kernel) rfl rfl H
  · replace H := H.2 c3
    refine ar_aload_n (pc := 15) (i := 0) (k0 := 0) (by decide +kernel) rfl rfl ?_
    refine ar_getFV (pc := 16) (a := 1) (b := 4) 6 5 (by decide +kernel) k_1 rfl (by decide) wf_RX6_32 rfl (fun _ => rfl) rfl ?_
    refine ar_getFNV (pc := 19) (a := 4) (b := 5) 4 0 (by decide +kernel) k_4 rfl (by decide) wg_RX6_82 rfl (fun _ => rfl) rfl ?_
    refine ar_iload_n (pc := 22) (i := 1) (k0 := 1) (by decide +kernel) rfl rfl ?_
    refine ar_iload_n (pc := 23) (i := 2) (k0 := 2) (by decide +kernel) rfl rfl ?_
    refine ar_callVN (pc := 24) (M2 := M_X0_together) (a := 5) (ci := 0) (as := [.inl v1, .inl v2]) (n2 := 321) (st := []) (by decide +kernel) rfl wn_RX6_185 wi_yX0_together wl_yX0_together k_5 rfl wz_RX0 wc_yX0_together ⟨by decide, by decide, rfl⟩ (by decide) (Nat.le_of_ble_eq_true rfl) (Nat.le_refl _) (Nat.le_refl _) (am_Cl_mono H (fun r4 h5 H => ?_))
    show am_Wp true (d + 1) M_X6_sum 321 321 h0 Q 27 [some (.inr (.inr 1)), some (.inl v1), some (.inl v2)] [.inl r4] 321 h5
    refine ar_goto (pc := 27) (tgt := 31) (off := 4) (by decide +kernel) (by decide) ?_
    exact ar_iret (pc := 31) (x := r4) (by decide +kernel) rfl rfl H

/-! ByteIntervals.find(II)I -/
theorem B_X6_find_0 {d : Nat} {Q : Int → am_H → Prop} {h : am_H} {v1 v2 : Int} (H : (v1 < 0 → Q (-1) h) ∧ (0 ≤ v1 → (256 ≤ v1 → Q (-1) h) ∧ (v1 < 256 → (0 ≤ v2 → wf d M_X6_find Q 28 [none, some (.inl v1), none, some (.inr (.inr 5)), some (.inl v2)] [] h) ∧ (v2 < 0 → Q (-1) h)))) : wf d M_X6_find Q 0 [some (.inr (.inr 1)), some (.inl v1), some (.inl v2), none, none] [] h := by
  intro h0
  refine ar_iload_n (pc := 0) (i := 1) (k0 := 1) (by decide +kernel) rfl rfl ?_
  refine ar_if_lt (pc := 1) (x := v1) (tgt := 15) (off := 14) (by decide +kernel) (by decide) (fun c1 => ?_) (fun c1 => ?_)
  · replace H := H.1 c1
    refine ar_iconst (pc := 15) (z := (-1)) (by decide +kernel) (by unfold am_i32; omega) ?_
    exact ar_iret (pc := 16) (x := (-1)) (by decide +kernel) rfl rfl H
  · replace H := H.2 c1
    refine ar_iload_n (pc := 4) (i := 1) (k0 := 1) (by decide +kernel) rfl rfl ?_
    refine ar_sipush (pc := 5) (z := 256) (by decide +kernel) (by omega) ?_
    refine ar_icmp_ge (pc := 8) (x := v1) (y := 256) (tgt := 15) (off := 7) (by decide +kernel) (by decide) (fun c2 => ?_) (fun c2 => ?_)
    · replace H := H.1 c2
      refine ar_iconst (pc := 15) (z := (-1)) (by decide +kernel) (by unfold am_i32; omega) ?_
      exact ar_iret (pc := 16) (x := (-1)) (by decide +kernel) rfl rfl H
    · replace H := H.2 c2
      refine ar_iload_n (pc := 11) (i := 2) (k0 := 2) (by decide +kernel) rfl rfl ?_
      refine ar_if_ge (pc := 12) (x := v2) (tgt := 17) (off := 5) (by decide +kernel) (by decide) (fun c3 => ?_) (fun c3 => ?_)
      · replace H := H.1 c3
        refine ar_aload_n (pc := 17) (i := 0) (k0 := 0) (by decide +kernel) rfl rfl ?_
        refine ar_getFV (pc := 18) (a := 1) (b := 4) 6 5 (by decide +kernel) k_1 rfl (by decide) wf_RX6_32 rfl (fun _ => rfl) rfl ?_
        refine ar_getFNV (pc := 21) (a := 4) (b := 5) 4 0 (by decide +kernel) k_4 rfl (by decide) wg_RX6_82 rfl (fun _ => rfl) rfl ?_
        refine ar_astore_n (pc := 24) (i := 3) (k0 := 3) (ls2 := [some (.inr (.inr 1)), some (.inl v1), some (.inl v2), some (.inr (.inr 5)), none]) (by decide +kernel) rfl (by decide) rfl ?_
        refine ar_iload_n (pc := 25) (i := 2) (k0 := 2) (by decide +kernel) rfl rfl ?_
        refine ar_istore (pc := 26) (i := 4) (ls2 := [some (.inr (.inr 1)), some (.inl v1), some (.inl v2), some (.inr (.inr 5)), some (.inl v2)]) (by decide +kernel) (by decide) rfl ?_
        refine ar_forget [false, true, false, true, true] rfl ?_
        exact H h0
      · replace H := H.2 c3
        refine ar_iconst (pc := 15) (z := (-1)) (by decide +kernel) (by unfold am_i32; omega) ?_
        exact ar_iret (pc := 16) (x := (-1)) (by decide +kernel) rfl rfl H
theorem B_X6_find_28 {d : Nat} {Q : Int → am_H → Prop} {h : am_H} {v1 v4 : Int} (H : ((h 5 3) ≤ v4 → Q (-1) h) ∧ (v4 < (h 5 3) → (40 ≤ v4 → Q (-1) h) ∧ (v4 < 40 → (0 ≤ v4) ∧ ((¬ (h 6 v4) = v1 → wf d M_X6_find Q 28 [none, some (.inl v1), none, some (.inr (.inr 5)), some (.inl (am_w32 (v4 + 1)))] [] h) ∧ ((h 6 v4) = v1 → Q v4 h))))) : wf d M_X6_find Q 28 [none, some (.inl v1), none, some (.inr (.inr 5)), some (.inl v4)] [] h := by
  intro h0
  refine ar_iload (pc := 28) (i := 4) (by decide +kernel) rfl ?_
  refine ar_aload_n (pc := 30) (i := 3) (k0 := 3) (by decide +kernel) rfl rfl ?_
  refine ar_getNV (pc := 31) (a := 5) (v := .inl (h 5 3)) 0 3 (by decide +kernel) k_5 rfl (by decide) wg_RX6_129 rfl ?_
  refine ar_icmp_ge (pc := 34) (x := v4) (y := (h 5 3)) (tgt := 64) (off := 30) (by decide +kernel) (by decide) (fun c1 => ?_) (fun c1 => ?_)
  · replace H := H.1 c1
    refine ar_iconst (pc := 64) (z := (-1)) (by decide +kernel) (by unfold am_i32; omega) ?_
    exact ar_iret (pc := 65) (x := (-1)) (by decide +kernel) rfl rfl H
  · replace H := H.2 c1
    refine ar_iload (pc := 37) (i := 4) (by decide +kernel) rfl ?_
    refine ar_bipush (pc := 39) (z := 40) (by decide +kernel) (by omega) ?_
    refine ar_icmp_ge (pc := 41) (x := v4) (y := 40) (tgt := 64) (off := 23) (by decide +kernel) (by decide) (fun c2 => ?_) (fun c2 => ?_)
    · replace H := H.1 c2
      refine ar_iconst (pc := 64) (z := (-1)) (by decide +kernel) (by unfold am_i32; omega) ?_
      exact ar_iret (pc := 65) (x := (-1)) (by decide +kernel) rfl rfl H
    · replace H := H.2 c2
      refine ar_aload_n (pc := 44) (i := 3) (k0 := 3) (by decide +kernel) rfl rfl ?_
      refine ar_getFNV (pc := 45) (a := 5) (b := 6) 0 0 (by decide +kernel) k_5 rfl (by decide) wg_RX6_182 rfl (fun _ => rfl) rfl ?_
      refine ar_iload (pc := 48) (i := 4) (by decide +kernel) rfl ?_
      obtain ⟨g3, H⟩ := H
      refine ar_iald (pc := 50) (a := 6) (i := v4) (by decide +kernel) k_6 g3 (am_lt_eq c2 (l_6).symm) ?_
      refine ar_iload_n (pc := 51) (i := 1) (k0 := 1) (by decide +kernel) rfl rfl ?_
      refine ar_icmp_ne (pc := 52) (x := (h 6 v4)) (y := v1) (tgt := 58) (off := 6) (by decide +kernel) (by decide) (fun c4 => ?_) (fun c4 => ?_)
      · replace H := H.1 c4
        refine ar_iinc (pc := 58) (i := 4) (z := 1) (x := v4) (ls2 := [none, some (.inl v1), none, some (.inr (.inr 5)), some (.inl (am_w32 (v4 + 1)))]) (by decide +kernel) rfl (by decide) rfl ?_
        refine ar_goto (pc := 61) (tgt := 28) (off := -33) (by decide +kernel) (by decide) ?_
        exact H h0
      · replace H := H.2 c4
        refine ar_iload (pc := 55) (i := 4) (by decide +kernel) rfl ?_
        exact ar_iret (pc := 57) (x := v4) (by decide +kernel) rfl rfl H

/-! ByteIntervals.run()I -/
theorem B_X6_run_0 {d : Nat} {Q : Int → am_H → Prop} {h : am_H} (H : wf (d + 1) M_X6_run Q 15 [none, some (.inr (.inr 5)), some (.inl 0), some (.inl 0), some (.inl 0), none] [] h) : wf (d + 1) M_X6_run Q 0 [some (.inr (.inr 1)), none, none, none, none, none] [] h := by
  intro h0
  refine ar_aload_n (pc := 0) (i := 0) (k0 := 0) (by decide +kernel) rfl rfl ?_
  refine ar_getFV (pc := 1) (a := 1) (b := 4) 6 5 (by decide +kernel) k_1 rfl (by decide) wf_RX6_32 rfl (fun _ => rfl) rfl ?_
  refine ar_getFNV (pc := 4) (a := 4) (b := 5) 4 0 (by decide +kernel) k_4 rfl (by decide) wg_RX6_82 rfl (fun _ => rfl) rfl ?_
  refine ar_astore_n (pc := 7) (i := 1) (k0 := 1) (ls2 := [some (.inr (.inr 1)), some (.inr (.inr 5)), none, none, none, none]) (by decide +kernel) rfl (by decide) rfl ?_
  refine ar_iconst (pc := 8) (z := 0) (by decide +kernel) (by unfold am_i32; omega) ?_
  refine ar_istore_n (pc := 9) (i := 2) (k0 := 2) (ls2 := [some (.inr (.inr 1)), some (.inr (.inr 5)), some (.inl 0), none, none, none]) (by decide +kernel) rfl (by decide) rfl ?_
  refine ar_iconst (pc := 10) (z := 0) (by decide +kernel) (by unfold am_i32; omega) ?_
  refine ar_istore_n (pc := 11) (i := 3) (k0 := 3) (ls2 := [some (.inr (.inr 1)), some (.inr (.inr 5)), some (.inl 0), some (.inl 0), none, none]) (by decide +kernel) rfl (by decide) rfl ?_
  refine ar_iconst (pc := 12) (z := 0) (by decide +kernel) (by unfold am_i32; omega) ?_
  refine ar_istore (pc := 13) (i := 4) (ls2 := [some (.inr (.inr 1)), some (.inr (.inr 5)), some (.inl 0), some (.inl 0), some (.inl 0), none]) (by decide +kernel) (by decide) rfl ?_
  refine ar_forget [false, true, true, true, true, true] rfl ?_
  exact H h0
theorem B_X6_run_15 {d : Nat} {Q : Int → am_H → Prop} {h : am_H} {v2 v3 v4 : Int} (H : ((h 5 3) ≤ v4 → Q v2 h) ∧ (v4 < (h 5 3) → (40 ≤ v4 → Q v2 h) ∧ (v4 < 40 → (v4 ≤ 0 → wf (d + 1) M_X6_run Q 59 [none, some (.inr (.inr 5)), some (.inl v2), some (.inl v3), some (.inl v4), none] [] h) ∧ (0 < v4 → (0 ≤ v4) ∧ ((0 ≤ (am_w32 (v4 - 1))) ∧ (((am_w32 (v4 - 1)) < 40) ∧ ((¬ (h 6 v4) = (h 6 (am_w32 (v4 - 1))) → wf (d + 1) M_X6_run Q 59 [none, some (.inr (.inr 5)), some (.inl v2), some (.inl v3), some (.inl v4), none] [] h) ∧ ((h 6 v4) = (h 6 (am_w32 (v4 - 1))) → wf (d + 1) M_X6_run Q 60 [none, some (.inr (.inr 5)), some (.inl v2), some (.inl v3), some (.inl v4), none] [.inl 1] h)))))))) : wf (d + 1) M_X6_run Q 15 [none, some (.inr (.inr 5)), some (.inl v2), some (.inl v3), some (.inl v4), none] [] h := by
  intro h0
  refine ar_iload (pc := 15) (i := 4) (by decide +kernel) rfl ?_
  refine ar_aload_n (pc := 17) (i := 1) (k0 := 1) (by decide +kernel) rfl rfl ?_
  refine ar_getNV (pc := 18) (a := 5) (v := .inl (h 5 3)) 0 3 (by decide +kernel) k_5 rfl (by decide) wg_RX6_129 rfl ?_
  refine ar_icmp_ge (pc := 21) (x := v4) (y := (h 5 3)) (tgt := 87) (off := 66) (by decide +kernel) (by decide) (fun c1 => ?_) (fun c1 => ?_)
  · replace H := H.1 c1
    refine ar_iload_n (pc := 87) (i := 2) (k0 := 2) (by decide +kernel) rfl rfl ?_
    exact ar_iret (pc := 88) (x := v2) (by decide +kernel) rfl rfl H
  · replace H := H.2 c1
    refine ar_iload (pc := 24) (i := 4) (by decide +kernel) rfl ?_
    refine ar_bipush (pc := 26) (z := 40) (by decide +kernel) (by omega) ?_
    refine ar_icmp_ge (pc := 28) (x := v4) (y := 40) (tgt := 87) (off := 59) (by decide +kernel) (by decide) (fun c2 => ?_) (fun c2 => ?_)
    · replace H := H.1 c2
      refine ar_iload_n (pc := 87) (i := 2) (k0 := 2) (by decide +kernel) rfl rfl ?_
      exact ar_iret (pc := 88) (x := v2) (by decide +kernel) rfl rfl H
    · replace H := H.2 c2
      refine ar_iload (pc := 31) (i := 4) (by decide +kernel) rfl ?_
      refine ar_if_le (pc := 33) (x := v4) (tgt := 59) (off := 26) (by decide +kernel) (by decide) (fun c3 => ?_) (fun c3 => ?_)
      · replace H := H.1 c3
        exact H h0
      · replace H := H.2 c3
        refine ar_aload_n (pc := 36) (i := 1) (k0 := 1) (by decide +kernel) rfl rfl ?_
        refine ar_getFNV (pc := 37) (a := 5) (b := 6) 0 0 (by decide +kernel) k_5 rfl (by decide) wg_RX6_182 rfl (fun _ => rfl) rfl ?_
        refine ar_iload (pc := 40) (i := 4) (by decide +kernel) rfl ?_
        obtain ⟨g4, H⟩ := H
        refine ar_iald (pc := 42) (a := 6) (i := v4) (by decide +kernel) k_6 g4 (am_lt_eq c2 (l_6).symm) ?_
        refine ar_aload_n (pc := 43) (i := 1) (k0 := 1) (by decide +kernel) rfl rfl ?_
        refine ar_getFNV (pc := 44) (a := 5) (b := 6) 0 0 (by decide +kernel) k_5 rfl (by decide) wg_RX6_182 rfl (fun _ => rfl) rfl ?_
        refine ar_iload (pc := 47) (i := 4) (by decide +kernel) rfl ?_
        refine ar_iconst (pc := 49) (z := 1) (by decide +kernel) (by unfold am_i32; omega) ?_
        refine ar_isub (pc := 50) (x := v4) (y := 1) (by decide +kernel) ?_
        obtain ⟨g5, H⟩ := H
        obtain ⟨g6, H⟩ := H
        refine ar_iald (pc := 51) (a := 6) (i := (am_w32 (v4 - 1))) (by decide +kernel) k_6 g5 (am_lt_eq g6 (l_6).symm) ?_
        refine ar_icmp_ne (pc := 52) (x := (h 6 v4)) (y := (h 6 (am_w32 (v4 - 1)))) (tgt := 59) (off := 7) (by decide +kernel) (by decide) (fun c7 => ?_) (fun c7 => ?_)
        · replace H := H.1 c7
          exact H h0
        · replace H := H.2 c7
          refine ar_iconst (pc := 55) (z := 1) (by decide +kernel) (by unfold am_i32; omega) ?_
          refine ar_goto (pc := 56) (tgt := 60) (off := 4) (by decide +kernel) (by decide) ?_
          exact H h0
theorem B_X6_run_59 {d : Nat} {Q : Int → am_H → Prop} {h : am_H} {v2 v3 v4 : Int} (H : wf (d + 1) M_X6_run Q 60 [none, some (.inr (.inr 5)), some (.inl v2), some (.inl v3), some (.inl v4), none] [.inl 0] h) : wf (d + 1) M_X6_run Q 59 [none, some (.inr (.inr 5)), some (.inl v2), some (.inl v3), some (.inl v4), none] [] h := by
  intro h0
  refine ar_iconst (pc := 59) (z := 0) (by decide +kernel) (by unfold am_i32; omega) ?_
  exact H h0
theorem B_X6_run_60 {d : Nat} {Q : Int → am_H → Prop} {h : am_H} {v2 v3 v4 s0 : Int} (H : (s0 = 0 → wf (d + 1) M_X6_run Q 74 [none, some (.inr (.inr 5)), some (.inl v2), none, some (.inl v4), none] [.inl 1] h) ∧ (¬ s0 = 0 → wf (d + 1) M_X6_run Q 74 [none, some (.inr (.inr 5)), some (.inl v2), none, some (.inl v4), none] [.inl (am_w32 (v3 + 1))] h)) : wf (d + 1) M_X6_run Q 60 [none, some (.inr (.inr 5)), some (.inl v2), some (.inl v3), some (.inl v4), none] [.inl s0] h := by
  intro h0
  refine ar_istore (pc := 60) (i := 5) (ls2 := [none, some (.inr (.inr 5)), some (.inl v2), some (.inl v3), some (.inl v4), some (.inl s0)]) (by decide +kernel) (by decide) rfl ?_
  refine ar_iload (pc := 62) (i := 5) (by decide +kernel) rfl ?_
  refine ar_if_eq (pc := 64) (x := s0) (tgt := 73) (off := 9) (by decide +kernel) (by decide) (fun c1 => ?_) (fun c1 => ?_)
  · replace H := H.1 c1
    refine ar_iconst (pc := 73) (z := 1) (by decide +kernel) (by unfold am_i32; omega) ?_
    refine ar_forget [true, true, true, false, true, false] rfl ?_
    exact H h0
  · replace H := H.2 c1
    refine ar_iload_n (pc := 67) (i := 3) (k0 := 3) (by decide +kernel) rfl rfl ?_
    refine ar_iconst (pc := 68) (z := 1) (by decide +kernel) (by unfold am_i32; omega) ?_
    refine ar_iadd (pc := 69) (x := v3) (y := 1) (by decide +kernel) ?_
    refine ar_goto (pc := 70) (tgt := 74) (off := 4) (by decide +kernel) (by decide) ?_
    refine ar_forget [true, true, true, false, true, false] rfl ?_
    exact H h0
theorem B_X6_run_74 {d : Nat} {Q : Int → am_H → Prop} {h : am_H} {v2 v4 s0 : Int} (H : cf d M_J9_max_7cf53 [.inl v2, .inl s0] h (fun r1 h2 => wf (d + 1) M_X6_run Q 15 [none, some (.inr (.inr 5)), some (.inl r1), some (.inl s0), some (.inl (am_w32 (v4 + 1))), none] [] h2)) : wf (d + 1) M_X6_run Q 74 [none, some (.inr (.inr 5)), some (.inl v2), none, some (.inl v4), none] [.inl s0] h := by
  intro h0
  refine ar_istore_n (pc := 74) (i := 3) (k0 := 3) (ls2 := [none, some (.inr (.inr 5)), some (.inl v2), some (.inl s0), some (.inl v4), none]) (by decide +kernel) rfl (by decide) rfl ?_
  refine ar_iload_n (pc := 75) (i := 2) (k0 := 2) (by decide +kernel) rfl rfl ?_
  refine ar_iload_n (pc := 76) (i := 3) (k0 := 3) (by decide +kernel) rfl rfl ?_
  refine ar_callS (pc := 77) (M2 := M_J9_max_7cf53) (as := [.inl v2, .inl s0]) (n2 := 321) (st := []) (by decide +kernel) rfl wm_RX6_208 ws_yJ9_max_7cf53 wz_RJ9 wc_yJ9_max_7cf53 ⟨by decide, by decide, rfl⟩ (by decide) (Nat.le_of_ble_eq_true rfl) (Nat.le_refl _) (Nat.le_refl _) (am_Cl_mono H (fun r1 h2 H => ?_))
  show am_Wp true (d + 1) M_X6_run 321 321 h0 Q 80 [none, some (.inr (.inr 5)), some (.inl v2), some (.inl s0), some (.inl v4), none] [.inl r1] 321 h2
  refine ar_istore_n (pc := 80) (i := 2) (k0 := 2) (ls2 := [none, some (.inr (.inr 5)), some (.inl r1), some (.inl s0), some (.inl v4), none]) (by decide +kernel) rfl (by decide) rfl ?_
  refine ar_iinc (pc := 81) (i := 4) (z := 1) (x := v4) (ls2 := [none, some (.inr (.inr 5)), some (.inl r1), some (.inl s0), some (.inl (am_w32 (v4 + 1))), none]) (by decide +kernel) rfl (by decide) rfl ?_
  refine ar_goto (pc := 84) (tgt := 15) (off := -69) (by decide +kernel) (by decide) ?_
  exact H h0

/-! ByteIntervals.ledger(I)I -/
theorem B_X6_ledger_0 {d : Nat} {Q : Int → am_H → Prop} {h : am_H} {v1 : Int} (H : (v1 < 0 → Q (-2) h) ∧ (0 ≤ v1 → (v1 ≤ 3 → wf (d + 1) M_X6_ledger Q 25 [none, some (.inl v1), some (.inr (.inr 5)), some (.inl 0), some (.inl 0)] [] h) ∧ (3 < v1 → Q (-2) h))) : wf (d + 1) M_X6_ledger Q 0 [some (.inr (.inr 1)), some (.inl v1), none, none, none] [] h := by
  intro h0
  refine ar_iload_n (pc := 0) (i := 1) (k0 := 1) (by decide +kernel) rfl rfl ?_
  refine ar_if_lt (pc := 1) (x := v1) (tgt := 9) (off := 8) (by decide +kernel) (by decide) (fun c1 => ?_) (fun c1 => ?_)
  · replace H := H.1 c1
    refine ar_bipush (pc := 9) (z := (-2)) (by decide +kernel) (by omega) ?_
    exact ar_iret (pc := 11) (x := (-2)) (by decide +kernel) rfl rfl H
  · replace H := H.2 c1
    refine ar_iload_n (pc := 4) (i := 1) (k0 := 1) (by decide +kernel) rfl rfl ?_
    refine ar_iconst (pc := 5) (z := 3) (by decide +kernel) (by unfold am_i32; omega) ?_
    refine ar_icmp_le (pc := 6) (x := v1) (y := 3) (tgt := 12) (off := 6) (by decide +kernel) (by decide) (fun c2 => ?_) (fun c2 => ?_)
    · replace H := H.1 c2
      refine ar_aload_n (pc := 12) (i := 0) (k0 := 0) (by decide +kernel) rfl rfl ?_
      refine ar_getFV (pc := 13) (a := 1) (b := 4) 6 5 (by decide +kernel) k_1 rfl (by decide) wf_RX6_32 rfl (fun _ => rfl) rfl ?_
      refine ar_getFNV (pc := 16) (a := 4) (b := 5) 4 0 (by decide +kernel) k_4 rfl (by decide) wg_RX6_82 rfl (fun _ => rfl) rfl ?_
      refine ar_astore_n (pc := 19) (i := 2) (k0 := 2) (ls2 := [some (.inr (.inr 1)), some (.inl v1), some (.inr (.inr 5)), none, none]) (by decide +kernel) rfl (by decide) rfl ?_
      refine ar_iconst (pc := 20) (z := 0) (by decide +kernel) (by unfold am_i32; omega) ?_
      refine ar_istore_n (pc := 21) (i := 3) (k0 := 3) (ls2 := [some (.inr (.inr 1)), some (.inl v1), some (.inr (.inr 5)), some (.inl 0), none]) (by decide +kernel) rfl (by decide) rfl ?_
      refine ar_iconst (pc := 22) (z := 0) (by decide +kernel) (by unfold am_i32; omega) ?_
      refine ar_istore (pc := 23) (i := 4) (ls2 := [some (.inr (.inr 1)), some (.inl v1), some (.inr (.inr 5)), some (.inl 0), some (.inl 0)]) (by decide +kernel) (by decide) rfl ?_
      refine ar_forget [false, true, true, true, true] rfl ?_
      exact H h0
    · replace H := H.2 c2
      refine ar_bipush (pc := 9) (z := (-2)) (by decide +kernel) (by omega) ?_
      exact ar_iret (pc := 11) (x := (-2)) (by decide +kernel) rfl rfl H
theorem B_X6_ledger_25 {d : Nat} {Q : Int → am_H → Prop} {h : am_H} {v1 v3 v4 : Int} (H : ((h 5 2) ≤ v4 → Q v3 h) ∧ (v4 < (h 5 2) → (25 ≤ v4 → Q v3 h) ∧ (v4 < 25 → (0 ≤ v4) ∧ (cf d M_X0_tell [.inl (h 7 v4), .inl 1] h (fun r4 h5 => (¬ r4 = v1 → wf (d + 1) M_X6_ledger Q 62 [none, some (.inl v1), some (.inr (.inr 5)), none, some (.inl v4)] [.inl 0, .inl v3] h5) ∧ (r4 = v1 → wf (d + 1) M_X6_ledger Q 62 [none, some (.inl v1), some (.inr (.inr 5)), none, some (.inl v4)] [.inl 1, .inl v3] h5)))))) : wf (d + 1) M_X6_ledger Q 25 [none, some (.inl v1), some (.inr (.inr 5)), some (.inl v3), some (.inl v4)] [] h := by
  intro h0
  refine ar_iload (pc := 25) (i := 4) (by decide +kernel) rfl ?_
  refine ar_aload_n (pc := 27) (i := 2) (k0 := 2) (by decide +kernel) rfl rfl ?_
  refine ar_getNV (pc := 28) (a := 5) (v := .inl (h 5 2)) 0 2 (by decide +kernel) k_5 rfl (by decide) wg_RX6_188 rfl ?_
  refine ar_icmp_ge (pc := 31) (x := v4) (y := (h 5 2)) (tgt := 70) (off := 39) (by decide +kernel) (by decide) (fun c1 => ?_) (fun c1 => ?_)
  · replace H := H.1 c1
    refine ar_iload_n (pc := 70) (i := 3) (k0 := 3) (by decide +kernel) rfl rfl ?_
    exact ar_iret (pc := 71) (x := v3) (by decide +kernel) rfl rfl H
  · replace H := H.2 c1
    refine ar_iload (pc := 34) (i := 4) (by decide +kernel) rfl ?_
    refine ar_bipush (pc := 36) (z := 25) (by decide +kernel) (by omega) ?_
    refine ar_icmp_ge (pc := 38) (x := v4) (y := 25) (tgt := 70) (off := 32) (by decide +kernel) (by decide) (fun c2 => ?_) (fun c2 => ?_)
    · replace H := H.1 c2
      refine ar_iload_n (pc := 70) (i := 3) (k0 := 3) (by decide +kernel) rfl rfl ?_
      exact ar_iret (pc := 71) (x := v3) (by decide +kernel) rfl rfl H
    · replace H := H.2 c2
      refine ar_iload_n (pc := 41) (i := 3) (k0 := 3) (by decide +kernel) rfl rfl ?_
      refine ar_aload_n (pc := 42) (i := 2) (k0 := 2) (by decide +kernel) rfl rfl ?_
      refine ar_getFNV (pc := 43) (a := 5) (b := 7) 0 1 (by decide +kernel) k_5 rfl (by decide) wg_RX6_191 rfl (fun _ => rfl) rfl ?_
      refine ar_iload (pc := 46) (i := 4) (by decide +kernel) rfl ?_
      obtain ⟨g3, H⟩ := H
      refine ar_iald (pc := 48) (a := 7) (i := v4) (by decide +kernel) k_7 g3 (am_lt_eq c2 (l_7).symm) ?_
      refine ar_iconst (pc := 49) (z := 1) (by decide +kernel) (by unfold am_i32; omega) ?_
      refine ar_callSN (pc := 50) (M2 := M_X0_tell) (as := [.inl (h 7 v4), .inl 1]) (n2 := 321) (st := [.inl v3]) (by decide +kernel) rfl wn_RX6_194 ws_yX0_tell wz_RX0 wc_yX0_tell ⟨by decide, by decide, rfl⟩ (by decide) (Nat.le_of_ble_eq_true rfl) (Nat.le_refl _) (Nat.le_refl _) (am_Cl_mono H (fun r4 h5 H => ?_))
      show am_Wp true (d + 1) M_X6_ledger 321 321 h0 Q 53 [none, some (.inl v1), some (.inr (.inr 5)), some (.inl v3), some (.inl v4)] [.inl r4, .inl v3] 321 h5
      refine ar_iload_n (pc := 53) (i := 1) (k0 := 1) (by decide +kernel) rfl rfl ?_
      refine ar_icmp_ne (pc := 54) (x := r4) (y := v1) (tgt := 61) (off := 7) (by decide +kernel) (by decide) (fun c6 => ?_) (fun c6 => ?_)
      · replace H := H.1 c6
        refine ar_iconst (pc := 61) (z := 0) (by decide +kernel) (by unfold am_i32; omega) ?_
        refine ar_forget [true, true, true, false, true] rfl ?_
        exact H h0
      · replace H := H.2 c6
        refine ar_iconst (pc := 57) (z := 1) (by decide +kernel) (by unfold am_i32; omega) ?_
        refine ar_goto (pc := 58) (tgt := 62) (off := 4) (by decide +kernel) (by decide) ?_
        refine ar_forget [true, true, true, false, true] rfl ?_
        exact H h0
theorem B_X6_ledger_62 {d : Nat} {Q : Int → am_H → Prop} {h : am_H} {v1 v4 s0 s1 : Int} (H : wf (d + 1) M_X6_ledger Q 25 [none, some (.inl v1), some (.inr (.inr 5)), some (.inl (am_w32 (s0 + s1))), some (.inl (am_w32 (v4 + 1)))] [] h) : wf (d + 1) M_X6_ledger Q 62 [none, some (.inl v1), some (.inr (.inr 5)), none, some (.inl v4)] [.inl s1, .inl s0] h := by
  intro h0
  refine ar_iadd (pc := 62) (x := s0) (y := s1) (by decide +kernel) ?_
  refine ar_istore_n (pc := 63) (i := 3) (k0 := 3) (ls2 := [none, some (.inl v1), some (.inr (.inr 5)), some (.inl (am_w32 (s0 + s1))), some (.inl v4)]) (by decide +kernel) rfl (by decide) rfl ?_
  refine ar_iinc (pc := 64) (i := 4) (z := 1) (x := v4) (ls2 := [none, some (.inl v1), some (.inr (.inr 5)), some (.inl (am_w32 (s0 + s1))), some (.inl (am_w32 (v4 + 1)))]) (by decide +kernel) rfl (by decide) rfl ?_
  refine ar_goto (pc := 67) (tgt := 25) (off := -42) (by decide +kernel) (by decide) ?_
  exact H h0

/-! ByteIntervals.valid(I)Z -/
theorem B_X6_valid_0 {d : Nat} {Q : Int → am_H → Prop} {h : am_H} {v1 : Int} (H : cf d M_X6_textAt [.inr (.inr 1), .inl v1] h (fun r1 h2 => (0 ≤ r1) ∧ ((r1 = 0 → Q 0 h2) ∧ (1 ≤ r1 → cf d M_X2_isValid [.inr (.inr 218), .inr (.inr r1), .inr (.inr 6), .inl (h2 5 3)] h2 (fun r5 h6 => (r5 = 0 → Q 0 h6) ∧ (¬ r5 = 0 → Q 1 h6)))))) : wf (d + 1) M_X6_valid Q 0 [some (.inr (.inr 1)), some (.inl v1), none] [] h := by
  intro h0
  refine ar_aload_n (pc := 0) (i := 0) (k0 := 0) (by decide +kernel) rfl rfl ?_
  refine ar_iload_n (pc := 1) (i := 1) (k0 := 1) (by decide +kernel) rfl rfl ?_
  refine ar_callV (pc := 2) (M2 := M_X6_textAt) (a := 1) (ci := 6) (as := [.inl v1]) (n2 := 321) (st := []) (by decide +kernel) rfl wm_RX6_78 wi_yX6_textAt wl_yX6_textAt k_1 rfl wz_RX6 wc_yX6_textAt ⟨by decide, by decide, rfl⟩ (by decide) (Nat.le_of_ble_eq_true rfl) (Nat.le_refl _) (Nat.le_refl _) (am_Cl_mono H (fun r1 h2 H => ?_))
  show am_Wp true (d + 1) M_X6_valid 321 321 h0 Q 5 [some (.inr (.inr 1)), some (.inl v1), none] [.inr (.inr r1)] 321 h2
  refine ar_astore_n (pc := 5) (i := 2) (k0 := 2) (ls2 := [some (.inr (.inr 1)), some (.inl v1), some (.inr (.inr r1))]) (by decide +kernel) rfl (by decide) rfl ?_
  refine ar_aload_n (pc := 6) (i := 2) (k0 := 2) (by decide +kernel) rfl rfl ?_
  obtain ⟨g4, H⟩ := H
  refine ar_ifnull (pc := 7) (x := r1) (tgt := 45) (off := 38) (by decide +kernel) (by decide) g4 (fun c3 => ?_) (fun c3 => ?_)
  · replace H := H.1 c3
    refine ar_iconst (pc := 45) (z := 0) (by decide +kernel) (by unfold am_i32; omega) ?_
    exact ar_zret (pc := 46) (x := 0) (by decide +kernel) rfl rfl (by decide) H
  · replace H := H.2 c3
    refine ar_aload_n (pc := 10) (i := 0) (k0 := 0) (by decide +kernel) rfl rfl ?_
    refine ar_getFV (pc := 11) (a := 1) (b := 218) 6 9 (by decide +kernel) k_1 rfl (by decide) wf_RX6_56 rfl (fun _ => rfl) rfl ?_
    refine ar_aload_n (pc := 14) (i := 2) (k0 := 2) (by decide +kernel) rfl rfl ?_
    refine ar_aload_n (pc := 15) (i := 0) (k0 := 0) (by decide +kernel) rfl rfl ?_
    refine ar_getFV (pc := 16) (a := 1) (b := 4) 6 5 (by decide +kernel) k_1 rfl (by decide) wf_RX6_32 rfl (fun _ => rfl) rfl ?_
    refine ar_getFNV (pc := 19) (a := 4) (b := 5) 4 0 (by decide +kernel) k_4 rfl (by decide) wg_RX6_82 rfl (fun _ => rfl) rfl ?_
    refine ar_getFNV (pc := 22) (a := 5) (b := 6) 0 0 (by decide +kernel) k_5 rfl (by decide) wg_RX6_182 rfl (fun _ => rfl) rfl ?_
    refine ar_aload_n (pc := 25) (i := 0) (k0 := 0) (by decide +kernel) rfl rfl ?_
    refine ar_getFV (pc := 26) (a := 1) (b := 4) 6 5 (by decide +kernel) k_1 rfl (by decide) wf_RX6_32 rfl (fun _ => rfl) rfl ?_
    refine ar_getFNV (pc := 29) (a := 4) (b := 5) 4 0 (by decide +kernel) k_4 rfl (by decide) wg_RX6_82 rfl (fun _ => rfl) rfl ?_
    refine ar_getNV (pc := 32) (a := 5) (v := .inl (h2 5 3)) 0 3 (by decide +kernel) k_5 rfl (by decide) wg_RX6_129 rfl ?_
    refine ar_callVN (pc := 35) (M2 := M_X2_isValid) (a := 218) (ci := 2) (as := [.inr (.inr r1), .inr (.inr 6), .inl (h2 5 3)]) (n2 := 321) (st := []) (by decide +kernel) rfl wn_RX6_211 wi_yX2_isValid wl_yX2_isValid k_218 rfl wz_RX2 wc_yX2_isValid ⟨by decide, by decide, rfl⟩ (by decide) (Nat.le_of_ble_eq_true rfl) (Nat.le_refl _) (Nat.le_refl _) (am_Cl_mono H (fun r5 h6 H => ?_))
    show am_Wp true (d + 1) M_X6_valid 321 321 h0 Q 38 [some (.inr (.inr 1)), some (.inl v1), some (.inr (.inr r1))] [.inl r5] 321 h6
    refine ar_if_eq (pc := 38) (x := r5) (tgt := 45) (off := 7) (by decide +kernel) (by decide) (fun c7 => ?_) (fun c7 => ?_)
    · replace H := H.1 c7
      refine ar_iconst (pc := 45) (z := 0) (by decide +kernel) (by unfold am_i32; omega) ?_
      exact ar_zret (pc := 46) (x := 0) (by decide +kernel) rfl rfl (by decide) H
    · replace H := H.2 c7
      refine ar_iconst (pc := 41) (z := 1) (by decide +kernel) (by unfold am_i32; omega) ?_
      refine ar_goto (pc := 42) (tgt := 46) (off := 4) (by decide +kernel) (by decide) ?_
      exact ar_zret (pc := 46) (x := 1) (by decide +kernel) rfl rfl (by decide) H

/-! ByteIntervals.field(III)I -/
theorem B_X6_field_0 {d : Nat} {Q : Int → am_H → Prop} {h : am_H} {v1 v2 v3 : Int} (H : cf d M_X6_textAt [.inr (.inr 1), .inl v1] h (fun r1 h2 => (0 ≤ r1) ∧ ((r1 = 0 → Q (-2) h2) ∧ (1 ≤ r1 → cf d M_X6_isField [.inl v2] h2 (fun r5 h6 => (¬ r5 = 0 → (am_kd 321 r1 = 15) ∧ ((0 ≤ v2) ∧ ((v2 < 8) ∧ (cf d M_X2_readFile [.inr (.inr 218), .inr (.inr r1), .inr (.inr 5), .inl (h6 (r1 + 12) v2)] h6 (fun r11 h12 => (am_kd 321 r11 = 13) ∧ (cf d M_X3_tell [.inr (.inr r11), .inl v2, .inl v3] h12 (fun r13 h14 => Q r13 h14))))))) ∧ (r5 = 0 → Q (-2) h6)))))) : wf (d + 1) M_X6_field Q 0 [some (.inr (.inr 1)), some (.inl v1), some (.inl v2), some (.inl v3), none] [] h := by
  intro h0
  refine ar_aload_n (pc := 0) (i := 0) (k0 := 0) (by decide +kernel) rfl rfl ?_
  refine ar_iload_n (pc := 1) (i := 1) (k0 := 1) (by decide +kernel) rfl rfl ?_
  refine ar_callV (pc := 2) (M2 := M_X6_textAt) (a := 1) (ci := 6) (as := [.inl v1]) (n2 := 321) (st := []) (by decide +kernel) rfl wm_RX6_78 wi_yX6_textAt wl_yX6_textAt k_1 rfl wz_RX6 wc_yX6_textAt ⟨by decide, by decide, rfl⟩ (by decide) (Nat.le_of_ble_eq_true rfl) (Nat.le_refl _) (Nat.le_refl _) (am_Cl_mono H (fun r1 h2 H => ?_))
  show am_Wp true (d + 1) M_X6_field 321 321 h0 Q 5 [some (.inr (.inr 1)), some (.inl v1), some (.inl v2), some (.inl v3), none] [.inr (.inr r1)] 321 h2
  refine ar_astore (pc := 5) (i := 4) (ls2 := [some (.inr (.inr 1)), some (.inl v1), some (.inl v2), some (.inl v3), some (.inr (.inr r1))]) (by decide +kernel) (by decide) rfl ?_
  refine ar_aload (pc := 7) (i := 4) (by decide +kernel) rfl ?_
  obtain ⟨g4, H⟩ := H
  refine ar_ifnull (pc := 9) (x := r1) (tgt := 19) (off := 10) (by decide +kernel) (by decide) g4 (fun c3 => ?_) (fun c3 => ?_)
  · replace H := H.1 c3
    refine ar_bipush (pc := 19) (z := (-2)) (by decide +kernel) (by omega) ?_
    exact ar_iret (pc := 21) (x := (-2)) (by decide +kernel) rfl rfl H
  · replace H := H.2 c3
    refine ar_iload_n (pc := 12) (i := 2) (k0 := 2) (by decide +kernel) rfl rfl ?_
    refine ar_callS (pc := 13) (M2 := M_X6_isField) (as := [.inl v2]) (n2 := 321) (st := []) (by decide +kernel) rfl wm_RX6_215 ws_yX6_isField wz_RX6 wc_yX6_isField ⟨by decide, by decide, rfl⟩ (by decide) (Nat.le_of_ble_eq_true rfl) (Nat.le_refl _) (Nat.le_refl _) (am_Cl_mono H (fun r5 h6 H => ?_))
    show am_Wp true (d + 1) M_X6_field 321 321 h0 Q 16 [some (.inr (.inr 1)), some (.inl v1), some (.inl v2), some (.inl v3), some (.inr (.inr r1))] [.inl r5] 321 h6
    refine ar_if_ne (pc := 16) (x := r5) (tgt := 22) (off := 6) (by decide +kernel) (by decide) (fun c7 => ?_) (fun c7 => ?_)
    · replace H := H.1 c7
      refine ar_aload_n (pc := 22) (i := 0) (k0 := 0) (by decide +kernel) rfl rfl ?_
      refine ar_getFV (pc := 23) (a := 1) (b := 218) 6 9 (by decide +kernel) k_1 rfl (by decide) wf_RX6_56 rfl (fun _ => rfl) rfl ?_
      refine ar_aload (pc := 26) (i := 4) (by decide +kernel) rfl ?_
      refine ar_aload_n (pc := 28) (i := 0) (k0 := 0) (by decide +kernel) rfl rfl ?_
      refine ar_getFV (pc := 29) (a := 1) (b := 4) 6 5 (by decide +kernel) k_1 rfl (by decide) wf_RX6_32 rfl (fun _ => rfl) rfl ?_
      refine ar_getFNV (pc := 32) (a := 4) (b := 5) 4 0 (by decide +kernel) k_4 rfl (by decide) wg_RX6_82 rfl (fun _ => rfl) rfl ?_
      refine ar_aload (pc := 35) (i := 4) (by decide +kernel) rfl ?_
      obtain ⟨g8, H⟩ := H
      refine ar_getFNV (pc := 37) (a := r1) (b := (r1 + 12)) 5 16 (by decide +kernel) g8 rfl (by decide) wg_RX6_218 rfl (fun _ => rfl) rfl ?_
      refine ar_iload_n (pc := 40) (i := 2) (k0 := 2) (by decide +kernel) rfl rfl ?_
      obtain ⟨g9, H⟩ := H
      obtain ⟨g10, H⟩ := H
      refine ar_iald (pc := 41) (a := (r1 + 12)) (i := v2) (by decide +kernel) (kX5_16 g8).1 g9 (am_lt_eq g10 ((kX5_16 g8).2).symm) ?_
      refine ar_callVN (pc := 42) (M2 := M_X2_readFile) (a := 218) (ci := 2) (as := [.inr (.inr r1), .inr (.inr 5), .inl (h6 (r1 + 12) v2)]) (n2 := 321) (st := []) (by decide +kernel) rfl wn_RX6_221 wi_yX2_readFile wl_yX2_readFile k_218 rfl wz_RX2 wc_yX2_readFile ⟨by decide, by decide, rfl⟩ (by decide) (Nat.le_of_ble_eq_true rfl) (Nat.le_refl _) (Nat.le_refl _) (am_Cl_mono H (fun r11 h12 H => ?_))
      show am_Wp true (d + 1) M_X6_field 321 321 h0 Q 45 [some (.inr (.inr 1)), some (.inl v1), some (.inl v2), some (.inl v3), some (.inr (.inr r1))] [.inr (.inr r11)] 321 h12
      refine ar_iload_n (pc := 45) (i := 2) (k0 := 2) (by decide +kernel) rfl rfl ?_
      refine ar_iload_n (pc := 46) (i := 3) (k0 := 3) (by decide +kernel) rfl rfl ?_
      obtain ⟨g15, H⟩ := H
      refine ar_callVN (pc := 47) (M2 := M_X3_tell) (a := r11) (ci := 3) (as := [.inl v2, .inl v3]) (n2 := 321) (st := []) (by decide +kernel) rfl wn_RX6_225 wi_yX3_tell wl_yX3_tell g15 rfl wz_RX3 wc_yX3_tell ⟨by decide, by decide, rfl⟩ (by decide) (Nat.le_of_ble_eq_true rfl) (Nat.le_refl _) (Nat.le_refl _) (am_Cl_mono H (fun r13 h14 H => ?_))
      show am_Wp true (d + 1) M_X6_field 321 321 h0 Q 50 [some (.inr (.inr 1)), some (.inl v1), some (.inl v2), some (.inl v3), some (.inr (.inr r1))] [.inl r13] 321 h14
      exact ar_iret (pc := 50) (x := r13) (by decide +kernel) rfl rfl H
    · replace H := H.2 c7
      refine ar_bipush (pc := 19) (z := (-2)) (by decide +kernel) (by omega) ?_
      exact ar_iret (pc := 21) (x := (-2)) (by decide +kernel) rfl rfl H

