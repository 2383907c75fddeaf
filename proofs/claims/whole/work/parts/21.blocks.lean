/-! ByteIntervalsModel.field(III)I -/
theorem B_X7_field_0 {d : Nat} {Q : Int → am_H → Prop} {h : am_H} {v1 v2 v3 : Int} (H : cf d M_X7_isText [.inr (.inr 294), .inl v1] h (fun r1 h2 => (r1 = 0 → Q (-2) h2) ∧ (¬ r1 = 0 → cf d M_X7_isField [.inl v2] h2 (fun r4 h5 => (r4 = 0 → Q (-2) h5) ∧ (¬ r4 = 0 → cf d M_X7_isIn [.inl v3, .inl 0, .inl 3] h5 (fun r7 h8 => (¬ r7 = 0 → cf d M_X7_read [.inr (.inr 294), .inl v1] h8 (fun _ h11 => cf d M_X7_toldOf [.inr (.inr 294), .inl v2, .inl v3] h11 (fun r12 h13 => Q r12 h13))) ∧ (r7 = 0 → Q (-2) h8))))))) : wf (d + 1) M_X7_field Q 0 [some (.inr (.inr 294)), some (.inl v1), some (.inl v2), some (.inl v3)] [] h := by
  intro h0
  refine ar_aload_n (pc := 0) (i := 0) (k0 := 0) (by decide +kernel) rfl rfl ?_
  refine ar_iload_n (pc := 1) (i := 1) (k0 := 1) (by decide +kernel) rfl rfl ?_
  refine ar_callV (pc := 2) (M2 := M_X7_isText) (a := 294) (ci := 7) (as := [.inl v1]) (n2 := 321) (st := []) (by decide +kernel) rfl wm_RX7_502 wi_yX7_isText wl_yX7_isText k_294 rfl wz_RX7 wc_yX7_isText ⟨by decide, by decide, rfl⟩ (by decide) (Nat.le_of_ble_eq_true rfl) (Nat.le_refl _) (Nat.le_refl _) (am_Cl_mono H (fun r1 h2 H => ?_))
  show am_Wp true (d + 1) M_X7_field 321 321 h0 Q 5 [some (.inr (.inr 294)), some (.inl v1), some (.inl v2), some (.inl v3)] [.inl r1] 321 h2
  refine ar_if_eq (pc := 5) (x := r1) (tgt := 24) (off := 19) (by decide +kernel) (by decide) (fun c3 => ?_) (fun c3 => ?_)
  · replace H := H.1 c3
    refine ar_bipush (pc := 24) (z := (-2)) (by decide +kernel) (by omega) ?_
    exact ar_iret (pc := 26) (x := (-2)) (by decide +kernel) rfl rfl H
  · replace H := H.2 c3
    refine ar_iload_n (pc := 8) (i := 2) (k0 := 2) (by decide +kernel) rfl rfl ?_
    refine ar_callS (pc := 9) (M2 := M_X7_isField) (as := [.inl v2]) (n2 := 321) (st := []) (by decide +kernel) rfl wm_RX7_521 ws_yX7_isField wz_RX7 wc_yX7_isField ⟨by decide, by decide, rfl⟩ (by decide) (Nat.le_of_ble_eq_true rfl) (Nat.le_refl _) (Nat.le_refl _) (am_Cl_mono H (fun r4 h5 H => ?_))
    show am_Wp true (d + 1) M_X7_field 321 321 h0 Q 12 [some (.inr (.inr 294)), some (.inl v1), some (.inl v2), some (.inl v3)] [.inl r4] 321 h5
    refine ar_if_eq (pc := 12) (x := r4) (tgt := 24) (off := 12) (by decide +kernel) (by decide) (fun c6 => ?_) (fun c6 => ?_)
    · replace H := H.1 c6
      refine ar_bipush (pc := 24) (z := (-2)) (by decide +kernel) (by omega) ?_
      exact ar_iret (pc := 26) (x := (-2)) (by decide +kernel) rfl rfl H
    · replace H := H.2 c6
      refine ar_iload_n (pc := 15) (i := 3) (k0 := 3) (by decide +kernel) rfl rfl ?_
      refine ar_iconst (pc := 16) (z := 0) (by decide +kernel) (by unfold am_i32; omega) ?_
      refine ar_iconst (pc := 17) (z := 3) (by decide +kernel) (by unfold am_i32; omega) ?_
      refine ar_callS (pc := 18) (M2 := M_X7_isIn) (as := [.inl v3, .inl 0, .inl 3]) (n2 := 321) (st := []) (by decide +kernel) rfl wm_RX7_108 ws_yX7_isIn wz_RX7 wc_yX7_isIn ⟨by decide, by decide, rfl⟩ (by decide) (Nat.le_of_ble_eq_true rfl) (Nat.le_refl _) (Nat.le_refl _) (am_Cl_mono H (fun r7 h8 H => ?_))
      show am_Wp true (d + 1) M_X7_field 321 321 h0 Q 21 [some (.inr (.inr 294)), some (.inl v1), some (.inl v2), some (.inl v3)] [.inl r7] 321 h8
      refine ar_if_ne (pc := 21) (x := r7) (tgt := 27) (off := 6) (by decide +kernel) (by decide) (fun c9 => ?_) (fun c9 => ?_)
      · replace H := H.1 c9
        refine ar_aload_n (pc := 27) (i := 0) (k0 := 0) (by decide +kernel) rfl rfl ?_
        refine ar_iload_n (pc := 28) (i := 1) (k0 := 1) (by decide +kernel) rfl rfl ?_
        refine ar_callV (pc := 29) (M2 := M_X7_read) (a := 294) (ci := 7) (as := [.inl v1]) (n2 := 321) (st := []) (by decide +kernel) rfl wm_RX7_515 wi_yX7_read wl_yX7_read k_294 rfl wz_RX7 wc_yX7_read ⟨by decide, by decide, rfl⟩ (by decide) (Nat.le_of_ble_eq_true rfl) (Nat.le_refl _) (Nat.le_refl _) (am_Cl_mono H (fun r10 h11 H => ?_))
        show am_Wp true (d + 1) M_X7_field 321 321 h0 Q 32 [some (.inr (.inr 294)), some (.inl v1), some (.inl v2), some (.inl v3)] [] 321 h11
        refine ar_aload_n (pc := 32) (i := 0) (k0 := 0) (by decide +kernel) rfl rfl ?_
        refine ar_iload_n (pc := 33) (i := 2) (k0 := 2) (by decide +kernel) rfl rfl ?_
        refine ar_iload_n (pc := 34) (i := 3) (k0 := 3) (by decide +kernel) rfl rfl ?_
        refine ar_callV (pc := 35) (M2 := M_X7_toldOf) (a := 294) (ci := 7) (as := [.inl v2, .inl v3]) (n2 := 321) (st := []) (by decide +kernel) rfl wm_RX7_524 wi_yX7_toldOf wl_yX7_toldOf k_294 rfl wz_RX7 wc_yX7_toldOf ⟨by decide, by decide, rfl⟩ (by decide) (Nat.le_of_ble_eq_true rfl) (Nat.le_refl _) (Nat.le_refl _) (am_Cl_mono H (fun r12 h13 H => ?_))
        show am_Wp true (d + 1) M_X7_field 321 321 h0 Q 38 [some (.inr (.inr 294)), some (.inl v1), some (.inl v2), some (.inl v3)] [.inl r12] 321 h13
        exact ar_iret (pc := 38) (x := r12) (by decide +kernel) rfl rfl H
      · replace H := H.2 c9
        refine ar_bipush (pc := 24) (z := (-2)) (by decide +kernel) (by omega) ?_
        exact ar_iret (pc := 26) (x := (-2)) (by decide +kernel) rfl rfl H

/-! ByteIntervalsModel.sortOfField(II)I -/
theorem B_X7_sortOfField_0 {d : Nat} {Q : Int → am_H → Prop} {h : am_H} {v1 v2 : Int} (H : (0 ≤ v2) ∧ ((v2 < 8) ∧ ((0 ≤ (h 305 v2) → cf d M_X7_clauseAt [.inl v1, .inl (h 305 v2)] h (fun r4 h5 => (0 ≤ r4) ∧ ((r4 < 3300) ∧ (Q (h5 297 r4) h5)))) ∧ ((h 305 v2) < 0 → Q (-1) h)))) : wf (d + 1) M_X7_sortOfField Q 0 [some (.inr (.inr 294)), some (.inl v1), some (.inl v2)] [] h := by
  intro h0
  refine ar_aload_n (pc := 0) (i := 0) (k0 := 0) (by decide +kernel) rfl rfl ?_
  refine ar_getFV (pc := 1) (a := 294) (b := 305) 7 28 (by decide +kernel) k_294 rfl (by decide) wf_RX7_49 rfl (fun _ => rfl) rfl ?_
  refine ar_iload_n (pc := 4) (i := 2) (k0 := 2) (by decide +kernel) rfl rfl ?_
  obtain ⟨g1, H⟩ := H
  obtain ⟨g2, H⟩ := H
  refine ar_iald (pc := 5) (a := 305) (i := v2) (by decide +kernel) k_305 g1 (am_lt_eq g2 (l_305).symm) ?_
  refine ar_if_ge (pc := 6) (x := (h 305 v2)) (tgt := 13) (off := 7) (by decide +kernel) (by decide) (fun c3 => ?_) (fun c3 => ?_)
  · replace H := H.1 c3
    refine ar_aload_n (pc := 13) (i := 0) (k0 := 0) (by decide +kernel) rfl rfl ?_
    refine ar_getFV (pc := 14) (a := 294) (b := 297) 7 2 (by decide +kernel) k_294 rfl (by decide) wf_RX7_16 rfl (fun _ => rfl) rfl ?_
    refine ar_iload_n (pc := 17) (i := 1) (k0 := 1) (by decide +kernel) rfl rfl ?_
    refine ar_aload_n (pc := 18) (i := 0) (k0 := 0) (by decide +kernel) rfl rfl ?_
    refine ar_getFV (pc := 19) (a := 294) (b := 305) 7 28 (by decide +kernel) k_294 rfl (by decide) wf_RX7_49 rfl (fun _ => rfl) rfl ?_
    refine ar_iload_n (pc := 22) (i := 2) (k0 := 2) (by decide +kernel) rfl rfl ?_
    refine ar_iald (pc := 23) (a := 305) (i := v2) (by decide +kernel) k_305 g1 (am_lt_eq g2 (l_305).symm) ?_
    refine ar_callS (pc := 24) (M2 := M_X7_clauseAt) (as := [.inl v1, .inl (h 305 v2)]) (n2 := 321) (st := [.inr (.inr 297)]) (by decide +kernel) rfl wm_RX7_328 ws_yX7_clauseAt wz_RX7 wc_yX7_clauseAt ⟨by decide, by decide, rfl⟩ (by decide) (Nat.le_of_ble_eq_true rfl) (Nat.le_refl _) (Nat.le_refl _) (am_Cl_mono H (fun r4 h5 H => ?_))
    show am_Wp true (d + 1) M_X7_sortOfField 321 321 h0 Q 27 [some (.inr (.inr 294)), some (.inl v1), some (.inl v2)] [.inl r4, .inr (.inr 297)] 321 h5
    obtain ⟨g6, H⟩ := H
    obtain ⟨g7, H⟩ := H
    refine ar_iald (pc := 27) (a := 297) (i := r4) (by decide +kernel) k_297 g6 (am_lt_eq g7 (l_297).symm) ?_
    exact ar_iret (pc := 28) (x := (h5 297 r4)) (by decide +kernel) rfl rfl H
  · replace H := H.2 c3
    refine ar_iconst (pc := 9) (z := (-1)) (by decide +kernel) (by unfold am_i32; omega) ?_
    refine ar_goto (pc := 10) (tgt := 28) (off := 18) (by decide +kernel) (by decide) ?_
    exact ar_iret (pc := 28) (x := (-1)) (by decide +kernel) rfl rfl H

/-! ByteIntervalsModel.inside(IIII)I -/
theorem B_X7_inside_0 {d : Nat} {Q : Int → am_H → Prop} {h : am_H} {v1 v2 v3 v4 : Int} (H : cf d M_X7_isText [.inr (.inr 294), .inl v1] h (fun r1 h2 => (r1 = 0 → Q (-2) h2) ∧ (¬ r1 = 0 → cf d M_X7_isField [.inl v2] h2 (fun r4 h5 => (r4 = 0 → Q (-2) h5) ∧ (¬ r4 = 0 → cf d M_X7_isField [.inl v3] h5 (fun r7 h8 => (r7 = 0 → Q (-2) h8) ∧ (¬ r7 = 0 → cf d M_X7_isIn [.inl v4, .inl 0, .inl 3] h8 (fun r10 h11 => (¬ r10 = 0 → cf d M_X7_read [.inr (.inr 294), .inl v1] h11 (fun _ h14 => cf d M_X7_sortOfField [.inr (.inr 294), .inl v1, .inl v2] h14 (fun r15 h16 => (¬ r15 = 2 → Q (-2) h16) ∧ (r15 = 2 → (0 ≤ v2) ∧ ((v2 < 24) ∧ ((¬ (h16 315 v2) = 1 → cf d M_X7_readUpTo [.inr (.inr 294), .inl v1, .inl v2] h16 (fun _ h22 => cf d M_X7_toldOf [.inr (.inr 294), .inl (am_w32 (8 + v3)), .inl v4] h22 (fun r23 h24 => Q r23 h24))) ∧ ((h16 315 v2) = 1 → Q (-2) h16))))))) ∧ (r10 = 0 → Q (-2) h11))))))))) : wf (d + 1) M_X7_inside Q 0 [some (.inr (.inr 294)), some (.inl v1), some (.inl v2), some (.inl v3), some (.inl v4)] [] h := by
  intro h0
  refine ar_aload_n (pc := 0) (i := 0) (k0 := 0) (by decide +kernel) rfl rfl ?_
  refine ar_iload_n (pc := 1) (i := 1) (k0 := 1) (by decide +kernel) rfl rfl ?_
  refine ar_callV (pc := 2) (M2 := M_X7_isText) (a := 294) (ci := 7) (as := [.inl v1]) (n2 := 321) (st := []) (by decide +kernel) rfl wm_RX7_502 wi_yX7_isText wl_yX7_isText k_294 rfl wz_RX7 wc_yX7_isText ⟨by decide, by decide, rfl⟩ (by decide) (Nat.le_of_ble_eq_true rfl) (Nat.le_refl _) (Nat.le_refl _) (am_Cl_mono H (fun r1 h2 H => ?_))
  show am_Wp true (d + 1) M_X7_inside 321 321 h0 Q 5 [some (.inr (.inr 294)), some (.inl v1), some (.inl v2), some (.inl v3), some (.inl v4)] [.inl r1] 321 h2
  refine ar_if_eq (pc := 5) (x := r1) (tgt := 32) (off := 27) (by decide +kernel) (by decide) (fun c3 => ?_) (fun c3 => ?_)
  · replace H := H.1 c3
    refine ar_bipush (pc := 32) (z := (-2)) (by decide +kernel) (by omega) ?_
    exact ar_iret (pc := 34) (x := (-2)) (by decide +kernel) rfl rfl H
  · replace H := H.2 c3
    refine ar_iload_n (pc := 8) (i := 2) (k0 := 2) (by decide +kernel) rfl rfl ?_
    refine ar_callS (pc := 9) (M2 := M_X7_isField) (as := [.inl v2]) (n2 := 321) (st := []) (by decide +kernel) rfl wm_RX7_521 ws_yX7_isField wz_RX7 wc_yX7_isField ⟨by decide, by decide, rfl⟩ (by decide) (Nat.le_of_ble_eq_true rfl) (Nat.le_refl _) (Nat.le_refl _) (am_Cl_mono H (fun r4 h5 H => ?_))
    show am_Wp true (d + 1) M_X7_inside 321 321 h0 Q 12 [some (.inr (.inr 294)), some (.inl v1), some (.inl v2), some (.inl v3), some (.inl v4)] [.inl r4] 321 h5
    refine ar_if_eq (pc := 12) (x := r4) (tgt := 32) (off := 20) (by decide +kernel) (by decide) (fun c6 => ?_) (fun c6 => ?_)
    · replace H := H.1 c6
      refine ar_bipush (pc := 32) (z := (-2)) (by decide +kernel) (by omega) ?_
      exact ar_iret (pc := 34) (x := (-2)) (by decide +kernel) rfl rfl H
    · replace H := H.2 c6
      refine ar_iload_n (pc := 15) (i := 3) (k0 := 3) (by decide +kernel) rfl rfl ?_
      refine ar_callS (pc := 16) (M2 := M_X7_isField) (as := [.inl v3]) (n2 := 321) (st := []) (by decide +kernel) rfl wm_RX7_521 ws_yX7_isField wz_RX7 wc_yX7_isField ⟨by decide, by decide, rfl⟩ (by decide) (Nat.le_of_ble_eq_true rfl) (Nat.le_refl _) (Nat.le_refl _) (am_Cl_mono H (fun r7 h8 H => ?_))
      show am_Wp true (d + 1) M_X7_inside 321 321 h0 Q 19 [some (.inr (.inr 294)), some (.inl v1), some (.inl v2), some (.inl v3), some (.inl v4)] [.inl r7] 321 h8
      refine ar_if_eq (pc := 19) (x := r7) (tgt := 32) (off := 13) (by decide +kernel) (by decide) (fun c9 => ?_) (fun c9 => ?_)
      · replace H := H.1 c9
        refine ar_bipush (pc := 32) (z := (-2)) (by decide +kernel) (by omega) ?_
        exact ar_iret (pc := 34) (x := (-2)) (by decide +kernel) rfl rfl H
      · replace H := H.2 c9
        refine ar_iload (pc := 22) (i := 4) (by decide +kernel) rfl ?_
        refine ar_iconst (pc := 24) (z := 0) (by decide +kernel) (by unfold am_i32; omega) ?_
        refine ar_iconst (pc := 25) (z := 3) (by decide +kernel) (by unfold am_i32; omega) ?_
        refine ar_callS (pc := 26) (M2 := M_X7_isIn) (as := [.inl v4, .inl 0, .inl 3]) (n2 := 321) (st := []) (by decide +kernel) rfl wm_RX7_108 ws_yX7_isIn wz_RX7 wc_yX7_isIn ⟨by decide, by decide, rfl⟩ (by decide) (Nat.le_of_ble_eq_true rfl) (Nat.le_refl _) (Nat.le_refl _) (am_Cl_mono H (fun r10 h11 H => ?_))
        show am_Wp true (d + 1) M_X7_inside 321 321 h0 Q 29 [some (.inr (.inr 294)), some (.inl v1), some (.inl v2), some (.inl v3), some (.inl v4)] [.inl r10] 321 h11
        refine ar_if_ne (pc := 29) (x := r10) (tgt := 35) (off := 6) (by decide +kernel) (by decide) (fun c12 => ?_) (fun c12 => ?_)
        · replace H := H.1 c12
          refine ar_aload_n (pc := 35) (i := 0) (k0 := 0) (by decide +kernel) rfl rfl ?_
          refine ar_iload_n (pc := 36) (i := 1) (k0 := 1) (by decide +kernel) rfl rfl ?_
          refine ar_callV (pc := 37) (M2 := M_X7_read) (a := 294) (ci := 7) (as := [.inl v1]) (n2 := 321) (st := []) (by decide +kernel) rfl wm_RX7_515 wi_yX7_read wl_yX7_read k_294 rfl wz_RX7 wc_yX7_read ⟨by decide, by decide, rfl⟩ (by decide) (Nat.le_of_ble_eq_true rfl) (Nat.le_refl _) (Nat.le_refl _) (am_Cl_mono H (fun r13 h14 H => ?_))
          show am_Wp true (d + 1) M_X7_inside 321 321 h0 Q 40 [some (.inr (.inr 294)), some (.inl v1), some (.inl v2), some (.inl v3), some (.inl v4)] [] 321 h14
          refine ar_aload_n (pc := 40) (i := 0) (k0 := 0) (by decide +kernel) rfl rfl ?_
          refine ar_iload_n (pc := 41) (i := 1) (k0 := 1) (by decide +kernel) rfl rfl ?_
          refine ar_iload_n (pc := 42) (i := 2) (k0 := 2) (by decide +kernel) rfl rfl ?_
          refine ar_callV (pc := 43) (M2 := M_X7_sortOfField) (a := 294) (ci := 7) (as := [.inl v1, .inl v2]) (n2 := 321) (st := []) (by decide +kernel) rfl wm_RX7_527 wi_yX7_sortOfField wl_yX7_sortOfField k_294 rfl wz_RX7 wc_yX7_sortOfField ⟨by decide, by decide, rfl⟩ (by decide) (Nat.le_of_ble_eq_true rfl) (Nat.le_refl _) (Nat.le_refl _) (am_Cl_mono H (fun r15 h16 H => ?_))
          show am_Wp true (d + 1) M_X7_inside 321 321 h0 Q 46 [some (.inr (.inr 294)), some (.inl v1), some (.inl v2), some (.inl v3), some (.inl v4)] [.inl r15] 321 h16
          refine ar_iconst (pc := 46) (z := 2) (by decide +kernel) (by unfold am_i32; omega) ?_
          refine ar_icmp_ne (pc := 47) (x := r15) (y := 2) (tgt := 60) (off := 13) (by decide +kernel) (by decide) (fun c17 => ?_) (fun c17 => ?_)
          · replace H := H.1 c17
            refine ar_bipush (pc := 60) (z := (-2)) (by decide +kernel) (by omega) ?_
            exact ar_iret (pc := 62) (x := (-2)) (by decide +kernel) rfl rfl H
          · replace H := H.2 c17
            refine ar_aload_n (pc := 50) (i := 0) (k0 := 0) (by decide +kernel) rfl rfl ?_
            refine ar_getFV (pc := 51) (a := 294) (b := 315) 7 41 (by decide +kernel) k_294 rfl (by decide) wf_RX7_79 rfl (fun _ => rfl) rfl ?_
            refine ar_iload_n (pc := 54) (i := 2) (k0 := 2) (by decide +kernel) rfl rfl ?_
            obtain ⟨g18, H⟩ := H
            obtain ⟨g19, H⟩ := H
            refine ar_iald (pc := 55) (a := 315) (i := v2) (by decide +kernel) k_315 g18 (am_lt_eq g19 (l_315).symm) ?_
            refine ar_iconst (pc := 56) (z := 1) (by decide +kernel) (by unfold am_i32; omega) ?_
            refine ar_icmp_ne (pc := 57) (x := (h16 315 v2)) (y := 1) (tgt := 63) (off := 6) (by decide +kernel) (by decide) (fun c20 => ?_) (fun c20 => ?_)
            · replace H := H.1 c20
              refine ar_aload_n (pc := 63) (i := 0) (k0 := 0) (by decide +kernel) rfl rfl ?_
              refine ar_iload_n (pc := 64) (i := 1) (k0 := 1) (by decide +kernel) rfl rfl ?_
              refine ar_iload_n (pc := 65) (i := 2) (k0 := 2) (by decide +kernel) rfl rfl ?_
              refine ar_callV (pc := 66) (M2 := M_X7_readUpTo) (a := 294) (ci := 7) (as := [.inl v1, .inl v2]) (n2 := 321) (st := []) (by decide +kernel) rfl wm_RX7_530 wi_yX7_readUpTo wl_yX7_readUpTo k_294 rfl wz_RX7 wc_yX7_readUpTo ⟨by decide, by decide, rfl⟩ (by decide) (Nat.le_of_ble_eq_true rfl) (Nat.le_refl _) (Nat.le_refl _) (am_Cl_mono H (fun r21 h22 H => ?_))
              show am_Wp true (d + 1) M_X7_inside 321 321 h0 Q 69 [some (.inr (.inr 294)), some (.inl v1), some (.inl v2), some (.inl v3), some (.inl v4)] [] 321 h22
              refine ar_aload_n (pc := 69) (i := 0) (k0 := 0) (by decide +kernel) rfl rfl ?_
              refine ar_bipush (pc := 70) (z := 8) (by decide +kernel) (by omega) ?_
              refine ar_iload_n (pc := 72) (i := 3) (k0 := 3) (by decide +kernel) rfl rfl ?_
              refine ar_iadd (pc := 73) (x := 8) (y := v3) (by decide +kernel) ?_
              refine ar_iload (pc := 74) (i := 4) (by decide +kernel) rfl ?_
              refine ar_callV (pc := 76) (M2 := M_X7_toldOf) (a := 294) (ci := 7) (as := [.inl (am_w32 (8 + v3)), .inl v4]) (n2 := 321) (st := []) (by decide +kernel) rfl wm_RX7_524 wi_yX7_toldOf wl_yX7_toldOf k_294 rfl wz_RX7 wc_yX7_toldOf ⟨by decide, by decide, rfl⟩ (by decide) (Nat.le_of_ble_eq_true rfl) (Nat.le_refl _) (Nat.le_refl _) (am_Cl_mono H (fun r23 h24 H => ?_))
              show am_Wp true (d + 1) M_X7_inside 321 321 h0 Q 79 [some (.inr (.inr 294)), some (.inl v1), some (.inl v2), some (.inl v3), some (.inl v4)] [.inl r23] 321 h24
              exact ar_iret (pc := 79) (x := r23) (by decide +kernel) rfl rfl H
            · replace H := H.2 c20
              refine ar_bipush (pc := 60) (z := (-2)) (by decide +kernel) (by omega) ?_
              exact ar_iret (pc := 62) (x := (-2)) (by decide +kernel) rfl rfl H
        · replace H := H.2 c12
          refine ar_bipush (pc := 32) (z := (-2)) (by decide +kernel) (by omega) ?_
          exact ar_iret (pc := 34) (x := (-2)) (by decide +kernel) rfl rfl H

/-! ByteIntervalsModel.readUpTo(II)V -/
theorem B_X7_readUpTo_0 {d : Nat} {Q : Int → am_H → Prop} {h : am_H} {v1 v2 : Int} (H : cf d M_X7_beginLevel [.inr (.inr 294), .inl 0, .inl 0, .inl (h 295 6)] (am_up h 294 47 v1) (fun _ h2 => wf (d + 1) M_X7_readUpTo Q 20 [some (.inr (.inr 294)), some (.inl v1), some (.inl v2), some (.inl 0)] [] h2)) : wf (d + 1) M_X7_readUpTo Q 0 [some (.inr (.inr 294)), some (.inl v1), some (.inl v2), none] [] h := by
  intro h0
  refine ar_aload_n (pc := 0) (i := 0) (k0 := 0) (by decide +kernel) rfl rfl ?_
  refine ar_iload_n (pc := 1) (i := 1) (k0 := 1) (by decide +kernel) rfl rfl ?_
  refine ar_putI (pc := 2) (a := 294) (z := v1) 7 47 (by decide +kernel) k_294 rfl (by decide) rfl (fun _ => rfl) rfl wf_RX7_403 ?_
  refine ar_aload_n (pc := 5) (i := 0) (k0 := 0) (by decide +kernel) rfl rfl ?_
  refine ar_iconst (pc := 6) (z := 0) (by decide +kernel) (by unfold am_i32; omega) ?_
  refine ar_iconst (pc := 7) (z := 0) (by decide +kernel) (by unfold am_i32; omega) ?_
  refine ar_aload_n (pc := 8) (i := 0) (k0 := 0) (by decide +kernel) rfl rfl ?_
  refine ar_getFV (pc := 9) (a := 294) (b := 295) 7 0 (by decide +kernel) k_294 rfl (by decide) wf_RX7_7 rfl (fun _ => rfl) rfl ?_
  refine ar_bipush (pc := 12) (z := 6) (by decide +kernel) (by omega) ?_
  refine ar_ialdV (pc := 14) (a := 295) (i := 6) (v := (h 295 6)) (by first | rfl | (simp [am_up, am_cp]; done) | (simp [am_up, am_cp] <;> intros <;> omega)) (by decide +kernel) k_295 (by decide) (am_lt_eq (b := 2159) (by decide) (l_295).symm) ?_
  refine ar_callV (pc := 15) (M2 := M_X7_beginLevel) (a := 294) (ci := 7) (as := [.inl 0, .inl 0, .inl (h 295 6)]) (n2 := 321) (st := []) (by decide +kernel) rfl wm_RX7_388 wi_yX7_beginLevel wl_yX7_beginLevel k_294 rfl wz_RX7 wc_yX7_beginLevel ⟨by decide, by decide, rfl⟩ (by decide) (Nat.le_of_ble_eq_true rfl) (Nat.le_refl _) (Nat.le_refl _) (am_Cl_mono H (fun r1 h2 H => ?_))
  show am_Wp true (d + 1) M_X7_readUpTo 321 321 h0 Q 18 [some (.inr (.inr 294)), some (.inl v1), some (.inl v2), none] [] 321 h2
  refine ar_iconst (pc := 18) (z := 0) (by decide +kernel) (by unfold am_i32; omega) ?_
  refine ar_istore_n (pc := 19) (i := 3) (k0 := 3) (ls2 := [some (.inr (.inr 294)), some (.inl v1), some (.inl v2), some (.inl 0)]) (by decide +kernel) rfl (by decide) rfl ?_
  exact H h0
theorem B_X7_readUpTo_20 {d : Nat} {Q : Int → am_H → Prop} {h : am_H} {v1 v2 v3 : Int} (H : (¬ v3 = 0 → Q 0 h) ∧ (v3 = 0 → (0 ≤ (h 294 43)) ∧ (((h 294 43) < 3) ∧ (((h 294 31) ≤ (h 310 (h 294 43)) → cf d M_X7_readMusts [.inr (.inr 294), .inl v1] h (fun _ h6 => (¬ (h6 294 43) = 1 → wf (d + 1) M_X7_readUpTo Q 96 [some (.inr (.inr 294)), some (.inl v1), some (.inl v2), none] [] h6) ∧ ((h6 294 43) = 1 → (0 ≤ (h6 310 0)) ∧ (((h6 310 0) < 8) ∧ ((¬ (h6 307 (h6 310 0)) = v2 → wf (d + 1) M_X7_readUpTo Q 96 [some (.inr (.inr 294)), some (.inl v1), some (.inl v2), none] [] h6) ∧ ((h6 307 (h6 310 0)) = v2 → wf (d + 1) M_X7_readUpTo Q 97 [some (.inr (.inr 294)), some (.inl v1), some (.inl v2), none] [.inl 1] h6)))))) ∧ ((h 310 (h 294 43)) < (h 294 31) → cf d M_X7_readField [.inr (.inr 294), .inl v1] h (fun r11 h12 => (¬ r11 = 0 → wf (d + 1) M_X7_readUpTo Q 20 [some (.inr (.inr 294)), some (.inl v1), some (.inl v2), some (.inl v3)] [] h12) ∧ (r11 = 0 → (0 ≤ (h12 294 43)) ∧ (((h12 294 43) < 3) ∧ (wf (d + 1) M_X7_readUpTo Q 20 [some (.inr (.inr 294)), some (.inl v1), some (.inl v2), some (.inl v3)] [] (am_up h12 310 (h12 294 43) (am_w32 ((h12 310 (h12 294 43)) + 1)))))))))))) : wf (d + 1) M_X7_readUpTo Q 20 [some (.inr (.inr 294)), some (.inl v1), some (.inl v2), some (.inl v3)] [] h := by
  intro h0
  refine ar_iload_n (pc := 20) (i := 3) (k0 := 3) (by decide +kernel) rfl rfl ?_
  refine ar_if_ne (pc := 21) (x := v3) (tgt := 109) (off := 88) (by decide +kernel) (by decide) (fun c1 => ?_) (fun c1 => ?_)
  · replace H := H.1 c1
    exact ar_vret (pc := 109) (by decide +kernel) rfl rfl H
  · replace H := H.2 c1
    refine ar_aload_n (pc := 24) (i := 0) (k0 := 0) (by decide +kernel) rfl rfl ?_
    refine ar_getFV (pc := 25) (a := 294) (b := 310) 7 36 (by decide +kernel) k_294 rfl (by decide) wf_RX7_64 rfl (fun _ => rfl) rfl ?_
    refine ar_aload_n (pc := 28) (i := 0) (k0 := 0) (by decide +kernel) rfl rfl ?_
    refine ar_getV (pc := 29) (a := 294) (v := .inl (h 294 43)) 7 43 (by decide +kernel) k_294 rfl (by decide) wf_RX7_363 rfl ?_
    obtain ⟨g2, H⟩ := H
    obtain ⟨g3, H⟩ := H
    refine ar_iald (pc := 32) (a := 310) (i := (h 294 43)) (by decide +kernel) k_310 g2 (am_lt_eq g3 (l_310).symm) ?_
    refine ar_aload_n (pc := 33) (i := 0) (k0 := 0) (by decide +kernel) rfl rfl ?_
    refine ar_getV (pc := 34) (a := 294) (v := .inl (h 294 31)) 7 31 (by decide +kernel) k_294 rfl (by decide) wf_RX7_357 rfl ?_
    refine ar_icmp_ge (pc := 37) (x := (h 310 (h 294 43))) (y := (h 294 31)) (tgt := 64) (off := 27) (by decide +kernel) (by decide) (fun c4 => ?_) (fun c4 => ?_)
    · replace H := H.1 c4
      refine ar_aload_n (pc := 64) (i := 0) (k0 := 0) (by decide +kernel) rfl rfl ?_
      refine ar_iload_n (pc := 65) (i := 1) (k0 := 1) (by decide +kernel) rfl rfl ?_
      refine ar_callV (pc := 66) (M2 := M_X7_readMusts) (a := 294) (ci := 7) (as := [.inl v1]) (n2 := 321) (st := []) (by decide +kernel) rfl wm_RX7_418 wi_yX7_readMusts wl_yX7_readMusts k_294 rfl wz_RX7 wc_yX7_readMusts ⟨by decide, by decide, rfl⟩ (by decide) (Nat.le_of_ble_eq_true rfl) (Nat.le_refl _) (Nat.le_refl _) (am_Cl_mono H (fun r5 h6 H => ?_))
      show am_Wp true (d + 1) M_X7_readUpTo 321 321 h0 Q 69 [some (.inr (.inr 294)), some (.inl v1), some (.inl v2), some (.inl v3)] [] 321 h6
      refine ar_aload_n (pc := 69) (i := 0) (k0 := 0) (by decide +kernel) rfl rfl ?_
      refine ar_getV (pc := 70) (a := 294) (v := .inl (h6 294 43)) 7 43 (by decide +kernel) k_294 rfl (by decide) wf_RX7_363 rfl ?_
      refine ar_iconst (pc := 73) (z := 1) (by decide +kernel) (by unfold am_i32; omega) ?_
      refine ar_icmp_ne (pc := 74) (x := (h6 294 43)) (y := 1) (tgt := 96) (off := 22) (by decide +kernel) (by decide) (fun c7 => ?_) (fun c7 => ?_)
      · replace H := H.1 c7
        refine ar_forget [true, true, true, false] rfl ?_
        exact H h0
      · replace H := H.2 c7
        refine ar_aload_n (pc := 77) (i := 0) (k0 := 0) (by decide +kernel) rfl rfl ?_
        refine ar_getFV (pc := 78) (a := 294) (b := 307) 7 30 (by decide +kernel) k_294 rfl (by decide) wf_RX7_55 rfl (fun _ => rfl) rfl ?_
        refine ar_aload_n (pc := 81) (i := 0) (k0 := 0) (by decide +kernel) rfl rfl ?_
        refine ar_getFV (pc := 82) (a := 294) (b := 310) 7 36 (by decide +kernel) k_294 rfl (by decide) wf_RX7_64 rfl (fun _ => rfl) rfl ?_
        refine ar_iconst (pc := 85) (z := 0) (by decide +kernel) (by unfold am_i32; omega) ?_
        refine ar_iald (pc := 86) (a := 310) (i := 0) (by decide +kernel) k_310 (by decide) (am_lt_eq (b := 3) (by decide) (l_310).symm) ?_
        obtain ⟨g8, H⟩ := H
        obtain ⟨g9, H⟩ := H
        refine ar_iald (pc := 87) (a := 307) (i := (h6 310 0)) (by decide +kernel) k_307 g8 (am_lt_eq g9 (l_307).symm) ?_
        refine ar_iload_n (pc := 88) (i := 2) (k0 := 2) (by decide +kernel) rfl rfl ?_
        refine ar_icmp_ne (pc := 89) (x := (h6 307 (h6 310 0))) (y := v2) (tgt := 96) (off := 7) (by decide +kernel) (by decide) (fun c10 => ?_) (fun c10 => ?_)
        · replace H := H.1 c10
          refine ar_forget [true, true, true, false] rfl ?_
          exact H h0
        · replace H := H.2 c10
          refine ar_iconst (pc := 92) (z := 1) (by decide +kernel) (by unfold am_i32; omega) ?_
          refine ar_goto (pc := 93) (tgt := 97) (off := 4) (by decide +kernel) (by decide) ?_
          refine ar_forget [true, true, true, false] rfl ?_
          exact H h0
    · replace H := H.2 c4
      refine ar_aload_n (pc := 40) (i := 0) (k0 := 0) (by decide +kernel) rfl rfl ?_
      refine ar_iload_n (pc := 41) (i := 1) (k0 := 1) (by decide +kernel) rfl rfl ?_
      refine ar_callV (pc := 42) (M2 := M_X7_readField) (a := 294) (ci := 7) (as := [.inl v1]) (n2 := 321) (st := []) (by decide +kernel) rfl wm_RX7_415 wi_yX7_readField wl_yX7_readField k_294 rfl wz_RX7 wc_yX7_readField ⟨by decide, by decide, rfl⟩ (by decide) (Nat.le_of_ble_eq_true rfl) (Nat.le_refl _) (Nat.le_refl _) (am_Cl_mono H (fun r11 h12 H => ?_))
      show am_Wp true (d + 1) M_X7_readUpTo 321 321 h0 Q 45 [some (.inr (.inr 294)), some (.inl v1), some (.inl v2), some (.inl v3)] [.inl r11] 321 h12
      refine ar_if_ne (pc := 45) (x := r11) (tgt := 20) (off := -25) (by decide +kernel) (by decide) (fun c13 => ?_) (fun c13 => ?_)
      · replace H := H.1 c13
        exact H h0
      · replace H := H.2 c13
        refine ar_aload_n (pc := 48) (i := 0) (k0 := 0) (by decide +kernel) rfl rfl ?_
        refine ar_getFV (pc := 49) (a := 294) (b := 310) 7 36 (by decide +kernel) k_294 rfl (by decide) wf_RX7_64 rfl (fun _ => rfl) rfl ?_
        refine ar_aload_n (pc := 52) (i := 0) (k0 := 0) (by decide +kernel) rfl rfl ?_
        refine ar_getV (pc := 53) (a := 294) (v := .inl (h12 294 43)) 7 43 (by decide +kernel) k_294 rfl (by decide) wf_RX7_363 rfl ?_
        refine ar_dup2 (pc := 56) (by decide +kernel) trivial trivial ?_
        obtain ⟨g14, H⟩ := H
        obtain ⟨g15, H⟩ := H
        refine ar_iald (pc := 57) (a := 310) (i := (h12 294 43)) (by decide +kernel) k_310 g14 (am_lt_eq g15 (l_310).symm) ?_
        refine ar_iconst (pc := 58) (z := 1) (by decide +kernel) (by unfold am_i32; omega) ?_
        refine ar_iadd (pc := 59) (x := (h12 310 (h12 294 43))) (y := 1) (by decide +kernel) ?_
        refine ar_iast (pc := 60) (a := 310) (i := (h12 294 43)) (z := (am_w32 ((h12 310 (h12 294 43)) + 1))) (by decide +kernel) k_310 g14 (am_lt_eq g15 (l_310).symm) ?_
        refine ar_goto (pc := 61) (tgt := 20) (off := -41) (by decide +kernel) (by decide) ?_
        exact H h0
theorem B_X7_readUpTo_96 {d : Nat} {Q : Int → am_H → Prop} {h : am_H} {v1 v2 : Int} (H : wf (d + 1) M_X7_readUpTo Q 97 [some (.inr (.inr 294)), some (.inl v1), some (.inl v2), none] [.inl 0] h) : wf (d + 1) M_X7_readUpTo Q 96 [some (.inr (.inr 294)), some (.inl v1), some (.inl v2), none] [] h := by
  intro h0
  refine ar_iconst (pc := 96) (z := 0) (by decide +kernel) (by unfold am_i32; omega) ?_
  exact H h0
theorem B_X7_readUpTo_97 {d : Nat} {Q : Int → am_H → Prop} {h : am_H} {v1 v2 s0 : Int} (H : (¬ s0 = 0 → wf (d + 1) M_X7_readUpTo Q 20 [some (.inr (.inr 294)), some (.inl v1), some (.inl v2), some (.inl s0)] [] h) ∧ (s0 = 0 → cf d M_X7_endLevel [.inr (.inr 294)] h (fun _ h3 => wf (d + 1) M_X7_readUpTo Q 20 [some (.inr (.inr 294)), some (.inl v1), some (.inl v2), some (.inl s0)] [] h3))) : wf (d + 1) M_X7_readUpTo Q 97 [some (.inr (.inr 294)), some (.inl v1), some (.inl v2), none] [.inl s0] h := by
  intro h0
  refine ar_istore_n (pc := 97) (i := 3) (k0 := 3) (ls2 := [some (.inr (.inr 294)), some (.inl v1), some (.inl v2), some (.inl s0)]) (by decide +kernel) rfl (by decide) rfl ?_
  refine ar_iload_n (pc := 98) (i := 3) (k0 := 3) (by decide +kernel) rfl rfl ?_
  refine ar_if_ne (pc := 99) (x := s0) (tgt := 20) (off := -79) (by decide +kernel) (by decide) (fun c1 => ?_) (fun c1 => ?_)
  · replace H := H.1 c1
    exact H h0
  · replace H := H.2 c1
    refine ar_aload_n (pc := 102) (i := 0) (k0 := 0) (by decide +kernel) rfl rfl ?_
    refine ar_callV (pc := 103) (M2 := M_X7_endLevel) (a := 294) (ci := 7) (as := []) (n2 := 321) (st := []) (by decide +kernel) rfl wm_RX7_421 wi_yX7_endLevel wl_yX7_endLevel k_294 rfl wz_RX7 wc_yX7_endLevel ⟨by decide, by decide, rfl⟩ (by decide) (Nat.le_of_ble_eq_true rfl) (Nat.le_refl _) (Nat.le_refl _) (am_Cl_mono H (fun r2 h3 H => ?_))
    show am_Wp true (d + 1) M_X7_readUpTo 321 321 h0 Q 106 [some (.inr (.inr 294)), some (.inl v1), some (.inl v2), some (.inl s0)] [] 321 h3
    refine ar_goto (pc := 106) (tgt := 20) (off := -86) (by decide +kernel) (by decide) ?_
    exact H h0

/-! ByteIntervalsModel.order(II)I -/
theorem B_X7_order_0 {d : Nat} {Q : Int → am_H → Prop} {h : am_H} {v1 v2 : Int} (H : cf d M_X7_isText [.inr (.inr 294), .inl v1] h (fun r1 h2 => (¬ r1 = 0 → cf d M_X7_layOrder [.inr (.inr 294), .inl v1] h2 (fun _ h5 => cf d M_X7_isIn [.inl v2, .inl 0, .inl (am_w32 ((h5 294 31) - 1))] h5 (fun r6 h7 => (r6 = 0 → Q (-1) h7) ∧ (¬ r6 = 0 → (0 ≤ v2) ∧ ((v2 < 8) ∧ (Q (h7 307 v2) h7)))))) ∧ (r1 = 0 → Q (-1) h2))) : wf (d + 1) M_X7_order Q 0 [some (.inr (.inr 294)), some (.inl v1), some (.inl v2)] [] h := by
  intro h0
  refine ar_aload_n (pc := 0) (i := 0) (k0 := 0) (by decide +kernel) rfl rfl ?_
  refine ar_iload_n (pc := 1) (i := 1) (k0 := 1) (by decide +kernel) rfl rfl ?_
  refine ar_callV (pc := 2) (M2 := M_X7_isText) (a := 294) (ci := 7) (as := [.inl v1]) (n2 := 321) (st := []) (by decide +kernel) rfl wm_RX7_502 wi_yX7_isText wl_yX7_isText k_294 rfl wz_RX7 wc_yX7_isText ⟨by decide, by decide, rfl⟩ (by decide) (Nat.le_of_ble_eq_true rfl) (Nat.le_refl _) (Nat.le_refl _) (am_Cl_mono H (fun r1 h2 H => ?_))
  show am_Wp true (d + 1) M_X7_order 321 321 h0 Q 5 [some (.inr (.inr 294)), some (.inl v1), some (.inl v2)] [.inl r1] 321 h2
  refine ar_if_ne (pc := 5) (x := r1) (tgt := 10) (off := 5) (by decide +kernel) (by decide) (fun c3 => ?_) (fun c3 => ?_)
  · replace H := H.1 c3
    refine ar_aload_n (pc := 10) (i := 0) (k0 := 0) (by decide +kernel) rfl rfl ?_
    refine ar_iload_n (pc := 11) (i := 1) (k0 := 1) (by decide +kernel) rfl rfl ?_
    refine ar_callV (pc := 12) (M2 := M_X7_layOrder) (a := 294) (ci := 7) (as := [.inl v1]) (n2 := 321) (st := []) (by decide +kernel) rfl wm_RX7_424 wi_yX7_layOrder wl_yX7_layOrder k_294 rfl wz_RX7 wc_yX7_layOrder ⟨by decide, by decide, rfl⟩ (by decide) (Nat.le_of_ble_eq_true rfl) (Nat.le_refl _) (Nat.le_refl _) (am_Cl_mono H (fun r4 h5 H => ?_))
    show am_Wp true (d + 1) M_X7_order 321 321 h0 Q 15 [some (.inr (.inr 294)), some (.inl v1), some (.inl v2)] [] 321 h5
    refine ar_iload_n (pc := 15) (i := 2) (k0 := 2) (by decide +kernel) rfl rfl ?_
    refine ar_iconst (pc := 16) (z := 0) (by decide +kernel) (by unfold am_i32; omega) ?_
    refine ar_aload_n (pc := 17) (i := 0) (k0 := 0) (by decide +kernel) rfl rfl ?_
    refine ar_getV (pc := 18) (a := 294) (v := .inl (h5 294 31)) 7 31 (by decide +kernel) k_294 rfl (by decide) wf_RX7_357 rfl ?_
    refine ar_iconst (pc := 21) (z := 1) (by decide +kernel) (by unfold am_i32; omega) ?_
    refine ar_isub (pc := 22) (x := (h5 294 31)) (y := 1) (by decide +kernel) ?_
    refine ar_callS (pc := 23) (M2 := M_X7_isIn) (as := [.inl v2, .inl 0, .inl (am_w32 ((h5 294 31) - 1))]) (n2 := 321) (st := []) (by decide +kernel) rfl wm_RX7_108 ws_yX7_isIn wz_RX7 wc_yX7_isIn ⟨by decide, by decide, rfl⟩ (by decide) (Nat.le_of_ble_eq_true rfl) (Nat.le_refl _) (Nat.le_refl _) (am_Cl_mono H (fun r6 h7 H => ?_))
    show am_Wp true (d + 1) M_X7_order 321 321 h0 Q 26 [some (.inr (.inr 294)), some (.inl v1), some (.inl v2)] [.inl r6] 321 h7
    refine ar_if_eq (pc := 26) (x := r6) (tgt := 38) (off := 12) (by decide +kernel) (by decide) (fun c8 => ?_) (fun c8 => ?_)
    · replace H := H.1 c8
      refine ar_iconst (pc := 38) (z := (-1)) (by decide +kernel) (by unfold am_i32; omega) ?_
      exact ar_iret (pc := 39) (x := (-1)) (by decide +kernel) rfl rfl H
    · replace H := H.2 c8
      refine ar_aload_n (pc := 29) (i := 0) (k0 := 0) (by decide +kernel) rfl rfl ?_
      refine ar_getFV (pc := 30) (a := 294) (b := 307) 7 30 (by decide +kernel) k_294 rfl (by decide) wf_RX7_55 rfl (fun _ => rfl) rfl ?_
      refine ar_iload_n (pc := 33) (i := 2) (k0 := 2) (by decide +kernel) rfl rfl ?_
      obtain ⟨g9, H⟩ := H
      obtain ⟨g10, H⟩ := H
      refine ar_iald (pc := 34) (a := 307) (i := v2) (by decide +kernel) k_307 g9 (am_lt_eq g10 (l_307).symm) ?_
      refine ar_goto (pc := 35) (tgt := 39) (off := 4) (by decide +kernel) (by decide) ?_
      exact ar_iret (pc := 39) (x := (h7 307 v2)) (by decide +kernel) rfl rfl H
  · replace H := H.2 c3
    refine ar_iconst (pc := 8) (z := (-1)) (by decide +kernel) (by unfold am_i32; omega) ?_
    exact ar_iret (pc := 9) (x := (-1)) (by decide +kernel) rfl rfl H

/-! ByteIntervalsModel.ring(I)I -/
theorem B_X7_ring_0 {d : Nat} {Q : Int → am_H → Prop} {h : am_H} {v1 : Int} (H : cf d M_X7_isText [.inr (.inr 294), .inl v1] h (fun r1 h2 => (¬ r1 = 0 → cf d M_X7_layOrder [.inr (.inr 294), .inl v1] h2 (fun _ h5 => Q (h5 294 33) h5)) ∧ (r1 = 0 → Q (-1) h2))) : wf (d + 1) M_X7_ring Q 0 [some (.inr (.inr 294)), some (.inl v1)] [] h := by
  intro h0
  refine ar_aload_n (pc := 0) (i := 0) (k0 := 0) (by decide +kernel) rfl rfl ?_
  refine ar_iload_n (pc := 1) (i := 1) (k0 := 1) (by decide +kernel) rfl rfl ?_
  refine ar_callV (pc := 2) (M2 := M_X7_isText) (a := 294) (ci := 7) (as := [.inl v1]) (n2 := 321) (st := []) (by decide +kernel) rfl wm_RX7_502 wi_yX7_isText wl_yX7_isText k_294 rfl wz_RX7 wc_yX7_isText ⟨by decide, by decide, rfl⟩ (by decide) (Nat.le_of_ble_eq_true rfl) (Nat.le_refl _) (Nat.le_refl _) (am_Cl_mono H (fun r1 h2 H => ?_))
  show am_Wp true (d + 1) M_X7_ring 321 321 h0 Q 5 [some (.inr (.inr 294)), some (.inl v1)] [.inl r1] 321 h2
  refine ar_if_ne (pc := 5) (x := r1) (tgt := 10) (off := 5) (by decide +kernel) (by decide) (fun c3 => ?_) (fun c3 => ?_)
  · replace H := H.1 c3
    refine ar_aload_n (pc := 10) (i := 0) (k0 := 0) (by decide +kernel) rfl rfl ?_
    refine ar_iload_n (pc := 11) (i := 1) (k0 := 1) (by decide +kernel) rfl rfl ?_
    refine ar_callV (pc := 12) (M2 := M_X7_layOrder) (a := 294) (ci := 7) (as := [.inl v1]) (n2 := 321) (st := []) (by decide +kernel) rfl wm_RX7_424 wi_yX7_layOrder wl_yX7_layOrder k_294 rfl wz_RX7 wc_yX7_layOrder ⟨by decide, by decide, rfl⟩ (by decide) (Nat.le_of_ble_eq_true rfl) (Nat.le_refl _) (Nat.le_refl _) (am_Cl_mono H (fun r4 h5 H => ?_))
    show am_Wp true (d + 1) M_X7_ring 321 321 h0 Q 15 [some (.inr (.inr 294)), some (.inl v1)] [] 321 h5
    refine ar_aload_n (pc := 15) (i := 0) (k0 := 0) (by decide +kernel) rfl rfl ?_
    refine ar_getV (pc := 16) (a := 294) (v := .inl (h5 294 33)) 7 33 (by decide +kernel) k_294 rfl (by decide) wf_RX7_360 rfl ?_
    exact ar_iret (pc := 19) (x := (h5 294 33)) (by decide +kernel) rfl rfl H
  · replace H := H.2 c3
    refine ar_iconst (pc := 8) (z := (-1)) (by decide +kernel) (by unfold am_i32; omega) ?_
    exact ar_iret (pc := 9) (x := (-1)) (by decide +kernel) rfl rfl H

/-! ByteIntervalsModel.isHeld(I)Z -/
theorem B_X7_isHeld_0 {d : Nat} {Q : Int → am_H → Prop} {h : am_H} {v1 : Int} (H : (0 ≤ v1) ∧ ((v1 < 24) ∧ (((h 315 v1) = 0 → wf d M_X7_isHeld Q 19 [none, none] [] h) ∧ (¬ (h 315 v1) = 0 → (¬ (h 315 v1) = 2 → Q 0 h) ∧ ((h 315 v1) = 2 → wf d M_X7_isHeld Q 19 [none, none] [] h))))) : wf d M_X7_isHeld Q 0 [some (.inr (.inr 294)), some (.inl v1)] [] h := by
  intro h0
  refine ar_aload_n (pc := 0) (i := 0) (k0 := 0) (by decide +kernel) rfl rfl ?_
  refine ar_getFV (pc := 1) (a := 294) (b := 315) 7 41 (by decide +kernel) k_294 rfl (by decide) wf_RX7_79 rfl (fun _ => rfl) rfl ?_
  refine ar_iload_n (pc := 4) (i := 1) (k0 := 1) (by decide +kernel) rfl rfl ?_
  obtain ⟨g1, H⟩ := H
  obtain ⟨g2, H⟩ := H
  refine ar_iald (pc := 5) (a := 315) (i := v1) (by decide +kernel) k_315 g1 (am_lt_eq g2 (l_315).symm) ?_
  refine ar_if_eq (pc := 6) (x := (h 315 v1)) (tgt := 19) (off := 13) (by decide +kernel) (by decide) (fun c3 => ?_) (fun c3 => ?_)
  · replace H := H.1 c3
    refine ar_forget [false, false] rfl ?_
    exact H h0
  · replace H := H.2 c3
    refine ar_aload_n (pc := 9) (i := 0) (k0 := 0) (by decide +kernel) rfl rfl ?_
    refine ar_getFV (pc := 10) (a := 294) (b := 315) 7 41 (by decide +kernel) k_294 rfl (by decide) wf_RX7_79 rfl (fun _ => rfl) rfl ?_
    refine ar_iload_n (pc := 13) (i := 1) (k0 := 1) (by decide +kernel) rfl rfl ?_
    refine ar_iald (pc := 14) (a := 315) (i := v1) (by decide +kernel) k_315 g1 (am_lt_eq g2 (l_315).symm) ?_
    refine ar_iconst (pc := 15) (z := 2) (by decide +kernel) (by unfold am_i32; omega) ?_
    refine ar_icmp_ne (pc := 16) (x := (h 315 v1)) (y := 2) (tgt := 23) (off := 7) (by decide +kernel) (by decide) (fun c4 => ?_) (fun c4 => ?_)
    · replace H := H.1 c4
      refine ar_iconst (pc := 23) (z := 0) (by decide +kernel) (by unfold am_i32; omega) ?_
      exact ar_zret (pc := 24) (x := 0) (by decide +kernel) rfl rfl (by decide) H
    · replace H := H.2 c4
      refine ar_forget [false, false] rfl ?_
      exact H h0
theorem B_X7_isHeld_19 {d : Nat} {Q : Int → am_H → Prop} {h : am_H} (H : Q 1 h) : wf d M_X7_isHeld Q 19 [none, none] [] h := by
  intro h0
  refine ar_iconst (pc := 19) (z := 1) (by decide +kernel) (by unfold am_i32; omega) ?_
  refine ar_goto (pc := 20) (tgt := 24) (off := 4) (by decide +kernel) (by decide) ?_
  exact ar_zret (pc := 24) (x := 1) (by decide +kernel) rfl rfl (by decide) H

/-! ByteIntervalsModel.overlap(II)I -/
theorem B_X7_overlap_0 {d : Nat} {Q : Int → am_H → Prop} {h : am_H} {v1 v2 : Int} (H : cf d M_X7_isText [.inr (.inr 294), .inl v1] h (fun r1 h2 => (r1 = 0 → Q (-1) h2) ∧ (¬ r1 = 0 → cf d M_X7_isField [.inl v2] h2 (fun r4 h5 => (¬ r4 = 0 → cf d M_X7_read [.inr (.inr 294), .inl v1] h5 (fun _ h8 => cf d M_X7_isHeld [.inr (.inr 294), .inl v2] h8 (fun r9 h10 => (¬ r9 = 0 → wf (d + 1) M_X7_overlap Q 37 [some (.inr (.inr 294)), none, some (.inl v2), some (.inl 0), some (.inl 0)] [] h10) ∧ (r9 = 0 → Q (-1) h10)))) ∧ (r4 = 0 → Q (-1) h5))))) : wf (d + 1) M_X7_overlap Q 0 [some (.inr (.inr 294)), some (.inl v1), some (.inl v2), none, none] [] h := by
  intro h0
  refine ar_aload_n (pc := 0) (i := 0) (k0 := 0) (by decide +kernel) rfl rfl ?_
  refine ar_iload_n (pc := 1) (i := 1) (k0 := 1) (by decide +kernel) rfl rfl ?_
  refine ar_callV (pc := 2) (M2 := M_X7_isText) (a := 294) (ci := 7) (as := [.inl v1]) (n2 := 321) (st := []) (by decide +kernel) rfl wm_RX7_502 wi_yX7_isText wl_yX7_isText k_294 rfl wz_RX7 wc_yX7_isText ⟨by decide, by decide, rfl⟩ (by decide) (Nat.le_of_ble_eq_true rfl) (Nat.le_refl _) (Nat.le_refl _) (am_Cl_mono H (fun r1 h2 H => ?_))
  show am_Wp true (d + 1) M_X7_overlap 321 321 h0 Q 5 [some (.inr (.inr 294)), some (.inl v1), some (.inl v2), none, none] [.inl r1] 321 h2
  refine ar_if_eq (pc := 5) (x := r1) (tgt := 15) (off := 10) (by decide +kernel) (by decide) (fun c3 => ?_) (fun c3 => ?_)
  · replace H := H.1 c3
    refine ar_iconst (pc := 15) (z := (-1)) (by decide +kernel) (by unfold am_i32; omega) ?_
    exact ar_iret (pc := 16) (x := (-1)) (by decide +kernel) rfl rfl H
  · replace H := H.2 c3
    refine ar_iload_n (pc := 8) (i := 2) (k0 := 2) (by decide +kernel) rfl rfl ?_
    refine ar_callS (pc := 9) (M2 := M_X7_isField) (as := [.inl v2]) (n2 := 321) (st := []) (by decide +kernel) rfl wm_RX7_521 ws_yX7_isField wz_RX7 wc_yX7_isField ⟨by decide, by decide, rfl⟩ (by decide) (Nat.le_of_ble_eq_true rfl) (Nat.le_refl _) (Nat.le_refl _) (am_Cl_mono H (fun r4 h5 H => ?_))
    show am_Wp true (d + 1) M_X7_overlap 321 321 h0 Q 12 [some (.inr (.inr 294)), some (.inl v1), some (.inl v2), none, none] [.inl r4] 321 h5
    refine ar_if_ne (pc := 12) (x := r4) (tgt := 17) (off := 5) (by decide +kernel) (by decide) (fun c6 => ?_) (fun c6 => ?_)
    · replace H := H.1 c6
      refine ar_aload_n (pc := 17) (i := 0) (k0 := 0) (by decide +kernel) rfl rfl ?_
      refine ar_iload_n (pc := 18) (i := 1) (k0 := 1) (by decide +kernel) rfl rfl ?_
      refine ar_callV (pc := 19) (M2 := M_X7_read) (a := 294) (ci := 7) (as := [.inl v1]) (n2 := 321) (st := []) (by decide +kernel) rfl wm_RX7_515 wi_yX7_read wl_yX7_read k_294 rfl wz_RX7 wc_yX7_read ⟨by decide, by decide, rfl⟩ (by decide) (Nat.le_of_ble_eq_true rfl) (Nat.le_refl _) (Nat.le_refl _) (am_Cl_mono H (fun r7 h8 H => ?_))
      show am_Wp true (d + 1) M_X7_overlap 321 321 h0 Q 22 [some (.inr (.inr 294)), some (.inl v1), some (.inl v2), none, none] [] 321 h8
      refine ar_aload_n (pc := 22) (i := 0) (k0 := 0) (by decide +kernel) rfl rfl ?_
      refine ar_iload_n (pc := 23) (i := 2) (k0 := 2) (by decide +kernel) rfl rfl ?_
      refine ar_callV (pc := 24) (M2 := M_X7_isHeld) (a := 294) (ci := 7) (as := [.inl v2]) (n2 := 321) (st := []) (by decide +kernel) rfl wm_RX7_533 wi_yX7_isHeld wl_yX7_isHeld k_294 rfl wz_RX7 wc_yX7_isHeld ⟨by decide, by decide, rfl⟩ (by decide) (Nat.le_of_ble_eq_true rfl) (Nat.le_refl _) (Nat.le_refl _) (am_Cl_mono H (fun r9 h10 H => ?_))
      show am_Wp true (d + 1) M_X7_overlap 321 321 h0 Q 27 [some (.inr (.inr 294)), some (.inl v1), some (.inl v2), none, none] [.inl r9] 321 h10
      refine ar_if_ne (pc := 27) (x := r9) (tgt := 32) (off := 5) (by decide +kernel) (by decide) (fun c11 => ?_) (fun c11 => ?_)
      · replace H := H.1 c11
        refine ar_iconst (pc := 32) (z := 0) (by decide +kernel) (by unfold am_i32; omega) ?_
        refine ar_istore_n (pc := 33) (i := 3) (k0 := 3) (ls2 := [some (.inr (.inr 294)), some (.inl v1), some (.inl v2), some (.inl 0), none]) (by decide +kernel) rfl (by decide) rfl ?_
        refine ar_iconst (pc := 34) (z := 0) (by decide +kernel) (by unfold am_i32; omega) ?_
        refine ar_istore (pc := 35) (i := 4) (ls2 := [some (.inr (.inr 294)), some (.inl v1), some (.inl v2), some (.inl 0), some (.inl 0)]) (by decide +kernel) (by decide) rfl ?_
        refine ar_forget [true, false, true, true, true] rfl ?_
        exact H h0
      · replace H := H.2 c11
        refine ar_iconst (pc := 30) (z := (-1)) (by decide +kernel) (by unfold am_i32; omega) ?_
        exact ar_iret (pc := 31) (x := (-1)) (by decide +kernel) rfl rfl H
    · replace H := H.2 c6
      refine ar_iconst (pc := 15) (z := (-1)) (by decide +kernel) (by unfold am_i32; omega) ?_
      exact ar_iret (pc := 16) (x := (-1)) (by decide +kernel) rfl rfl H
theorem B_X7_overlap_37 {d : Nat} {Q : Int → am_H → Prop} {h : am_H} {v2 v3 v4 : Int} (H : (8 ≤ v4 → Q v3 h) ∧ (v4 < 8 → (v4 = v2 → wf (d + 1) M_X7_overlap Q 104 [some (.inr (.inr 294)), none, some (.inl v2), some (.inl v3), some (.inl v4)] [] h) ∧ (¬ v4 = v2 → cf d M_X7_isHeld [.inr (.inr 294), .inl v4] h (fun r3 h4 => (r3 = 0 → wf (d + 1) M_X7_overlap Q 104 [some (.inr (.inr 294)), none, some (.inl v2), some (.inl v3), some (.inl v4)] [] h4) ∧ (¬ r3 = 0 → (0 ≤ v4) ∧ ((v4 < 24) ∧ (cf d M_X7_bitsFrom [.inl (h4 313 v4), .inl (h4 314 v4)] h4 (fun r8 h9 => (0 ≤ v2) ∧ ((v2 < 24) ∧ (cf d M_X7_bitsFrom [.inl (h9 313 v2), .inl (h9 314 v2)] h9 (fun r12 h13 => ((am_lcmp (am_land r8 r12) 0) = 0 → wf (d + 1) M_X7_overlap Q 104 [some (.inr (.inr 294)), none, some (.inl v2), some (.inl v3), some (.inl v4)] [] h13) ∧ (¬ (am_lcmp (am_land r8 r12) 0) = 0 → wf (d + 1) M_X7_overlap Q 104 [some (.inr (.inr 294)), none, some (.inl v2), some (.inl (am_ior v3 (am_ishl 1 v4))), some (.inl v4)] [] h13)))))))))))) : wf (d + 1) M_X7_overlap Q 37 [some (.inr (.inr 294)), none, some (.inl v2), some (.inl v3), some (.inl v4)] [] h := by
  intro h0
  refine ar_iload (pc := 37) (i := 4) (by decide +kernel) rfl ?_
  refine ar_bipush (pc := 39) (z := 8) (by decide +kernel) (by omega) ?_
  refine ar_icmp_ge (pc := 41) (x := v4) (y := 8) (tgt := 110) (off := 69) (by decide +kernel) (by decide) (fun c1 => ?_) (fun c1 => ?_)
  · replace H := H.1 c1
    refine ar_iload_n (pc := 110) (i := 3) (k0 := 3) (by decide +kernel) rfl rfl ?_
    exact ar_iret (pc := 111) (x := v3) (by decide +kernel) rfl rfl H
  · replace H := H.2 c1
    refine ar_iload (pc := 44) (i := 4) (by decide +kernel) rfl ?_
    refine ar_iload_n (pc := 46) (i := 2) (k0 := 2) (by decide +kernel) rfl rfl ?_
    refine ar_icmp_eq (pc := 47) (x := v4) (y := v2) (tgt := 104) (off := 57) (by decide +kernel) (by decide) (fun c2 => ?_) (fun c2 => ?_)
    · replace H := H.1 c2
      exact H h0
    · replace H := H.2 c2
      refine ar_aload_n (pc := 50) (i := 0) (k0 := 0) (by decide +kernel) rfl rfl ?_
      refine ar_iload (pc := 51) (i := 4) (by decide +kernel) rfl ?_
      refine ar_callV (pc := 53) (M2 := M_X7_isHeld) (a := 294) (ci := 7) (as := [.inl v4]) (n2 := 321) (st := []) (by decide +kernel) rfl wm_RX7_533 wi_yX7_isHeld wl_yX7_isHeld k_294 rfl wz_RX7 wc_yX7_isHeld ⟨by decide, by decide, rfl⟩ (by decide) (Nat.le_of_ble_eq_true rfl) (Nat.le_refl _) (Nat.le_refl _) (am_Cl_mono H (fun r3 h4 H => ?_))
      show am_Wp true (d + 1) M_X7_overlap 321 321 h0 Q 56 [some (.inr (.inr 294)), none, some (.inl v2), some (.inl v3), some (.inl v4)] [.inl r3] 321 h4
      refine ar_if_eq (pc := 56) (x := r3) (tgt := 104) (off := 48) (by decide +kernel) (by decide) (fun c5 => ?_) (fun c5 => ?_)
      · replace H := H.1 c5
        exact H h0
      · replace H := H.2 c5
        refine ar_aload_n (pc := 59) (i := 0) (k0 := 0) (by decide +kernel) rfl rfl ?_
        refine ar_getFV (pc := 60) (a := 294) (b := 313) 7 39 (by decide +kernel) k_294 rfl (by decide) wf_RX7_73 rfl (fun _ => rfl) rfl ?_
        refine ar_iload (pc := 63) (i := 4) (by decide +kernel) rfl ?_
        obtain ⟨g6, H⟩ := H
        obtain ⟨g7, H⟩ := H
        refine ar_iald (pc := 65) (a := 313) (i := v4) (by decide +kernel) k_313 g6 (am_lt_eq g7 (l_313).symm) ?_
        refine ar_aload_n (pc := 66) (i := 0) (k0 := 0) (by decide +kernel) rfl rfl ?_
        refine ar_getFV (pc := 67) (a := 294) (b := 314) 7 40 (by decide +kernel) k_294 rfl (by decide) wf_RX7_76 rfl (fun _ => rfl) rfl ?_
        refine ar_iload (pc := 70) (i := 4) (by decide +kernel) rfl ?_
        refine ar_iald (pc := 72) (a := 314) (i := v4) (by decide +kernel) k_314 g6 (am_lt_eq g7 (l_314).symm) ?_
        refine ar_callS (pc := 73) (M2 := M_X7_bitsFrom) (as := [.inl (h4 313 v4), .inl (h4 314 v4)]) (n2 := 321) (st := []) (by decide +kernel) rfl wm_RX7_382 ws_yX7_bitsFrom wz_RX7 wc_yX7_bitsFrom ⟨by decide, by decide, rfl⟩ (by decide) (Nat.le_of_ble_eq_true rfl) (Nat.le_refl _) (Nat.le_refl _) (am_Cl_mono H (fun r8 h9 H => ?_))
        show am_Wp true (d + 1) M_X7_overlap 321 321 h0 Q 76 [some (.inr (.inr 294)), none, some (.inl v2), some (.inl v3), some (.inl v4)] [.inr (.inl r8)] 321 h9
        refine ar_aload_n (pc := 76) (i := 0) (k0 := 0) (by decide +kernel) rfl rfl ?_
        refine ar_getFV (pc := 77) (a := 294) (b := 313) 7 39 (by decide +kernel) k_294 rfl (by decide) wf_RX7_73 rfl (fun _ => rfl) rfl ?_
        refine ar_iload_n (pc := 80) (i := 2) (k0 := 2) (by decide +kernel) rfl rfl ?_
        obtain ⟨g10, H⟩ := H
        obtain ⟨g11, H⟩ := H
        refine ar_iald (pc := 81) (a := 313) (i := v2) (by decide +kernel) k_313 g10 (am_lt_eq g11 (l_313).symm) ?_
        refine ar_aload_n (pc := 82) (i := 0) (k0 := 0) (by decide +kernel) rfl rfl ?_
        refine ar_getFV (pc := 83) (a := 294) (b := 314) 7 40 (by decide +kernel) k_294 rfl (by decide) wf_RX7_76 rfl (fun _ => rfl) rfl ?_
        refine ar_iload_n (pc := 86) (i := 2) (k0 := 2) (by decide +kernel) rfl rfl ?_
        refine ar_iald (pc := 87) (a := 314) (i := v2) (by decide +kernel) k_314 g10 (am_lt_eq g11 (l_314).symm) ?_
        refine ar_callS (pc := 88) (M2 := M_X7_bitsFrom) (as := [.inl (h9 313 v2), .inl (h9 314 v2)]) (n2 := 321) (st := [.inr (.inl r8)]) (by decide +kernel) rfl wm_RX7_382 ws_yX7_bitsFrom wz_RX7 wc_yX7_bitsFrom ⟨by decide, by decide, rfl⟩ (by decide) (Nat.le_of_ble_eq_true rfl) (Nat.le_refl _) (Nat.le_refl _) (am_Cl_mono H (fun r12 h13 H => ?_))
        show am_Wp true (d + 1) M_X7_overlap 321 321 h0 Q 91 [some (.inr (.inr 294)), none, some (.inl v2), some (.inl v3), some (.inl v4)] [.inr (.inl r12), .inr (.inl r8)] 321 h13
        refine ar_land (pc := 91) (x := r8) (y := r12) (by decide +kernel) ?_
        refine ar_lconst (pc := 92) (i := 0) (z := 0) (by decide +kernel) rfl ?_
        refine ar_lcmp (pc := 93) (x := (am_land r8 r12)) (y := 0) (by decide +kernel) ?_
        refine ar_if_eq (pc := 94) (x := (am_lcmp (am_land r8 r12) 0)) (tgt := 104) (off := 10) (by decide +kernel) (by decide) (fun c14 => ?_) (fun c14 => ?_)
        · replace H := H.1 c14
          exact H h0
        · replace H := H.2 c14
          refine ar_iload_n (pc := 97) (i := 3) (k0 := 3) (by decide +kernel) rfl rfl ?_
          refine ar_iconst (pc := 98) (z := 1) (by decide +kernel) (by unfold am_i32; omega) ?_
          refine ar_iload (pc := 99) (i := 4) (by decide +kernel) rfl ?_
          refine ar_ishl (pc := 101) (x := 1) (y := v4) (by decide +kernel) ?_
          refine ar_ior (pc := 102) (x := v3) (y := (am_ishl 1 v4)) (by decide +kernel) ?_
          refine ar_istore_n (pc := 103) (i := 3) (k0 := 3) (ls2 := [some (.inr (.inr 294)), none, some (.inl v2), some (.inl (am_ior v3 (am_ishl 1 v4))), some (.inl v4)]) (by decide +kernel) rfl (by decide) rfl ?_
          exact H h0
theorem B_X7_overlap_104 {d : Nat} {Q : Int → am_H → Prop} {h : am_H} {v2 v3 v4 : Int} (H : wf (d + 1) M_X7_overlap Q 37 [some (.inr (.inr 294)), none, some (.inl v2), some (.inl v3), some (.inl (am_w32 (v4 + 1)))] [] h) : wf (d + 1) M_X7_overlap Q 104 [some (.inr (.inr 294)), none, some (.inl v2), some (.inl v3), some (.inl v4)] [] h := by
  intro h0
  refine ar_iinc (pc := 104) (i := 4) (z := 1) (x := v4) (ls2 := [some (.inr (.inr 294)), none, some (.inl v2), some (.inl v3), some (.inl (am_w32 (v4 + 1)))]) (by decide +kernel) rfl (by decide) rfl ?_
  refine ar_goto (pc := 107) (tgt := 37) (off := -70) (by decide +kernel) (by decide) ?_
  exact H h0

/-! ByteIntervalsModel.loose(I)J -/
theorem B_X7_loose_0 {d : Nat} {Q : Int → am_H → Prop} {h : am_H} {v1 : Int} (H : cf d M_X7_isText [.inr (.inr 294), .inl v1] h (fun r1 h2 => (¬ r1 = 0 → cf d M_X7_read [.inr (.inr 294), .inl v1] h2 (fun _ h5 => cf d M_X7_bitsFrom [.inl 0, .inl (h5 295 6)] h5 (fun r6 h7 => wf (d + 1) M_X7_loose Q 32 [some (.inr (.inr 294)), none, some (.inr (.inl r6)), none, some (.inl 0)] [] h7))) ∧ (r1 = 0 → Q (-1) h2))) : wf (d + 1) M_X7_loose Q 0 [some (.inr (.inr 294)), some (.inl v1), none, none, none] [] h := by
  intro h0
  refine ar_aload_n (pc := 0) (i := 0) (k0 := 0) (by decide +kernel) rfl rfl ?_
  refine ar_iload_n (pc := 1) (i := 1) (k0 := 1) (by decide +kernel) rfl rfl ?_
  refine ar_callV (pc := 2) (M2 := M_X7_isText) (a := 294) (ci := 7) (as := [.inl v1]) (n2 := 321) (st := []) (by decide +kernel) rfl wm_RX7_502 wi_yX7_isText wl_yX7_isText k_294 rfl wz_RX7 wc_yX7_isText ⟨by decide, by decide, rfl⟩ (by decide) (Nat.le_of_ble_eq_true rfl) (Nat.le_refl _) (Nat.le_refl _) (am_Cl_mono H (fun r1 h2 H => ?_))
  show am_Wp true (d + 1) M_X7_loose 321 321 h0 Q 5 [some (.inr (.inr 294)), some (.inl v1), none, none, none] [.inl r1] 321 h2
  refine ar_if_ne (pc := 5) (x := r1) (tgt := 12) (off := 7) (by decide +kernel) (by decide) (fun c3 => ?_) (fun c3 => ?_)
  · replace H := H.1 c3
    refine ar_aload_n (pc := 12) (i := 0) (k0 := 0) (by decide +kernel) rfl rfl ?_
    refine ar_iload_n (pc := 13) (i := 1) (k0 := 1) (by decide +kernel) rfl rfl ?_
    refine ar_callV (pc := 14) (M2 := M_X7_read) (a := 294) (ci := 7) (as := [.inl v1]) (n2 := 321) (st := []) (by decide +kernel) rfl wm_RX7_515 wi_yX7_read wl_yX7_read k_294 rfl wz_RX7 wc_yX7_read ⟨by decide, by decide, rfl⟩ (by decide) (Nat.le_of_ble_eq_true rfl) (Nat.le_refl _) (Nat.le_refl _) (am_Cl_mono H (fun r4 h5 H => ?_))
    show am_Wp true (d + 1) M_X7_loose 321 321 h0 Q 17 [some (.inr (.inr 294)), some (.inl v1), none, none, none] [] 321 h5
    refine ar_iconst (pc := 17) (z := 0) (by decide +kernel) (by unfold am_i32; omega) ?_
    refine ar_aload_n (pc := 18) (i := 0) (k0 := 0) (by decide +kernel) rfl rfl ?_
    refine ar_getFV (pc := 19) (a := 294) (b := 295) 7 0 (by decide +kernel) k_294 rfl (by decide) wf_RX7_7 rfl (fun _ => rfl) rfl ?_
    refine ar_bipush (pc := 22) (z := 6) (by decide +kernel) (by omega) ?_
    refine ar_iald (pc := 24) (a := 295) (i := 6) (by decide +kernel) k_295 (by decide) (am_lt_eq (b := 2159) (by decide) (l_295).symm) ?_
    refine ar_callS (pc := 25) (M2 := M_X7_bitsFrom) (as := [.inl 0, .inl (h5 295 6)]) (n2 := 321) (st := []) (by decide +kernel) rfl wm_RX7_382 ws_yX7_bitsFrom wz_RX7 wc_yX7_bitsFrom ⟨by decide, by decide, rfl⟩ (by decide) (Nat.le_of_ble_eq_true rfl) (Nat.le_refl _) (Nat.le_refl _) (am_Cl_mono H (fun r6 h7 H => ?_))
    show am_Wp true (d + 1) M_X7_loose 321 321 h0 Q 28 [some (.inr (.inr 294)), some (.inl v1), none, none, none] [.inr (.inl r6)] 321 h7
    refine ar_lstore_n (pc := 28) (i := 2) (k0 := 2) (ls2 := [some (.inr (.inr 294)), some (.inl v1), some (.inr (.inl r6)), none, none]) (by decide +kernel) rfl (by decide) rfl ?_
    refine ar_iconst (pc := 29) (z := 0) (by decide +kernel) (by unfold am_i32; omega) ?_
    refine ar_istore (pc := 30) (i := 4) (ls2 := [some (.inr (.inr 294)), some (.inl v1), some (.inr (.inl r6)), none, some (.inl 0)]) (by decide +kernel) (by decide) rfl ?_
    refine ar_forget [true, false, true, true, true] rfl ?_
    exact H h0
  · replace H := H.2 c3
    refine ar_ldc2 (pc := 8) (z := (-1)) (by decide +kernel) wk_RX7_536 (by unfold am_i64; omega) ?_
    exact ar_lret (pc := 11) (x := (-1)) (by decide +kernel) rfl rfl H
theorem B_X7_loose_32 {d : Nat} {Q : Int → am_H → Prop} {h : am_H} {v2 v4 : Int} (H : (8 ≤ v4 → Q v2 h) ∧ (v4 < 8 → cf d M_X7_isHeld [.inr (.inr 294), .inl v4] h (fun r2 h3 => (r2 = 0 → wf (d + 1) M_X7_loose Q 72 [some (.inr (.inr 294)), none, some (.inr (.inl v2)), none, some (.inl v4)] [] h3) ∧ (¬ r2 = 0 → (0 ≤ v4) ∧ ((v4 < 24) ∧ (cf d M_X7_bitsFrom [.inl (h3 313 v4), .inl (h3 314 v4)] h3 (fun r7 h8 => wf (d + 1) M_X7_loose Q 72 [some (.inr (.inr 294)), none, some (.inr (.inl (am_land v2 (am_lxor r7 (-1))))), none, some (.inl v4)] [] h8))))))) : wf (d + 1) M_X7_loose Q 32 [some (.inr (.inr 294)), none, some (.inr (.inl v2)), none, some (.inl v4)] [] h := by
  intro h0
  refine ar_iload (pc := 32) (i := 4) (by decide +kernel) rfl ?_
  refine ar_bipush (pc := 34) (z := 8) (by decide +kernel) (by omega) ?_
  refine ar_icmp_ge (pc := 36) (x := v4) (y := 8) (tgt := 78) (off := 42) (by decide +kernel) (by decide) (fun c1 => ?_) (fun c1 => ?_)
  · replace H := H.1 c1
    refine ar_lload_n (pc := 78) (i := 2) (k0 := 2) (by decide +kernel) rfl rfl ?_
    exact ar_lret (pc := 79) (x := v2) (by decide +kernel) rfl rfl H
  · replace H := H.2 c1
    refine ar_aload_n (pc := 39) (i := 0) (k0 := 0) (by decide +kernel) rfl rfl ?_
    refine ar_iload (pc := 40) (i := 4) (by decide +kernel) rfl ?_
    refine ar_callV (pc := 42) (M2 := M_X7_isHeld) (a := 294) (ci := 7) (as := [.inl v4]) (n2 := 321) (st := []) (by decide +kernel) rfl wm_RX7_533 wi_yX7_isHeld wl_yX7_isHeld k_294 rfl wz_RX7 wc_yX7_isHeld ⟨by decide, by decide, rfl⟩ (by decide) (Nat.le_of_ble_eq_true rfl) (Nat.le_refl _) (Nat.le_refl _) (am_Cl_mono H (fun r2 h3 H => ?_))
    show am_Wp true (d + 1) M_X7_loose 321 321 h0 Q 45 [some (.inr (.inr 294)), none, some (.inr (.inl v2)), none, some (.inl v4)] [.inl r2] 321 h3
    refine ar_if_eq (pc := 45) (x := r2) (tgt := 72) (off := 27) (by decide +kernel) (by decide) (fun c4 => ?_) (fun c4 => ?_)
    · replace H := H.1 c4
      exact H h0
    · replace H := H.2 c4
      refine ar_lload_n (pc := 48) (i := 2) (k0 := 2) (by decide +kernel) rfl rfl ?_
      refine ar_aload_n (pc := 49) (i := 0) (k0 := 0) (by decide +kernel) rfl rfl ?_
      refine ar_getFV (pc := 50) (a := 294) (b := 313) 7 39 (by decide +kernel) k_294 rfl (by decide) wf_RX7_73 rfl (fun _ => rfl) rfl ?_
      refine ar_iload (pc := 53) (i := 4) (by decide +kernel) rfl ?_
      obtain ⟨g5, H⟩ := H
      obtain ⟨g6, H⟩ := H
      refine ar_iald (pc := 55) (a := 313) (i := v4) (by decide +kernel) k_313 g5 (am_lt_eq g6 (l_313).symm) ?_
      refine ar_aload_n (pc := 56) (i := 0) (k0 := 0) (by decide +kernel) rfl rfl ?_
      refine ar_getFV (pc := 57) (a := 294) (b := 314) 7 40 (by decide +kernel) k_294 rfl (by decide) wf_RX7_76 rfl (fun _ => rfl) rfl ?_
      refine ar_iload (pc := 60) (i := 4) (by decide +kernel) rfl ?_
      refine ar_iald (pc := 62) (a := 314) (i := v4) (by decide +kernel) k_314 g5 (am_lt_eq g6 (l_314).symm) ?_
      refine ar_callS (pc := 63) (M2 := M_X7_bitsFrom) (as := [.inl (h3 313 v4), .inl (h3 314 v4)]) (n2 := 321) (st := [.inr (.inl v2)]) (by decide +kernel) rfl wm_RX7_382 ws_yX7_bitsFrom wz_RX7 wc_yX7_bitsFrom ⟨by decide, by decide, rfl⟩ (by decide) (Nat.le_of_ble_eq_true rfl) (Nat.le_refl _) (Nat.le_refl _) (am_Cl_mono H (fun r7 h8 H => ?_))
      show am_Wp true (d + 1) M_X7_loose 321 321 h0 Q 66 [some (.inr (.inr 294)), none, some (.inr (.inl v2)), none, some (.inl v4)] [.inr (.inl r7), .inr (.inl v2)] 321 h8
      refine ar_ldc2 (pc := 66) (z := (-1)) (by decide +kernel) wk_RX7_536 (by unfold am_i64; omega) ?_
      refine ar_lxor (pc := 69) (x := r7) (y := (-1)) (by decide +kernel) ?_
      refine ar_land (pc := 70) (x := v2) (y := (am_lxor r7 (-1))) (by decide +kernel) ?_
      refine ar_lstore_n (pc := 71) (i := 2) (k0 := 2) (ls2 := [some (.inr (.inr 294)), none, some (.inr (.inl (am_land v2 (am_lxor r7 (-1))))), none, some (.inl v4)]) (by decide +kernel) rfl (by decide) rfl ?_
      exact H h0
theorem B_X7_loose_72 {d : Nat} {Q : Int → am_H → Prop} {h : am_H} {v2 v4 : Int} (H : wf (d + 1) M_X7_loose Q 32 [some (.inr (.inr 294)), none, some (.inr (.inl v2)), none, some (.inl (am_w32 (v4 + 1)))] [] h) : wf (d + 1) M_X7_loose Q 72 [some (.inr (.inr 294)), none, some (.inr (.inl v2)), none, some (.inl v4)] [] h := by
  intro h0
  refine ar_iinc (pc := 72) (i := 4) (z := 1) (x := v4) (ls2 := [some (.inr (.inr 294)), none, some (.inr (.inl v2)), none, some (.inl (am_w32 (v4 + 1)))]) (by decide +kernel) rfl (by decide) rfl ?_
  refine ar_goto (pc := 75) (tgt := 32) (off := -43) (by decide +kernel) (by decide) ?_
  exact H h0

/-! ByteIntervalsModel.allOf(I)I -/
theorem B_X7_allOf_0 {d : Nat} {Q : Int → am_H → Prop} {h : am_H} {v1 : Int} (H : wf (d + 1) M_X7_allOf Q 6 [some (.inr (.inr 294)), none, some (.inl (am_ishl 1 v1)), some (.inl 0), none] [] h) : wf (d + 1) M_X7_allOf Q 0 [some (.inr (.inr 294)), some (.inl v1), none, none, none] [] h := by
  intro h0
  refine ar_iconst (pc := 0) (z := 1) (by decide +kernel) (by unfold am_i32; omega) ?_
  refine ar_iload_n (pc := 1) (i := 1) (k0 := 1) (by decide +kernel) rfl rfl ?_
  refine ar_ishl (pc := 2) (x := 1) (y := v1) (by decide +kernel) ?_
  refine ar_istore_n (pc := 3) (i := 2) (k0 := 2) (ls2 := [some (.inr (.inr 294)), some (.inl v1), some (.inl (am_ishl 1 v1)), none, none]) (by decide +kernel) rfl (by decide) rfl ?_
  refine ar_iconst (pc := 4) (z := 0) (by decide +kernel) (by unfold am_i32; omega) ?_
  refine ar_istore_n (pc := 5) (i := 3) (k0 := 3) (ls2 := [some (.inr (.inr 294)), some (.inl v1), some (.inl (am_ishl 1 v1)), some (.inl 0), none]) (by decide +kernel) rfl (by decide) rfl ?_
  refine ar_forget [true, false, true, true, true] rfl ?_
  exact H h0
theorem B_X7_allOf_6 {d : Nat} {Q : Int → am_H → Prop} {h : am_H} {v2 v3 : Int} (H : (v3 = v2 → Q v2 h) ∧ (¬ v3 = v2 → wf (d + 1) M_X7_allOf Q 16 [some (.inr (.inr 294)), none, some (.inl v2), some (.inl v2), some (.inl 0)] [] h)) : wf (d + 1) M_X7_allOf Q 6 [some (.inr (.inr 294)), none, some (.inl v2), some (.inl v3), none] [] h := by
  intro h0
  refine ar_iload_n (pc := 6) (i := 3) (k0 := 3) (by decide +kernel) rfl rfl ?_
  refine ar_iload_n (pc := 7) (i := 2) (k0 := 2) (by decide +kernel) rfl rfl ?_
  refine ar_icmp_eq (pc := 8) (x := v3) (y := v2) (tgt := 51) (off := 43) (by decide +kernel) (by decide) (fun c1 => ?_) (fun c1 => ?_)
  · replace H := H.1 c1
    refine ar_iload_n (pc := 51) (i := 2) (k0 := 2) (by decide +kernel) rfl rfl ?_
    exact ar_iret (pc := 52) (x := v2) (by decide +kernel) rfl rfl H
  · replace H := H.2 c1
    refine ar_iload_n (pc := 11) (i := 2) (k0 := 2) (by decide +kernel) rfl rfl ?_
    refine ar_istore_n (pc := 12) (i := 3) (k0 := 3) (ls2 := [some (.inr (.inr 294)), none, some (.inl v2), some (.inl v2), none]) (by decide +kernel) rfl (by decide) rfl ?_
    refine ar_iconst (pc := 13) (z := 0) (by decide +kernel) (by unfold am_i32; omega) ?_
    refine ar_istore (pc := 14) (i := 4) (ls2 := [some (.inr (.inr 294)), none, some (.inl v2), some (.inl v2), some (.inl 0)]) (by decide +kernel) (by decide) rfl ?_
    exact H h0
theorem B_X7_allOf_16 {d : Nat} {Q : Int → am_H → Prop} {h : am_H} {v2 v3 v4 : Int} (H : (8 ≤ v4 → wf (d + 1) M_X7_allOf Q 6 [some (.inr (.inr 294)), none, some (.inl v2), some (.inl v3), none] [] h) ∧ (v4 < 8 → cf d M_X7_has [.inl v2, .inl v4] h (fun r2 h3 => (r2 = 0 → wf (d + 1) M_X7_allOf Q 42 [some (.inr (.inr 294)), none, some (.inl v2), some (.inl v3), some (.inl v4)] [] h3) ∧ (¬ r2 = 0 → (0 ≤ v4) ∧ (wf (d + 1) M_X7_allOf Q 42 [some (.inr (.inr 294)), none, some (.inl (am_ior v2 (h3 306 v4))), some (.inl v3), some (.inl v4)] [] h3))))) : wf (d + 1) M_X7_allOf Q 16 [some (.inr (.inr 294)), none, some (.inl v2), some (.inl v3), some (.inl v4)] [] h := by
  intro h0
  refine ar_iload (pc := 16) (i := 4) (by decide +kernel) rfl ?_
  refine ar_bipush (pc := 18) (z := 8) (by decide +kernel) (by omega) ?_
  refine ar_icmp_ge (pc := 20) (x := v4) (y := 8) (tgt := 48) (off := 28) (by decide +kernel) (by decide) (fun c1 => ?_) (fun c1 => ?_)
  · replace H := H.1 c1
    refine ar_goto (pc := 48) (tgt := 6) (off := -42) (by decide +kernel) (by decide) ?_
    refine ar_forget [true, true, true, true, false] rfl ?_
    exact H h0
  · replace H := H.2 c1
    refine ar_iload_n (pc := 23) (i := 2) (k0 := 2) (by decide +kernel) rfl rfl ?_
    refine ar_iload (pc := 24) (i := 4) (by decide +kernel) rfl ?_
    refine ar_callS (pc := 26) (M2 := M_X7_has) (as := [.inl v2, .inl v4]) (n2 := 321) (st := []) (by decide +kernel) rfl wm_RX7_260 ws_yX7_has wz_RX7 wc_yX7_has ⟨by decide, by decide, rfl⟩ (by decide) (Nat.le_of_ble_eq_true rfl) (Nat.le_refl _) (Nat.le_refl _) (am_Cl_mono H (fun r2 h3 H => ?_))
    show am_Wp true (d + 1) M_X7_allOf 321 321 h0 Q 29 [some (.inr (.inr 294)), none, some (.inl v2), some (.inl v3), some (.inl v4)] [.inl r2] 321 h3
    refine ar_if_eq (pc := 29) (x := r2) (tgt := 42) (off := 13) (by decide +kernel) (by decide) (fun c4 => ?_) (fun c4 => ?_)
    · replace H := H.1 c4
      exact H h0
    · replace H := H.2 c4
      refine ar_iload_n (pc := 32) (i := 2) (k0 := 2) (by decide +kernel) rfl rfl ?_
      refine ar_aload_n (pc := 33) (i := 0) (k0 := 0) (by decide +kernel) rfl rfl ?_
      refine ar_getFV (pc := 34) (a := 294) (b := 306) 7 29 (by decide +kernel) k_294 rfl (by decide) wf_RX7_52 rfl (fun _ => rfl) rfl ?_
      refine ar_iload (pc := 37) (i := 4) (by decide +kernel) rfl ?_
      obtain ⟨g5, H⟩ := H
      refine ar_iald (pc := 39) (a := 306) (i := v4) (by decide +kernel) k_306 g5 (am_lt_eq c1 (l_306).symm) ?_
      refine ar_ior (pc := 40) (x := v2) (y := (h3 306 v4)) (by decide +kernel) ?_
      refine ar_istore_n (pc := 41) (i := 2) (k0 := 2) (ls2 := [some (.inr (.inr 294)), none, some (.inl (am_ior v2 (h3 306 v4))), some (.inl v3), some (.inl v4)]) (by decide +kernel) rfl (by decide) rfl ?_
      exact H h0
theorem B_X7_allOf_42 {d : Nat} {Q : Int → am_H → Prop} {h : am_H} {v2 v3 v4 : Int} (H : wf (d + 1) M_X7_allOf Q 16 [some (.inr (.inr 294)), none, some (.inl v2), some (.inl v3), some (.inl (am_w32 (v4 + 1)))] [] h) : wf (d + 1) M_X7_allOf Q 42 [some (.inr (.inr 294)), none, some (.inl v2), some (.inl v3), some (.inl v4)] [] h := by
  intro h0
  refine ar_iinc (pc := 42) (i := 4) (z := 1) (x := v4) (ls2 := [some (.inr (.inr 294)), none, some (.inl v2), some (.inl v3), some (.inl (am_w32 (v4 + 1)))]) (by decide +kernel) rfl (by decide) rfl ?_
  refine ar_goto (pc := 45) (tgt := 16) (off := -29) (by decide +kernel) (by decide) ?_
  exact H h0

/-! ByteIntervalsModel.needs(II)J -/
theorem B_X7_needs_0 {d : Nat} {Q : Int → am_H → Prop} {h : am_H} {v1 v2 : Int} (H : cf d M_X7_isText [.inr (.inr 294), .inl v1] h (fun r1 h2 => (r1 = 0 → Q (-1) h2) ∧ (¬ r1 = 0 → cf d M_X7_isField [.inl v2] h2 (fun r4 h5 => (¬ r4 = 0 → cf d M_X7_read [.inr (.inr 294), .inl v1] h5 (fun _ h8 => (0 ≤ v2) ∧ ((v2 < 24) ∧ ((¬ (h8 315 v2) = 3 → cf d M_X7_has [.inl (h8 294 33), .inl v2] h8 (fun r12 h13 => (r12 = 0 → wf (d + 1) M_X7_needs Q 56 [some (.inr (.inr 294)), none, some (.inl v2), some (.inr (.inl 0)), none, some (.inl 0)] [] h13) ∧ (¬ r12 = 0 → Q 0 h13))) ∧ ((h8 315 v2) = 3 → Q (-1) h8))))) ∧ (r4 = 0 → Q (-1) h5))))) : wf (d + 1) M_X7_needs Q 0 [some (.inr (.inr 294)), some (.inl v1), some (.inl v2), none, none, none] [] h := by
  intro h0
  refine ar_aload_n (pc := 0) (i := 0) (k0 := 0) (by decide +kernel) rfl rfl ?_
  refine ar_iload_n (pc := 1) (i := 1) (k0 := 1) (by decide +kernel) rfl rfl ?_
  refine ar_callV (pc := 2) (M2 := M_X7_isText) (a := 294) (ci := 7) (as := [.inl v1]) (n2 := 321) (st := []) (by decide +kernel) rfl wm_RX7_502 wi_yX7_isText wl_yX7_isText k_294 rfl wz_RX7 wc_yX7_isText ⟨by decide, by decide, rfl⟩ (by decide) (Nat.le_of_ble_eq_true rfl) (Nat.le_refl _) (Nat.le_refl _) (am_Cl_mono H (fun r1 h2 H => ?_))
  show am_Wp true (d + 1) M_X7_needs 321 321 h0 Q 5 [some (.inr (.inr 294)), some (.inl v1), some (.inl v2), none, none, none] [.inl r1] 321 h2
  refine ar_if_eq (pc := 5) (x := r1) (tgt := 15) (off := 10) (by decide +kernel) (by decide) (fun c3 => ?_) (fun c3 => ?_)
  · replace H := H.1 c3
    refine ar_ldc2 (pc := 15) (z := (-1)) (by decide +kernel) wk_RX7_536 (by unfold am_i64; omega) ?_
    exact ar_lret (pc := 18) (x := (-1)) (by decide +kernel) rfl rfl H
  · replace H := H.2 c3
    refine ar_iload_n (pc := 8) (i := 2) (k0 := 2) (by decide +kernel) rfl rfl ?_
    refine ar_callS (pc := 9) (M2 := M_X7_isField) (as := [.inl v2]) (n2 := 321) (st := []) (by decide +kernel) rfl wm_RX7_521 ws_yX7_isField wz_RX7 wc_yX7_isField ⟨by decide, by decide, rfl⟩ (by decide) (Nat.le_of_ble_eq_true rfl) (Nat.le_refl _) (Nat.le_refl _) (am_Cl_mono H (fun r4 h5 H => ?_))
    show am_Wp true (d + 1) M_X7_needs 321 321 h0 Q 12 [some (.inr (.inr 294)), some (.inl v1), some (.inl v2), none, none, none] [.inl r4] 321 h5
    refine ar_if_ne (pc := 12) (x := r4) (tgt := 19) (off := 7) (by decide +kernel) (by decide) (fun c6 => ?_) (fun c6 => ?_)
    · replace H := H.1 c6
      refine ar_aload_n (pc := 19) (i := 0) (k0 := 0) (by decide +kernel) rfl rfl ?_
      refine ar_iload_n (pc := 20) (i := 1) (k0 := 1) (by decide +kernel) rfl rfl ?_
      refine ar_callV (pc := 21) (M2 := M_X7_read) (a := 294) (ci := 7) (as := [.inl v1]) (n2 := 321) (st := []) (by decide +kernel) rfl wm_RX7_515 wi_yX7_read wl_yX7_read k_294 rfl wz_RX7 wc_yX7_read ⟨by decide, by decide, rfl⟩ (by decide) (Nat.le_of_ble_eq_true rfl) (Nat.le_refl _) (Nat.le_refl _) (am_Cl_mono H (fun r7 h8 H => ?_))
      show am_Wp true (d + 1) M_X7_needs 321 321 h0 Q 24 [some (.inr (.inr 294)), some (.inl v1), some (.inl v2), none, none, none] [] 321 h8
      refine ar_aload_n (pc := 24) (i := 0) (k0 := 0) (by decide +kernel) rfl rfl ?_
      refine ar_getFV (pc := 25) (a := 294) (b := 315) 7 41 (by decide +kernel) k_294 rfl (by decide) wf_RX7_79 rfl (fun _ => rfl) rfl ?_
      refine ar_iload_n (pc := 28) (i := 2) (k0 := 2) (by decide +kernel) rfl rfl ?_
      obtain ⟨g9, H⟩ := H
      obtain ⟨g10, H⟩ := H
      refine ar_iald (pc := 29) (a := 315) (i := v2) (by decide +kernel) k_315 g9 (am_lt_eq g10 (l_315).symm) ?_
      refine ar_iconst (pc := 30) (z := 3) (by decide +kernel) (by unfold am_i32; omega) ?_
      refine ar_icmp_ne (pc := 31) (x := (h8 315 v2)) (y := 3) (tgt := 38) (off := 7) (by decide +kernel) (by decide) (fun c11 => ?_) (fun c11 => ?_)
      · replace H := H.1 c11
        refine ar_aload_n (pc := 38) (i := 0) (k0 := 0) (by decide +kernel) rfl rfl ?_
        refine ar_getV (pc := 39) (a := 294) (v := .inl (h8 294 33)) 7 33 (by decide +kernel) k_294 rfl (by decide) wf_RX7_360 rfl ?_
        refine ar_iload_n (pc := 42) (i := 2) (k0 := 2) (by decide +kernel) rfl rfl ?_
        refine ar_callS (pc := 43) (M2 := M_X7_has) (as := [.inl (h8 294 33), .inl v2]) (n2 := 321) (st := []) (by decide +kernel) rfl wm_RX7_260 ws_yX7_has wz_RX7 wc_yX7_has ⟨by decide, by decide, rfl⟩ (by decide) (Nat.le_of_ble_eq_true rfl) (Nat.le_refl _) (Nat.le_refl _) (am_Cl_mono H (fun r12 h13 H => ?_))
        show am_Wp true (d + 1) M_X7_needs 321 321 h0 Q 46 [some (.inr (.inr 294)), some (.inl v1), some (.inl v2), none, none, none] [.inl r12] 321 h13
        refine ar_if_eq (pc := 46) (x := r12) (tgt := 51) (off := 5) (by decide +kernel) (by decide) (fun c14 => ?_) (fun c14 => ?_)
        · replace H := H.1 c14
          refine ar_lconst (pc := 51) (i := 0) (z := 0) (by decide +kernel) rfl ?_
          refine ar_lstore_n (pc := 52) (i := 3) (k0 := 3) (ls2 := [some (.inr (.inr 294)), some (.inl v1), some (.inl v2), some (.inr (.inl 0)), none, none]) (by decide +kernel) rfl (by decide) rfl ?_
          refine ar_iconst (pc := 53) (z := 0) (by decide +kernel) (by unfold am_i32; omega) ?_
          refine ar_istore (pc := 54) (i := 5) (ls2 := [some (.inr (.inr 294)), some (.inl v1), some (.inl v2), some (.inr (.inl 0)), none, some (.inl 0)]) (by decide +kernel) (by decide) rfl ?_
          refine ar_forget [true, false, true, true, true, true] rfl ?_
          exact H h0
        · replace H := H.2 c14
          refine ar_lconst (pc := 49) (i := 0) (z := 0) (by decide +kernel) rfl ?_
          exact ar_lret (pc := 50) (x := 0) (by decide +kernel) rfl rfl H
      · replace H := H.2 c11
        refine ar_ldc2 (pc := 34) (z := (-1)) (by decide +kernel) wk_RX7_536 (by unfold am_i64; omega) ?_
        exact ar_lret (pc := 37) (x := (-1)) (by decide +kernel) rfl rfl H
    · replace H := H.2 c6
      refine ar_ldc2 (pc := 15) (z := (-1)) (by decide +kernel) wk_RX7_536 (by unfold am_i64; omega) ?_
      exact ar_lret (pc := 18) (x := (-1)) (by decide +kernel) rfl rfl H
theorem B_X7_needs_56 {d : Nat} {Q : Int → am_H → Prop} {h : am_H} {v2 v3 v5 : Int} (H : (8 ≤ v5 → Q v3 h) ∧ (v5 < 8 → cf d M_X7_allOf [.inr (.inr 294), .inl v2] h (fun r2 h3 => cf d M_X7_has [.inl r2, .inl v5] h3 (fun r4 h5 => (r4 = 0 → wf (d + 1) M_X7_needs Q 88 [some (.inr (.inr 294)), none, some (.inl v2), none, none, some (.inl v5)] [.inr (.inl 0), .inr (.inl v3)] h5) ∧ (¬ r4 = 0 → (0 ≤ v5) ∧ ((v5 < 24) ∧ (wf (d + 1) M_X7_needs Q 88 [some (.inr (.inr 294)), none, some (.inl v2), none, none, some (.inl v5)] [.inr (.inl (h5 316 v5)), .inr (.inl v3)] h5))))))) : wf (d + 1) M_X7_needs Q 56 [some (.inr (.inr 294)), none, some (.inl v2), some (.inr (.inl v3)), none, some (.inl v5)] [] h := by
  intro h0
  refine ar_iload (pc := 56) (i := 5) (by decide +kernel) rfl ?_
  refine ar_bipush (pc := 58) (z := 8) (by decide +kernel) (by omega) ?_
  refine ar_icmp_ge (pc := 60) (x := v5) (y := 8) (tgt := 96) (off := 36) (by decide +kernel) (by decide) (fun c1 => ?_) (fun c1 => ?_)
  · replace H := H.1 c1
    refine ar_lload_n (pc := 96) (i := 3) (k0 := 3) (by decide +kernel) rfl rfl ?_
    exact ar_lret (pc := 97) (x := v3) (by decide +kernel) rfl rfl H
  · replace H := H.2 c1
    refine ar_lload_n (pc := 63) (i := 3) (k0 := 3) (by decide +kernel) rfl rfl ?_
    refine ar_aload_n (pc := 64) (i := 0) (k0 := 0) (by decide +kernel) rfl rfl ?_
    refine ar_iload_n (pc := 65) (i := 2) (k0 := 2) (by decide +kernel) rfl rfl ?_
    refine ar_callV (pc := 66) (M2 := M_X7_allOf) (a := 294) (ci := 7) (as := [.inl v2]) (n2 := 321) (st := [.inr (.inl v3)]) (by decide +kernel) rfl wm_RX7_538 wi_yX7_allOf wl_yX7_allOf k_294 rfl wz_RX7 wc_yX7_allOf ⟨by decide, by decide, rfl⟩ (by decide) (Nat.le_of_ble_eq_true rfl) (Nat.le_refl _) (Nat.le_refl _) (am_Cl_mono H (fun r2 h3 H => ?_))
    show am_Wp true (d + 1) M_X7_needs 321 321 h0 Q 69 [some (.inr (.inr 294)), none, some (.inl v2), some (.inr (.inl v3)), none, some (.inl v5)] [.inl r2, .inr (.inl v3)] 321 h3
    refine ar_iload (pc := 69) (i := 5) (by decide +kernel) rfl ?_
    refine ar_callS (pc := 71) (M2 := M_X7_has) (as := [.inl r2, .inl v5]) (n2 := 321) (st := [.inr (.inl v3)]) (by decide +kernel) rfl wm_RX7_260 ws_yX7_has wz_RX7 wc_yX7_has ⟨by decide, by decide, rfl⟩ (by decide) (Nat.le_of_ble_eq_true rfl) (Nat.le_refl _) (Nat.le_refl _) (am_Cl_mono H (fun r4 h5 H => ?_))
    show am_Wp true (d + 1) M_X7_needs 321 321 h0 Q 74 [some (.inr (.inr 294)), none, some (.inl v2), some (.inr (.inl v3)), none, some (.inl v5)] [.inl r4, .inr (.inl v3)] 321 h5
    refine ar_if_eq (pc := 74) (x := r4) (tgt := 87) (off := 13) (by decide +kernel) (by decide) (fun c6 => ?_) (fun c6 => ?_)
    · replace H := H.1 c6
      refine ar_lconst (pc := 87) (i := 0) (z := 0) (by decide +kernel) rfl ?_
      refine ar_forget [true, true, true, false, true, true] rfl ?_
      exact H h0
    · replace H := H.2 c6
      refine ar_aload_n (pc := 77) (i := 0) (k0 := 0) (by decide +kernel) rfl rfl ?_
      refine ar_getFV (pc := 78) (a := 294) (b := 316) 7 42 (by decide +kernel) k_294 rfl (by decide) wf_RX7_82 rfl (fun _ => rfl) rfl ?_
      refine ar_iload (pc := 81) (i := 5) (by decide +kernel) rfl ?_
      obtain ⟨g7, H⟩ := H
      obtain ⟨g8, H⟩ := H
      refine ar_lald (pc := 83) (a := 316) (i := v5) (by decide +kernel) k_316 g7 (am_lt_eq g8 (l_316).symm) ?_
      refine ar_goto (pc := 84) (tgt := 88) (off := 4) (by decide +kernel) (by decide) ?_
      refine ar_forget [true, true, true, false, true, true] rfl ?_
      exact H h0
theorem B_X7_needs_88 {d : Nat} {Q : Int → am_H → Prop} {h : am_H} {v2 v5 s0 s1 : Int} (H : wf (d + 1) M_X7_needs Q 56 [some (.inr (.inr 294)), none, some (.inl v2), some (.inr (.inl (am_lor s0 s1))), none, some (.inl (am_w32 (v5 + 1)))] [] h) : wf (d + 1) M_X7_needs Q 88 [some (.inr (.inr 294)), none, some (.inl v2), none, none, some (.inl v5)] [.inr (.inl s1), .inr (.inl s0)] h := by
  intro h0
  refine ar_lor (pc := 88) (x := s0) (y := s1) (by decide +kernel) ?_
  refine ar_lstore_n (pc := 89) (i := 3) (k0 := 3) (ls2 := [some (.inr (.inr 294)), none, some (.inl v2), some (.inr (.inl (am_lor s0 s1))), none, some (.inl v5)]) (by decide +kernel) rfl (by decide) rfl ?_
  refine ar_iinc (pc := 90) (i := 5) (z := 1) (x := v5) (ls2 := [some (.inr (.inr 294)), none, some (.inl v2), some (.inr (.inl (am_lor s0 s1))), none, some (.inl (am_w32 (v5 + 1)))]) (by decide +kernel) rfl (by decide) rfl ?_
  refine ar_goto (pc := 93) (tgt := 56) (off := -37) (by decide +kernel) (by decide) ?_
  exact H h0

/-! ByteIntervalsModel.flips(II)I -/
theorem B_X7_flips_0 {d : Nat} {Q : Int → am_H → Prop} {h : am_H} {v1 v2 : Int} (H : cf d M_X7_isText [.inr (.inr 294), .inl v1] h (fun r1 h2 => (r1 = 0 → Q (-1) h2) ∧ (¬ r1 = 0 → cf d M_X7_isPlace [.inr (.inr 294), .inl v2] h2 (fun r4 h5 => (¬ r4 = 0 → cf d M_X7_read [.inr (.inr 294), .inl v1] h5 (fun _ h8 => wf (d + 1) M_X7_flips Q 25 [some (.inr (.inr 294)), some (.inl v1), some (.inl v2), some (.inl 0), none] [] h8)) ∧ (r4 = 0 → Q (-1) h5))))) : wf (d + 1) M_X7_flips Q 0 [some (.inr (.inr 294)), some (.inl v1), some (.inl v2), none, none] [] h := by
  intro h0
  refine ar_aload_n (pc := 0) (i := 0) (k0 := 0) (by decide +kernel) rfl rfl ?_
  refine ar_iload_n (pc := 1) (i := 1) (k0 := 1) (by decide +kernel) rfl rfl ?_
  refine ar_callV (pc := 2) (M2 := M_X7_isText) (a := 294) (ci := 7) (as := [.inl v1]) (n2 := 321) (st := []) (by decide +kernel) rfl wm_RX7_502 wi_yX7_isText wl_yX7_isText k_294 rfl wz_RX7 wc_yX7_isText ⟨by decide, by decide, rfl⟩ (by decide) (Nat.le_of_ble_eq_true rfl) (Nat.le_refl _) (Nat.le_refl _) (am_Cl_mono H (fun r1 h2 H => ?_))
  show am_Wp true (d + 1) M_X7_flips 321 321 h0 Q 5 [some (.inr (.inr 294)), some (.inl v1), some (.inl v2), none, none] [.inl r1] 321 h2
  refine ar_if_eq (pc := 5) (x := r1) (tgt := 16) (off := 11) (by decide +kernel) (by decide) (fun c3 => ?_) (fun c3 => ?_)
  · replace H := H.1 c3
    refine ar_iconst (pc := 16) (z := (-1)) (by decide +kernel) (by unfold am_i32; omega) ?_
    exact ar_iret (pc := 17) (x := (-1)) (by decide +kernel) rfl rfl H
  · replace H := H.2 c3
    refine ar_aload_n (pc := 8) (i := 0) (k0 := 0) (by decide +kernel) rfl rfl ?_
    refine ar_iload_n (pc := 9) (i := 2) (k0 := 2) (by decide +kernel) rfl rfl ?_
    refine ar_callV (pc := 10) (M2 := M_X7_isPlace) (a := 294) (ci := 7) (as := [.inl v2]) (n2 := 321) (st := []) (by decide +kernel) rfl wm_RX7_451 wi_yX7_isPlace wl_yX7_isPlace k_294 rfl wz_RX7 wc_yX7_isPlace ⟨by decide, by decide, rfl⟩ (by decide) (Nat.le_of_ble_eq_true rfl) (Nat.le_refl _) (Nat.le_refl _) (am_Cl_mono H (fun r4 h5 H => ?_))
    show am_Wp true (d + 1) M_X7_flips 321 321 h0 Q 13 [some (.inr (.inr 294)), some (.inl v1), some (.inl v2), none, none] [.inl r4] 321 h5
    refine ar_if_ne (pc := 13) (x := r4) (tgt := 18) (off := 5) (by decide +kernel) (by decide) (fun c6 => ?_) (fun c6 => ?_)
    · replace H := H.1 c6
      refine ar_aload_n (pc := 18) (i := 0) (k0 := 0) (by decide +kernel) rfl rfl ?_
      refine ar_iload_n (pc := 19) (i := 1) (k0 := 1) (by decide +kernel) rfl rfl ?_
      refine ar_callV (pc := 20) (M2 := M_X7_read) (a := 294) (ci := 7) (as := [.inl v1]) (n2 := 321) (st := []) (by decide +kernel) rfl wm_RX7_515 wi_yX7_read wl_yX7_read k_294 rfl wz_RX7 wc_yX7_read ⟨by decide, by decide, rfl⟩ (by decide) (Nat.le_of_ble_eq_true rfl) (Nat.le_refl _) (Nat.le_refl _) (am_Cl_mono H (fun r7 h8 H => ?_))
      show am_Wp true (d + 1) M_X7_flips 321 321 h0 Q 23 [some (.inr (.inr 294)), some (.inl v1), some (.inl v2), none, none] [] 321 h8
      refine ar_iconst (pc := 23) (z := 0) (by decide +kernel) (by unfold am_i32; omega) ?_
      refine ar_istore_n (pc := 24) (i := 3) (k0 := 3) (ls2 := [some (.inr (.inr 294)), some (.inl v1), some (.inl v2), some (.inl 0), none]) (by decide +kernel) rfl (by decide) rfl ?_
      exact H h0
    · replace H := H.2 c6
      refine ar_iconst (pc := 16) (z := (-1)) (by decide +kernel) (by unfold am_i32; omega) ?_
      exact ar_iret (pc := 17) (x := (-1)) (by decide +kernel) rfl rfl H
theorem B_X7_flips_25 {d : Nat} {Q : Int → am_H → Prop} {h : am_H} {v1 v2 v3 : Int} (H : (8 ≤ v3 → (0 ≤ (am_w32 (8 + v2))) ∧ (((am_w32 (8 + v2)) < 2159) ∧ (cf d M_X7_readBy [.inr (.inr 294), .inl v1] (am_up h 295 (am_w32 (8 + v2)) (am_w32 (255 - (h 295 (am_w32 (8 + v2)))))) (fun _ h5 => wf (d + 1) M_X7_flips Q 115 [some (.inr (.inr 294)), none, none, some (.inl 0), some (.inl 0)] [] (am_up h5 295 (am_w32 (8 + v2)) (am_w32 (255 - (h5 295 (am_w32 (8 + v2)))))))))) ∧ (v3 < 8 → (0 ≤ v3) ∧ ((v3 < 24) ∧ (wf (d + 1) M_X7_flips Q 25 [some (.inr (.inr 294)), some (.inl v1), some (.inl v2), some (.inl (am_w32 (v3 + 1))), none] [] (am_up (am_up h 320 v3 (h 312 v3)) 321 v3 (h 315 v3)))))) : wf (d + 1) M_X7_flips Q 25 [some (.inr (.inr 294)), some (.inl v1), some (.inl v2), some (.inl v3), none] [] h := by
  intro h0
  refine ar_iload_n (pc := 25) (i := 3) (k0 := 3) (by decide +kernel) rfl rfl ?_
  refine ar_bipush (pc := 26) (z := 8) (by decide +kernel) (by omega) ?_
  refine ar_icmp_ge (pc := 28) (x := v3) (y := 8) (tgt := 61) (off := 33) (by decide +kernel) (by decide) (fun c1 => ?_) (fun c1 => ?_)
  · replace H := H.1 c1
    refine ar_aload_n (pc := 61) (i := 0) (k0 := 0) (by decide +kernel) rfl rfl ?_
    refine ar_getFV (pc := 62) (a := 294) (b := 295) 7 0 (by decide +kernel) k_294 rfl (by decide) wf_RX7_7 rfl (fun _ => rfl) rfl ?_
    refine ar_bipush (pc := 65) (z := 8) (by decide +kernel) (by omega) ?_
    refine ar_iload_n (pc := 67) (i := 2) (k0 := 2) (by decide +kernel) rfl rfl ?_
    refine ar_iadd (pc := 68) (x := 8) (y := v2) (by decide +kernel) ?_
    refine ar_sipush (pc := 69) (z := 255) (by decide +kernel) (by omega) ?_
    refine ar_aload_n (pc := 72) (i := 0) (k0 := 0) (by decide +kernel) rfl rfl ?_
    refine ar_getFV (pc := 73) (a := 294) (b := 295) 7 0 (by decide +kernel) k_294 rfl (by decide) wf_RX7_7 rfl (fun _ => rfl) rfl ?_
    refine ar_bipush (pc := 76) (z := 8) (by decide +kernel) (by omega) ?_
    refine ar_iload_n (pc := 78) (i := 2) (k0 := 2) (by decide +kernel) rfl rfl ?_
    refine ar_iadd (pc := 79) (x := 8) (y := v2) (by decide +kernel) ?_
    obtain ⟨g2, H⟩ := H
    obtain ⟨g3, H⟩ := H
    refine ar_iald (pc := 80) (a := 295) (i := (am_w32 (8 + v2))) (by decide +kernel) k_295 g2 (am_lt_eq g3 (l_295).symm) ?_
    refine ar_isub (pc := 81) (x := 255) (y := (h 295 (am_w32 (8 + v2)))) (by decide +kernel) ?_
    refine ar_iast (pc := 82) (a := 295) (i := (am_w32 (8 + v2))) (z := (am_w32 (255 - (h 295 (am_w32 (8 + v2)))))) (by decide +kernel) k_295 g2 (am_lt_eq g3 (l_295).symm) ?_
    refine ar_aload_n (pc := 83) (i := 0) (k0 := 0) (by decide +kernel) rfl rfl ?_
    refine ar_iload_n (pc := 84) (i := 1) (k0 := 1) (by decide +kernel) rfl rfl ?_
    refine ar_callV (pc := 85) (M2 := M_X7_readBy) (a := 294) (ci := 7) (as := [.inl v1]) (n2 := 321) (st := []) (by decide +kernel) rfl wm_RX7_427 wi_yX7_readBy wl_yX7_readBy k_294 rfl wz_RX7 wc_yX7_readBy ⟨by decide, by decide, rfl⟩ (by decide) (Nat.le_of_ble_eq_true rfl) (Nat.le_refl _) (Nat.le_refl _) (am_Cl_mono H (fun r4 h5 H => ?_))
    show am_Wp true (d + 1) M_X7_flips 321 321 h0 Q 88 [some (.inr (.inr 294)), some (.inl v1), some (.inl v2), some (.inl v3), none] [] 321 h5
    refine ar_aload_n (pc := 88) (i := 0) (k0 := 0) (by decide +kernel) rfl rfl ?_
    refine ar_getFV (pc := 89) (a := 294) (b := 295) 7 0 (by decide +kernel) k_294 rfl (by decide) wf_RX7_7 rfl (fun _ => rfl) rfl ?_
    refine ar_bipush (pc := 92) (z := 8) (by decide +kernel) (by omega) ?_
    refine ar_iload_n (pc := 94) (i := 2) (k0 := 2) (by decide +kernel) rfl rfl ?_
    refine ar_iadd (pc := 95) (x := 8) (y := v2) (by decide +kernel) ?_
    refine ar_sipush (pc := 96) (z := 255) (by decide +kernel) (by omega) ?_
    refine ar_aload_n (pc := 99) (i := 0) (k0 := 0) (by decide +kernel) rfl rfl ?_
    refine ar_getFV (pc := 100) (a := 294) (b := 295) 7 0 (by decide +kernel) k_294 rfl (by decide) wf_RX7_7 rfl (fun _ => rfl) rfl ?_
    refine ar_bipush (pc := 103) (z := 8) (by decide +kernel) (by omega) ?_
    refine ar_iload_n (pc := 105) (i := 2) (k0 := 2) (by decide +kernel) rfl rfl ?_
    refine ar_iadd (pc := 106) (x := 8) (y := v2) (by decide +kernel) ?_
    refine ar_iald (pc := 107) (a := 295) (i := (am_w32 (8 + v2))) (by decide +kernel) k_295 g2 (am_lt_eq g3 (l_295).symm) ?_
    refine ar_isub (pc := 108) (x := 255) (y := (h5 295 (am_w32 (8 + v2)))) (by decide +kernel) ?_
    refine ar_iast (pc := 109) (a := 295) (i := (am_w32 (8 + v2))) (z := (am_w32 (255 - (h5 295 (am_w32 (8 + v2)))))) (by decide +kernel) k_295 g2 (am_lt_eq g3 (l_295).symm) ?_
    refine ar_iconst (pc := 110) (z := 0) (by decide +kernel) (by unfold am_i32; omega) ?_
    refine ar_istore_n (pc := 111) (i := 3) (k0 := 3) (ls2 := [some (.inr (.inr 294)), some (.inl v1), some (.inl v2), some (.inl 0), none]) (by decide +kernel) rfl (by decide) rfl ?_
    refine ar_iconst (pc := 112) (z := 0) (by decide +kernel) (by unfold am_i32; omega) ?_
    refine ar_istore (pc := 113) (i := 4) (ls2 := [some (.inr (.inr 294)), some (.inl v1), some (.inl v2), some (.inl 0), some (.inl 0)]) (by decide +kernel) (by decide) rfl ?_
    refine ar_forget [true, false, false, true, true] rfl ?_
    exact H h0
  · replace H := H.2 c1
    refine ar_aload_n (pc := 31) (i := 0) (k0 := 0) (by decide +kernel) rfl rfl ?_
    refine ar_getFV (pc := 32) (a := 294) (b := 320) 7 53 (by decide +kernel) k_294 rfl (by decide) wf_RX7_98 rfl (fun _ => rfl) rfl ?_
    refine ar_iload_n (pc := 35) (i := 3) (k0 := 3) (by decide +kernel) rfl rfl ?_
    refine ar_aload_n (pc := 36) (i := 0) (k0 := 0) (by decide +kernel) rfl rfl ?_
    refine ar_getFV (pc := 37) (a := 294) (b := 312) 7 38 (by decide +kernel) k_294 rfl (by decide) wf_RX7_70 rfl (fun _ => rfl) rfl ?_
    refine ar_iload_n (pc := 40) (i := 3) (k0 := 3) (by decide +kernel) rfl rfl ?_
    obtain ⟨g6, H⟩ := H
    obtain ⟨g7, H⟩ := H
    refine ar_iald (pc := 41) (a := 312) (i := v3) (by decide +kernel) k_312 g6 (am_lt_eq g7 (l_312).symm) ?_
    refine ar_iast (pc := 42) (a := 320) (i := v3) (z := (h 312 v3)) (by decide +kernel) k_320 g6 (am_lt_eq c1 (l_320).symm) ?_
    refine ar_aload_n (pc := 43) (i := 0) (k0 := 0) (by decide +kernel) rfl rfl ?_
    refine ar_getFV (pc := 44) (a := 294) (b := 321) 7 54 (by decide +kernel) k_294 rfl (by decide) wf_RX7_101 rfl (fun _ => rfl) rfl ?_
    refine ar_iload_n (pc := 47) (i := 3) (k0 := 3) (by decide +kernel) rfl rfl ?_
    refine ar_aload_n (pc := 48) (i := 0) (k0 := 0) (by decide +kernel) rfl rfl ?_
    refine ar_getFV (pc := 49) (a := 294) (b := 315) 7 41 (by decide +kernel) k_294 rfl (by decide) wf_RX7_79 rfl (fun _ => rfl) rfl ?_
    refine ar_iload_n (pc := 52) (i := 3) (k0 := 3) (by decide +kernel) rfl rfl ?_
    refine ar_ialdV (pc := 53) (a := 315) (i := v3) (v := (h 315 v3)) (by first | rfl | (simp [am_up, am_cp]; done) | (simp [am_up, am_cp] <;> intros <;> omega)) (by decide +kernel) k_315 g6 (am_lt_eq g7 (l_315).symm) ?_
    refine ar_iast (pc := 54) (a := 321) (i := v3) (z := (h 315 v3)) (by decide +kernel) k_321 g6 (am_lt_eq c1 (l_321).symm) ?_
    refine ar_iinc (pc := 55) (i := 3) (z := 1) (x := v3) (ls2 := [some (.inr (.inr 294)), some (.inl v1), some (.inl v2), some (.inl (am_w32 (v3 + 1))), none]) (by decide +kernel) rfl (by decide) rfl ?_
    refine ar_goto (pc := 58) (tgt := 25) (off := -33) (by decide +kernel) (by decide) ?_
    exact H h0
theorem B_X7_flips_115 {d : Nat} {Q : Int → am_H → Prop} {h : am_H} {v3 v4 : Int} (H : (8 ≤ v4 → Q v3 h) ∧ (v4 < 8 → (0 ≤ v4) ∧ ((v4 < 24) ∧ ((¬ (h 312 v4) = (h 320 v4) → wf (d + 1) M_X7_flips Q 157 [some (.inr (.inr 294)), none, none, none, some (.inl v4)] [.inl v3] h) ∧ ((h 312 v4) = (h 320 v4) → ((h 315 v4) = (h 321 v4) → wf (d + 1) M_X7_flips Q 165 [some (.inr (.inr 294)), none, none, none, some (.inl v4)] [.inl 0, .inl v3] h) ∧ (¬ (h 315 v4) = (h 321 v4) → wf (d + 1) M_X7_flips Q 157 [some (.inr (.inr 294)), none, none, none, some (.inl v4)] [.inl v3] h)))))) : wf (d + 1) M_X7_flips Q 115 [some (.inr (.inr 294)), none, none, some (.inl v3), some (.inl v4)] [] h := by
  intro h0
  refine ar_iload (pc := 115) (i := 4) (by decide +kernel) rfl ?_
  refine ar_bipush (pc := 117) (z := 8) (by decide +kernel) (by omega) ?_
  refine ar_icmp_ge (pc := 119) (x := v4) (y := 8) (tgt := 173) (off := 54) (by decide +kernel) (by decide) (fun c1 => ?_) (fun c1 => ?_)
  · replace H := H.1 c1
    refine ar_iload_n (pc := 173) (i := 3) (k0 := 3) (by decide +kernel) rfl rfl ?_
    exact ar_iret (pc := 174) (x := v3) (by decide +kernel) rfl rfl H
  · replace H := H.2 c1
    refine ar_iload_n (pc := 122) (i := 3) (k0 := 3) (by decide +kernel) rfl rfl ?_
    refine ar_aload_n (pc := 123) (i := 0) (k0 := 0) (by decide +kernel) rfl rfl ?_
    refine ar_getFV (pc := 124) (a := 294) (b := 312) 7 38 (by decide +kernel) k_294 rfl (by decide) wf_RX7_70 rfl (fun _ => rfl) rfl ?_
    refine ar_iload (pc := 127) (i := 4) (by decide +kernel) rfl ?_
    obtain ⟨g2, H⟩ := H
    obtain ⟨g3, H⟩ := H
    refine ar_iald (pc := 129) (a := 312) (i := v4) (by decide +kernel) k_312 g2 (am_lt_eq g3 (l_312).symm) ?_
    refine ar_aload_n (pc := 130) (i := 0) (k0 := 0) (by decide +kernel) rfl rfl ?_
    refine ar_getFV (pc := 131) (a := 294) (b := 320) 7 53 (by decide +kernel) k_294 rfl (by decide) wf_RX7_98 rfl (fun _ => rfl) rfl ?_
    refine ar_iload (pc := 134) (i := 4) (by decide +kernel) rfl ?_
    refine ar_iald (pc := 136) (a := 320) (i := v4) (by decide +kernel) k_320 g2 (am_lt_eq c1 (l_320).symm) ?_
    refine ar_icmp_ne (pc := 137) (x := (h 312 v4)) (y := (h 320 v4)) (tgt := 157) (off := 20) (by decide +kernel) (by decide) (fun c4 => ?_) (fun c4 => ?_)
    · replace H := H.1 c4
      refine ar_forget [true, true, true, false, true] rfl ?_
      exact H h0
    · replace H := H.2 c4
      refine ar_aload_n (pc := 140) (i := 0) (k0 := 0) (by decide +kernel) rfl rfl ?_
      refine ar_getFV (pc := 141) (a := 294) (b := 315) 7 41 (by decide +kernel) k_294 rfl (by decide) wf_RX7_79 rfl (fun _ => rfl) rfl ?_
      refine ar_iload (pc := 144) (i := 4) (by decide +kernel) rfl ?_
      refine ar_iald (pc := 146) (a := 315) (i := v4) (by decide +kernel) k_315 g2 (am_lt_eq g3 (l_315).symm) ?_
      refine ar_aload_n (pc := 147) (i := 0) (k0 := 0) (by decide +kernel) rfl rfl ?_
      refine ar_getFV (pc := 148) (a := 294) (b := 321) 7 54 (by decide +kernel) k_294 rfl (by decide) wf_RX7_101 rfl (fun _ => rfl) rfl ?_
      refine ar_iload (pc := 151) (i := 4) (by decide +kernel) rfl ?_
      refine ar_iald (pc := 153) (a := 321) (i := v4) (by decide +kernel) k_321 g2 (am_lt_eq c1 (l_321).symm) ?_
      refine ar_icmp_eq (pc := 154) (x := (h 315 v4)) (y := (h 321 v4)) (tgt := 164) (off := 10) (by decide +kernel) (by decide) (fun c5 => ?_) (fun c5 => ?_)
      · replace H := H.1 c5
        refine ar_iconst (pc := 164) (z := 0) (by decide +kernel) (by unfold am_i32; omega) ?_
        refine ar_forget [true, true, true, false, true] rfl ?_
        exact H h0
      · replace H := H.2 c5
        refine ar_forget [true, true, true, false, true] rfl ?_
        exact H h0
theorem B_X7_flips_157 {d : Nat} {Q : Int → am_H → Prop} {h : am_H} {v4 s0 : Int} (H : wf (d + 1) M_X7_flips Q 165 [some (.inr (.inr 294)), none, none, none, some (.inl v4)] [.inl (am_ishl 1 v4), .inl s0] h) : wf (d + 1) M_X7_flips Q 157 [some (.inr (.inr 294)), none, none, none, some (.inl v4)] [.inl s0] h := by
  intro h0
  refine ar_iconst (pc := 157) (z := 1) (by decide +kernel) (by unfold am_i32; omega) ?_
  refine ar_iload (pc := 158) (i := 4) (by decide +kernel) rfl ?_
  refine ar_ishl (pc := 160) (x := 1) (y := v4) (by decide +kernel) ?_
  refine ar_goto (pc := 161) (tgt := 165) (off := 4) (by decide +kernel) (by decide) ?_
  exact H h0
theorem B_X7_flips_165 {d : Nat} {Q : Int → am_H → Prop} {h : am_H} {v4 s0 s1 : Int} (H : wf (d + 1) M_X7_flips Q 115 [some (.inr (.inr 294)), none, none, some (.inl (am_ior s0 s1)), some (.inl (am_w32 (v4 + 1)))] [] h) : wf (d + 1) M_X7_flips Q 165 [some (.inr (.inr 294)), none, none, none, some (.inl v4)] [.inl s1, .inl s0] h := by
  intro h0
  refine ar_ior (pc := 165) (x := s0) (y := s1) (by decide +kernel) ?_
  refine ar_istore_n (pc := 166) (i := 3) (k0 := 3) (ls2 := [some (.inr (.inr 294)), none, none, some (.inl (am_ior s0 s1)), some (.inl v4)]) (by decide +kernel) rfl (by decide) rfl ?_
  refine ar_iinc (pc := 167) (i := 4) (z := 1) (x := v4) (ls2 := [some (.inr (.inr 294)), none, none, some (.inl (am_ior s0 s1)), some (.inl (am_w32 (v4 + 1)))]) (by decide +kernel) rfl (by decide) rfl ?_
  refine ar_goto (pc := 170) (tgt := 115) (off := -55) (by decide +kernel) (by decide) ?_
  exact H h0

/-! ByteIntervalsModel.isPlain(II)Z -/
theorem B_X7_isPlain_0 {d : Nat} {Q : Int → am_H → Prop} {h : am_H} {v1 v2 : Int} (H : (0 ≤ v2) ∧ ((v2 < 3300) ∧ (wf d M_X7_isPlain Q 18 [some (.inr (.inr 294)), none, some (.inl v2), some (.inl (am_w32 ((am_w32 (825 * v1)) + 217))), some (.inl (h 297 v2)), none] [] h))) : wf d M_X7_isPlain Q 0 [some (.inr (.inr 294)), some (.inl v1), some (.inl v2), none, none, none] [] h := by
  intro h0
  refine ar_sipush (pc := 0) (z := 825) (by decide +kernel) (by omega) ?_
  refine ar_iload_n (pc := 3) (i := 1) (k0 := 1) (by decide +kernel) rfl rfl ?_
  refine ar_imul (pc := 4) (x := 825) (y := v1) (by decide +kernel) ?_
  refine ar_sipush (pc := 5) (z := 217) (by decide +kernel) (by omega) ?_
  refine ar_iadd (pc := 8) (x := (am_w32 (825 * v1))) (y := 217) (by decide +kernel) ?_
  refine ar_istore_n (pc := 9) (i := 3) (k0 := 3) (ls2 := [some (.inr (.inr 294)), some (.inl v1), some (.inl v2), some (.inl (am_w32 ((am_w32 (825 * v1)) + 217))), none, none]) (by decide +kernel) rfl (by decide) rfl ?_
  refine ar_aload_n (pc := 10) (i := 0) (k0 := 0) (by decide +kernel) rfl rfl ?_
  refine ar_getFV (pc := 11) (a := 294) (b := 297) 7 2 (by decide +kernel) k_294 rfl (by decide) wf_RX7_16 rfl (fun _ => rfl) rfl ?_
  refine ar_iload_n (pc := 14) (i := 2) (k0 := 2) (by decide +kernel) rfl rfl ?_
  obtain ⟨g1, H⟩ := H
  obtain ⟨g2, H⟩ := H
  refine ar_iald (pc := 15) (a := 297) (i := v2) (by decide +kernel) k_297 g1 (am_lt_eq g2 (l_297).symm) ?_
  refine ar_istore (pc := 16) (i := 4) (ls2 := [some (.inr (.inr 294)), some (.inl v1), some (.inl v2), some (.inl (am_w32 ((am_w32 (825 * v1)) + 217))), some (.inl (h 297 v2)), none]) (by decide +kernel) (by decide) rfl ?_
  refine ar_forget [true, false, true, true, true, true] rfl ?_
  exact H h0
theorem B_X7_isPlain_18 {d : Nat} {Q : Int → am_H → Prop} {h : am_H} {v2 v3 v4 : Int} (H : (0 ≤ (am_w32 (v2 + 1))) ∧ (((am_w32 (v2 + 1)) < 3300) ∧ (((h 297 (am_w32 (v2 + 1))) ≤ v4 → Q 1 h) ∧ (v4 < (h 297 (am_w32 (v2 + 1))) → (0 ≤ (am_w32 (v3 + (am_w32 (2 * v4))))) ∧ (((am_w32 (v3 + (am_w32 (2 * v4)))) < 3300) ∧ (((h 297 (am_w32 (v3 + (am_w32 (2 * v4))))) = 2 → Q 0 h) ∧ (¬ (h 297 (am_w32 (v3 + (am_w32 (2 * v4))))) = 2 → (¬ (h 297 (am_w32 (v3 + (am_w32 (2 * v4))))) = 1 → wf d M_X7_isPlain Q 76 [some (.inr (.inr 294)), none, some (.inl v2), some (.inl v3), some (.inl v4), none] [] h) ∧ ((h 297 (am_w32 (v3 + (am_w32 (2 * v4))))) = 1 → (0 ≤ (am_w32 ((am_w32 (v3 + (am_w32 (2 * v4)))) + 1))) ∧ (((am_w32 ((am_w32 (v3 + (am_w32 (2 * v4)))) + 1)) < 3300) ∧ (((h 297 (am_w32 ((am_w32 (v3 + (am_w32 (2 * v4)))) + 1))) = 8 → wf d M_X7_isPlain Q 76 [some (.inr (.inr 294)), none, some (.inl v2), some (.inl v3), some (.inl v4), none] [] h) ∧ (¬ (h 297 (am_w32 ((am_w32 (v3 + (am_w32 (2 * v4)))) + 1))) = 8 → Q 0 h))))))))))) : wf d M_X7_isPlain Q 18 [some (.inr (.inr 294)), none, some (.inl v2), some (.inl v3), some (.inl v4), none] [] h := by
  intro h0
  refine ar_iload (pc := 18) (i := 4) (by decide +kernel) rfl ?_
  refine ar_aload_n (pc := 20) (i := 0) (k0 := 0) (by decide +kernel) rfl rfl ?_
  refine ar_getFV (pc := 21) (a := 294) (b := 297) 7 2 (by decide +kernel) k_294 rfl (by decide) wf_RX7_16 rfl (fun _ => rfl) rfl ?_
  refine ar_iload_n (pc := 24) (i := 2) (k0 := 2) (by decide +kernel) rfl rfl ?_
  refine ar_iconst (pc := 25) (z := 1) (by decide +kernel) (by unfold am_i32; omega) ?_
  refine ar_iadd (pc := 26) (x := v2) (y := 1) (by decide +kernel) ?_
  obtain ⟨g1, H⟩ := H
  obtain ⟨g2, H⟩ := H
  refine ar_iald (pc := 27) (a := 297) (i := (am_w32 (v2 + 1))) (by decide +kernel) k_297 g1 (am_lt_eq g2 (l_297).symm) ?_
  refine ar_icmp_ge (pc := 28) (x := v4) (y := (h 297 (am_w32 (v2 + 1)))) (tgt := 82) (off := 54) (by decide +kernel) (by decide) (fun c3 => ?_) (fun c3 => ?_)
  · replace H := H.1 c3
    refine ar_iconst (pc := 82) (z := 1) (by decide +kernel) (by unfold am_i32; omega) ?_
    exact ar_zret (pc := 83) (x := 1) (by decide +kernel) rfl rfl (by decide) H
  · replace H := H.2 c3
    refine ar_aload_n (pc := 31) (i := 0) (k0 := 0) (by decide +kernel) rfl rfl ?_
    refine ar_getFV (pc := 32) (a := 294) (b := 297) 7 2 (by decide +kernel) k_294 rfl (by decide) wf_RX7_16 rfl (fun _ => rfl) rfl ?_
    refine ar_iload_n (pc := 35) (i := 3) (k0 := 3) (by decide +kernel) rfl rfl ?_
    refine ar_iconst (pc := 36) (z := 2) (by decide +kernel) (by unfold am_i32; omega) ?_
    refine ar_iload (pc := 37) (i := 4) (by decide +kernel) rfl ?_
    refine ar_imul (pc := 39) (x := 2) (y := v4) (by decide +kernel) ?_
    refine ar_iadd (pc := 40) (x := v3) (y := (am_w32 (2 * v4))) (by decide +kernel) ?_
    obtain ⟨g4, H⟩ := H
    obtain ⟨g5, H⟩ := H
    refine ar_iald (pc := 41) (a := 297) (i := (am_w32 (v3 + (am_w32 (2 * v4))))) (by decide +kernel) k_297 g4 (am_lt_eq g5 (l_297).symm) ?_
    refine ar_istore (pc := 42) (i := 5) (ls2 := [some (.inr (.inr 294)), none, some (.inl v2), some (.inl v3), some (.inl v4), some (.inl (h 297 (am_w32 (v3 + (am_w32 (2 * v4))))))]) (by decide +kernel) (by decide) rfl ?_
    refine ar_iload (pc := 44) (i := 5) (by decide +kernel) rfl ?_
    refine ar_iconst (pc := 46) (z := 2) (by decide +kernel) (by unfold am_i32; omega) ?_
    refine ar_icmp_eq (pc := 47) (x := (h 297 (am_w32 (v3 + (am_w32 (2 * v4)))))) (y := 2) (tgt := 74) (off := 27) (by decide +kernel) (by decide) (fun c6 => ?_) (fun c6 => ?_)
    · replace H := H.1 c6
      refine ar_iconst (pc := 74) (z := 0) (by decide +kernel) (by unfold am_i32; omega) ?_
      exact ar_zret (pc := 75) (x := 0) (by decide +kernel) rfl rfl (by decide) H
    · replace H := H.2 c6
      refine ar_iload (pc := 50) (i := 5) (by decide +kernel) rfl ?_
      refine ar_iconst (pc := 52) (z := 1) (by decide +kernel) (by unfold am_i32; omega) ?_
      refine ar_icmp_ne (pc := 53) (x := (h 297 (am_w32 (v3 + (am_w32 (2 * v4)))))) (y := 1) (tgt := 76) (off := 23) (by decide +kernel) (by decide) (fun c7 => ?_) (fun c7 => ?_)
      · replace H := H.1 c7
        refine ar_forget [true, true, true, true, true, false] rfl ?_
        exact H h0
      · replace H := H.2 c7
        refine ar_aload_n (pc := 56) (i := 0) (k0 := 0) (by decide +kernel) rfl rfl ?_
        refine ar_getFV (pc := 57) (a := 294) (b := 297) 7 2 (by decide +kernel) k_294 rfl (by decide) wf_RX7_16 rfl (fun _ => rfl) rfl ?_
        refine ar_iload_n (pc := 60) (i := 3) (k0 := 3) (by decide +kernel) rfl rfl ?_
        refine ar_iconst (pc := 61) (z := 2) (by decide +kernel) (by unfold am_i32; omega) ?_
        refine ar_iload (pc := 62) (i := 4) (by decide +kernel) rfl ?_
        refine ar_imul (pc := 64) (x := 2) (y := v4) (by decide +kernel) ?_
        refine ar_iadd (pc := 65) (x := v3) (y := (am_w32 (2 * v4))) (by decide +kernel) ?_
        refine ar_iconst (pc := 66) (z := 1) (by decide +kernel) (by unfold am_i32; omega) ?_
        refine ar_iadd (pc := 67) (x := (am_w32 (v3 + (am_w32 (2 * v4))))) (y := 1) (by decide +kernel) ?_
        obtain ⟨g8, H⟩ := H
        obtain ⟨g9, H⟩ := H
        refine ar_iald (pc := 68) (a := 297) (i := (am_w32 ((am_w32 (v3 + (am_w32 (2 * v4)))) + 1))) (by decide +kernel) k_297 g8 (am_lt_eq g9 (l_297).symm) ?_
        refine ar_bipush (pc := 69) (z := 8) (by decide +kernel) (by omega) ?_
        refine ar_icmp_eq (pc := 71) (x := (h 297 (am_w32 ((am_w32 (v3 + (am_w32 (2 * v4)))) + 1)))) (y := 8) (tgt := 76) (off := 5) (by decide +kernel) (by decide) (fun c10 => ?_) (fun c10 => ?_)
        · replace H := H.1 c10
          refine ar_forget [true, true, true, true, true, false] rfl ?_
          exact H h0
        · replace H := H.2 c10
          refine ar_iconst (pc := 74) (z := 0) (by decide +kernel) (by unfold am_i32; omega) ?_
          exact ar_zret (pc := 75) (x := 0) (by decide +kernel) rfl rfl (by decide) H
theorem B_X7_isPlain_76 {d : Nat} {Q : Int → am_H → Prop} {h : am_H} {v2 v3 v4 : Int} (H : wf d M_X7_isPlain Q 18 [some (.inr (.inr 294)), none, some (.inl v2), some (.inl v3), some (.inl (am_w32 (v4 + 1))), none] [] h) : wf d M_X7_isPlain Q 76 [some (.inr (.inr 294)), none, some (.inl v2), some (.inl v3), some (.inl v4), none] [] h := by
  intro h0
  refine ar_iinc (pc := 76) (i := 4) (z := 1) (x := v4) (ls2 := [some (.inr (.inr 294)), none, some (.inl v2), some (.inl v3), some (.inl (am_w32 (v4 + 1))), none]) (by decide +kernel) rfl (by decide) rfl ?_
  refine ar_goto (pc := 79) (tgt := 18) (off := -61) (by decide +kernel) (by decide) ?_
  exact H h0

/-! ByteIntervalsModel.sure(II)Z -/
theorem B_X7_sure_0 {d : Nat} {Q : Int → am_H → Prop} {h : am_H} {v1 v2 : Int} (H : cf d M_X7_isText [.inr (.inr 294), .inl v1] h (fun r1 h2 => (r1 = 0 → Q 0 h2) ∧ (¬ r1 = 0 → cf d M_X7_isField [.inl v2] h2 (fun r4 h5 => (¬ r4 = 0 → cf d M_X7_layOrder [.inr (.inr 294), .inl v1] h5 (fun _ h8 => cf d M_X7_sortOfField [.inr (.inr 294), .inl v1, .inl v2] h8 (fun r9 h10 => (r9 = 2 → (0 ≤ v2) ∧ ((v2 < 8) ∧ (cf d M_X7_clauseAt [.inl v1, .inl (h10 305 v2)] h10 (fun r14 h15 => cf d M_X7_isPlain [.inr (.inr 294), .inl v1, .inl (am_w32 (r14 + 3))] h15 (fun r16 h17 => (r16 = 0 → Q 0 h17) ∧ (¬ r16 = 0 → cf d M_X7_clauseAt [.inl v1, .inl (h10 305 v2)] h17 (fun r19 h20 => cf d M_X7_isPlain [.inr (.inr 294), .inl v1, .inl (am_w32 (r19 + 5))] h20 (fun r21 h22 => (¬ r21 = 0 → wf (d + 1) M_X7_sure Q 76 [some (.inr (.inr 294)), some (.inl v1), none, some (.inl (h10 305 v2)), some (.inl 1), none, none, none, none] [] h22) ∧ (r21 = 0 → Q 0 h22))))))))) ∧ (¬ r9 = 2 → Q 0 h10)))) ∧ (r4 = 0 → Q 0 h5))))) : wf (d + 1) M_X7_sure Q 0 [some (.inr (.inr 294)), some (.inl v1), some (.inl v2), none, none, none, none, none, none] [] h := by
  intro h0
  refine ar_aload_n (pc := 0) (i := 0) (k0 := 0) (by decide +kernel) rfl rfl ?_
  refine ar_iload_n (pc := 1) (i := 1) (k0 := 1) (by decide +kernel) rfl rfl ?_
  refine ar_callV (pc := 2) (M2 := M_X7_isText) (a := 294) (ci := 7) (as := [.inl v1]) (n2 := 321) (st := []) (by decide +kernel) rfl wm_RX7_502 wi_yX7_isText wl_yX7_isText k_294 rfl wz_RX7 wc_yX7_isText ⟨by decide, by decide, rfl⟩ (by decide) (Nat.le_of_ble_eq_true rfl) (Nat.le_refl _) (Nat.le_refl _) (am_Cl_mono H (fun r1 h2 H => ?_))
  show am_Wp true (d + 1) M_X7_sure 321 321 h0 Q 5 [some (.inr (.inr 294)), some (.inl v1), some (.inl v2), none, none, none, none, none, none] [.inl r1] 321 h2
  refine ar_if_eq (pc := 5) (x := r1) (tgt := 15) (off := 10) (by decide +kernel) (by decide) (fun c3 => ?_) (fun c3 => ?_)
  · replace H := H.1 c3
    refine ar_iconst (pc := 15) (z := 0) (by decide +kernel) (by unfold am_i32; omega) ?_
    exact ar_zret (pc := 16) (x := 0) (by decide +kernel) rfl rfl (by decide) H
  · replace H := H.2 c3
    refine ar_iload_n (pc := 8) (i := 2) (k0 := 2) (by decide +kernel) rfl rfl ?_
    refine ar_callS (pc := 9) (M2 := M_X7_isField) (as := [.inl v2]) (n2 := 321) (st := []) (by decide +kernel) rfl wm_RX7_521 ws_yX7_isField wz_RX7 wc_yX7_isField ⟨by decide, by decide, rfl⟩ (by decide) (Nat.le_of_ble_eq_true rfl) (Nat.le_refl _) (Nat.le_refl _) (am_Cl_mono H (fun r4 h5 H => ?_))
    show am_Wp true (d + 1) M_X7_sure 321 321 h0 Q 12 [some (.inr (.inr 294)), some (.inl v1), some (.inl v2), none, none, none, none, none, none] [.inl r4] 321 h5
    refine ar_if_ne (pc := 12) (x := r4) (tgt := 17) (off := 5) (by decide +kernel) (by decide) (fun c6 => ?_) (fun c6 => ?_)
    · replace H := H.1 c6
      refine ar_aload_n (pc := 17) (i := 0) (k0 := 0) (by decide +kernel) rfl rfl ?_
      refine ar_iload_n (pc := 18) (i := 1) (k0 := 1) (by decide +kernel) rfl rfl ?_
      refine ar_callV (pc := 19) (M2 := M_X7_layOrder) (a := 294) (ci := 7) (as := [.inl v1]) (n2 := 321) (st := []) (by decide +kernel) rfl wm_RX7_424 wi_yX7_layOrder wl_yX7_layOrder k_294 rfl wz_RX7 wc_yX7_layOrder ⟨by decide, by decide, rfl⟩ (by decide) (Nat.le_of_ble_eq_true rfl) (Nat.le_refl _) (Nat.le_refl _) (am_Cl_mono H (fun r7 h8 H => ?_))
      show am_Wp true (d + 1) M_X7_sure 321 321 h0 Q 22 [some (.inr (.inr 294)), some (.inl v1), some (.inl v2), none, none, none, none, none, none] [] 321 h8
      refine ar_aload_n (pc := 22) (i := 0) (k0 := 0) (by decide +kernel) rfl rfl ?_
      refine ar_iload_n (pc := 23) (i := 1) (k0 := 1) (by decide +kernel) rfl rfl ?_
      refine ar_iload_n (pc := 24) (i := 2) (k0 := 2) (by decide +kernel) rfl rfl ?_
      refine ar_callV (pc := 25) (M2 := M_X7_sortOfField) (a := 294) (ci := 7) (as := [.inl v1, .inl v2]) (n2 := 321) (st := []) (by decide +kernel) rfl wm_RX7_527 wi_yX7_sortOfField wl_yX7_sortOfField k_294 rfl wz_RX7 wc_yX7_sortOfField ⟨by decide, by decide, rfl⟩ (by decide) (Nat.le_of_ble_eq_true rfl) (Nat.le_refl _) (Nat.le_refl _) (am_Cl_mono H (fun r9 h10 H => ?_))
      show am_Wp true (d + 1) M_X7_sure 321 321 h0 Q 28 [some (.inr (.inr 294)), some (.inl v1), some (.inl v2), none, none, none, none, none, none] [.inl r9] 321 h10
      refine ar_iconst (pc := 28) (z := 2) (by decide +kernel) (by unfold am_i32; omega) ?_
      refine ar_icmp_eq (pc := 29) (x := r9) (y := 2) (tgt := 34) (off := 5) (by decide +kernel) (by decide) (fun c11 => ?_) (fun c11 => ?_)
      · replace H := H.1 c11
        refine ar_aload_n (pc := 34) (i := 0) (k0 := 0) (by decide +kernel) rfl rfl ?_
        refine ar_getFV (pc := 35) (a := 294) (b := 305) 7 28 (by decide +kernel) k_294 rfl (by decide) wf_RX7_49 rfl (fun _ => rfl) rfl ?_
        refine ar_iload_n (pc := 38) (i := 2) (k0 := 2) (by decide +kernel) rfl rfl ?_
        obtain ⟨g12, H⟩ := H
        obtain ⟨g13, H⟩ := H
        refine ar_iald (pc := 39) (a := 305) (i := v2) (by decide +kernel) k_305 g12 (am_lt_eq g13 (l_305).symm) ?_
        refine ar_istore_n (pc := 40) (i := 3) (k0 := 3) (ls2 := [some (.inr (.inr 294)), some (.inl v1), some (.inl v2), some (.inl (h10 305 v2)), none, none, none, none, none]) (by decide +kernel) rfl (by decide) rfl ?_
        refine ar_aload_n (pc := 41) (i := 0) (k0 := 0) (by decide +kernel) rfl rfl ?_
        refine ar_iload_n (pc := 42) (i := 1) (k0 := 1) (by decide +kernel) rfl rfl ?_
        refine ar_iload_n (pc := 43) (i := 1) (k0 := 1) (by decide +kernel) rfl rfl ?_
        refine ar_iload_n (pc := 44) (i := 3) (k0 := 3) (by decide +kernel) rfl rfl ?_
        refine ar_callS (pc := 45) (M2 := M_X7_clauseAt) (as := [.inl v1, .inl (h10 305 v2)]) (n2 := 321) (st := [.inl v1, .inr (.inr 294)]) (by decide +kernel) rfl wm_RX7_328 ws_yX7_clauseAt wz_RX7 wc_yX7_clauseAt ⟨by decide, by decide, rfl⟩ (by decide) (Nat.le_of_ble_eq_true rfl) (Nat.le_refl _) (Nat.le_refl _) (am_Cl_mono H (fun r14 h15 H => ?_))
        show am_Wp true (d + 1) M_X7_sure 321 321 h0 Q 48 [some (.inr (.inr 294)), some (.inl v1), some (.inl v2), some (.inl (h10 305 v2)), none, none, none, none, none] [.inl r14, .inl v1, .inr (.inr 294)] 321 h15
        refine ar_iconst (pc := 48) (z := 3) (by decide +kernel) (by unfold am_i32; omega) ?_
        refine ar_iadd (pc := 49) (x := r14) (y := 3) (by decide +kernel) ?_
        refine ar_callV (pc := 50) (M2 := M_X7_isPlain) (a := 294) (ci := 7) (as := [.inl v1, .inl (am_w32 (r14 + 3))]) (n2 := 321) (st := []) (by decide +kernel) rfl wm_RX7_541 wi_yX7_isPlain wl_yX7_isPlain k_294 rfl wz_RX7 wc_yX7_isPlain ⟨by decide, by decide, rfl⟩ (by decide) (Nat.le_of_ble_eq_true rfl) (Nat.le_refl _) (Nat.le_refl _) (am_Cl_mono H (fun r16 h17 H => ?_))
        show am_Wp true (d + 1) M_X7_sure 321 321 h0 Q 53 [some (.inr (.inr 294)), some (.inl v1), some (.inl v2), some (.inl (h10 305 v2)), none, none, none, none, none] [.inl r16] 321 h17
        refine ar_if_eq (pc := 53) (x := r16) (tgt := 71) (off := 18) (by decide +kernel) (by decide) (fun c18 => ?_) (fun c18 => ?_)
        · replace H := H.1 c18
          refine ar_iconst (pc := 71) (z := 0) (by decide +kernel) (by unfold am_i32; omega) ?_
          exact ar_zret (pc := 72) (x := 0) (by decide +kernel) rfl rfl (by decide) H
        · replace H := H.2 c18
          refine ar_aload_n (pc := 56) (i := 0) (k0 := 0) (by decide +kernel) rfl rfl ?_
          refine ar_iload_n (pc := 57) (i := 1) (k0 := 1) (by decide +kernel) rfl rfl ?_
          refine ar_iload_n (pc := 58) (i := 1) (k0 := 1) (by decide +kernel) rfl rfl ?_
          refine ar_iload_n (pc := 59) (i := 3) (k0 := 3) (by decide +kernel) rfl rfl ?_
          refine ar_callS (pc := 60) (M2 := M_X7_clauseAt) (as := [.inl v1, .inl (h10 305 v2)]) (n2 := 321) (st := [.inl v1, .inr (.inr 294)]) (by decide +kernel) rfl wm_RX7_328 ws_yX7_clauseAt wz_RX7 wc_yX7_clauseAt ⟨by decide, by decide, rfl⟩ (by decide) (Nat.le_of_ble_eq_true rfl) (Nat.le_refl _) (Nat.le_refl _) (am_Cl_mono H (fun r19 h20 H => ?_))
          show am_Wp true (d + 1) M_X7_sure 321 321 h0 Q 63 [some (.inr (.inr 294)), some (.inl v1), some (.inl v2), some (.inl (h10 305 v2)), none, none, none, none, none] [.inl r19, .inl v1, .inr (.inr 294)] 321 h20
          refine ar_iconst (pc := 63) (z := 5) (by decide +kernel) (by unfold am_i32; omega) ?_
          refine ar_iadd (pc := 64) (x := r19) (y := 5) (by decide +kernel) ?_
          refine ar_callV (pc := 65) (M2 := M_X7_isPlain) (a := 294) (ci := 7) (as := [.inl v1, .inl (am_w32 (r19 + 5))]) (n2 := 321) (st := []) (by decide +kernel) rfl wm_RX7_541 wi_yX7_isPlain wl_yX7_isPlain k_294 rfl wz_RX7 wc_yX7_isPlain ⟨by decide, by decide, rfl⟩ (by decide) (Nat.le_of_ble_eq_true rfl) (Nat.le_refl _) (Nat.le_refl _) (am_Cl_mono H (fun r21 h22 H => ?_))
          show am_Wp true (d + 1) M_X7_sure 321 321 h0 Q 68 [some (.inr (.inr 294)), some (.inl v1), some (.inl v2), some (.inl (h10 305 v2)), none, none, none, none, none] [.inl r21] 321 h22
          refine ar_if_ne (pc := 68) (x := r21) (tgt := 73) (off := 5) (by decide +kernel) (by decide) (fun c23 => ?_) (fun c23 => ?_)
          · replace H := H.1 c23
            refine ar_iconst (pc := 73) (z := 1) (by decide +kernel) (by unfold am_i32; omega) ?_
            refine ar_istore (pc := 74) (i := 4) (ls2 := [some (.inr (.inr 294)), some (.inl v1), some (.inl v2), some (.inl (h10 305 v2)), some (.inl 1), none, none, none, none]) (by decide +kernel) (by decide) rfl ?_
            refine ar_forget [true, true, false, true, true, true, true, true, true] rfl ?_
            exact H h0
          · replace H := H.2 c23
            refine ar_iconst (pc := 71) (z := 0) (by decide +kernel) (by unfold am_i32; omega) ?_
            exact ar_zret (pc := 72) (x := 0) (by decide +kernel) rfl rfl (by decide) H
      · replace H := H.2 c11
        refine ar_iconst (pc := 32) (z := 0) (by decide +kernel) (by unfold am_i32; omega) ?_
        exact ar_zret (pc := 33) (x := 0) (by decide +kernel) rfl rfl (by decide) H
    · replace H := H.2 c6
      refine ar_iconst (pc := 15) (z := 0) (by decide +kernel) (by unfold am_i32; omega) ?_
      exact ar_zret (pc := 16) (x := 0) (by decide +kernel) rfl rfl (by decide) H
theorem B_X7_sure_76 {d : Nat} {Q : Int → am_H → Prop} {h : am_H} {v1 v3 v4 : Int} (H : (40 < v4 → Q 1 h) ∧ (v4 ≤ 40 → cf d M_X7_sumOf [.inr (.inr 294), .inl v1, .inl v3, .inl 0] (am_up h 300 8 v4) (fun r2 h3 => cf d M_X7_sumOf [.inr (.inr 294), .inl v1, .inl v3, .inl 1] h3 (fun r4 h5 => cf d M_X7_isWithin [.inr (.inl r2), .inr (.inl r4), .inl v4] h5 (fun r6 h7 => (r6 = 0 → wf (d + 1) M_X7_sure Q 136 [some (.inr (.inr 294)), some (.inl v1), none, some (.inl v3), some (.inl v4), none, none, none, none] [] h7) ∧ (¬ r6 = 0 → ((am_lcmp (am_w64 (r4 - r2)) v4) < 0 → wf (d + 1) M_X7_sure Q 136 [some (.inr (.inr 294)), some (.inl v1), none, some (.inl v3), some (.inl v4), none, none, none, none] [] h7) ∧ (0 ≤ (am_lcmp (am_w64 (r4 - r2)) v4) → Q 0 h7))))))) : wf (d + 1) M_X7_sure Q 76 [some (.inr (.inr 294)), some (.inl v1), none, some (.inl v3), some (.inl v4), none, none, none, none] [] h := by
  intro h0
  refine ar_iload (pc := 76) (i := 4) (by decide +kernel) rfl ?_
  refine ar_bipush (pc := 78) (z := 40) (by decide +kernel) (by omega) ?_
  refine ar_icmp_gt (pc := 80) (x := v4) (y := 40) (tgt := 142) (off := 62) (by decide +kernel) (by decide) (fun c1 => ?_) (fun c1 => ?_)
  · replace H := H.1 c1
    refine ar_iconst (pc := 142) (z := 1) (by decide +kernel) (by unfold am_i32; omega) ?_
    exact ar_zret (pc := 143) (x := 1) (by decide +kernel) rfl rfl (by decide) H
  · replace H := H.2 c1
    refine ar_aload_n (pc := 83) (i := 0) (k0 := 0) (by decide +kernel) rfl rfl ?_
    refine ar_getFV (pc := 84) (a := 294) (b := 300) 7 21 (by decide +kernel) k_294 rfl (by decide) wf_RX7_32 rfl (fun _ => rfl) rfl ?_
    refine ar_bipush (pc := 87) (z := 8) (by decide +kernel) (by omega) ?_
    refine ar_iload (pc := 89) (i := 4) (by decide +kernel) rfl ?_
    refine ar_iast (pc := 91) (a := 300) (i := 8) (z := v4) (by decide +kernel) k_300 (by decide) (am_lt_eq (b := 13) (by decide) (l_300).symm) ?_
    refine ar_aload_n (pc := 92) (i := 0) (k0 := 0) (by decide +kernel) rfl rfl ?_
    refine ar_iload_n (pc := 93) (i := 1) (k0 := 1) (by decide +kernel) rfl rfl ?_
    refine ar_iload_n (pc := 94) (i := 3) (k0 := 3) (by decide +kernel) rfl rfl ?_
    refine ar_iconst (pc := 95) (z := 0) (by decide +kernel) (by unfold am_i32; omega) ?_
    refine ar_callV (pc := 96) (M2 := M_X7_sumOf) (a := 294) (ci := 7) (as := [.inl v1, .inl v3, .inl 0]) (n2 := 321) (st := []) (by decide +kernel) rfl wm_RX7_338 wi_yX7_sumOf wl_yX7_sumOf k_294 rfl wz_RX7 wc_yX7_sumOf ⟨by decide, by decide, rfl⟩ (by decide) (Nat.le_of_ble_eq_true rfl) (Nat.le_refl _) (Nat.le_refl _) (am_Cl_mono H (fun r2 h3 H => ?_))
    show am_Wp true (d + 1) M_X7_sure 321 321 h0 Q 99 [some (.inr (.inr 294)), some (.inl v1), none, some (.inl v3), some (.inl v4), none, none, none, none] [.inr (.inl r2)] 321 h3
    refine ar_lstore (pc := 99) (i := 5) (ls2 := [some (.inr (.inr 294)), some (.inl v1), none, some (.inl v3), some (.inl v4), some (.inr (.inl r2)), none, none, none]) (by decide +kernel) (by decide) rfl ?_
    refine ar_aload_n (pc := 101) (i := 0) (k0 := 0) (by decide +kernel) rfl rfl ?_
    refine ar_iload_n (pc := 102) (i := 1) (k0 := 1) (by decide +kernel) rfl rfl ?_
    refine ar_iload_n (pc := 103) (i := 3) (k0 := 3) (by decide +kernel) rfl rfl ?_
    refine ar_iconst (pc := 104) (z := 1) (by decide +kernel) (by unfold am_i32; omega) ?_
    refine ar_callV (pc := 105) (M2 := M_X7_sumOf) (a := 294) (ci := 7) (as := [.inl v1, .inl v3, .inl 1]) (n2 := 321) (st := []) (by decide +kernel) rfl wm_RX7_338 wi_yX7_sumOf wl_yX7_sumOf k_294 rfl wz_RX7 wc_yX7_sumOf ⟨by decide, by decide, rfl⟩ (by decide) (Nat.le_of_ble_eq_true rfl) (Nat.le_refl _) (Nat.le_refl _) (am_Cl_mono H (fun r4 h5 H => ?_))
    show am_Wp true (d + 1) M_X7_sure 321 321 h0 Q 108 [some (.inr (.inr 294)), some (.inl v1), none, some (.inl v3), some (.inl v4), some (.inr (.inl r2)), none, none, none] [.inr (.inl r4)] 321 h5
    refine ar_lstore (pc := 108) (i := 7) (ls2 := [some (.inr (.inr 294)), some (.inl v1), none, some (.inl v3), some (.inl v4), some (.inr (.inl r2)), none, some (.inr (.inl r4)), none]) (by decide +kernel) (by decide) rfl ?_
    refine ar_lload (pc := 110) (i := 5) (by decide +kernel) rfl ?_
    refine ar_lload (pc := 112) (i := 7) (by decide +kernel) rfl ?_
    refine ar_iload (pc := 114) (i := 4) (by decide +kernel) rfl ?_
    refine ar_callS (pc := 116) (M2 := M_X7_isWithin) (as := [.inr (.inl r2), .inr (.inl r4), .inl v4]) (n2 := 321) (st := []) (by decide +kernel) rfl wm_RX7_369 ws_yX7_isWithin wz_RX7 wc_yX7_isWithin ⟨by decide, by decide, rfl⟩ (by decide) (Nat.le_of_ble_eq_true rfl) (Nat.le_refl _) (Nat.le_refl _) (am_Cl_mono H (fun r6 h7 H => ?_))
    show am_Wp true (d + 1) M_X7_sure 321 321 h0 Q 119 [some (.inr (.inr 294)), some (.inl v1), none, some (.inl v3), some (.inl v4), some (.inr (.inl r2)), none, some (.inr (.inl r4)), none] [.inl r6] 321 h7
    refine ar_if_eq (pc := 119) (x := r6) (tgt := 136) (off := 17) (by decide +kernel) (by decide) (fun c8 => ?_) (fun c8 => ?_)
    · replace H := H.1 c8
      refine ar_forget [true, true, true, true, true, false, true, false, true] rfl ?_
      exact H h0
    · replace H := H.2 c8
      refine ar_lload (pc := 122) (i := 7) (by decide +kernel) rfl ?_
      refine ar_lload (pc := 124) (i := 5) (by decide +kernel) rfl ?_
      refine ar_lsub (pc := 126) (x := r4) (y := r2) (by decide +kernel) ?_
      refine ar_iload (pc := 127) (i := 4) (by decide +kernel) rfl ?_
      refine ar_i2l (pc := 129) (x := v4) (by decide +kernel) ?_
      refine ar_lcmp (pc := 130) (x := (am_w64 (r4 - r2))) (y := v4) (by decide +kernel) ?_
      refine ar_if_lt (pc := 131) (x := (am_lcmp (am_w64 (r4 - r2)) v4)) (tgt := 136) (off := 5) (by decide +kernel) (by decide) (fun c9 => ?_) (fun c9 => ?_)
      · replace H := H.1 c9
        refine ar_forget [true, true, true, true, true, false, true, false, true] rfl ?_
        exact H h0
      · replace H := H.2 c9
        refine ar_iconst (pc := 134) (z := 0) (by decide +kernel) (by unfold am_i32; omega) ?_
        exact ar_zret (pc := 135) (x := 0) (by decide +kernel) rfl rfl (by decide) H
theorem B_X7_sure_136 {d : Nat} {Q : Int → am_H → Prop} {h : am_H} {v1 v3 v4 : Int} (H : wf (d + 1) M_X7_sure Q 76 [some (.inr (.inr 294)), some (.inl v1), none, some (.inl v3), some (.inl (am_w32 (v4 + 1))), none, none, none, none] [] h) : wf (d + 1) M_X7_sure Q 136 [some (.inr (.inr 294)), some (.inl v1), none, some (.inl v3), some (.inl v4), none, none, none, none] [] h := by
  intro h0
  refine ar_iinc (pc := 136) (i := 4) (z := 1) (x := v4) (ls2 := [some (.inr (.inr 294)), some (.inl v1), none, some (.inl v3), some (.inl (am_w32 (v4 + 1))), none, none, none, none]) (by decide +kernel) rfl (by decide) rfl ?_
  refine ar_goto (pc := 139) (tgt := 76) (off := -63) (by decide +kernel) (by decide) ?_
  exact H h0

/-! ByteIntervalsModel.least(I)I -/
theorem B_X7_least_0 {d : Nat} {Q : Int → am_H → Prop} {h : am_H} {v1 : Int} (H : cf d M_X7_isText [.inr (.inr 294), .inl v1] h (fun r1 h2 => (¬ r1 = 0 → cf d M_X7_layOrder [.inr (.inr 294), .inl v1] h2 (fun _ h5 => cf d M_X7_putAside [.inr (.inr 294)] h5 (fun _ h7 => wf (d + 1) M_X7_least Q 32 [some (.inr (.inr 294)), some (.inl v1), some (.inl (h5 295 6)), some (.inl (-1)), some (.inl 0)] [] h7))) ∧ (r1 = 0 → Q (-1) h2))) : wf (d + 1) M_X7_least Q 0 [some (.inr (.inr 294)), some (.inl v1), none, none, none] [] h := by
  intro h0
  refine ar_aload_n (pc := 0) (i := 0) (k0 := 0) (by decide +kernel) rfl rfl ?_
  refine ar_iload_n (pc := 1) (i := 1) (k0 := 1) (by decide +kernel) rfl rfl ?_
  refine ar_callV (pc := 2) (M2 := M_X7_isText) (a := 294) (ci := 7) (as := [.inl v1]) (n2 := 321) (st := []) (by decide +kernel) rfl wm_RX7_502 wi_yX7_isText wl_yX7_isText k_294 rfl wz_RX7 wc_yX7_isText ⟨by decide, by decide, rfl⟩ (by decide) (Nat.le_of_ble_eq_true rfl) (Nat.le_refl _) (Nat.le_refl _) (am_Cl_mono H (fun r1 h2 H => ?_))
  show am_Wp true (d + 1) M_X7_least 321 321 h0 Q 5 [some (.inr (.inr 294)), some (.inl v1), none, none, none] [.inl r1] 321 h2
  refine ar_if_ne (pc := 5) (x := r1) (tgt := 10) (off := 5) (by decide +kernel) (by decide) (fun c3 => ?_) (fun c3 => ?_)
  · replace H := H.1 c3
    refine ar_aload_n (pc := 10) (i := 0) (k0 := 0) (by decide +kernel) rfl rfl ?_
    refine ar_iload_n (pc := 11) (i := 1) (k0 := 1) (by decide +kernel) rfl rfl ?_
    refine ar_callV (pc := 12) (M2 := M_X7_layOrder) (a := 294) (ci := 7) (as := [.inl v1]) (n2 := 321) (st := []) (by decide +kernel) rfl wm_RX7_424 wi_yX7_layOrder wl_yX7_layOrder k_294 rfl wz_RX7 wc_yX7_layOrder ⟨by decide, by decide, rfl⟩ (by decide) (Nat.le_of_ble_eq_true rfl) (Nat.le_refl _) (Nat.le_refl _) (am_Cl_mono H (fun r4 h5 H => ?_))
    show am_Wp true (d + 1) M_X7_least 321 321 h0 Q 15 [some (.inr (.inr 294)), some (.inl v1), none, none, none] [] 321 h5
    refine ar_aload_n (pc := 15) (i := 0) (k0 := 0) (by decide +kernel) rfl rfl ?_
    refine ar_getFV (pc := 16) (a := 294) (b := 295) 7 0 (by decide +kernel) k_294 rfl (by decide) wf_RX7_7 rfl (fun _ => rfl) rfl ?_
    refine ar_bipush (pc := 19) (z := 6) (by decide +kernel) (by omega) ?_
    refine ar_iald (pc := 21) (a := 295) (i := 6) (by decide +kernel) k_295 (by decide) (am_lt_eq (b := 2159) (by decide) (l_295).symm) ?_
    refine ar_istore_n (pc := 22) (i := 2) (k0 := 2) (ls2 := [some (.inr (.inr 294)), some (.inl v1), some (.inl (h5 295 6)), none, none]) (by decide +kernel) rfl (by decide) rfl ?_
    refine ar_aload_n (pc := 23) (i := 0) (k0 := 0) (by decide +kernel) rfl rfl ?_
    refine ar_callV (pc := 24) (M2 := M_X7_putAside) (a := 294) (ci := 7) (as := []) (n2 := 321) (st := []) (by decide +kernel) rfl wm_RX7_433 wi_yX7_putAside wl_yX7_putAside k_294 rfl wz_RX7 wc_yX7_putAside ⟨by decide, by decide, rfl⟩ (by decide) (Nat.le_of_ble_eq_true rfl) (Nat.le_refl _) (Nat.le_refl _) (am_Cl_mono H (fun r6 h7 H => ?_))
    show am_Wp true (d + 1) M_X7_least 321 321 h0 Q 27 [some (.inr (.inr 294)), some (.inl v1), some (.inl (h5 295 6)), none, none] [] 321 h7
    refine ar_iconst (pc := 27) (z := (-1)) (by decide +kernel) (by unfold am_i32; omega) ?_
    refine ar_istore_n (pc := 28) (i := 3) (k0 := 3) (ls2 := [some (.inr (.inr 294)), some (.inl v1), some (.inl (h5 295 6)), some (.inl (-1)), none]) (by decide +kernel) rfl (by decide) rfl ?_
    refine ar_iconst (pc := 29) (z := 0) (by decide +kernel) (by unfold am_i32; omega) ?_
    refine ar_istore (pc := 30) (i := 4) (ls2 := [some (.inr (.inr 294)), some (.inl v1), some (.inl (h5 295 6)), some (.inl (-1)), some (.inl 0)]) (by decide +kernel) (by decide) rfl ?_
    exact H h0
  · replace H := H.2 c3
    refine ar_iconst (pc := 8) (z := (-1)) (by decide +kernel) (by unfold am_i32; omega) ?_
    exact ar_iret (pc := 9) (x := (-1)) (by decide +kernel) rfl rfl H
theorem B_X7_least_32 {d : Nat} {Q : Int → am_H → Prop} {h : am_H} {v1 v2 v3 v4 : Int} (H : (40 < v4 → wf (d + 1) M_X7_least Q 75 [some (.inr (.inr 294)), none, some (.inl v2), some (.inl v3), none] [] h) ∧ (v4 ≤ 40 → (¬ v3 = (-1) → wf (d + 1) M_X7_least Q 75 [some (.inr (.inr 294)), none, some (.inl v2), some (.inl v3), none] [] h) ∧ (v3 = (-1) → cf d M_X7_bringBack [.inr (.inr 294)] h (fun _ h4 => cf d M_X7_cutTo [.inr (.inr 294), .inl v4] h4 (fun _ h6 => cf d M_X7_readBy [.inr (.inr 294), .inl v1] h6 (fun _ h8 => cf d M_X7_isValidNow [.inr (.inr 294)] h8 (fun r9 h10 => (r9 = 0 → wf (d + 1) M_X7_least Q 69 [some (.inr (.inr 294)), some (.inl v1), some (.inl v2), some (.inl v3), some (.inl v4)] [] h10) ∧ (¬ r9 = 0 → wf (d + 1) M_X7_least Q 69 [some (.inr (.inr 294)), some (.inl v1), some (.inl v2), some (.inl v4), some (.inl v4)] [] h10)))))))) : wf (d + 1) M_X7_least Q 32 [some (.inr (.inr 294)), some (.inl v1), some (.inl v2), some (.inl v3), some (.inl v4)] [] h := by
  intro h0
  refine ar_iload (pc := 32) (i := 4) (by decide +kernel) rfl ?_
  refine ar_bipush (pc := 34) (z := 40) (by decide +kernel) (by omega) ?_
  refine ar_icmp_gt (pc := 36) (x := v4) (y := 40) (tgt := 75) (off := 39) (by decide +kernel) (by decide) (fun c1 => ?_) (fun c1 => ?_)
  · replace H := H.1 c1
    refine ar_forget [true, false, true, true, false] rfl ?_
    exact H h0
  · replace H := H.2 c1
    refine ar_iload_n (pc := 39) (i := 3) (k0 := 3) (by decide +kernel) rfl rfl ?_
    refine ar_iconst (pc := 40) (z := (-1)) (by decide +kernel) (by unfold am_i32; omega) ?_
    refine ar_icmp_ne (pc := 41) (x := v3) (y := (-1)) (tgt := 75) (off := 34) (by decide +kernel) (by decide) (fun c2 => ?_) (fun c2 => ?_)
    · replace H := H.1 c2
      refine ar_forget [true, false, true, true, false] rfl ?_
      exact H h0
    · replace H := H.2 c2
      refine ar_aload_n (pc := 44) (i := 0) (k0 := 0) (by decide +kernel) rfl rfl ?_
      refine ar_callV (pc := 45) (M2 := M_X7_bringBack) (a := 294) (ci := 7) (as := []) (n2 := 321) (st := []) (by decide +kernel) rfl wm_RX7_439 wi_yX7_bringBack wl_yX7_bringBack k_294 rfl wz_RX7 wc_yX7_bringBack ⟨by decide, by decide, rfl⟩ (by decide) (Nat.le_of_ble_eq_true rfl) (Nat.le_refl _) (Nat.le_refl _) (am_Cl_mono H (fun r3 h4 H => ?_))
      show am_Wp true (d + 1) M_X7_least 321 321 h0 Q 48 [some (.inr (.inr 294)), some (.inl v1), some (.inl v2), some (.inl v3), some (.inl v4)] [] 321 h4
      refine ar_aload_n (pc := 48) (i := 0) (k0 := 0) (by decide +kernel) rfl rfl ?_
      refine ar_iload (pc := 49) (i := 4) (by decide +kernel) rfl ?_
      refine ar_callV (pc := 51) (M2 := M_X7_cutTo) (a := 294) (ci := 7) (as := [.inl v4]) (n2 := 321) (st := []) (by decide +kernel) rfl wm_RX7_457 wi_yX7_cutTo wl_yX7_cutTo k_294 rfl wz_RX7 wc_yX7_cutTo ⟨by decide, by decide, rfl⟩ (by decide) (Nat.le_of_ble_eq_true rfl) (Nat.le_refl _) (Nat.le_refl _) (am_Cl_mono H (fun r5 h6 H => ?_))
      show am_Wp true (d + 1) M_X7_least 321 321 h0 Q 54 [some (.inr (.inr 294)), some (.inl v1), some (.inl v2), some (.inl v3), some (.inl v4)] [] 321 h6
      refine ar_aload_n (pc := 54) (i := 0) (k0 := 0) (by decide +kernel) rfl rfl ?_
      refine ar_iload_n (pc := 55) (i := 1) (k0 := 1) (by decide +kernel) rfl rfl ?_
      refine ar_callV (pc := 56) (M2 := M_X7_readBy) (a := 294) (ci := 7) (as := [.inl v1]) (n2 := 321) (st := []) (by decide +kernel) rfl wm_RX7_427 wi_yX7_readBy wl_yX7_readBy k_294 rfl wz_RX7 wc_yX7_readBy ⟨by decide, by decide, rfl⟩ (by decide) (Nat.le_of_ble_eq_true rfl) (Nat.le_refl _) (Nat.le_refl _) (am_Cl_mono H (fun r7 h8 H => ?_))
      show am_Wp true (d + 1) M_X7_least 321 321 h0 Q 59 [some (.inr (.inr 294)), some (.inl v1), some (.inl v2), some (.inl v3), some (.inl v4)] [] 321 h8
      refine ar_aload_n (pc := 59) (i := 0) (k0 := 0) (by decide +kernel) rfl rfl ?_
      refine ar_callV (pc := 60) (M2 := M_X7_isValidNow) (a := 294) (ci := 7) (as := []) (n2 := 321) (st := []) (by decide +kernel) rfl wm_RX7_518 wi_yX7_isValidNow wl_yX7_isValidNow k_294 rfl wz_RX7 wc_yX7_isValidNow ⟨by decide, by decide, rfl⟩ (by decide) (Nat.le_of_ble_eq_true rfl) (Nat.le_refl _) (Nat.le_refl _) (am_Cl_mono H (fun r9 h10 H => ?_))
      show am_Wp true (d + 1) M_X7_least 321 321 h0 Q 63 [some (.inr (.inr 294)), some (.inl v1), some (.inl v2), some (.inl v3), some (.inl v4)] [.inl r9] 321 h10
      refine ar_if_eq (pc := 63) (x := r9) (tgt := 69) (off := 6) (by decide +kernel) (by decide) (fun c11 => ?_) (fun c11 => ?_)
      · replace H := H.1 c11
        exact H h0
      · replace H := H.2 c11
        refine ar_iload (pc := 66) (i := 4) (by decide +kernel) rfl ?_
        refine ar_istore_n (pc := 68) (i := 3) (k0 := 3) (ls2 := [some (.inr (.inr 294)), some (.inl v1), some (.inl v2), some (.inl v4), some (.inl v4)]) (by decide +kernel) rfl (by decide) rfl ?_
        exact H h0
theorem B_X7_least_69 {d : Nat} {Q : Int → am_H → Prop} {h : am_H} {v1 v2 v3 v4 : Int} (H : wf (d + 1) M_X7_least Q 32 [some (.inr (.inr 294)), some (.inl v1), some (.inl v2), some (.inl v3), some (.inl (am_w32 (v4 + 1)))] [] h) : wf (d + 1) M_X7_least Q 69 [some (.inr (.inr 294)), some (.inl v1), some (.inl v2), some (.inl v3), some (.inl v4)] [] h := by
  intro h0
  refine ar_iinc (pc := 69) (i := 4) (z := 1) (x := v4) (ls2 := [some (.inr (.inr 294)), some (.inl v1), some (.inl v2), some (.inl v3), some (.inl (am_w32 (v4 + 1)))]) (by decide +kernel) rfl (by decide) rfl ?_
  refine ar_goto (pc := 72) (tgt := 32) (off := -40) (by decide +kernel) (by decide) ?_
  exact H h0
theorem B_X7_least_75 {d : Nat} {Q : Int → am_H → Prop} {h : am_H} {v2 v3 : Int} (H : cf d M_X7_bringBack [.inr (.inr 294)] h (fun _ h2 => Q v3 (am_up h2 295 6 v2))) : wf (d + 1) M_X7_least Q 75 [some (.inr (.inr 294)), none, some (.inl v2), some (.inl v3), none] [] h := by
  intro h0
  refine ar_aload_n (pc := 75) (i := 0) (k0 := 0) (by decide +kernel) rfl rfl ?_
  refine ar_callV (pc := 76) (M2 := M_X7_bringBack) (a := 294) (ci := 7) (as := []) (n2 := 321) (st := []) (by decide +kernel) rfl wm_RX7_439 wi_yX7_bringBack wl_yX7_bringBack k_294 rfl wz_RX7 wc_yX7_bringBack ⟨by decide, by decide, rfl⟩ (by decide) (Nat.le_of_ble_eq_true rfl) (Nat.le_refl _) (Nat.le_refl _) (am_Cl_mono H (fun r1 h2 H => ?_))
  show am_Wp true (d + 1) M_X7_least 321 321 h0 Q 79 [some (.inr (.inr 294)), none, some (.inl v2), some (.inl v3), none] [] 321 h2
  refine ar_aload_n (pc := 79) (i := 0) (k0 := 0) (by decide +kernel) rfl rfl ?_
  refine ar_getFV (pc := 80) (a := 294) (b := 295) 7 0 (by decide +kernel) k_294 rfl (by decide) wf_RX7_7 rfl (fun _ => rfl) rfl ?_
  refine ar_bipush (pc := 83) (z := 6) (by decide +kernel) (by omega) ?_
  refine ar_iload_n (pc := 85) (i := 2) (k0 := 2) (by decide +kernel) rfl rfl ?_
  refine ar_iast (pc := 86) (a := 295) (i := 6) (z := v2) (by decide +kernel) k_295 (by decide) (am_lt_eq (b := 2159) (by decide) (l_295).symm) ?_
  refine ar_iload_n (pc := 87) (i := 3) (k0 := 3) (by decide +kernel) rfl rfl ?_
  exact ar_iret (pc := 88) (x := v3) (by decide +kernel) rfl rfl H

/-! ByteIntervalsModel.hasValue(III)Z -/
theorem B_X7_hasValue_0 {d : Nat} {Q : Int → am_H → Prop} {h : am_H} {v1 v2 v3 : Int} (H : cf d M_X7_readBy [.inr (.inr 294), .inl v1] h (fun _ h2 => cf d M_X7_isHeld [.inr (.inr 294), .inl v2] h2 (fun r3 h4 => (r3 = 0 → Q 0 h4) ∧ (¬ r3 = 0 → (0 ≤ v2) ∧ ((v2 < 24) ∧ ((¬ (h4 312 v2) = v3 → Q 0 h4) ∧ ((h4 312 v2) = v3 → Q 1 h4))))))) : wf (d + 1) M_X7_hasValue Q 0 [some (.inr (.inr 294)), some (.inl v1), some (.inl v2), some (.inl v3)] [] h := by
  intro h0
  refine ar_aload_n (pc := 0) (i := 0) (k0 := 0) (by decide +kernel) rfl rfl ?_
  refine ar_iload_n (pc := 1) (i := 1) (k0 := 1) (by decide +kernel) rfl rfl ?_
  refine ar_callV (pc := 2) (M2 := M_X7_readBy) (a := 294) (ci := 7) (as := [.inl v1]) (n2 := 321) (st := []) (by decide +kernel) rfl wm_RX7_427 wi_yX7_readBy wl_yX7_readBy k_294 rfl wz_RX7 wc_yX7_readBy ⟨by decide, by decide, rfl⟩ (by decide) (Nat.le_of_ble_eq_true rfl) (Nat.le_refl _) (Nat.le_refl _) (am_Cl_mono H (fun r1 h2 H => ?_))
  show am_Wp true (d + 1) M_X7_hasValue 321 321 h0 Q 5 [some (.inr (.inr 294)), some (.inl v1), some (.inl v2), some (.inl v3)] [] 321 h2
  refine ar_aload_n (pc := 5) (i := 0) (k0 := 0) (by decide +kernel) rfl rfl ?_
  refine ar_iload_n (pc := 6) (i := 2) (k0 := 2) (by decide +kernel) rfl rfl ?_
  refine ar_callV (pc := 7) (M2 := M_X7_isHeld) (a := 294) (ci := 7) (as := [.inl v2]) (n2 := 321) (st := []) (by decide +kernel) rfl wm_RX7_533 wi_yX7_isHeld wl_yX7_isHeld k_294 rfl wz_RX7 wc_yX7_isHeld ⟨by decide, by decide, rfl⟩ (by decide) (Nat.le_of_ble_eq_true rfl) (Nat.le_refl _) (Nat.le_refl _) (am_Cl_mono H (fun r3 h4 H => ?_))
  show am_Wp true (d + 1) M_X7_hasValue 321 321 h0 Q 10 [some (.inr (.inr 294)), some (.inl v1), some (.inl v2), some (.inl v3)] [.inl r3] 321 h4
  refine ar_if_eq (pc := 10) (x := r3) (tgt := 27) (off := 17) (by decide +kernel) (by decide) (fun c5 => ?_) (fun c5 => ?_)
  · replace H := H.1 c5
    refine ar_iconst (pc := 27) (z := 0) (by decide +kernel) (by unfold am_i32; omega) ?_
    exact ar_zret (pc := 28) (x := 0) (by decide +kernel) rfl rfl (by decide) H
  · replace H := H.2 c5
    refine ar_aload_n (pc := 13) (i := 0) (k0 := 0) (by decide +kernel) rfl rfl ?_
    refine ar_getFV (pc := 14) (a := 294) (b := 312) 7 38 (by decide +kernel) k_294 rfl (by decide) wf_RX7_70 rfl (fun _ => rfl) rfl ?_
    refine ar_iload_n (pc := 17) (i := 2) (k0 := 2) (by decide +kernel) rfl rfl ?_
    obtain ⟨g6, H⟩ := H
    obtain ⟨g7, H⟩ := H
    refine ar_iald (pc := 18) (a := 312) (i := v2) (by decide +kernel) k_312 g6 (am_lt_eq g7 (l_312).symm) ?_
    refine ar_iload_n (pc := 19) (i := 3) (k0 := 3) (by decide +kernel) rfl rfl ?_
    refine ar_icmp_ne (pc := 20) (x := (h4 312 v2)) (y := v3) (tgt := 27) (off := 7) (by decide +kernel) (by decide) (fun c8 => ?_) (fun c8 => ?_)
    · replace H := H.1 c8
      refine ar_iconst (pc := 27) (z := 0) (by decide +kernel) (by unfold am_i32; omega) ?_
      exact ar_zret (pc := 28) (x := 0) (by decide +kernel) rfl rfl (by decide) H
    · replace H := H.2 c8
      refine ar_iconst (pc := 23) (z := 1) (by decide +kernel) (by unfold am_i32; omega) ?_
      refine ar_goto (pc := 24) (tgt := 28) (off := 4) (by decide +kernel) (by decide) ?_
      exact ar_zret (pc := 28) (x := 1) (by decide +kernel) rfl rfl (by decide) H

/-! ByteIntervalsModel.byteFor(IIII)I -/
theorem B_X7_byteFor_0 {d : Nat} {Q : Int → am_H → Prop} {h : am_H} {v1 v2 v3 v4 : Int} (H : (0 ≤ (am_w32 (8 + v4))) ∧ (((am_w32 (8 + v4)) < 2159) ∧ (wf (d + 1) M_X7_byteFor Q 18 [some (.inr (.inr 294)), some (.inl v1), some (.inl v2), some (.inl v3), some (.inl v4), some (.inl (h 295 (am_w32 (8 + v4)))), some (.inl (-1)), some (.inl 0)] [] h))) : wf (d + 1) M_X7_byteFor Q 0 [some (.inr (.inr 294)), some (.inl v1), some (.inl v2), some (.inl v3), some (.inl v4), none, none, none] [] h := by
  intro h0
  refine ar_aload_n (pc := 0) (i := 0) (k0 := 0) (by decide +kernel) rfl rfl ?_
  refine ar_getFV (pc := 1) (a := 294) (b := 295) 7 0 (by decide +kernel) k_294 rfl (by decide) wf_RX7_7 rfl (fun _ => rfl) rfl ?_
  refine ar_bipush (pc := 4) (z := 8) (by decide +kernel) (by omega) ?_
  refine ar_iload (pc := 6) (i := 4) (by decide +kernel) rfl ?_
  refine ar_iadd (pc := 8) (x := 8) (y := v4) (by decide +kernel) ?_
  obtain ⟨g1, H⟩ := H
  obtain ⟨g2, H⟩ := H
  refine ar_iald (pc := 9) (a := 295) (i := (am_w32 (8 + v4))) (by decide +kernel) k_295 g1 (am_lt_eq g2 (l_295).symm) ?_
  refine ar_istore (pc := 10) (i := 5) (ls2 := [some (.inr (.inr 294)), some (.inl v1), some (.inl v2), some (.inl v3), some (.inl v4), some (.inl (h 295 (am_w32 (8 + v4)))), none, none]) (by decide +kernel) (by decide) rfl ?_
  refine ar_iconst (pc := 12) (z := (-1)) (by decide +kernel) (by unfold am_i32; omega) ?_
  refine ar_istore (pc := 13) (i := 6) (ls2 := [some (.inr (.inr 294)), some (.inl v1), some (.inl v2), some (.inl v3), some (.inl v4), some (.inl (h 295 (am_w32 (8 + v4)))), some (.inl (-1)), none]) (by decide +kernel) (by decide) rfl ?_
  refine ar_iconst (pc := 15) (z := 0) (by decide +kernel) (by unfold am_i32; omega) ?_
  refine ar_istore (pc := 16) (i := 7) (ls2 := [some (.inr (.inr 294)), some (.inl v1), some (.inl v2), some (.inl v3), some (.inl v4), some (.inl (h 295 (am_w32 (8 + v4)))), some (.inl (-1)), some (.inl 0)]) (by decide +kernel) (by decide) rfl ?_
  exact H h0
theorem B_X7_byteFor_18 {d : Nat} {Q : Int → am_H → Prop} {h : am_H} {v1 v2 v3 v4 v5 v6 v7 : Int} (H : (256 ≤ v7 → wf (d + 1) M_X7_byteFor Q 71 [some (.inr (.inr 294)), none, none, none, some (.inl v4), some (.inl v5), some (.inl v6), none] [] h) ∧ (v7 < 256 → (¬ v6 = (-1) → wf (d + 1) M_X7_byteFor Q 71 [some (.inr (.inr 294)), none, none, none, some (.inl v4), some (.inl v5), some (.inl v6), none] [] h) ∧ (v6 = (-1) → (0 ≤ (am_w32 (8 + v4))) ∧ (((am_w32 (8 + v4)) < 2159) ∧ ((v7 = v5 → wf (d + 1) M_X7_byteFor Q 65 [some (.inr (.inr 294)), some (.inl v1), some (.inl v2), some (.inl v3), some (.inl v4), some (.inl v5), some (.inl v6), some (.inl v7)] [] (am_up h 295 (am_w32 (8 + v4)) v7)) ∧ (¬ v7 = v5 → cf d M_X7_hasValue [.inr (.inr 294), .inl v1, .inl v2, .inl v3] (am_up h 295 (am_w32 (8 + v4)) v7) (fun r6 h7 => (r6 = 0 → wf (d + 1) M_X7_byteFor Q 65 [some (.inr (.inr 294)), some (.inl v1), some (.inl v2), some (.inl v3), some (.inl v4), some (.inl v5), some (.inl v6), some (.inl v7)] [] h7) ∧ (¬ r6 = 0 → wf (d + 1) M_X7_byteFor Q 65 [some (.inr (.inr 294)), some (.inl v1), some (.inl v2), some (.inl v3), some (.inl v4), some (.inl v5), some (.inl v7), some (.inl v7)] [] h7)))))))) : wf (d + 1) M_X7_byteFor Q 18 [some (.inr (.inr 294)), some (.inl v1), some (.inl v2), some (.inl v3), some (.inl v4), some (.inl v5), some (.inl v6), some (.inl v7)] [] h := by
  intro h0
  refine ar_iload (pc := 18) (i := 7) (by decide +kernel) rfl ?_
  refine ar_sipush (pc := 20) (z := 256) (by decide +kernel) (by omega) ?_
  refine ar_icmp_ge (pc := 23) (x := v7) (y := 256) (tgt := 71) (off := 48) (by decide +kernel) (by decide) (fun c1 => ?_) (fun c1 => ?_)
  · replace H := H.1 c1
    refine ar_forget [true, false, false, false, true, true, true, false] rfl ?_
    exact H h0
  · replace H := H.2 c1
    refine ar_iload (pc := 26) (i := 6) (by decide +kernel) rfl ?_
    refine ar_iconst (pc := 28) (z := (-1)) (by decide +kernel) (by unfold am_i32; omega) ?_
    refine ar_icmp_ne (pc := 29) (x := v6) (y := (-1)) (tgt := 71) (off := 42) (by decide +kernel) (by decide) (fun c2 => ?_) (fun c2 => ?_)
    · replace H := H.1 c2
      refine ar_forget [true, false, false, false, true, true, true, false] rfl ?_
      exact H h0
    · replace H := H.2 c2
      refine ar_aload_n (pc := 32) (i := 0) (k0 := 0) (by decide +kernel) rfl rfl ?_
      refine ar_getFV (pc := 33) (a := 294) (b := 295) 7 0 (by decide +kernel) k_294 rfl (by decide) wf_RX7_7 rfl (fun _ => rfl) rfl ?_
      refine ar_bipush (pc := 36) (z := 8) (by decide +kernel) (by omega) ?_
      refine ar_iload (pc := 38) (i := 4) (by decide +kernel) rfl ?_
      refine ar_iadd (pc := 40) (x := 8) (y := v4) (by decide +kernel) ?_
      refine ar_iload (pc := 41) (i := 7) (by decide +kernel) rfl ?_
      obtain ⟨g3, H⟩ := H
      obtain ⟨g4, H⟩ := H
      refine ar_iast (pc := 43) (a := 295) (i := (am_w32 (8 + v4))) (z := v7) (by decide +kernel) k_295 g3 (am_lt_eq g4 (l_295).symm) ?_
      refine ar_iload (pc := 44) (i := 7) (by decide +kernel) rfl ?_
      refine ar_iload (pc := 46) (i := 5) (by decide +kernel) rfl ?_
      refine ar_icmp_eq (pc := 48) (x := v7) (y := v5) (tgt := 65) (off := 17) (by decide +kernel) (by decide) (fun c5 => ?_) (fun c5 => ?_)
      · replace H := H.1 c5
        exact H h0
      · replace H := H.2 c5
        refine ar_aload_n (pc := 51) (i := 0) (k0 := 0) (by decide +kernel) rfl rfl ?_
        refine ar_iload_n (pc := 52) (i := 1) (k0 := 1) (by decide +kernel) rfl rfl ?_
        refine ar_iload_n (pc := 53) (i := 2) (k0 := 2) (by decide +kernel) rfl rfl ?_
        refine ar_iload_n (pc := 54) (i := 3) (k0 := 3) (by decide +kernel) rfl rfl ?_
        refine ar_callV (pc := 55) (M2 := M_X7_hasValue) (a := 294) (ci := 7) (as := [.inl v1, .inl v2, .inl v3]) (n2 := 321) (st := []) (by decide +kernel) rfl wm_RX7_544 wi_yX7_hasValue wl_yX7_hasValue k_294 rfl wz_RX7 wc_yX7_hasValue ⟨by decide, by decide, rfl⟩ (by decide) (Nat.le_of_ble_eq_true rfl) (Nat.le_refl _) (Nat.le_refl _) (am_Cl_mono H (fun r6 h7 H => ?_))
        show am_Wp true (d + 1) M_X7_byteFor 321 321 h0 Q 58 [some (.inr (.inr 294)), some (.inl v1), some (.inl v2), some (.inl v3), some (.inl v4), some (.inl v5), some (.inl v6), some (.inl v7)] [.inl r6] 321 h7
        refine ar_if_eq (pc := 58) (x := r6) (tgt := 65) (off := 7) (by decide +kernel) (by decide) (fun c8 => ?_) (fun c8 => ?_)
        · replace H := H.1 c8
          exact H h0
        · replace H := H.2 c8
          refine ar_iload (pc := 61) (i := 7) (by decide +kernel) rfl ?_
          refine ar_istore (pc := 63) (i := 6) (ls2 := [some (.inr (.inr 294)), some (.inl v1), some (.inl v2), some (.inl v3), some (.inl v4), some (.inl v5), some (.inl v7), some (.inl v7)]) (by decide +kernel) (by decide) rfl ?_
          exact H h0
theorem B_X7_byteFor_65 {d : Nat} {Q : Int → am_H → Prop} {h : am_H} {v1 v2 v3 v4 v5 v6 v7 : Int} (H : wf (d + 1) M_X7_byteFor Q 18 [some (.inr (.inr 294)), some (.inl v1), some (.inl v2), some (.inl v3), some (.inl v4), some (.inl v5), some (.inl v6), some (.inl (am_w32 (v7 + 1)))] [] h) : wf (d + 1) M_X7_byteFor Q 65 [some (.inr (.inr 294)), some (.inl v1), some (.inl v2), some (.inl v3), some (.inl v4), some (.inl v5), some (.inl v6), some (.inl v7)] [] h := by
  intro h0
  refine ar_iinc (pc := 65) (i := 7) (z := 1) (x := v7) (ls2 := [some (.inr (.inr 294)), some (.inl v1), some (.inl v2), some (.inl v3), some (.inl v4), some (.inl v5), some (.inl v6), some (.inl (am_w32 (v7 + 1)))]) (by decide +kernel) rfl (by decide) rfl ?_
  refine ar_goto (pc := 68) (tgt := 18) (off := -50) (by decide +kernel) (by decide) ?_
  exact H h0
theorem B_X7_byteFor_71 {d : Nat} {Q : Int → am_H → Prop} {h : am_H} {v4 v5 v6 : Int} (H : (0 ≤ (am_w32 (8 + v4))) ∧ (((am_w32 (8 + v4)) < 2159) ∧ (Q v6 (am_up h 295 (am_w32 (8 + v4)) v5)))) : wf (d + 1) M_X7_byteFor Q 71 [some (.inr (.inr 294)), none, none, none, some (.inl v4), some (.inl v5), some (.inl v6), none] [] h := by
  intro h0
  refine ar_aload_n (pc := 71) (i := 0) (k0 := 0) (by decide +kernel) rfl rfl ?_
  refine ar_getFV (pc := 72) (a := 294) (b := 295) 7 0 (by decide +kernel) k_294 rfl (by decide) wf_RX7_7 rfl (fun _ => rfl) rfl ?_
  refine ar_bipush (pc := 75) (z := 8) (by decide +kernel) (by omega) ?_
  refine ar_iload (pc := 77) (i := 4) (by decide +kernel) rfl ?_
  refine ar_iadd (pc := 79) (x := 8) (y := v4) (by decide +kernel) ?_
  refine ar_iload (pc := 80) (i := 5) (by decide +kernel) rfl ?_
  obtain ⟨g1, H⟩ := H
  obtain ⟨g2, H⟩ := H
  refine ar_iast (pc := 82) (a := 295) (i := (am_w32 (8 + v4))) (z := v5) (by decide +kernel) k_295 g1 (am_lt_eq g2 (l_295).symm) ?_
  refine ar_iload (pc := 83) (i := 6) (by decide +kernel) rfl ?_
  exact ar_iret (pc := 85) (x := v6) (by decide +kernel) rfl rfl H

/-! ByteIntervalsModel.make(III)I -/
theorem B_X7_make_0 {d : Nat} {Q : Int → am_H → Prop} {h : am_H} {v1 v2 v3 : Int} (H : cf d M_X7_isText [.inr (.inr 294), .inl v1] h (fun r1 h2 => (r1 = 0 → Q (-1) h2) ∧ (¬ r1 = 0 → cf d M_X7_isField [.inl v2] h2 (fun r4 h5 => (r4 = 0 → Q (-1) h5) ∧ (¬ r4 = 0 → cf d M_X7_isIn [.inl v3, .inl 0, .inl 16777215] h5 (fun r7 h8 => (¬ r7 = 0 → cf d M_X7_needs [.inr (.inr 294), .inl v1, .inl v2] h8 (fun r10 h11 => (0 ≤ v2) ∧ ((v2 < 8) ∧ ((0 ≤ (h11 305 v2) → cf d M_X7_isHeld [.inr (.inr 294), .inl v2] h11 (fun r15 h16 => (r15 = 0 → wf (d + 1) M_X7_make Q 69 [some (.inr (.inr 294)), some (.inl v1), some (.inl v2), some (.inl v3), some (.inr (.inl r10)), none, none, none, none] [] h16) ∧ (¬ r15 = 0 → (v2 < 24) ∧ ((¬ (h16 312 v2) = v3 → wf (d + 1) M_X7_make Q 69 [some (.inr (.inr 294)), some (.inl v1), some (.inl v2), some (.inl v3), some (.inr (.inl r10)), none, none, none, none] [] h16) ∧ ((h16 312 v2) = v3 → wf (d + 1) M_X7_make Q 70 [some (.inr (.inr 294)), some (.inl v1), some (.inl v2), some (.inl v3), some (.inr (.inl r10)), none, none, none, none] [.inl 1] h16))))) ∧ ((h11 305 v2) < 0 → Q (-1) h11))))) ∧ (r7 = 0 → Q (-1) h8))))))) : wf (d + 1) M_X7_make Q 0 [some (.inr (.inr 294)), some (.inl v1), some (.inl v2), some (.inl v3), none, none, none, none, none] [] h := by
  intro h0
  refine ar_aload_n (pc := 0) (i := 0) (k0 := 0) (by decide +kernel) rfl rfl ?_
  refine ar_iload_n (pc := 1) (i := 1) (k0 := 1) (by decide +kernel) rfl rfl ?_
  refine ar_callV (pc := 2) (M2 := M_X7_isText) (a := 294) (ci := 7) (as := [.inl v1]) (n2 := 321) (st := []) (by decide +kernel) rfl wm_RX7_502 wi_yX7_isText wl_yX7_isText k_294 rfl wz_RX7 wc_yX7_isText ⟨by decide, by decide, rfl⟩ (by decide) (Nat.le_of_ble_eq_true rfl) (Nat.le_refl _) (Nat.le_refl _) (am_Cl_mono H (fun r1 h2 H => ?_))
  show am_Wp true (d + 1) M_X7_make 321 321 h0 Q 5 [some (.inr (.inr 294)), some (.inl v1), some (.inl v2), some (.inl v3), none, none, none, none, none] [.inl r1] 321 h2
  refine ar_if_eq (pc := 5) (x := r1) (tgt := 26) (off := 21) (by decide +kernel) (by decide) (fun c3 => ?_) (fun c3 => ?_)
  · replace H := H.1 c3
    refine ar_iconst (pc := 26) (z := (-1)) (by decide +kernel) (by unfold am_i32; omega) ?_
    exact ar_iret (pc := 27) (x := (-1)) (by decide +kernel) rfl rfl H
  · replace H := H.2 c3
    refine ar_iload_n (pc := 8) (i := 2) (k0 := 2) (by decide +kernel) rfl rfl ?_
    refine ar_callS (pc := 9) (M2 := M_X7_isField) (as := [.inl v2]) (n2 := 321) (st := []) (by decide +kernel) rfl wm_RX7_521 ws_yX7_isField wz_RX7 wc_yX7_isField ⟨by decide, by decide, rfl⟩ (by decide) (Nat.le_of_ble_eq_true rfl) (Nat.le_refl _) (Nat.le_refl _) (am_Cl_mono H (fun r4 h5 H => ?_))
    show am_Wp true (d + 1) M_X7_make 321 321 h0 Q 12 [some (.inr (.inr 294)), some (.inl v1), some (.inl v2), some (.inl v3), none, none, none, none, none] [.inl r4] 321 h5
    refine ar_if_eq (pc := 12) (x := r4) (tgt := 26) (off := 14) (by decide +kernel) (by decide) (fun c6 => ?_) (fun c6 => ?_)
    · replace H := H.1 c6
      refine ar_iconst (pc := 26) (z := (-1)) (by decide +kernel) (by unfold am_i32; omega) ?_
      exact ar_iret (pc := 27) (x := (-1)) (by decide +kernel) rfl rfl H
    · replace H := H.2 c6
      refine ar_iload_n (pc := 15) (i := 3) (k0 := 3) (by decide +kernel) rfl rfl ?_
      refine ar_iconst (pc := 16) (z := 0) (by decide +kernel) (by unfold am_i32; omega) ?_
      refine ar_ldcw (pc := 17) (z := 16777215) (by decide +kernel) wk_RX7_547 (by unfold am_i32; omega) ?_
      refine ar_callS (pc := 20) (M2 := M_X7_isIn) (as := [.inl v3, .inl 0, .inl 16777215]) (n2 := 321) (st := []) (by decide +kernel) rfl wm_RX7_108 ws_yX7_isIn wz_RX7 wc_yX7_isIn ⟨by decide, by decide, rfl⟩ (by decide) (Nat.le_of_ble_eq_true rfl) (Nat.le_refl _) (Nat.le_refl _) (am_Cl_mono H (fun r7 h8 H => ?_))
      show am_Wp true (d + 1) M_X7_make 321 321 h0 Q 23 [some (.inr (.inr 294)), some (.inl v1), some (.inl v2), some (.inl v3), none, none, none, none, none] [.inl r7] 321 h8
      refine ar_if_ne (pc := 23) (x := r7) (tgt := 28) (off := 5) (by decide +kernel) (by decide) (fun c9 => ?_) (fun c9 => ?_)
      · replace H := H.1 c9
        refine ar_aload_n (pc := 28) (i := 0) (k0 := 0) (by decide +kernel) rfl rfl ?_
        refine ar_iload_n (pc := 29) (i := 1) (k0 := 1) (by decide +kernel) rfl rfl ?_
        refine ar_iload_n (pc := 30) (i := 2) (k0 := 2) (by decide +kernel) rfl rfl ?_
        refine ar_callV (pc := 31) (M2 := M_X7_needs) (a := 294) (ci := 7) (as := [.inl v1, .inl v2]) (n2 := 321) (st := []) (by decide +kernel) rfl wm_RX7_548 wi_yX7_needs wl_yX7_needs k_294 rfl wz_RX7 wc_yX7_needs ⟨by decide, by decide, rfl⟩ (by decide) (Nat.le_of_ble_eq_true rfl) (Nat.le_refl _) (Nat.le_refl _) (am_Cl_mono H (fun r10 h11 H => ?_))
        show am_Wp true (d + 1) M_X7_make 321 321 h0 Q 34 [some (.inr (.inr 294)), some (.inl v1), some (.inl v2), some (.inl v3), none, none, none, none, none] [.inr (.inl r10)] 321 h11
        refine ar_lstore (pc := 34) (i := 4) (ls2 := [some (.inr (.inr 294)), some (.inl v1), some (.inl v2), some (.inl v3), some (.inr (.inl r10)), none, none, none, none]) (by decide +kernel) (by decide) rfl ?_
        refine ar_aload_n (pc := 36) (i := 0) (k0 := 0) (by decide +kernel) rfl rfl ?_
        refine ar_getFV (pc := 37) (a := 294) (b := 305) 7 28 (by decide +kernel) k_294 rfl (by decide) wf_RX7_49 rfl (fun _ => rfl) rfl ?_
        refine ar_iload_n (pc := 40) (i := 2) (k0 := 2) (by decide +kernel) rfl rfl ?_
        obtain ⟨g12, H⟩ := H
        obtain ⟨g13, H⟩ := H
        refine ar_iald (pc := 41) (a := 305) (i := v2) (by decide +kernel) k_305 g12 (am_lt_eq g13 (l_305).symm) ?_
        refine ar_if_ge (pc := 42) (x := (h11 305 v2)) (tgt := 47) (off := 5) (by decide +kernel) (by decide) (fun c14 => ?_) (fun c14 => ?_)
        · replace H := H.1 c14
          refine ar_aload_n (pc := 47) (i := 0) (k0 := 0) (by decide +kernel) rfl rfl ?_
          refine ar_iload_n (pc := 48) (i := 2) (k0 := 2) (by decide +kernel) rfl rfl ?_
          refine ar_callV (pc := 49) (M2 := M_X7_isHeld) (a := 294) (ci := 7) (as := [.inl v2]) (n2 := 321) (st := []) (by decide +kernel) rfl wm_RX7_533 wi_yX7_isHeld wl_yX7_isHeld k_294 rfl wz_RX7 wc_yX7_isHeld ⟨by decide, by decide, rfl⟩ (by decide) (Nat.le_of_ble_eq_true rfl) (Nat.le_refl _) (Nat.le_refl _) (am_Cl_mono H (fun r15 h16 H => ?_))
          show am_Wp true (d + 1) M_X7_make 321 321 h0 Q 52 [some (.inr (.inr 294)), some (.inl v1), some (.inl v2), some (.inl v3), some (.inr (.inl r10)), none, none, none, none] [.inl r15] 321 h16
          refine ar_if_eq (pc := 52) (x := r15) (tgt := 69) (off := 17) (by decide +kernel) (by decide) (fun c17 => ?_) (fun c17 => ?_)
          · replace H := H.1 c17
            exact H h0
          · replace H := H.2 c17
            refine ar_aload_n (pc := 55) (i := 0) (k0 := 0) (by decide +kernel) rfl rfl ?_
            refine ar_getFV (pc := 56) (a := 294) (b := 312) 7 38 (by decide +kernel) k_294 rfl (by decide) wf_RX7_70 rfl (fun _ => rfl) rfl ?_
            refine ar_iload_n (pc := 59) (i := 2) (k0 := 2) (by decide +kernel) rfl rfl ?_
            obtain ⟨g18, H⟩ := H
            refine ar_iald (pc := 60) (a := 312) (i := v2) (by decide +kernel) k_312 g12 (am_lt_eq g18 (l_312).symm) ?_
            refine ar_iload_n (pc := 61) (i := 3) (k0 := 3) (by decide +kernel) rfl rfl ?_
            refine ar_icmp_ne (pc := 62) (x := (h16 312 v2)) (y := v3) (tgt := 69) (off := 7) (by decide +kernel) (by decide) (fun c19 => ?_) (fun c19 => ?_)
            · replace H := H.1 c19
              exact H h0
            · replace H := H.2 c19
              refine ar_iconst (pc := 65) (z := 1) (by decide +kernel) (by unfold am_i32; omega) ?_
              refine ar_goto (pc := 66) (tgt := 70) (off := 4) (by decide +kernel) (by decide) ?_
              exact H h0
        · replace H := H.2 c14
          refine ar_iconst (pc := 45) (z := (-1)) (by decide +kernel) (by unfold am_i32; omega) ?_
          exact ar_iret (pc := 46) (x := (-1)) (by decide +kernel) rfl rfl H
      · replace H := H.2 c9
        refine ar_iconst (pc := 26) (z := (-1)) (by decide +kernel) (by unfold am_i32; omega) ?_
        exact ar_iret (pc := 27) (x := (-1)) (by decide +kernel) rfl rfl H
theorem B_X7_make_69 {d : Nat} {Q : Int → am_H → Prop} {h : am_H} {v1 v2 v3 v4 : Int} (H : wf (d + 1) M_X7_make Q 70 [some (.inr (.inr 294)), some (.inl v1), some (.inl v2), some (.inl v3), some (.inr (.inl v4)), none, none, none, none] [.inl 0] h) : wf (d + 1) M_X7_make Q 69 [some (.inr (.inr 294)), some (.inl v1), some (.inl v2), some (.inl v3), some (.inr (.inl v4)), none, none, none, none] [] h := by
  intro h0
  refine ar_iconst (pc := 69) (z := 0) (by decide +kernel) (by unfold am_i32; omega) ?_
  exact H h0
theorem B_X7_make_70 {d : Nat} {Q : Int → am_H → Prop} {h : am_H} {v1 v2 v3 v4 s0 : Int} (H : wf (d + 1) M_X7_make Q 75 [some (.inr (.inr 294)), some (.inl v1), some (.inl v2), some (.inl v3), some (.inr (.inl v4)), none, some (.inl s0), some (.inl 0), none] [] h) : wf (d + 1) M_X7_make Q 70 [some (.inr (.inr 294)), some (.inl v1), some (.inl v2), some (.inl v3), some (.inr (.inl v4)), none, none, none, none] [.inl s0] h := by
  intro h0
  refine ar_istore (pc := 70) (i := 6) (ls2 := [some (.inr (.inr 294)), some (.inl v1), some (.inl v2), some (.inl v3), some (.inr (.inl v4)), none, some (.inl s0), none, none]) (by decide +kernel) (by decide) rfl ?_
  refine ar_iconst (pc := 72) (z := 0) (by decide +kernel) (by unfold am_i32; omega) ?_
  refine ar_istore (pc := 73) (i := 7) (ls2 := [some (.inr (.inr 294)), some (.inl v1), some (.inl v2), some (.inl v3), some (.inr (.inl v4)), none, some (.inl s0), some (.inl 0), none]) (by decide +kernel) (by decide) rfl ?_
  exact H h0
theorem B_X7_make_75 {d : Nat} {Q : Int → am_H → Prop} {h : am_H} {v1 v2 v3 v4 v6 v7 : Int} (H : ((h 295 6) ≤ v7 → Q (-1) h) ∧ (v7 < (h 295 6) → (¬ (am_lcmp (am_land (am_lshr v4 v7) 1) 1) = 0 → (¬ v6 = 0 → (0 ≤ (am_w32 (8 + v7))) ∧ (((am_w32 (8 + v7)) < 2159) ∧ ((¬ (h 295 (am_w32 (8 + v7))) = 0 → wf (d + 1) M_X7_make Q 138 [some (.inr (.inr 294)), some (.inl v1), some (.inl v2), some (.inl v3), some (.inr (.inl v4)), none, some (.inl v6), some (.inl v7), none] [.inl 0] h) ∧ ((h 295 (am_w32 (8 + v7))) = 0 → wf (d + 1) M_X7_make Q 138 [some (.inr (.inr 294)), some (.inl v1), some (.inl v2), some (.inl v3), some (.inr (.inl v4)), none, some (.inl v6), some (.inl v7), none] [.inl 1] h)))) ∧ (v6 = 0 → wf (d + 1) M_X7_make Q 138 [some (.inr (.inr 294)), some (.inl v1), some (.inl v2), some (.inl v3), some (.inr (.inl v4)), none, some (.inl v6), some (.inl v7), none] [.inl (-1)] h)) ∧ ((am_lcmp (am_land (am_lshr v4 v7) 1) 1) = 0 → cf d M_X7_byteFor [.inr (.inr 294), .inl v1, .inl v2, .inl v3, .inl v7] h (fun r7 h8 => wf (d + 1) M_X7_make Q 138 [some (.inr (.inr 294)), some (.inl v1), some (.inl v2), some (.inl v3), some (.inr (.inl v4)), none, some (.inl v6), some (.inl v7), none] [.inl r7] h8)))) : wf (d + 1) M_X7_make Q 75 [some (.inr (.inr 294)), some (.inl v1), some (.inl v2), some (.inl v3), some (.inr (.inl v4)), none, some (.inl v6), some (.inl v7), none] [] h := by
  intro h0
  refine ar_iload (pc := 75) (i := 7) (by decide +kernel) rfl ?_
  refine ar_aload_n (pc := 77) (i := 0) (k0 := 0) (by decide +kernel) rfl rfl ?_
  refine ar_getFV (pc := 78) (a := 294) (b := 295) 7 0 (by decide +kernel) k_294 rfl (by decide) wf_RX7_7 rfl (fun _ => rfl) rfl ?_
  refine ar_bipush (pc := 81) (z := 6) (by decide +kernel) (by omega) ?_
  refine ar_iald (pc := 83) (a := 295) (i := 6) (by decide +kernel) k_295 (by decide) (am_lt_eq (b := 2159) (by decide) (l_295).symm) ?_
  refine ar_icmp_ge (pc := 84) (x := v7) (y := (h 295 6)) (tgt := 162) (off := 78) (by decide +kernel) (by decide) (fun c1 => ?_) (fun c1 => ?_)
  · replace H := H.1 c1
    refine ar_iconst (pc := 162) (z := (-1)) (by decide +kernel) (by unfold am_i32; omega) ?_
    exact ar_iret (pc := 163) (x := (-1)) (by decide +kernel) rfl rfl H
  · replace H := H.2 c1
    refine ar_lload (pc := 87) (i := 4) (by decide +kernel) rfl ?_
    refine ar_iload (pc := 89) (i := 7) (by decide +kernel) rfl ?_
    refine ar_lshr (pc := 91) (x := v4) (y := v7) (by decide +kernel) ?_
    refine ar_lconst (pc := 92) (i := 1) (z := 1) (by decide +kernel) rfl ?_
    refine ar_land (pc := 93) (x := (am_lshr v4 v7)) (y := 1) (by decide +kernel) ?_
    refine ar_lconst (pc := 94) (i := 1) (z := 1) (by decide +kernel) rfl ?_
    refine ar_lcmp (pc := 95) (x := (am_land (am_lshr v4 v7) 1)) (y := 1) (by decide +kernel) ?_
    refine ar_if_ne (pc := 96) (x := (am_lcmp (am_land (am_lshr v4 v7) 1) 1)) (tgt := 111) (off := 15) (by decide +kernel) (by decide) (fun c2 => ?_) (fun c2 => ?_)
    · replace H := H.1 c2
      refine ar_iload (pc := 111) (i := 6) (by decide +kernel) rfl ?_
      refine ar_if_ne (pc := 113) (x := v6) (tgt := 120) (off := 7) (by decide +kernel) (by decide) (fun c3 => ?_) (fun c3 => ?_)
      · replace H := H.1 c3
        refine ar_aload_n (pc := 120) (i := 0) (k0 := 0) (by decide +kernel) rfl rfl ?_
        refine ar_getFV (pc := 121) (a := 294) (b := 295) 7 0 (by decide +kernel) k_294 rfl (by decide) wf_RX7_7 rfl (fun _ => rfl) rfl ?_
        refine ar_bipush (pc := 124) (z := 8) (by decide +kernel) (by omega) ?_
        refine ar_iload (pc := 126) (i := 7) (by decide +kernel) rfl ?_
        refine ar_iadd (pc := 128) (x := 8) (y := v7) (by decide +kernel) ?_
        obtain ⟨g4, H⟩ := H
        obtain ⟨g5, H⟩ := H
        refine ar_iald (pc := 129) (a := 295) (i := (am_w32 (8 + v7))) (by decide +kernel) k_295 g4 (am_lt_eq g5 (l_295).symm) ?_
        refine ar_if_ne (pc := 130) (x := (h 295 (am_w32 (8 + v7)))) (tgt := 137) (off := 7) (by decide +kernel) (by decide) (fun c6 => ?_) (fun c6 => ?_)
        · replace H := H.1 c6
          refine ar_iconst (pc := 137) (z := 0) (by decide +kernel) (by unfold am_i32; omega) ?_
          exact H h0
        · replace H := H.2 c6
          refine ar_iconst (pc := 133) (z := 1) (by decide +kernel) (by unfold am_i32; omega) ?_
          refine ar_goto (pc := 134) (tgt := 138) (off := 4) (by decide +kernel) (by decide) ?_
          exact H h0
      · replace H := H.2 c3
        refine ar_iconst (pc := 116) (z := (-1)) (by decide +kernel) (by unfold am_i32; omega) ?_
        refine ar_goto (pc := 117) (tgt := 138) (off := 21) (by decide +kernel) (by decide) ?_
        exact H h0
    · replace H := H.2 c2
      refine ar_aload_n (pc := 99) (i := 0) (k0 := 0) (by decide +kernel) rfl rfl ?_
      refine ar_iload_n (pc := 100) (i := 1) (k0 := 1) (by decide +kernel) rfl rfl ?_
      refine ar_iload_n (pc := 101) (i := 2) (k0 := 2) (by decide +kernel) rfl rfl ?_
      refine ar_iload_n (pc := 102) (i := 3) (k0 := 3) (by decide +kernel) rfl rfl ?_
      refine ar_iload (pc := 103) (i := 7) (by decide +kernel) rfl ?_
      refine ar_callV (pc := 105) (M2 := M_X7_byteFor) (a := 294) (ci := 7) (as := [.inl v1, .inl v2, .inl v3, .inl v7]) (n2 := 321) (st := []) (by decide +kernel) rfl wm_RX7_551 wi_yX7_byteFor wl_yX7_byteFor k_294 rfl wz_RX7 wc_yX7_byteFor ⟨by decide, by decide, rfl⟩ (by decide) (Nat.le_of_ble_eq_true rfl) (Nat.le_refl _) (Nat.le_refl _) (am_Cl_mono H (fun r7 h8 H => ?_))
      show am_Wp true (d + 1) M_X7_make 321 321 h0 Q 108 [some (.inr (.inr 294)), some (.inl v1), some (.inl v2), some (.inl v3), some (.inr (.inl v4)), none, some (.inl v6), some (.inl v7), none] [.inl r7] 321 h8
      refine ar_goto (pc := 108) (tgt := 138) (off := 30) (by decide +kernel) (by decide) ?_
      exact H h0
theorem B_X7_make_138 {d : Nat} {Q : Int → am_H → Prop} {h : am_H} {v1 v2 v3 v4 v6 v7 s0 : Int} (H : (s0 = (-1) → wf (d + 1) M_X7_make Q 75 [some (.inr (.inr 294)), some (.inl v1), some (.inl v2), some (.inl v3), some (.inr (.inl v4)), none, some (.inl v6), some (.inl (am_w32 (v7 + 1))), none] [] h) ∧ (¬ s0 = (-1) → Q (am_w32 ((am_w32 (256 * v7)) + s0)) h)) : wf (d + 1) M_X7_make Q 138 [some (.inr (.inr 294)), some (.inl v1), some (.inl v2), some (.inl v3), some (.inr (.inl v4)), none, some (.inl v6), some (.inl v7), none] [.inl s0] h := by
  intro h0
  refine ar_istore (pc := 138) (i := 8) (ls2 := [some (.inr (.inr 294)), some (.inl v1), some (.inl v2), some (.inl v3), some (.inr (.inl v4)), none, some (.inl v6), some (.inl v7), some (.inl s0)]) (by decide +kernel) (by decide) rfl ?_
  refine ar_iload (pc := 140) (i := 8) (by decide +kernel) rfl ?_
  refine ar_iconst (pc := 142) (z := (-1)) (by decide +kernel) (by unfold am_i32; omega) ?_
  refine ar_icmp_eq (pc := 143) (x := s0) (y := (-1)) (tgt := 156) (off := 13) (by decide +kernel) (by decide) (fun c1 => ?_) (fun c1 => ?_)
  · replace H := H.1 c1
    refine ar_iinc (pc := 156) (i := 7) (z := 1) (x := v7) (ls2 := [some (.inr (.inr 294)), some (.inl v1), some (.inl v2), some (.inl v3), some (.inr (.inl v4)), none, some (.inl v6), some (.inl (am_w32 (v7 + 1))), some (.inl s0)]) (by decide +kernel) rfl (by decide) rfl ?_
    refine ar_goto (pc := 159) (tgt := 75) (off := -84) (by decide +kernel) (by decide) ?_
    refine ar_forget [true, true, true, true, true, true, true, true, false] rfl ?_
    exact H h0
  · replace H := H.2 c1
    refine ar_sipush (pc := 146) (z := 256) (by decide +kernel) (by omega) ?_
    refine ar_iload (pc := 149) (i := 7) (by decide +kernel) rfl ?_
    refine ar_imul (pc := 151) (x := 256) (y := v7) (by decide +kernel) ?_
    refine ar_iload (pc := 152) (i := 8) (by decide +kernel) rfl ?_
    refine ar_iadd (pc := 154) (x := (am_w32 (256 * v7))) (y := s0) (by decide +kernel) ?_
    exact ar_iret (pc := 155) (x := (am_w32 ((am_w32 (256 * v7)) + s0))) (by decide +kernel) rfl rfl H

/-! ByteIntervalsModel.alike(II)I -/
theorem B_X7_alike_0 {d : Nat} {Q : Int → am_H → Prop} {h : am_H} {v1 v2 : Int} (H : cf d M_X7_isText [.inr (.inr 294), .inl v1] h (fun r1 h2 => (r1 = 0 → Q (-1) h2) ∧ (¬ r1 = 0 → cf d M_X7_isText [.inr (.inr 294), .inl v2] h2 (fun r4 h5 => (¬ r4 = 0 → cf d M_X7_read [.inr (.inr 294), .inl v1] h5 (fun _ h8 => wf (d + 1) M_X7_alike Q 25 [some (.inr (.inr 294)), none, some (.inl v2), some (.inl 0), none] [] h8)) ∧ (r4 = 0 → Q (-1) h5))))) : wf (d + 1) M_X7_alike Q 0 [some (.inr (.inr 294)), some (.inl v1), some (.inl v2), none, none] [] h := by
  intro h0
  refine ar_aload_n (pc := 0) (i := 0) (k0 := 0) (by decide +kernel) rfl rfl ?_
  refine ar_iload_n (pc := 1) (i := 1) (k0 := 1) (by decide +kernel) rfl rfl ?_
  refine ar_callV (pc := 2) (M2 := M_X7_isText) (a := 294) (ci := 7) (as := [.inl v1]) (n2 := 321) (st := []) (by decide +kernel) rfl wm_RX7_502 wi_yX7_isText wl_yX7_isText k_294 rfl wz_RX7 wc_yX7_isText ⟨by decide, by decide, rfl⟩ (by decide) (Nat.le_of_ble_eq_true rfl) (Nat.le_refl _) (Nat.le_refl _) (am_Cl_mono H (fun r1 h2 H => ?_))
  show am_Wp true (d + 1) M_X7_alike 321 321 h0 Q 5 [some (.inr (.inr 294)), some (.inl v1), some (.inl v2), none, none] [.inl r1] 321 h2
  refine ar_if_eq (pc := 5) (x := r1) (tgt := 16) (off := 11) (by decide +kernel) (by decide) (fun c3 => ?_) (fun c3 => ?_)
  · replace H := H.1 c3
    refine ar_iconst (pc := 16) (z := (-1)) (by decide +kernel) (by unfold am_i32; omega) ?_
    exact ar_iret (pc := 17) (x := (-1)) (by decide +kernel) rfl rfl H
  · replace H := H.2 c3
    refine ar_aload_n (pc := 8) (i := 0) (k0 := 0) (by decide +kernel) rfl rfl ?_
    refine ar_iload_n (pc := 9) (i := 2) (k0 := 2) (by decide +kernel) rfl rfl ?_
    refine ar_callV (pc := 10) (M2 := M_X7_isText) (a := 294) (ci := 7) (as := [.inl v2]) (n2 := 321) (st := []) (by decide +kernel) rfl wm_RX7_502 wi_yX7_isText wl_yX7_isText k_294 rfl wz_RX7 wc_yX7_isText ⟨by decide, by decide, rfl⟩ (by decide) (Nat.le_of_ble_eq_true rfl) (Nat.le_refl _) (Nat.le_refl _) (am_Cl_mono H (fun r4 h5 H => ?_))
    show am_Wp true (d + 1) M_X7_alike 321 321 h0 Q 13 [some (.inr (.inr 294)), some (.inl v1), some (.inl v2), none, none] [.inl r4] 321 h5
    refine ar_if_ne (pc := 13) (x := r4) (tgt := 18) (off := 5) (by decide +kernel) (by decide) (fun c6 => ?_) (fun c6 => ?_)
    · replace H := H.1 c6
      refine ar_aload_n (pc := 18) (i := 0) (k0 := 0) (by decide +kernel) rfl rfl ?_
      refine ar_iload_n (pc := 19) (i := 1) (k0 := 1) (by decide +kernel) rfl rfl ?_
      refine ar_callV (pc := 20) (M2 := M_X7_read) (a := 294) (ci := 7) (as := [.inl v1]) (n2 := 321) (st := []) (by decide +kernel) rfl wm_RX7_515 wi_yX7_read wl_yX7_read k_294 rfl wz_RX7 wc_yX7_read ⟨by decide, by decide, rfl⟩ (by decide) (Nat.le_of_ble_eq_true rfl) (Nat.le_refl _) (Nat.le_refl _) (am_Cl_mono H (fun r7 h8 H => ?_))
      show am_Wp true (d + 1) M_X7_alike 321 321 h0 Q 23 [some (.inr (.inr 294)), some (.inl v1), some (.inl v2), none, none] [] 321 h8
      refine ar_iconst (pc := 23) (z := 0) (by decide +kernel) (by unfold am_i32; omega) ?_
      refine ar_istore_n (pc := 24) (i := 3) (k0 := 3) (ls2 := [some (.inr (.inr 294)), some (.inl v1), some (.inl v2), some (.inl 0), none]) (by decide +kernel) rfl (by decide) rfl ?_
      refine ar_forget [true, false, true, true, true] rfl ?_
      exact H h0
    · replace H := H.2 c6
      refine ar_iconst (pc := 16) (z := (-1)) (by decide +kernel) (by unfold am_i32; omega) ?_
      exact ar_iret (pc := 17) (x := (-1)) (by decide +kernel) rfl rfl H
theorem B_X7_alike_25 {d : Nat} {Q : Int → am_H → Prop} {h : am_H} {v2 v3 : Int} (H : (8 ≤ v3 → cf d M_X7_read [.inr (.inr 294), .inl v2] h (fun _ h3 => wf (d + 1) M_X7_alike Q 71 [some (.inr (.inr 294)), none, none, some (.inl 0), some (.inl 0)] [] h3)) ∧ (v3 < 8 → (0 ≤ v3) ∧ ((v3 < 24) ∧ (wf (d + 1) M_X7_alike Q 25 [some (.inr (.inr 294)), none, some (.inl v2), some (.inl (am_w32 (v3 + 1))), none] [] (am_up (am_up h 320 v3 (h 312 v3)) 321 v3 (h 315 v3)))))) : wf (d + 1) M_X7_alike Q 25 [some (.inr (.inr 294)), none, some (.inl v2), some (.inl v3), none] [] h := by
  intro h0
  refine ar_iload_n (pc := 25) (i := 3) (k0 := 3) (by decide +kernel) rfl rfl ?_
  refine ar_bipush (pc := 26) (z := 8) (by decide +kernel) (by omega) ?_
  refine ar_icmp_ge (pc := 28) (x := v3) (y := 8) (tgt := 61) (off := 33) (by decide +kernel) (by decide) (fun c1 => ?_) (fun c1 => ?_)
  · replace H := H.1 c1
    refine ar_aload_n (pc := 61) (i := 0) (k0 := 0) (by decide +kernel) rfl rfl ?_
    refine ar_iload_n (pc := 62) (i := 2) (k0 := 2) (by decide +kernel) rfl rfl ?_
    refine ar_callV (pc := 63) (M2 := M_X7_read) (a := 294) (ci := 7) (as := [.inl v2]) (n2 := 321) (st := []) (by decide +kernel) rfl wm_RX7_515 wi_yX7_read wl_yX7_read k_294 rfl wz_RX7 wc_yX7_read ⟨by decide, by decide, rfl⟩ (by decide) (Nat.le_of_ble_eq_true rfl) (Nat.le_refl _) (Nat.le_refl _) (am_Cl_mono H (fun r2 h3 H => ?_))
    show am_Wp true (d + 1) M_X7_alike 321 321 h0 Q 66 [some (.inr (.inr 294)), none, some (.inl v2), some (.inl v3), none] [] 321 h3
    refine ar_iconst (pc := 66) (z := 0) (by decide +kernel) (by unfold am_i32; omega) ?_
    refine ar_istore_n (pc := 67) (i := 3) (k0 := 3) (ls2 := [some (.inr (.inr 294)), none, some (.inl v2), some (.inl 0), none]) (by decide +kernel) rfl (by decide) rfl ?_
    refine ar_iconst (pc := 68) (z := 0) (by decide +kernel) (by unfold am_i32; omega) ?_
    refine ar_istore (pc := 69) (i := 4) (ls2 := [some (.inr (.inr 294)), none, some (.inl v2), some (.inl 0), some (.inl 0)]) (by decide +kernel) (by decide) rfl ?_
    refine ar_forget [true, true, false, true, true] rfl ?_
    exact H h0
  · replace H := H.2 c1
    refine ar_aload_n (pc := 31) (i := 0) (k0 := 0) (by decide +kernel) rfl rfl ?_
    refine ar_getFV (pc := 32) (a := 294) (b := 320) 7 53 (by decide +kernel) k_294 rfl (by decide) wf_RX7_98 rfl (fun _ => rfl) rfl ?_
    refine ar_iload_n (pc := 35) (i := 3) (k0 := 3) (by decide +kernel) rfl rfl ?_
    refine ar_aload_n (pc := 36) (i := 0) (k0 := 0) (by decide +kernel) rfl rfl ?_
    refine ar_getFV (pc := 37) (a := 294) (b := 312) 7 38 (by decide +kernel) k_294 rfl (by decide) wf_RX7_70 rfl (fun _ => rfl) rfl ?_
    refine ar_iload_n (pc := 40) (i := 3) (k0 := 3) (by decide +kernel) rfl rfl ?_
    obtain ⟨g4, H⟩ := H
    obtain ⟨g5, H⟩ := H
    refine ar_iald (pc := 41) (a := 312) (i := v3) (by decide +kernel) k_312 g4 (am_lt_eq g5 (l_312).symm) ?_
    refine ar_iast (pc := 42) (a := 320) (i := v3) (z := (h 312 v3)) (by decide +kernel) k_320 g4 (am_lt_eq c1 (l_320).symm) ?_
    refine ar_aload_n (pc := 43) (i := 0) (k0 := 0) (by decide +kernel) rfl rfl ?_
    refine ar_getFV (pc := 44) (a := 294) (b := 321) 7 54 (by decide +kernel) k_294 rfl (by decide) wf_RX7_101 rfl (fun _ => rfl) rfl ?_
    refine ar_iload_n (pc := 47) (i := 3) (k0 := 3) (by decide +kernel) rfl rfl ?_
    refine ar_aload_n (pc := 48) (i := 0) (k0 := 0) (by decide +kernel) rfl rfl ?_
    refine ar_getFV (pc := 49) (a := 294) (b := 315) 7 41 (by decide +kernel) k_294 rfl (by decide) wf_RX7_79 rfl (fun _ => rfl) rfl ?_
    refine ar_iload_n (pc := 52) (i := 3) (k0 := 3) (by decide +kernel) rfl rfl ?_
    refine ar_ialdV (pc := 53) (a := 315) (i := v3) (v := (h 315 v3)) (by first | rfl | (simp [am_up, am_cp]; done) | (simp [am_up, am_cp] <;> intros <;> omega)) (by decide +kernel) k_315 g4 (am_lt_eq g5 (l_315).symm) ?_
    refine ar_iast (pc := 54) (a := 321) (i := v3) (z := (h 315 v3)) (by decide +kernel) k_321 g4 (am_lt_eq c1 (l_321).symm) ?_
    refine ar_iinc (pc := 55) (i := 3) (z := 1) (x := v3) (ls2 := [some (.inr (.inr 294)), none, some (.inl v2), some (.inl (am_w32 (v3 + 1))), none]) (by decide +kernel) rfl (by decide) rfl ?_
    refine ar_goto (pc := 58) (tgt := 25) (off := -33) (by decide +kernel) (by decide) ?_
    exact H h0
theorem B_X7_alike_71 {d : Nat} {Q : Int → am_H → Prop} {h : am_H} {v3 v4 : Int} (H : (8 ≤ v4 → Q v3 h) ∧ (v4 < 8 → (0 ≤ v4) ∧ ((v4 < 24) ∧ (((h 315 v4) = 3 → wf (d + 1) M_X7_alike Q 131 [some (.inr (.inr 294)), none, none, none, some (.inl v4)] [.inl v3] h) ∧ (¬ (h 315 v4) = 3 → (¬ (h 315 v4) = (h 321 v4) → wf (d + 1) M_X7_alike Q 131 [some (.inr (.inr 294)), none, none, none, some (.inl v4)] [.inl v3] h) ∧ ((h 315 v4) = (h 321 v4) → (¬ (h 312 v4) = (h 320 v4) → wf (d + 1) M_X7_alike Q 131 [some (.inr (.inr 294)), none, none, none, some (.inl v4)] [.inl v3] h) ∧ ((h 312 v4) = (h 320 v4) → wf (d + 1) M_X7_alike Q 132 [some (.inr (.inr 294)), none, none, none, some (.inl v4)] [.inl (am_ishl 1 v4), .inl v3] h))))))) : wf (d + 1) M_X7_alike Q 71 [some (.inr (.inr 294)), none, none, some (.inl v3), some (.inl v4)] [] h := by
  intro h0
  refine ar_iload (pc := 71) (i := 4) (by decide +kernel) rfl ?_
  refine ar_bipush (pc := 73) (z := 8) (by decide +kernel) (by omega) ?_
  refine ar_icmp_ge (pc := 75) (x := v4) (y := 8) (tgt := 140) (off := 65) (by decide +kernel) (by decide) (fun c1 => ?_) (fun c1 => ?_)
  · replace H := H.1 c1
    refine ar_iload_n (pc := 140) (i := 3) (k0 := 3) (by decide +kernel) rfl rfl ?_
    exact ar_iret (pc := 141) (x := v3) (by decide +kernel) rfl rfl H
  · replace H := H.2 c1
    refine ar_iload_n (pc := 78) (i := 3) (k0 := 3) (by decide +kernel) rfl rfl ?_
    refine ar_aload_n (pc := 79) (i := 0) (k0 := 0) (by decide +kernel) rfl rfl ?_
    refine ar_getFV (pc := 80) (a := 294) (b := 315) 7 41 (by decide +kernel) k_294 rfl (by decide) wf_RX7_79 rfl (fun _ => rfl) rfl ?_
    refine ar_iload (pc := 83) (i := 4) (by decide +kernel) rfl ?_
    obtain ⟨g2, H⟩ := H
    obtain ⟨g3, H⟩ := H
    refine ar_iald (pc := 85) (a := 315) (i := v4) (by decide +kernel) k_315 g2 (am_lt_eq g3 (l_315).symm) ?_
    refine ar_iconst (pc := 86) (z := 3) (by decide +kernel) (by unfold am_i32; omega) ?_
    refine ar_icmp_eq (pc := 87) (x := (h 315 v4)) (y := 3) (tgt := 131) (off := 44) (by decide +kernel) (by decide) (fun c4 => ?_) (fun c4 => ?_)
    · replace H := H.1 c4
      refine ar_forget [true, true, true, false, true] rfl ?_
      exact H h0
    · replace H := H.2 c4
      refine ar_aload_n (pc := 90) (i := 0) (k0 := 0) (by decide +kernel) rfl rfl ?_
      refine ar_getFV (pc := 91) (a := 294) (b := 315) 7 41 (by decide +kernel) k_294 rfl (by decide) wf_RX7_79 rfl (fun _ => rfl) rfl ?_
      refine ar_iload (pc := 94) (i := 4) (by decide +kernel) rfl ?_
      refine ar_iald (pc := 96) (a := 315) (i := v4) (by decide +kernel) k_315 g2 (am_lt_eq g3 (l_315).symm) ?_
      refine ar_aload_n (pc := 97) (i := 0) (k0 := 0) (by decide +kernel) rfl rfl ?_
      refine ar_getFV (pc := 98) (a := 294) (b := 321) 7 54 (by decide +kernel) k_294 rfl (by decide) wf_RX7_101 rfl (fun _ => rfl) rfl ?_
      refine ar_iload (pc := 101) (i := 4) (by decide +kernel) rfl ?_
      refine ar_iald (pc := 103) (a := 321) (i := v4) (by decide +kernel) k_321 g2 (am_lt_eq c1 (l_321).symm) ?_
      refine ar_icmp_ne (pc := 104) (x := (h 315 v4)) (y := (h 321 v4)) (tgt := 131) (off := 27) (by decide +kernel) (by decide) (fun c5 => ?_) (fun c5 => ?_)
      · replace H := H.1 c5
        refine ar_forget [true, true, true, false, true] rfl ?_
        exact H h0
      · replace H := H.2 c5
        refine ar_aload_n (pc := 107) (i := 0) (k0 := 0) (by decide +kernel) rfl rfl ?_
        refine ar_getFV (pc := 108) (a := 294) (b := 312) 7 38 (by decide +kernel) k_294 rfl (by decide) wf_RX7_70 rfl (fun _ => rfl) rfl ?_
        refine ar_iload (pc := 111) (i := 4) (by decide +kernel) rfl ?_
        refine ar_iald (pc := 113) (a := 312) (i := v4) (by decide +kernel) k_312 g2 (am_lt_eq g3 (l_312).symm) ?_
        refine ar_aload_n (pc := 114) (i := 0) (k0 := 0) (by decide +kernel) rfl rfl ?_
        refine ar_getFV (pc := 115) (a := 294) (b := 320) 7 53 (by decide +kernel) k_294 rfl (by decide) wf_RX7_98 rfl (fun _ => rfl) rfl ?_
        refine ar_iload (pc := 118) (i := 4) (by decide +kernel) rfl ?_
        refine ar_iald (pc := 120) (a := 320) (i := v4) (by decide +kernel) k_320 g2 (am_lt_eq c1 (l_320).symm) ?_
        refine ar_icmp_ne (pc := 121) (x := (h 312 v4)) (y := (h 320 v4)) (tgt := 131) (off := 10) (by decide +kernel) (by decide) (fun c6 => ?_) (fun c6 => ?_)
        · replace H := H.1 c6
          refine ar_forget [true, true, true, false, true] rfl ?_
          exact H h0
        · replace H := H.2 c6
          refine ar_iconst (pc := 124) (z := 1) (by decide +kernel) (by unfold am_i32; omega) ?_
          refine ar_iload (pc := 125) (i := 4) (by decide +kernel) rfl ?_
          refine ar_ishl (pc := 127) (x := 1) (y := v4) (by decide +kernel) ?_
          refine ar_goto (pc := 128) (tgt := 132) (off := 4) (by decide +kernel) (by decide) ?_
          refine ar_forget [true, true, true, false, true] rfl ?_
          exact H h0
theorem B_X7_alike_131 {d : Nat} {Q : Int → am_H → Prop} {h : am_H} {v4 s0 : Int} (H : wf (d + 1) M_X7_alike Q 132 [some (.inr (.inr 294)), none, none, none, some (.inl v4)] [.inl 0, .inl s0] h) : wf (d + 1) M_X7_alike Q 131 [some (.inr (.inr 294)), none, none, none, some (.inl v4)] [.inl s0] h := by
  intro h0
  refine ar_iconst (pc := 131) (z := 0) (by decide +kernel) (by unfold am_i32; omega) ?_
  exact H h0
theorem B_X7_alike_132 {d : Nat} {Q : Int → am_H → Prop} {h : am_H} {v4 s0 s1 : Int} (H : wf (d + 1) M_X7_alike Q 71 [some (.inr (.inr 294)), none, none, some (.inl (am_ior s0 s1)), some (.inl (am_w32 (v4 + 1)))] [] h) : wf (d + 1) M_X7_alike Q 132 [some (.inr (.inr 294)), none, none, none, some (.inl v4)] [.inl s1, .inl s0] h := by
  intro h0
  refine ar_ior (pc := 132) (x := s0) (y := s1) (by decide +kernel) ?_
  refine ar_istore_n (pc := 133) (i := 3) (k0 := 3) (ls2 := [some (.inr (.inr 294)), none, none, some (.inl (am_ior s0 s1)), some (.inl v4)]) (by decide +kernel) rfl (by decide) rfl ?_
  refine ar_iinc (pc := 134) (i := 4) (z := 1) (x := v4) (ls2 := [some (.inr (.inr 294)), none, none, some (.inl (am_ior s0 s1)), some (.inl (am_w32 (v4 + 1)))]) (by decide +kernel) rfl (by decide) rfl ?_
  refine ar_goto (pc := 137) (tgt := 71) (off := -66) (by decide +kernel) (by decide) ?_
  exact H h0

/-! ByteIntervalsModel.must(I)I -/
theorem B_X7_must_0 {d : Nat} {Q : Int → am_H → Prop} {h : am_H} {v1 : Int} (H : cf d M_X7_isText [.inr (.inr 294), .inl v1] h (fun r1 h2 => (¬ r1 = 0 → cf d M_X7_read [.inr (.inr 294), .inl v1] h2 (fun _ h5 => Q (h5 294 45) h5)) ∧ (r1 = 0 → Q (-1) h2))) : wf (d + 1) M_X7_must Q 0 [some (.inr (.inr 294)), some (.inl v1)] [] h := by
  intro h0
  refine ar_aload_n (pc := 0) (i := 0) (k0 := 0) (by decide +kernel) rfl rfl ?_
  refine ar_iload_n (pc := 1) (i := 1) (k0 := 1) (by decide +kernel) rfl rfl ?_
  refine ar_callV (pc := 2) (M2 := M_X7_isText) (a := 294) (ci := 7) (as := [.inl v1]) (n2 := 321) (st := []) (by decide +kernel) rfl wm_RX7_502 wi_yX7_isText wl_yX7_isText k_294 rfl wz_RX7 wc_yX7_isText ⟨by decide, by decide, rfl⟩ (by decide) (Nat.le_of_ble_eq_true rfl) (Nat.le_refl _) (Nat.le_refl _) (am_Cl_mono H (fun r1 h2 H => ?_))
  show am_Wp true (d + 1) M_X7_must 321 321 h0 Q 5 [some (.inr (.inr 294)), some (.inl v1)] [.inl r1] 321 h2
  refine ar_if_ne (pc := 5) (x := r1) (tgt := 10) (off := 5) (by decide +kernel) (by decide) (fun c3 => ?_) (fun c3 => ?_)
  · replace H := H.1 c3
    refine ar_aload_n (pc := 10) (i := 0) (k0 := 0) (by decide +kernel) rfl rfl ?_
    refine ar_iload_n (pc := 11) (i := 1) (k0 := 1) (by decide +kernel) rfl rfl ?_
    refine ar_callV (pc := 12) (M2 := M_X7_read) (a := 294) (ci := 7) (as := [.inl v1]) (n2 := 321) (st := []) (by decide +kernel) rfl wm_RX7_515 wi_yX7_read wl_yX7_read k_294 rfl wz_RX7 wc_yX7_read ⟨by decide, by decide, rfl⟩ (by decide) (Nat.le_of_ble_eq_true rfl) (Nat.le_refl _) (Nat.le_refl _) (am_Cl_mono H (fun r4 h5 H => ?_))
    show am_Wp true (d + 1) M_X7_must 321 321 h0 Q 15 [some (.inr (.inr 294)), some (.inl v1)] [] 321 h5
    refine ar_aload_n (pc := 15) (i := 0) (k0 := 0) (by decide +kernel) rfl rfl ?_
    refine ar_getV (pc := 16) (a := 294) (v := .inl (h5 294 45)) 7 45 (by decide +kernel) k_294 rfl (by decide) wf_RX7_400 rfl ?_
    exact ar_iret (pc := 19) (x := (h5 294 45)) (by decide +kernel) rfl rfl H
  · replace H := H.2 c3
    refine ar_iconst (pc := 8) (z := (-1)) (by decide +kernel) (by unfold am_i32; omega) ?_
    exact ar_iret (pc := 9) (x := (-1)) (by decide +kernel) rfl rfl H

/-! ByteIntervalsModel.deep(I)I -/
theorem B_X7_deep_0 {d : Nat} {Q : Int → am_H → Prop} {h : am_H} {v1 : Int} (H : cf d M_X7_isText [.inr (.inr 294), .inl v1] h (fun r1 h2 => (¬ r1 = 0 → cf d M_X7_read [.inr (.inr 294), .inl v1] h2 (fun _ h5 => Q (h5 294 44) h5)) ∧ (r1 = 0 → Q (-1) h2))) : wf (d + 1) M_X7_deep Q 0 [some (.inr (.inr 294)), some (.inl v1)] [] h := by
  intro h0
  refine ar_aload_n (pc := 0) (i := 0) (k0 := 0) (by decide +kernel) rfl rfl ?_
  refine ar_iload_n (pc := 1) (i := 1) (k0 := 1) (by decide +kernel) rfl rfl ?_
  refine ar_callV (pc := 2) (M2 := M_X7_isText) (a := 294) (ci := 7) (as := [.inl v1]) (n2 := 321) (st := []) (by decide +kernel) rfl wm_RX7_502 wi_yX7_isText wl_yX7_isText k_294 rfl wz_RX7 wc_yX7_isText ⟨by decide, by decide, rfl⟩ (by decide) (Nat.le_of_ble_eq_true rfl) (Nat.le_refl _) (Nat.le_refl _) (am_Cl_mono H (fun r1 h2 H => ?_))
  show am_Wp true (d + 1) M_X7_deep 321 321 h0 Q 5 [some (.inr (.inr 294)), some (.inl v1)] [.inl r1] 321 h2
  refine ar_if_ne (pc := 5) (x := r1) (tgt := 10) (off := 5) (by decide +kernel) (by decide) (fun c3 => ?_) (fun c3 => ?_)
  · replace H := H.1 c3
    refine ar_aload_n (pc := 10) (i := 0) (k0 := 0) (by decide +kernel) rfl rfl ?_
    refine ar_iload_n (pc := 11) (i := 1) (k0 := 1) (by decide +kernel) rfl rfl ?_
    refine ar_callV (pc := 12) (M2 := M_X7_read) (a := 294) (ci := 7) (as := [.inl v1]) (n2 := 321) (st := []) (by decide +kernel) rfl wm_RX7_515 wi_yX7_read wl_yX7_read k_294 rfl wz_RX7 wc_yX7_read ⟨by decide, by decide, rfl⟩ (by decide) (Nat.le_of_ble_eq_true rfl) (Nat.le_refl _) (Nat.le_refl _) (am_Cl_mono H (fun r4 h5 H => ?_))
    show am_Wp true (d + 1) M_X7_deep 321 321 h0 Q 15 [some (.inr (.inr 294)), some (.inl v1)] [] 321 h5
    refine ar_aload_n (pc := 15) (i := 0) (k0 := 0) (by decide +kernel) rfl rfl ?_
    refine ar_getV (pc := 16) (a := 294) (v := .inl (h5 294 44)) 7 44 (by decide +kernel) k_294 rfl (by decide) wf_RX7_366 rfl ?_
    exact ar_iret (pc := 19) (x := (h5 294 44)) (by decide +kernel) rfl rfl H
  · replace H := H.2 c3
    refine ar_iconst (pc := 8) (z := (-1)) (by decide +kernel) (by unfold am_i32; omega) ?_
    exact ar_iret (pc := 9) (x := (-1)) (by decide +kernel) rfl rfl H

/-! ByteIntervalsModel.kind(II)I -/
theorem B_X7_kind_0 {d : Nat} {Q : Int → am_H → Prop} {h : am_H} {v1 v2 : Int} (H : cf d M_X7_isText [.inr (.inr 294), .inl v1] h (fun r1 h2 => (r1 = 0 → Q (-1) h2) ∧ (¬ r1 = 0 → cf d M_X7_isField [.inl v2] h2 (fun r4 h5 => (¬ r4 = 0 → cf d M_X7_layOrder [.inr (.inr 294), .inl v1] h5 (fun _ h8 => cf d M_X7_sortOfField [.inr (.inr 294), .inl v1, .inl v2] h8 (fun r9 h10 => Q r9 h10))) ∧ (r4 = 0 → Q (-1) h5))))) : wf (d + 1) M_X7_kind Q 0 [some (.inr (.inr 294)), some (.inl v1), some (.inl v2)] [] h := by
  intro h0
  refine ar_aload_n (pc := 0) (i := 0) (k0 := 0) (by decide +kernel) rfl rfl ?_
  refine ar_iload_n (pc := 1) (i := 1) (k0 := 1) (by decide +kernel) rfl rfl ?_
  refine ar_callV (pc := 2) (M2 := M_X7_isText) (a := 294) (ci := 7) (as := [.inl v1]) (n2 := 321) (st := []) (by decide +kernel) rfl wm_RX7_502 wi_yX7_isText wl_yX7_isText k_294 rfl wz_RX7 wc_yX7_isText ⟨by decide, by decide, rfl⟩ (by decide) (Nat.le_of_ble_eq_true rfl) (Nat.le_refl _) (Nat.le_refl _) (am_Cl_mono H (fun r1 h2 H => ?_))
  show am_Wp true (d + 1) M_X7_kind 321 321 h0 Q 5 [some (.inr (.inr 294)), some (.inl v1), some (.inl v2)] [.inl r1] 321 h2
  refine ar_if_eq (pc := 5) (x := r1) (tgt := 15) (off := 10) (by decide +kernel) (by decide) (fun c3 => ?_) (fun c3 => ?_)
  · replace H := H.1 c3
    refine ar_iconst (pc := 15) (z := (-1)) (by decide +kernel) (by unfold am_i32; omega) ?_
    exact ar_iret (pc := 16) (x := (-1)) (by decide +kernel) rfl rfl H
  · replace H := H.2 c3
    refine ar_iload_n (pc := 8) (i := 2) (k0 := 2) (by decide +kernel) rfl rfl ?_
    refine ar_callS (pc := 9) (M2 := M_X7_isField) (as := [.inl v2]) (n2 := 321) (st := []) (by decide +kernel) rfl wm_RX7_521 ws_yX7_isField wz_RX7 wc_yX7_isField ⟨by decide, by decide, rfl⟩ (by decide) (Nat.le_of_ble_eq_true rfl) (Nat.le_refl _) (Nat.le_refl _) (am_Cl_mono H (fun r4 h5 H => ?_))
    show am_Wp true (d + 1) M_X7_kind 321 321 h0 Q 12 [some (.inr (.inr 294)), some (.inl v1), some (.inl v2)] [.inl r4] 321 h5
    refine ar_if_ne (pc := 12) (x := r4) (tgt := 17) (off := 5) (by decide +kernel) (by decide) (fun c6 => ?_) (fun c6 => ?_)
    · replace H := H.1 c6
      refine ar_aload_n (pc := 17) (i := 0) (k0 := 0) (by decide +kernel) rfl rfl ?_
      refine ar_iload_n (pc := 18) (i := 1) (k0 := 1) (by decide +kernel) rfl rfl ?_
      refine ar_callV (pc := 19) (M2 := M_X7_layOrder) (a := 294) (ci := 7) (as := [.inl v1]) (n2 := 321) (st := []) (by decide +kernel) rfl wm_RX7_424 wi_yX7_layOrder wl_yX7_layOrder k_294 rfl wz_RX7 wc_yX7_layOrder ⟨by decide, by decide, rfl⟩ (by decide) (Nat.le_of_ble_eq_true rfl) (Nat.le_refl _) (Nat.le_refl _) (am_Cl_mono H (fun r7 h8 H => ?_))
      show am_Wp true (d + 1) M_X7_kind 321 321 h0 Q 22 [some (.inr (.inr 294)), some (.inl v1), some (.inl v2)] [] 321 h8
      refine ar_aload_n (pc := 22) (i := 0) (k0 := 0) (by decide +kernel) rfl rfl ?_
      refine ar_iload_n (pc := 23) (i := 1) (k0 := 1) (by decide +kernel) rfl rfl ?_
      refine ar_iload_n (pc := 24) (i := 2) (k0 := 2) (by decide +kernel) rfl rfl ?_
      refine ar_callV (pc := 25) (M2 := M_X7_sortOfField) (a := 294) (ci := 7) (as := [.inl v1, .inl v2]) (n2 := 321) (st := []) (by decide +kernel) rfl wm_RX7_527 wi_yX7_sortOfField wl_yX7_sortOfField k_294 rfl wz_RX7 wc_yX7_sortOfField ⟨by decide, by decide, rfl⟩ (by decide) (Nat.le_of_ble_eq_true rfl) (Nat.le_refl _) (Nat.le_refl _) (am_Cl_mono H (fun r9 h10 H => ?_))
      show am_Wp true (d + 1) M_X7_kind 321 321 h0 Q 28 [some (.inr (.inr 294)), some (.inl v1), some (.inl v2)] [.inl r9] 321 h10
      exact ar_iret (pc := 28) (x := r9) (by decide +kernel) rfl rfl H
    · replace H := H.2 c6
      refine ar_iconst (pc := 15) (z := (-1)) (by decide +kernel) (by unfold am_i32; omega) ?_
      exact ar_iret (pc := 16) (x := (-1)) (by decide +kernel) rfl rfl H

/-! ByteIntervalsModel.isStretch(II)Z -/
theorem B_X7_isStretch_0 {d : Nat} {Q : Int → am_H → Prop} {h : am_H} {v1 v2 : Int} (H : cf d M_X7_isIn [.inl v1, .inl 0, .inl v2] h (fun r1 h2 => (r1 = 0 → Q 0 h2) ∧ (¬ r1 = 0 → ((h2 295 6) < v2 → Q 0 h2) ∧ (v2 ≤ (h2 295 6) → Q 1 h2)))) : wf (d + 1) M_X7_isStretch Q 0 [some (.inr (.inr 294)), some (.inl v1), some (.inl v2)] [] h := by
  intro h0
  refine ar_iload_n (pc := 0) (i := 1) (k0 := 1) (by decide +kernel) rfl rfl ?_
  refine ar_iconst (pc := 1) (z := 0) (by decide +kernel) (by unfold am_i32; omega) ?_
  refine ar_iload_n (pc := 2) (i := 2) (k0 := 2) (by decide +kernel) rfl rfl ?_
  refine ar_callS (pc := 3) (M2 := M_X7_isIn) (as := [.inl v1, .inl 0, .inl v2]) (n2 := 321) (st := []) (by decide +kernel) rfl wm_RX7_108 ws_yX7_isIn wz_RX7 wc_yX7_isIn ⟨by decide, by decide, rfl⟩ (by decide) (Nat.le_of_ble_eq_true rfl) (Nat.le_refl _) (Nat.le_refl _) (am_Cl_mono H (fun r1 h2 H => ?_))
  show am_Wp true (d + 1) M_X7_isStretch 321 321 h0 Q 6 [some (.inr (.inr 294)), some (.inl v1), some (.inl v2)] [.inl r1] 321 h2
  refine ar_if_eq (pc := 6) (x := r1) (tgt := 24) (off := 18) (by decide +kernel) (by decide) (fun c3 => ?_) (fun c3 => ?_)
  · replace H := H.1 c3
    refine ar_iconst (pc := 24) (z := 0) (by decide +kernel) (by unfold am_i32; omega) ?_
    exact ar_zret (pc := 25) (x := 0) (by decide +kernel) rfl rfl (by decide) H
  · replace H := H.2 c3
    refine ar_iload_n (pc := 9) (i := 2) (k0 := 2) (by decide +kernel) rfl rfl ?_
    refine ar_aload_n (pc := 10) (i := 0) (k0 := 0) (by decide +kernel) rfl rfl ?_
    refine ar_getFV (pc := 11) (a := 294) (b := 295) 7 0 (by decide +kernel) k_294 rfl (by decide) wf_RX7_7 rfl (fun _ => rfl) rfl ?_
    refine ar_bipush (pc := 14) (z := 6) (by decide +kernel) (by omega) ?_
    refine ar_iald (pc := 16) (a := 295) (i := 6) (by decide +kernel) k_295 (by decide) (am_lt_eq (b := 2159) (by decide) (l_295).symm) ?_
    refine ar_icmp_gt (pc := 17) (x := v2) (y := (h2 295 6)) (tgt := 24) (off := 7) (by decide +kernel) (by decide) (fun c4 => ?_) (fun c4 => ?_)
    · replace H := H.1 c4
      refine ar_iconst (pc := 24) (z := 0) (by decide +kernel) (by unfold am_i32; omega) ?_
      exact ar_zret (pc := 25) (x := 0) (by decide +kernel) rfl rfl (by decide) H
    · replace H := H.2 c4
      refine ar_iconst (pc := 20) (z := 1) (by decide +kernel) (by unfold am_i32; omega) ?_
      refine ar_goto (pc := 21) (tgt := 25) (off := 4) (by decide +kernel) (by decide) ?_
      exact ar_zret (pc := 25) (x := 1) (by decide +kernel) rfl rfl (by decide) H

/-! ByteIntervalsModel.number(II)I -/
theorem B_X7_number_0 {d : Nat} {Q : Int → am_H → Prop} {h : am_H} {v1 v2 : Int} (H : cf d M_X7_isStretch [.inr (.inr 294), .inl v1, .inl v2] h (fun r1 h2 => (r1 = 0 → Q (-1) h2) ∧ (¬ r1 = 0 → (3 < (am_w32 (v2 - v1)) → Q (-1) h2) ∧ ((am_w32 (v2 - v1)) ≤ 3 → cf d M_X7_numberFrom [.inr (.inr 294), .inl v1, .inl v2] h2 (fun r5 h6 => Q r5 h6))))) : wf (d + 1) M_X7_number Q 0 [some (.inr (.inr 294)), some (.inl v1), some (.inl v2)] [] h := by
  intro h0
  refine ar_aload_n (pc := 0) (i := 0) (k0 := 0) (by decide +kernel) rfl rfl ?_
  refine ar_iload_n (pc := 1) (i := 1) (k0 := 1) (by decide +kernel) rfl rfl ?_
  refine ar_iload_n (pc := 2) (i := 2) (k0 := 2) (by decide +kernel) rfl rfl ?_
  refine ar_callV (pc := 3) (M2 := M_X7_isStretch) (a := 294) (ci := 7) (as := [.inl v1, .inl v2]) (n2 := 321) (st := []) (by decide +kernel) rfl wm_RX7_555 wi_yX7_isStretch wl_yX7_isStretch k_294 rfl wz_RX7 wc_yX7_isStretch ⟨by decide, by decide, rfl⟩ (by decide) (Nat.le_of_ble_eq_true rfl) (Nat.le_refl _) (Nat.le_refl _) (am_Cl_mono H (fun r1 h2 H => ?_))
  show am_Wp true (d + 1) M_X7_number 321 321 h0 Q 6 [some (.inr (.inr 294)), some (.inl v1), some (.inl v2)] [.inl r1] 321 h2
  refine ar_if_eq (pc := 6) (x := r1) (tgt := 25) (off := 19) (by decide +kernel) (by decide) (fun c3 => ?_) (fun c3 => ?_)
  · replace H := H.1 c3
    refine ar_iconst (pc := 25) (z := (-1)) (by decide +kernel) (by unfold am_i32; omega) ?_
    exact ar_iret (pc := 26) (x := (-1)) (by decide +kernel) rfl rfl H
  · replace H := H.2 c3
    refine ar_iload_n (pc := 9) (i := 2) (k0 := 2) (by decide +kernel) rfl rfl ?_
    refine ar_iload_n (pc := 10) (i := 1) (k0 := 1) (by decide +kernel) rfl rfl ?_
    refine ar_isub (pc := 11) (x := v2) (y := v1) (by decide +kernel) ?_
    refine ar_iconst (pc := 12) (z := 3) (by decide +kernel) (by unfold am_i32; omega) ?_
    refine ar_icmp_gt (pc := 13) (x := (am_w32 (v2 - v1))) (y := 3) (tgt := 25) (off := 12) (by decide +kernel) (by decide) (fun c4 => ?_) (fun c4 => ?_)
    · replace H := H.1 c4
      refine ar_iconst (pc := 25) (z := (-1)) (by decide +kernel) (by unfold am_i32; omega) ?_
      exact ar_iret (pc := 26) (x := (-1)) (by decide +kernel) rfl rfl H
    · replace H := H.2 c4
      refine ar_aload_n (pc := 16) (i := 0) (k0 := 0) (by decide +kernel) rfl rfl ?_
      refine ar_iload_n (pc := 17) (i := 1) (k0 := 1) (by decide +kernel) rfl rfl ?_
      refine ar_iload_n (pc := 18) (i := 2) (k0 := 2) (by decide +kernel) rfl rfl ?_
      refine ar_callV (pc := 19) (M2 := M_X7_numberFrom) (a := 294) (ci := 7) (as := [.inl v1, .inl v2]) (n2 := 321) (st := []) (by decide +kernel) rfl wm_RX7_375 wi_yX7_numberFrom wl_yX7_numberFrom k_294 rfl wz_RX7 wc_yX7_numberFrom ⟨by decide, by decide, rfl⟩ (by decide) (Nat.le_of_ble_eq_true rfl) (Nat.le_refl _) (Nat.le_refl _) (am_Cl_mono H (fun r5 h6 H => ?_))
      show am_Wp true (d + 1) M_X7_number 321 321 h0 Q 22 [some (.inr (.inr 294)), some (.inl v1), some (.inl v2)] [.inl r5] 321 h6
      refine ar_goto (pc := 22) (tgt := 26) (off := 4) (by decide +kernel) (by decide) ?_
      exact ar_iret (pc := 26) (x := r5) (by decide +kernel) rfl rfl H

/-! ByteIntervalsModel.sum(II)I -/
theorem B_X7_sum_0 {d : Nat} {Q : Int → am_H → Prop} {h : am_H} {v1 v2 : Int} (H : cf d M_X7_isStretch [.inr (.inr 294), .inl v1, .inl v2] h (fun r1 h2 => (r1 = 0 → Q (-1) h2) ∧ (¬ r1 = 0 → cf d M_X7_bytesFrom [.inr (.inr 294), .inl v1, .inl v2] h2 (fun r4 h5 => Q r4 h5)))) : wf (d + 1) M_X7_sum Q 0 [some (.inr (.inr 294)), some (.inl v1), some (.inl v2)] [] h := by
  intro h0
  refine ar_aload_n (pc := 0) (i := 0) (k0 := 0) (by decide +kernel) rfl rfl ?_
  refine ar_iload_n (pc := 1) (i := 1) (k0 := 1) (by decide +kernel) rfl rfl ?_
  refine ar_iload_n (pc := 2) (i := 2) (k0 := 2) (by decide +kernel) rfl rfl ?_
  refine ar_callV (pc := 3) (M2 := M_X7_isStretch) (a := 294) (ci := 7) (as := [.inl v1, .inl v2]) (n2 := 321) (st := []) (by decide +kernel) rfl wm_RX7_555 wi_yX7_isStretch wl_yX7_isStretch k_294 rfl wz_RX7 wc_yX7_isStretch ⟨by decide, by decide, rfl⟩ (by decide) (Nat.le_of_ble_eq_true rfl) (Nat.le_refl _) (Nat.le_refl _) (am_Cl_mono H (fun r1 h2 H => ?_))
  show am_Wp true (d + 1) M_X7_sum 321 321 h0 Q 6 [some (.inr (.inr 294)), some (.inl v1), some (.inl v2)] [.inl r1] 321 h2
  refine ar_if_eq (pc := 6) (x := r1) (tgt := 18) (off := 12) (by decide +kernel) (by decide) (fun c3 => ?_) (fun c3 => ?_)
  · replace H := H.1 c3
    refine ar_iconst (pc := 18) (z := (-1)) (by decide +kernel) (by unfold am_i32; omega) ?_
    exact ar_iret (pc := 19) (x := (-1)) (by decide +kernel) rfl rfl H
  · replace H := H.2 c3
    refine ar_aload_n (pc := 9) (i := 0) (k0 := 0) (by decide +kernel) rfl rfl ?_
    refine ar_iload_n (pc := 10) (i := 1) (k0 := 1) (by decide +kernel) rfl rfl ?_
    refine ar_iload_n (pc := 11) (i := 2) (k0 := 2) (by decide +kernel) rfl rfl ?_
    refine ar_callV (pc := 12) (M2 := M_X7_bytesFrom) (a := 294) (ci := 7) (as := [.inl v1, .inl v2]) (n2 := 321) (st := []) (by decide +kernel) rfl wm_RX7_385 wi_yX7_bytesFrom wl_yX7_bytesFrom k_294 rfl wz_RX7 wc_yX7_bytesFrom ⟨by decide, by decide, rfl⟩ (by decide) (Nat.le_of_ble_eq_true rfl) (Nat.le_refl _) (Nat.le_refl _) (am_Cl_mono H (fun r4 h5 H => ?_))
    show am_Wp true (d + 1) M_X7_sum 321 321 h0 Q 15 [some (.inr (.inr 294)), some (.inl v1), some (.inl v2)] [.inl r4] 321 h5
    refine ar_goto (pc := 15) (tgt := 19) (off := 4) (by decide +kernel) (by decide) ?_
    exact ar_iret (pc := 19) (x := r4) (by decide +kernel) rfl rfl H

/-! ByteIntervalsModel.find(II)I -/
theorem B_X7_find_0 {d : Nat} {Q : Int → am_H → Prop} {h : am_H} {v1 v2 : Int} (H : cf d M_X7_isIn [.inl v1, .inl 0, .inl 255] h (fun r1 h2 => (r1 = 0 → Q (-1) h2) ∧ (¬ r1 = 0 → cf d M_X7_isIn [.inl v2, .inl 0, .inl (h2 295 6)] h2 (fun r4 h5 => (¬ r4 = 0 → wf (d + 1) M_X7_find Q 30 [some (.inr (.inr 294)), some (.inl v1), none, some (.inl v2)] [] h5) ∧ (r4 = 0 → Q (-1) h5))))) : wf (d + 1) M_X7_find Q 0 [some (.inr (.inr 294)), some (.inl v1), some (.inl v2), none] [] h := by
  intro h0
  refine ar_iload_n (pc := 0) (i := 1) (k0 := 1) (by decide +kernel) rfl rfl ?_
  refine ar_iconst (pc := 1) (z := 0) (by decide +kernel) (by unfold am_i32; omega) ?_
  refine ar_sipush (pc := 2) (z := 255) (by decide +kernel) (by omega) ?_
  refine ar_callS (pc := 5) (M2 := M_X7_isIn) (as := [.inl v1, .inl 0, .inl 255]) (n2 := 321) (st := []) (by decide +kernel) rfl wm_RX7_108 ws_yX7_isIn wz_RX7 wc_yX7_isIn ⟨by decide, by decide, rfl⟩ (by decide) (Nat.le_of_ble_eq_true rfl) (Nat.le_refl _) (Nat.le_refl _) (am_Cl_mono H (fun r1 h2 H => ?_))
  show am_Wp true (d + 1) M_X7_find 321 321 h0 Q 8 [some (.inr (.inr 294)), some (.inl v1), some (.inl v2), none] [.inl r1] 321 h2
  refine ar_if_eq (pc := 8) (x := r1) (tgt := 26) (off := 18) (by decide +kernel) (by decide) (fun c3 => ?_) (fun c3 => ?_)
  · replace H := H.1 c3
    refine ar_iconst (pc := 26) (z := (-1)) (by decide +kernel) (by unfold am_i32; omega) ?_
    exact ar_iret (pc := 27) (x := (-1)) (by decide +kernel) rfl rfl H
  · replace H := H.2 c3
    refine ar_iload_n (pc := 11) (i := 2) (k0 := 2) (by decide +kernel) rfl rfl ?_
    refine ar_iconst (pc := 12) (z := 0) (by decide +kernel) (by unfold am_i32; omega) ?_
    refine ar_aload_n (pc := 13) (i := 0) (k0 := 0) (by decide +kernel) rfl rfl ?_
    refine ar_getFV (pc := 14) (a := 294) (b := 295) 7 0 (by decide +kernel) k_294 rfl (by decide) wf_RX7_7 rfl (fun _ => rfl) rfl ?_
    refine ar_bipush (pc := 17) (z := 6) (by decide +kernel) (by omega) ?_
    refine ar_iald (pc := 19) (a := 295) (i := 6) (by decide +kernel) k_295 (by decide) (am_lt_eq (b := 2159) (by decide) (l_295).symm) ?_
    refine ar_callS (pc := 20) (M2 := M_X7_isIn) (as := [.inl v2, .inl 0, .inl (h2 295 6)]) (n2 := 321) (st := []) (by decide +kernel) rfl wm_RX7_108 ws_yX7_isIn wz_RX7 wc_yX7_isIn ⟨by decide, by decide, rfl⟩ (by decide) (Nat.le_of_ble_eq_true rfl) (Nat.le_refl _) (Nat.le_refl _) (am_Cl_mono H (fun r4 h5 H => ?_))
    show am_Wp true (d + 1) M_X7_find 321 321 h0 Q 23 [some (.inr (.inr 294)), some (.inl v1), some (.inl v2), none] [.inl r4] 321 h5
    refine ar_if_ne (pc := 23) (x := r4) (tgt := 28) (off := 5) (by decide +kernel) (by decide) (fun c6 => ?_) (fun c6 => ?_)
    · replace H := H.1 c6
      refine ar_iload_n (pc := 28) (i := 2) (k0 := 2) (by decide +kernel) rfl rfl ?_
      refine ar_istore_n (pc := 29) (i := 3) (k0 := 3) (ls2 := [some (.inr (.inr 294)), some (.inl v1), some (.inl v2), some (.inl v2)]) (by decide +kernel) rfl (by decide) rfl ?_
      refine ar_forget [true, true, false, true] rfl ?_
      exact H h0
    · replace H := H.2 c6
      refine ar_iconst (pc := 26) (z := (-1)) (by decide +kernel) (by unfold am_i32; omega) ?_
      exact ar_iret (pc := 27) (x := (-1)) (by decide +kernel) rfl rfl H
theorem B_X7_find_30 {d : Nat} {Q : Int → am_H → Prop} {h : am_H} {v1 v3 : Int} (H : ((h 295 6) ≤ v3 → Q (-1) h) ∧ (v3 < (h 295 6) → (0 ≤ (am_w32 (8 + v3))) ∧ (((am_w32 (8 + v3)) < 2159) ∧ ((¬ (h 295 (am_w32 (8 + v3))) = v1 → wf (d + 1) M_X7_find Q 30 [some (.inr (.inr 294)), some (.inl v1), none, some (.inl (am_w32 (v3 + 1)))] [] h) ∧ ((h 295 (am_w32 (8 + v3))) = v1 → Q v3 h))))) : wf (d + 1) M_X7_find Q 30 [some (.inr (.inr 294)), some (.inl v1), none, some (.inl v3)] [] h := by
  intro h0
  refine ar_iload_n (pc := 30) (i := 3) (k0 := 3) (by decide +kernel) rfl rfl ?_
  refine ar_aload_n (pc := 31) (i := 0) (k0 := 0) (by decide +kernel) rfl rfl ?_
  refine ar_getFV (pc := 32) (a := 294) (b := 295) 7 0 (by decide +kernel) k_294 rfl (by decide) wf_RX7_7 rfl (fun _ => rfl) rfl ?_
  refine ar_bipush (pc := 35) (z := 6) (by decide +kernel) (by omega) ?_
  refine ar_iald (pc := 37) (a := 295) (i := 6) (by decide +kernel) k_295 (by decide) (am_lt_eq (b := 2159) (by decide) (l_295).symm) ?_
  refine ar_icmp_ge (pc := 38) (x := v3) (y := (h 295 6)) (tgt := 62) (off := 24) (by decide +kernel) (by decide) (fun c1 => ?_) (fun c1 => ?_)
  · replace H := H.1 c1
    refine ar_iconst (pc := 62) (z := (-1)) (by decide +kernel) (by unfold am_i32; omega) ?_
    exact ar_iret (pc := 63) (x := (-1)) (by decide +kernel) rfl rfl H
  · replace H := H.2 c1
    refine ar_aload_n (pc := 41) (i := 0) (k0 := 0) (by decide +kernel) rfl rfl ?_
    refine ar_getFV (pc := 42) (a := 294) (b := 295) 7 0 (by decide +kernel) k_294 rfl (by decide) wf_RX7_7 rfl (fun _ => rfl) rfl ?_
    refine ar_bipush (pc := 45) (z := 8) (by decide +kernel) (by omega) ?_
    refine ar_iload_n (pc := 47) (i := 3) (k0 := 3) (by decide +kernel) rfl rfl ?_
    refine ar_iadd (pc := 48) (x := 8) (y := v3) (by decide +kernel) ?_
    obtain ⟨g2, H⟩ := H
    obtain ⟨g3, H⟩ := H
    refine ar_iald (pc := 49) (a := 295) (i := (am_w32 (8 + v3))) (by decide +kernel) k_295 g2 (am_lt_eq g3 (l_295).symm) ?_
    refine ar_iload_n (pc := 50) (i := 1) (k0 := 1) (by decide +kernel) rfl rfl ?_
    refine ar_icmp_ne (pc := 51) (x := (h 295 (am_w32 (8 + v3)))) (y := v1) (tgt := 56) (off := 5) (by decide +kernel) (by decide) (fun c4 => ?_) (fun c4 => ?_)
    · replace H := H.1 c4
      refine ar_iinc (pc := 56) (i := 3) (z := 1) (x := v3) (ls2 := [some (.inr (.inr 294)), some (.inl v1), none, some (.inl (am_w32 (v3 + 1)))]) (by decide +kernel) rfl (by decide) rfl ?_
      refine ar_goto (pc := 59) (tgt := 30) (off := -29) (by decide +kernel) (by decide) ?_
      exact H h0
    · replace H := H.2 c4
      refine ar_iload_n (pc := 54) (i := 3) (k0 := 3) (by decide +kernel) rfl rfl ?_
      exact ar_iret (pc := 55) (x := v3) (by decide +kernel) rfl rfl H

/-! ByteIntervalsModel.run()I -/
theorem B_X7_run_0 {d : Nat} {Q : Int → am_H → Prop} {h : am_H} (H : wf d M_X7_run Q 6 [some (.inr (.inr 294)), some (.inl 0), some (.inl 0), some (.inl 0)] [] h) : wf d M_X7_run Q 0 [some (.inr (.inr 294)), none, none, none] [] h := by
  intro h0
  refine ar_iconst (pc := 0) (z := 0) (by decide +kernel) (by unfold am_i32; omega) ?_
  refine ar_istore_n (pc := 1) (i := 1) (k0 := 1) (ls2 := [some (.inr (.inr 294)), some (.inl 0), none, none]) (by decide +kernel) rfl (by decide) rfl ?_
  refine ar_iconst (pc := 2) (z := 0) (by decide +kernel) (by unfold am_i32; omega) ?_
  refine ar_istore_n (pc := 3) (i := 2) (k0 := 2) (ls2 := [some (.inr (.inr 294)), some (.inl 0), some (.inl 0), none]) (by decide +kernel) rfl (by decide) rfl ?_
  refine ar_iconst (pc := 4) (z := 0) (by decide +kernel) (by unfold am_i32; omega) ?_
  refine ar_istore_n (pc := 5) (i := 3) (k0 := 3) (ls2 := [some (.inr (.inr 294)), some (.inl 0), some (.inl 0), some (.inl 0)]) (by decide +kernel) rfl (by decide) rfl ?_
  exact H h0
theorem B_X7_run_6 {d : Nat} {Q : Int → am_H → Prop} {h : am_H} {v1 v2 v3 : Int} (H : ((h 295 6) ≤ v3 → Q v1 h) ∧ (v3 < (h 295 6) → (v3 ≤ 0 → wf d M_X7_run Q 50 [some (.inr (.inr 294)), some (.inl v1), none, some (.inl v3)] [] h) ∧ (0 < v3 → (0 ≤ (am_w32 (8 + v3))) ∧ (((am_w32 (8 + v3)) < 2159) ∧ ((0 ≤ (am_w32 ((am_w32 (8 + v3)) - 1))) ∧ (((am_w32 ((am_w32 (8 + v3)) - 1)) < 2159) ∧ ((¬ (h 295 (am_w32 (8 + v3))) = (h 295 (am_w32 ((am_w32 (8 + v3)) - 1))) → wf d M_X7_run Q 50 [some (.inr (.inr 294)), some (.inl v1), none, some (.inl v3)] [] h) ∧ ((h 295 (am_w32 (8 + v3))) = (h 295 (am_w32 ((am_w32 (8 + v3)) - 1))) → wf d M_X7_run Q 51 [some (.inr (.inr 294)), some (.inl v1), none, some (.inl v3)] [.inl (am_w32 (v2 + 1))] h)))))))) : wf d M_X7_run Q 6 [some (.inr (.inr 294)), some (.inl v1), some (.inl v2), some (.inl v3)] [] h := by
  intro h0
  refine ar_iload_n (pc := 6) (i := 3) (k0 := 3) (by decide +kernel) rfl rfl ?_
  refine ar_aload_n (pc := 7) (i := 0) (k0 := 0) (by decide +kernel) rfl rfl ?_
  refine ar_getFV (pc := 8) (a := 294) (b := 295) 7 0 (by decide +kernel) k_294 rfl (by decide) wf_RX7_7 rfl (fun _ => rfl) rfl ?_
  refine ar_bipush (pc := 11) (z := 6) (by decide +kernel) (by omega) ?_
  refine ar_iald (pc := 13) (a := 295) (i := 6) (by decide +kernel) k_295 (by decide) (am_lt_eq (b := 2159) (by decide) (l_295).symm) ?_
  refine ar_icmp_ge (pc := 14) (x := v3) (y := (h 295 6)) (tgt := 69) (off := 55) (by decide +kernel) (by decide) (fun c1 => ?_) (fun c1 => ?_)
  · replace H := H.1 c1
    refine ar_iload_n (pc := 69) (i := 1) (k0 := 1) (by decide +kernel) rfl rfl ?_
    exact ar_iret (pc := 70) (x := v1) (by decide +kernel) rfl rfl H
  · replace H := H.2 c1
    refine ar_iload_n (pc := 17) (i := 3) (k0 := 3) (by decide +kernel) rfl rfl ?_
    refine ar_if_le (pc := 18) (x := v3) (tgt := 50) (off := 32) (by decide +kernel) (by decide) (fun c2 => ?_) (fun c2 => ?_)
    · replace H := H.1 c2
      refine ar_forget [true, true, false, true] rfl ?_
      exact H h0
    · replace H := H.2 c2
      refine ar_aload_n (pc := 21) (i := 0) (k0 := 0) (by decide +kernel) rfl rfl ?_
      refine ar_getFV (pc := 22) (a := 294) (b := 295) 7 0 (by decide +kernel) k_294 rfl (by decide) wf_RX7_7 rfl (fun _ => rfl) rfl ?_
      refine ar_bipush (pc := 25) (z := 8) (by decide +kernel) (by omega) ?_
      refine ar_iload_n (pc := 27) (i := 3) (k0 := 3) (by decide +kernel) rfl rfl ?_
      refine ar_iadd (pc := 28) (x := 8) (y := v3) (by decide +kernel) ?_
      obtain ⟨g3, H⟩ := H
      obtain ⟨g4, H⟩ := H
      refine ar_iald (pc := 29) (a := 295) (i := (am_w32 (8 + v3))) (by decide +kernel) k_295 g3 (am_lt_eq g4 (l_295).symm) ?_
      refine ar_aload_n (pc := 30) (i := 0) (k0 := 0) (by decide +kernel) rfl rfl ?_
      refine ar_getFV (pc := 31) (a := 294) (b := 295) 7 0 (by decide +kernel) k_294 rfl (by decide) wf_RX7_7 rfl (fun _ => rfl) rfl ?_
      refine ar_bipush (pc := 34) (z := 8) (by decide +kernel) (by omega) ?_
      refine ar_iload_n (pc := 36) (i := 3) (k0 := 3) (by decide +kernel) rfl rfl ?_
      refine ar_iadd (pc := 37) (x := 8) (y := v3) (by decide +kernel) ?_
      refine ar_iconst (pc := 38) (z := 1) (by decide +kernel) (by unfold am_i32; omega) ?_
      refine ar_isub (pc := 39) (x := (am_w32 (8 + v3))) (y := 1) (by decide +kernel) ?_
      obtain ⟨g5, H⟩ := H
      obtain ⟨g6, H⟩ := H
      refine ar_iald (pc := 40) (a := 295) (i := (am_w32 ((am_w32 (8 + v3)) - 1))) (by decide +kernel) k_295 g5 (am_lt_eq g6 (l_295).symm) ?_
      refine ar_icmp_ne (pc := 41) (x := (h 295 (am_w32 (8 + v3)))) (y := (h 295 (am_w32 ((am_w32 (8 + v3)) - 1)))) (tgt := 50) (off := 9) (by decide +kernel) (by decide) (fun c7 => ?_) (fun c7 => ?_)
      · replace H := H.1 c7
        refine ar_forget [true, true, false, true] rfl ?_
        exact H h0
      · replace H := H.2 c7
        refine ar_iload_n (pc := 44) (i := 2) (k0 := 2) (by decide +kernel) rfl rfl ?_
        refine ar_iconst (pc := 45) (z := 1) (by decide +kernel) (by unfold am_i32; omega) ?_
        refine ar_iadd (pc := 46) (x := v2) (y := 1) (by decide +kernel) ?_
        refine ar_goto (pc := 47) (tgt := 51) (off := 4) (by decide +kernel) (by decide) ?_
        refine ar_forget [true, true, false, true] rfl ?_
        exact H h0
theorem B_X7_run_50 {d : Nat} {Q : Int → am_H → Prop} {h : am_H} {v1 v3 : Int} (H : wf d M_X7_run Q 51 [some (.inr (.inr 294)), some (.inl v1), none, some (.inl v3)] [.inl 1] h) : wf d M_X7_run Q 50 [some (.inr (.inr 294)), some (.inl v1), none, some (.inl v3)] [] h := by
  intro h0
  refine ar_iconst (pc := 50) (z := 1) (by decide +kernel) (by unfold am_i32; omega) ?_
  exact H h0
theorem B_X7_run_51 {d : Nat} {Q : Int → am_H → Prop} {h : am_H} {v1 v3 s0 : Int} (H : (s0 ≤ v1 → wf d M_X7_run Q 62 [some (.inr (.inr 294)), none, some (.inl s0), some (.inl v3)] [.inl v1] h) ∧ (v1 < s0 → wf d M_X7_run Q 62 [some (.inr (.inr 294)), none, some (.inl s0), some (.inl v3)] [.inl s0] h)) : wf d M_X7_run Q 51 [some (.inr (.inr 294)), some (.inl v1), none, some (.inl v3)] [.inl s0] h := by
  intro h0
  refine ar_istore_n (pc := 51) (i := 2) (k0 := 2) (ls2 := [some (.inr (.inr 294)), some (.inl v1), some (.inl s0), some (.inl v3)]) (by decide +kernel) rfl (by decide) rfl ?_
  refine ar_iload_n (pc := 52) (i := 2) (k0 := 2) (by decide +kernel) rfl rfl ?_
  refine ar_iload_n (pc := 53) (i := 1) (k0 := 1) (by decide +kernel) rfl rfl ?_
  refine ar_icmp_le (pc := 54) (x := s0) (y := v1) (tgt := 61) (off := 7) (by decide +kernel) (by decide) (fun c1 => ?_) (fun c1 => ?_)
  · replace H := H.1 c1
    refine ar_iload_n (pc := 61) (i := 1) (k0 := 1) (by decide +kernel) rfl rfl ?_
    refine ar_forget [true, false, true, true] rfl ?_
    exact H h0
  · replace H := H.2 c1
    refine ar_iload_n (pc := 57) (i := 2) (k0 := 2) (by decide +kernel) rfl rfl ?_
    refine ar_goto (pc := 58) (tgt := 62) (off := 4) (by decide +kernel) (by decide) ?_
    refine ar_forget [true, false, true, true] rfl ?_
    exact H h0
theorem B_X7_run_62 {d : Nat} {Q : Int → am_H → Prop} {h : am_H} {v2 v3 s0 : Int} (H : wf d M_X7_run Q 6 [some (.inr (.inr 294)), some (.inl s0), some (.inl v2), some (.inl (am_w32 (v3 + 1)))] [] h) : wf d M_X7_run Q 62 [some (.inr (.inr 294)), none, some (.inl v2), some (.inl v3)] [.inl s0] h := by
  intro h0
  refine ar_istore_n (pc := 62) (i := 1) (k0 := 1) (ls2 := [some (.inr (.inr 294)), some (.inl s0), some (.inl v2), some (.inl v3)]) (by decide +kernel) rfl (by decide) rfl ?_
  refine ar_iinc (pc := 63) (i := 3) (z := 1) (x := v3) (ls2 := [some (.inr (.inr 294)), some (.inl s0), some (.inl v2), some (.inl (am_w32 (v3 + 1)))]) (by decide +kernel) rfl (by decide) rfl ?_
  refine ar_goto (pc := 66) (tgt := 6) (off := -60) (by decide +kernel) (by decide) ?_
  exact H h0

/-! ByteIntervalsModel.said(II)I -/
theorem B_X7_said_0 {d : Nat} {Q : Int → am_H → Prop} {h : am_H} {v1 v2 : Int} (H : (¬ v1 = (-1) → cf d M_X7_isField [.inl v1] h (fun r2 h3 => (r2 = 0 → Q (-2) h3) ∧ (¬ r2 = 0 → cf d M_X7_isIn [.inl v2, .inl 0, .inl 16777215] h3 (fun r5 h6 => (r5 = 0 → Q (-2) h6) ∧ (¬ r5 = 0 → (¬ (h6 295 3) = 8 → (0 ≤ (am_w32 (48 + (am_w32 (2 * (h6 295 3)))))) ∧ (((am_w32 (48 + (am_w32 (2 * (h6 295 3))))) < 2159) ∧ ((0 ≤ (am_w32 ((am_w32 (48 + (am_w32 (2 * ((am_up h6 295 (am_w32 (48 + (am_w32 (2 * (h6 295 3))))) v1) 295 3))))) + 1))) ∧ (((am_w32 ((am_w32 (48 + (am_w32 (2 * ((am_up h6 295 (am_w32 (48 + (am_w32 (2 * (h6 295 3))))) v1) 295 3))))) + 1)) < 2159) ∧ (Q (am_w32 (((am_up (am_up h6 295 (am_w32 (48 + (am_w32 (2 * (h6 295 3))))) v1) 295 (am_w32 ((am_w32 (48 + (am_w32 (2 * ((am_up h6 295 (am_w32 (48 + (am_w32 (2 * (h6 295 3))))) v1) 295 3))))) + 1)) v2) 295 3) + 1)) (am_up (am_up (am_up h6 295 (am_w32 (48 + (am_w32 (2 * (h6 295 3))))) v1) 295 (am_w32 ((am_w32 (48 + (am_w32 (2 * ((am_up h6 295 (am_w32 (48 + (am_w32 (2 * (h6 295 3))))) v1) 295 3))))) + 1)) v2) 295 3 (am_w32 (((am_up (am_up h6 295 (am_w32 (48 + (am_w32 (2 * (h6 295 3))))) v1) 295 (am_w32 ((am_w32 (48 + (am_w32 (2 * ((am_up h6 295 (am_w32 (48 + (am_w32 (2 * (h6 295 3))))) v1) 295 3))))) + 1)) v2) 295 3) + 1)))))))) ∧ ((h6 295 3) = 8 → Q (-2) h6)))))) ∧ (v1 = (-1) → Q 0 (am_up h 295 3 0))) : wf (d + 1) M_X7_said Q 0 [some (.inr (.inr 294)), some (.inl v1), some (.inl v2)] [] h := by
  intro h0
  refine ar_iload_n (pc := 0) (i := 1) (k0 := 1) (by decide +kernel) rfl rfl ?_
  refine ar_iconst (pc := 1) (z := (-1)) (by decide +kernel) (by unfold am_i32; omega) ?_
  refine ar_icmp_ne (pc := 2) (x := v1) (y := (-1)) (tgt := 14) (off := 12) (by decide +kernel) (by decide) (fun c1 => ?_) (fun c1 => ?_)
  · replace H := H.1 c1
    refine ar_iload_n (pc := 14) (i := 1) (k0 := 1) (by decide +kernel) rfl rfl ?_
    refine ar_callS (pc := 15) (M2 := M_X7_isField) (as := [.inl v1]) (n2 := 321) (st := []) (by decide +kernel) rfl wm_RX7_521 ws_yX7_isField wz_RX7 wc_yX7_isField ⟨by decide, by decide, rfl⟩ (by decide) (Nat.le_of_ble_eq_true rfl) (Nat.le_refl _) (Nat.le_refl _) (am_Cl_mono H (fun r2 h3 H => ?_))
    show am_Wp true (d + 1) M_X7_said 321 321 h0 Q 18 [some (.inr (.inr 294)), some (.inl v1), some (.inl v2)] [.inl r2] 321 h3
    refine ar_if_eq (pc := 18) (x := r2) (tgt := 43) (off := 25) (by decide +kernel) (by decide) (fun c4 => ?_) (fun c4 => ?_)
    · replace H := H.1 c4
      refine ar_bipush (pc := 43) (z := (-2)) (by decide +kernel) (by omega) ?_
      exact ar_iret (pc := 45) (x := (-2)) (by decide +kernel) rfl rfl H
    · replace H := H.2 c4
      refine ar_iload_n (pc := 21) (i := 2) (k0 := 2) (by decide +kernel) rfl rfl ?_
      refine ar_iconst (pc := 22) (z := 0) (by decide +kernel) (by unfold am_i32; omega) ?_
      refine ar_ldcw (pc := 23) (z := 16777215) (by decide +kernel) wk_RX7_547 (by unfold am_i32; omega) ?_
      refine ar_callS (pc := 26) (M2 := M_X7_isIn) (as := [.inl v2, .inl 0, .inl 16777215]) (n2 := 321) (st := []) (by decide +kernel) rfl wm_RX7_108 ws_yX7_isIn wz_RX7 wc_yX7_isIn ⟨by decide, by decide, rfl⟩ (by decide) (Nat.le_of_ble_eq_true rfl) (Nat.le_refl _) (Nat.le_refl _) (am_Cl_mono H (fun r5 h6 H => ?_))
      show am_Wp true (d + 1) M_X7_said 321 321 h0 Q 29 [some (.inr (.inr 294)), some (.inl v1), some (.inl v2)] [.inl r5] 321 h6
      refine ar_if_eq (pc := 29) (x := r5) (tgt := 43) (off := 14) (by decide +kernel) (by decide) (fun c7 => ?_) (fun c7 => ?_)
      · replace H := H.1 c7
        refine ar_bipush (pc := 43) (z := (-2)) (by decide +kernel) (by omega) ?_
        exact ar_iret (pc := 45) (x := (-2)) (by decide +kernel) rfl rfl H
      · replace H := H.2 c7
        refine ar_aload_n (pc := 32) (i := 0) (k0 := 0) (by decide +kernel) rfl rfl ?_
        refine ar_getFV (pc := 33) (a := 294) (b := 295) 7 0 (by decide +kernel) k_294 rfl (by decide) wf_RX7_7 rfl (fun _ => rfl) rfl ?_
        refine ar_iconst (pc := 36) (z := 3) (by decide +kernel) (by unfold am_i32; omega) ?_
        refine ar_iald (pc := 37) (a := 295) (i := 3) (by decide +kernel) k_295 (by decide) (am_lt_eq (b := 2159) (by decide) (l_295).symm) ?_
        refine ar_bipush (pc := 38) (z := 8) (by decide +kernel) (by omega) ?_
        refine ar_icmp_ne (pc := 40) (x := (h6 295 3)) (y := 8) (tgt := 46) (off := 6) (by decide +kernel) (by decide) (fun c8 => ?_) (fun c8 => ?_)
        · replace H := H.1 c8
          refine ar_aload_n (pc := 46) (i := 0) (k0 := 0) (by decide +kernel) rfl rfl ?_
          refine ar_getFV (pc := 47) (a := 294) (b := 295) 7 0 (by decide +kernel) k_294 rfl (by decide) wf_RX7_7 rfl (fun _ => rfl) rfl ?_
          refine ar_bipush (pc := 50) (z := 48) (by decide +kernel) (by omega) ?_
          refine ar_iconst (pc := 52) (z := 2) (by decide +kernel) (by unfold am_i32; omega) ?_
          refine ar_aload_n (pc := 53) (i := 0) (k0 := 0) (by decide +kernel) rfl rfl ?_
          refine ar_getFV (pc := 54) (a := 294) (b := 295) 7 0 (by decide +kernel) k_294 rfl (by decide) wf_RX7_7 rfl (fun _ => rfl) rfl ?_
          refine ar_iconst (pc := 57) (z := 3) (by decide +kernel) (by unfold am_i32; omega) ?_
          refine ar_iald (pc := 58) (a := 295) (i := 3) (by decide +kernel) k_295 (by decide) (am_lt_eq (b := 2159) (by decide) (l_295).symm) ?_
          refine ar_imul (pc := 59) (x := 2) (y := (h6 295 3)) (by decide +kernel) ?_
          refine ar_iadd (pc := 60) (x := 48) (y := (am_w32 (2 * (h6 295 3)))) (by decide +kernel) ?_
          refine ar_iload_n (pc := 61) (i := 1) (k0 := 1) (by decide +kernel) rfl rfl ?_
          obtain ⟨g9, H⟩ := H
          obtain ⟨g10, H⟩ := H
          refine ar_iast (pc := 62) (a := 295) (i := (am_w32 (48 + (am_w32 (2 * (h6 295 3)))))) (z := v1) (by decide +kernel) k_295 g9 (am_lt_eq g10 (l_295).symm) ?_
          refine ar_aload_n (pc := 63) (i := 0) (k0 := 0) (by decide +kernel) rfl rfl ?_
          refine ar_getFV (pc := 64) (a := 294) (b := 295) 7 0 (by decide +kernel) k_294 rfl (by decide) wf_RX7_7 rfl (fun _ => rfl) rfl ?_
          refine ar_bipush (pc := 67) (z := 48) (by decide +kernel) (by omega) ?_
          refine ar_iconst (pc := 69) (z := 2) (by decide +kernel) (by unfold am_i32; omega) ?_
          refine ar_aload_n (pc := 70) (i := 0) (k0 := 0) (by decide +kernel) rfl rfl ?_
          refine ar_getFV (pc := 71) (a := 294) (b := 295) 7 0 (by decide +kernel) k_294 rfl (by decide) wf_RX7_7 rfl (fun _ => rfl) rfl ?_
          refine ar_iconst (pc := 74) (z := 3) (by decide +kernel) (by unfold am_i32; omega) ?_
          refine ar_iald (pc := 75) (a := 295) (i := 3) (by decide +kernel) k_295 (by decide) (am_lt_eq (b := 2159) (by decide) (l_295).symm) ?_
          refine ar_imul (pc := 76) (x := 2) (y := ((am_up h6 295 (am_w32 (48 + (am_w32 (2 * (h6 295 3))))) v1) 295 3)) (by decide +kernel) ?_
          refine ar_iadd (pc := 77) (x := 48) (y := (am_w32 (2 * ((am_up h6 295 (am_w32 (48 + (am_w32 (2 * (h6 295 3))))) v1) 295 3)))) (by decide +kernel) ?_
          refine ar_iconst (pc := 78) (z := 1) (by decide +kernel) (by unfold am_i32; omega) ?_
          refine ar_iadd (pc := 79) (x := (am_w32 (48 + (am_w32 (2 * ((am_up h6 295 (am_w32 (48 + (am_w32 (2 * (h6 295 3))))) v1) 295 3)))))) (y := 1) (by decide +kernel) ?_
          refine ar_iload_n (pc := 80) (i := 2) (k0 := 2) (by decide +kernel) rfl rfl ?_
          obtain ⟨g11, H⟩ := H
          obtain ⟨g12, H⟩ := H
          refine ar_iast (pc := 81) (a := 295) (i := (am_w32 ((am_w32 (48 + (am_w32 (2 * ((am_up h6 295 (am_w32 (48 + (am_w32 (2 * (h6 295 3))))) v1) 295 3))))) + 1))) (z := v2) (by decide +kernel) k_295 g11 (am_lt_eq g12 (l_295).symm) ?_
          refine ar_aload_n (pc := 82) (i := 0) (k0 := 0) (by decide +kernel) rfl rfl ?_
          refine ar_getFV (pc := 83) (a := 294) (b := 295) 7 0 (by decide +kernel) k_294 rfl (by decide) wf_RX7_7 rfl (fun _ => rfl) rfl ?_
          refine ar_iconst (pc := 86) (z := 3) (by decide +kernel) (by unfold am_i32; omega) ?_
          refine ar_dup2 (pc := 87) (by decide +kernel) trivial trivial ?_
          refine ar_iald (pc := 88) (a := 295) (i := 3) (by decide +kernel) k_295 (by decide) (am_lt_eq (b := 2159) (by decide) (l_295).symm) ?_
          refine ar_iconst (pc := 89) (z := 1) (by decide +kernel) (by unfold am_i32; omega) ?_
          refine ar_iadd (pc := 90) (x := ((am_up (am_up h6 295 (am_w32 (48 + (am_w32 (2 * (h6 295 3))))) v1) 295 (am_w32 ((am_w32 (48 + (am_w32 (2 * ((am_up h6 295 (am_w32 (48 + (am_w32 (2 * (h6 295 3))))) v1) 295 3))))) + 1)) v2) 295 3)) (y := 1) (by decide +kernel) ?_
          refine ar_iast (pc := 91) (a := 295) (i := 3) (z := (am_w32 (((am_up (am_up h6 295 (am_w32 (48 + (am_w32 (2 * (h6 295 3))))) v1) 295 (am_w32 ((am_w32 (48 + (am_w32 (2 * ((am_up h6 295 (am_w32 (48 + (am_w32 (2 * (h6 295 3))))) v1) 295 3))))) + 1)) v2) 295 3) + 1))) (by decide +kernel) k_295 (by decide) (am_lt_eq (b := 2159) (by decide) (l_295).symm) ?_
          refine ar_aload_n (pc := 92) (i := 0) (k0 := 0) (by decide +kernel) rfl rfl ?_
          refine ar_getFV (pc := 93) (a := 294) (b := 295) 7 0 (by decide +kernel) k_294 rfl (by decide) wf_RX7_7 rfl (fun _ => rfl) rfl ?_
          refine ar_iconst (pc := 96) (z := 3) (by decide +kernel) (by unfold am_i32; omega) ?_
          refine ar_ialdV (pc := 97) (a := 295) (i := 3) (v := (am_w32 (((am_up (am_up h6 295 (am_w32 (48 + (am_w32 (2 * (h6 295 3))))) v1) 295 (am_w32 ((am_w32 (48 + (am_w32 (2 * ((am_up h6 295 (am_w32 (48 + (am_w32 (2 * (h6 295 3))))) v1) 295 3))))) + 1)) v2) 295 3) + 1))) (by first | rfl | (simp [am_up, am_cp]; done) | (simp [am_up, am_cp] <;> intros <;> omega)) (by decide +kernel) k_295 (by decide) (am_lt_eq (b := 2159) (by decide) (l_295).symm) ?_
          exact ar_iret (pc := 98) (x := (am_w32 (((am_up (am_up h6 295 (am_w32 (48 + (am_w32 (2 * (h6 295 3))))) v1) 295 (am_w32 ((am_w32 (48 + (am_w32 (2 * ((am_up h6 295 (am_w32 (48 + (am_w32 (2 * (h6 295 3))))) v1) 295 3))))) + 1)) v2) 295 3) + 1))) (by decide +kernel) rfl rfl H
        · replace H := H.2 c8
          refine ar_bipush (pc := 43) (z := (-2)) (by decide +kernel) (by omega) ?_
          exact ar_iret (pc := 45) (x := (-2)) (by decide +kernel) rfl rfl H
  · replace H := H.2 c1
    refine ar_aload_n (pc := 5) (i := 0) (k0 := 0) (by decide +kernel) rfl rfl ?_
    refine ar_getFV (pc := 6) (a := 294) (b := 295) 7 0 (by decide +kernel) k_294 rfl (by decide) wf_RX7_7 rfl (fun _ => rfl) rfl ?_
    refine ar_iconst (pc := 9) (z := 3) (by decide +kernel) (by unfold am_i32; omega) ?_
    refine ar_iconst (pc := 10) (z := 0) (by decide +kernel) (by unfold am_i32; omega) ?_
    refine ar_iast (pc := 11) (a := 295) (i := 3) (z := 0) (by decide +kernel) k_295 (by decide) (am_lt_eq (b := 2159) (by decide) (l_295).symm) ?_
    refine ar_iconst (pc := 12) (z := 0) (by decide +kernel) (by unfold am_i32; omega) ?_
    exact ar_iret (pc := 13) (x := 0) (by decide +kernel) rfl rfl H

/-! ByteIntervalsModel.whose()I -/
theorem B_X7_whose_0 {d : Nat} {Q : Int → am_H → Prop} {h : am_H} (H : wf (d + 1) M_X7_whose Q 4 [some (.inr (.inr 294)), some (.inl 0), some (.inl 0), none, none] [] h) : wf (d + 1) M_X7_whose Q 0 [some (.inr (.inr 294)), none, none, none, none] [] h := by
  intro h0
  refine ar_iconst (pc := 0) (z := 0) (by decide +kernel) (by unfold am_i32; omega) ?_
  refine ar_istore_n (pc := 1) (i := 1) (k0 := 1) (ls2 := [some (.inr (.inr 294)), some (.inl 0), none, none, none]) (by decide +kernel) rfl (by decide) rfl ?_
  refine ar_iconst (pc := 2) (z := 0) (by decide +kernel) (by unfold am_i32; omega) ?_
  refine ar_istore_n (pc := 3) (i := 2) (k0 := 2) (ls2 := [some (.inr (.inr 294)), some (.inl 0), some (.inl 0), none, none]) (by decide +kernel) rfl (by decide) rfl ?_
  exact H h0
theorem B_X7_whose_4 {d : Nat} {Q : Int → am_H → Prop} {h : am_H} {v1 v2 : Int} (H : ((h 295 0) ≤ v2 → Q v1 h) ∧ (v2 < (h 295 0) → cf d M_X7_read [.inr (.inr 294), .inl v2] h (fun _ h3 => wf (d + 1) M_X7_whose Q 25 [some (.inr (.inr 294)), some (.inl v1), some (.inl v2), some (.inl 1), some (.inl 48)] [] h3))) : wf (d + 1) M_X7_whose Q 4 [some (.inr (.inr 294)), some (.inl v1), some (.inl v2), none, none] [] h := by
  intro h0
  refine ar_iload_n (pc := 4) (i := 2) (k0 := 2) (by decide +kernel) rfl rfl ?_
  refine ar_aload_n (pc := 5) (i := 0) (k0 := 0) (by decide +kernel) rfl rfl ?_
  refine ar_getFV (pc := 6) (a := 294) (b := 295) 7 0 (by decide +kernel) k_294 rfl (by decide) wf_RX7_7 rfl (fun _ => rfl) rfl ?_
  refine ar_iconst (pc := 9) (z := 0) (by decide +kernel) (by unfold am_i32; omega) ?_
  refine ar_iald (pc := 10) (a := 295) (i := 0) (by decide +kernel) k_295 (by decide) (am_lt_eq (b := 2159) (by decide) (l_295).symm) ?_
  refine ar_icmp_ge (pc := 11) (x := v2) (y := (h 295 0)) (tgt := 115) (off := 104) (by decide +kernel) (by decide) (fun c1 => ?_) (fun c1 => ?_)
  · replace H := H.1 c1
    refine ar_iload_n (pc := 115) (i := 1) (k0 := 1) (by decide +kernel) rfl rfl ?_
    exact ar_iret (pc := 116) (x := v1) (by decide +kernel) rfl rfl H
  · replace H := H.2 c1
    refine ar_aload_n (pc := 14) (i := 0) (k0 := 0) (by decide +kernel) rfl rfl ?_
    refine ar_iload_n (pc := 15) (i := 2) (k0 := 2) (by decide +kernel) rfl rfl ?_
    refine ar_callV (pc := 16) (M2 := M_X7_read) (a := 294) (ci := 7) (as := [.inl v2]) (n2 := 321) (st := []) (by decide +kernel) rfl wm_RX7_515 wi_yX7_read wl_yX7_read k_294 rfl wz_RX7 wc_yX7_read ⟨by decide, by decide, rfl⟩ (by decide) (Nat.le_of_ble_eq_true rfl) (Nat.le_refl _) (Nat.le_refl _) (am_Cl_mono H (fun r2 h3 H => ?_))
    show am_Wp true (d + 1) M_X7_whose 321 321 h0 Q 19 [some (.inr (.inr 294)), some (.inl v1), some (.inl v2), none, none] [] 321 h3
    refine ar_iconst (pc := 19) (z := 1) (by decide +kernel) (by unfold am_i32; omega) ?_
    refine ar_istore_n (pc := 20) (i := 3) (k0 := 3) (ls2 := [some (.inr (.inr 294)), some (.inl v1), some (.inl v2), some (.inl 1), none]) (by decide +kernel) rfl (by decide) rfl ?_
    refine ar_bipush (pc := 21) (z := 48) (by decide +kernel) (by omega) ?_
    refine ar_istore (pc := 23) (i := 4) (ls2 := [some (.inr (.inr 294)), some (.inl v1), some (.inl v2), some (.inl 1), some (.inl 48)]) (by decide +kernel) (by decide) rfl ?_
    exact H h0
theorem B_X7_whose_25 {d : Nat} {Q : Int → am_H → Prop} {h : am_H} {v1 v2 v3 v4 : Int} (H : ((am_w32 (48 + (am_w32 (2 * (h 295 3))))) ≤ v4 → (v3 = 0 → wf (d + 1) M_X7_whose Q 107 [some (.inr (.inr 294)), none, some (.inl v2), none, none] [.inl 0, .inl v1] h) ∧ (¬ v3 = 0 → wf (d + 1) M_X7_whose Q 107 [some (.inr (.inr 294)), none, some (.inl v2), none, none] [.inl (am_ishl 1 v2), .inl v1] h)) ∧ (v4 < (am_w32 (48 + (am_w32 (2 * (h 295 3))))) → (v3 = 0 → wf (d + 1) M_X7_whose Q 87 [some (.inr (.inr 294)), some (.inl v1), some (.inl v2), none, some (.inl v4)] [] h) ∧ (¬ v3 = 0 → (0 ≤ v4) ∧ ((v4 < 2159) ∧ (cf d M_X7_isHeld [.inr (.inr 294), .inl (h 295 v4)] h (fun r6 h7 => (r6 = 0 → wf (d + 1) M_X7_whose Q 87 [some (.inr (.inr 294)), some (.inl v1), some (.inl v2), none, some (.inl v4)] [] h7) ∧ (¬ r6 = 0 → (0 ≤ (h7 295 v4)) ∧ (((h7 295 v4) < 24) ∧ ((0 ≤ (am_w32 (v4 + 1))) ∧ (((am_w32 (v4 + 1)) < 2159) ∧ ((¬ (h7 312 (h7 295 v4)) = (h7 295 (am_w32 (v4 + 1))) → wf (d + 1) M_X7_whose Q 87 [some (.inr (.inr 294)), some (.inl v1), some (.inl v2), none, some (.inl v4)] [] h7) ∧ ((h7 312 (h7 295 v4)) = (h7 295 (am_w32 (v4 + 1))) → wf (d + 1) M_X7_whose Q 88 [some (.inr (.inr 294)), some (.inl v1), some (.inl v2), none, some (.inl v4)] [.inl 1] h7)))))))))))) : wf (d + 1) M_X7_whose Q 25 [some (.inr (.inr 294)), some (.inl v1), some (.inl v2), some (.inl v3), some (.inl v4)] [] h := by
  intro h0
  refine ar_iload (pc := 25) (i := 4) (by decide +kernel) rfl ?_
  refine ar_bipush (pc := 27) (z := 48) (by decide +kernel) (by omega) ?_
  refine ar_iconst (pc := 29) (z := 2) (by decide +kernel) (by unfold am_i32; omega) ?_
  refine ar_aload_n (pc := 30) (i := 0) (k0 := 0) (by decide +kernel) rfl rfl ?_
  refine ar_getFV (pc := 31) (a := 294) (b := 295) 7 0 (by decide +kernel) k_294 rfl (by decide) wf_RX7_7 rfl (fun _ => rfl) rfl ?_
  refine ar_iconst (pc := 34) (z := 3) (by decide +kernel) (by unfold am_i32; omega) ?_
  refine ar_iald (pc := 35) (a := 295) (i := 3) (by decide +kernel) k_295 (by decide) (am_lt_eq (b := 2159) (by decide) (l_295).symm) ?_
  refine ar_imul (pc := 36) (x := 2) (y := (h 295 3)) (by decide +kernel) ?_
  refine ar_iadd (pc := 37) (x := 48) (y := (am_w32 (2 * (h 295 3)))) (by decide +kernel) ?_
  refine ar_icmp_ge (pc := 38) (x := v4) (y := (am_w32 (48 + (am_w32 (2 * (h 295 3)))))) (tgt := 95) (off := 57) (by decide +kernel) (by decide) (fun c1 => ?_) (fun c1 => ?_)
  · replace H := H.1 c1
    refine ar_iload_n (pc := 95) (i := 1) (k0 := 1) (by decide +kernel) rfl rfl ?_
    refine ar_iload_n (pc := 96) (i := 3) (k0 := 3) (by decide +kernel) rfl rfl ?_
    refine ar_if_eq (pc := 97) (x := v3) (tgt := 106) (off := 9) (by decide +kernel) (by decide) (fun c2 => ?_) (fun c2 => ?_)
    · replace H := H.1 c2
      refine ar_iconst (pc := 106) (z := 0) (by decide +kernel) (by unfold am_i32; omega) ?_
      refine ar_forget [true, false, true, false, false] rfl ?_
      exact H h0
    · replace H := H.2 c2
      refine ar_iconst (pc := 100) (z := 1) (by decide +kernel) (by unfold am_i32; omega) ?_
      refine ar_iload_n (pc := 101) (i := 2) (k0 := 2) (by decide +kernel) rfl rfl ?_
      refine ar_ishl (pc := 102) (x := 1) (y := v2) (by decide +kernel) ?_
      refine ar_goto (pc := 103) (tgt := 107) (off := 4) (by decide +kernel) (by decide) ?_
      refine ar_forget [true, false, true, false, false] rfl ?_
      exact H h0
  · replace H := H.2 c1
    refine ar_iload_n (pc := 41) (i := 3) (k0 := 3) (by decide +kernel) rfl rfl ?_
    refine ar_if_eq (pc := 42) (x := v3) (tgt := 87) (off := 45) (by decide +kernel) (by decide) (fun c3 => ?_) (fun c3 => ?_)
    · replace H := H.1 c3
      refine ar_forget [true, true, true, false, true] rfl ?_
      exact H h0
    · replace H := H.2 c3
      refine ar_aload_n (pc := 45) (i := 0) (k0 := 0) (by decide +kernel) rfl rfl ?_
      refine ar_aload_n (pc := 46) (i := 0) (k0 := 0) (by decide +kernel) rfl rfl ?_
      refine ar_getFV (pc := 47) (a := 294) (b := 295) 7 0 (by decide +kernel) k_294 rfl (by decide) wf_RX7_7 rfl (fun _ => rfl) rfl ?_
      refine ar_iload (pc := 50) (i := 4) (by decide +kernel) rfl ?_
      obtain ⟨g4, H⟩ := H
      obtain ⟨g5, H⟩ := H
      refine ar_iald (pc := 52) (a := 295) (i := v4) (by decide +kernel) k_295 g4 (am_lt_eq g5 (l_295).symm) ?_
      refine ar_callV (pc := 53) (M2 := M_X7_isHeld) (a := 294) (ci := 7) (as := [.inl (h 295 v4)]) (n2 := 321) (st := []) (by decide +kernel) rfl wm_RX7_533 wi_yX7_isHeld wl_yX7_isHeld k_294 rfl wz_RX7 wc_yX7_isHeld ⟨by decide, by decide, rfl⟩ (by decide) (Nat.le_of_ble_eq_true rfl) (Nat.le_refl _) (Nat.le_refl _) (am_Cl_mono H (fun r6 h7 H => ?_))
      show am_Wp true (d + 1) M_X7_whose 321 321 h0 Q 56 [some (.inr (.inr 294)), some (.inl v1), some (.inl v2), some (.inl v3), some (.inl v4)] [.inl r6] 321 h7
      refine ar_if_eq (pc := 56) (x := r6) (tgt := 87) (off := 31) (by decide +kernel) (by decide) (fun c8 => ?_) (fun c8 => ?_)
      · replace H := H.1 c8
        refine ar_forget [true, true, true, false, true] rfl ?_
        exact H h0
      · replace H := H.2 c8
        refine ar_aload_n (pc := 59) (i := 0) (k0 := 0) (by decide +kernel) rfl rfl ?_
        refine ar_getFV (pc := 60) (a := 294) (b := 312) 7 38 (by decide +kernel) k_294 rfl (by decide) wf_RX7_70 rfl (fun _ => rfl) rfl ?_
        refine ar_aload_n (pc := 63) (i := 0) (k0 := 0) (by decide +kernel) rfl rfl ?_
        refine ar_getFV (pc := 64) (a := 294) (b := 295) 7 0 (by decide +kernel) k_294 rfl (by decide) wf_RX7_7 rfl (fun _ => rfl) rfl ?_
        refine ar_iload (pc := 67) (i := 4) (by decide +kernel) rfl ?_
        refine ar_iald (pc := 69) (a := 295) (i := v4) (by decide +kernel) k_295 g4 (am_lt_eq g5 (l_295).symm) ?_
        obtain ⟨g9, H⟩ := H
        obtain ⟨g10, H⟩ := H
        refine ar_iald (pc := 70) (a := 312) (i := (h7 295 v4)) (by decide +kernel) k_312 g9 (am_lt_eq g10 (l_312).symm) ?_
        refine ar_aload_n (pc := 71) (i := 0) (k0 := 0) (by decide +kernel) rfl rfl ?_
        refine ar_getFV (pc := 72) (a := 294) (b := 295) 7 0 (by decide +kernel) k_294 rfl (by decide) wf_RX7_7 rfl (fun _ => rfl) rfl ?_
        refine ar_iload (pc := 75) (i := 4) (by decide +kernel) rfl ?_
        refine ar_iconst (pc := 77) (z := 1) (by decide +kernel) (by unfold am_i32; omega) ?_
        refine ar_iadd (pc := 78) (x := v4) (y := 1) (by decide +kernel) ?_
        obtain ⟨g11, H⟩ := H
        obtain ⟨g12, H⟩ := H
        refine ar_iald (pc := 79) (a := 295) (i := (am_w32 (v4 + 1))) (by decide +kernel) k_295 g11 (am_lt_eq g12 (l_295).symm) ?_
        refine ar_icmp_ne (pc := 80) (x := (h7 312 (h7 295 v4))) (y := (h7 295 (am_w32 (v4 + 1)))) (tgt := 87) (off := 7) (by decide +kernel) (by decide) (fun c13 => ?_) (fun c13 => ?_)
        · replace H := H.1 c13
          refine ar_forget [true, true, true, false, true] rfl ?_
          exact H h0
        · replace H := H.2 c13
          refine ar_iconst (pc := 83) (z := 1) (by decide +kernel) (by unfold am_i32; omega) ?_
          refine ar_goto (pc := 84) (tgt := 88) (off := 4) (by decide +kernel) (by decide) ?_
          refine ar_forget [true, true, true, false, true] rfl ?_
          exact H h0
theorem B_X7_whose_87 {d : Nat} {Q : Int → am_H → Prop} {h : am_H} {v1 v2 v4 : Int} (H : wf (d + 1) M_X7_whose Q 88 [some (.inr (.inr 294)), some (.inl v1), some (.inl v2), none, some (.inl v4)] [.inl 0] h) : wf (d + 1) M_X7_whose Q 87 [some (.inr (.inr 294)), some (.inl v1), some (.inl v2), none, some (.inl v4)] [] h := by
  intro h0
  refine ar_iconst (pc := 87) (z := 0) (by decide +kernel) (by unfold am_i32; omega) ?_
  exact H h0
theorem B_X7_whose_88 {d : Nat} {Q : Int → am_H → Prop} {h : am_H} {v1 v2 v4 s0 : Int} (H : wf (d + 1) M_X7_whose Q 25 [some (.inr (.inr 294)), some (.inl v1), some (.inl v2), some (.inl s0), some (.inl (am_w32 (v4 + 2)))] [] h) : wf (d + 1) M_X7_whose Q 88 [some (.inr (.inr 294)), some (.inl v1), some (.inl v2), none, some (.inl v4)] [.inl s0] h := by
  intro h0
  refine ar_istore_n (pc := 88) (i := 3) (k0 := 3) (ls2 := [some (.inr (.inr 294)), some (.inl v1), some (.inl v2), some (.inl s0), some (.inl v4)]) (by decide +kernel) rfl (by decide) rfl ?_
  refine ar_iinc (pc := 89) (i := 4) (z := 2) (x := v4) (ls2 := [some (.inr (.inr 294)), some (.inl v1), some (.inl v2), some (.inl s0), some (.inl (am_w32 (v4 + 2)))]) (by decide +kernel) rfl (by decide) rfl ?_
  refine ar_goto (pc := 92) (tgt := 25) (off := -67) (by decide +kernel) (by decide) ?_
  exact H h0
theorem B_X7_whose_107 {d : Nat} {Q : Int → am_H → Prop} {h : am_H} {v2 s0 s1 : Int} (H : wf (d + 1) M_X7_whose Q 4 [some (.inr (.inr 294)), some (.inl (am_ior s0 s1)), some (.inl (am_w32 (v2 + 1))), none, none] [] h) : wf (d + 1) M_X7_whose Q 107 [some (.inr (.inr 294)), none, some (.inl v2), none, none] [.inl s1, .inl s0] h := by
  intro h0
  refine ar_ior (pc := 107) (x := s0) (y := s1) (by decide +kernel) ?_
  refine ar_istore_n (pc := 108) (i := 1) (k0 := 1) (ls2 := [some (.inr (.inr 294)), some (.inl (am_ior s0 s1)), some (.inl v2), none, none]) (by decide +kernel) rfl (by decide) rfl ?_
  refine ar_iinc (pc := 109) (i := 2) (z := 1) (x := v2) (ls2 := [some (.inr (.inr 294)), some (.inl (am_ior s0 s1)), some (.inl (am_w32 (v2 + 1))), none, none]) (by decide +kernel) rfl (by decide) rfl ?_
  refine ar_goto (pc := 112) (tgt := 4) (off := -108) (by decide +kernel) (by decide) ?_
  exact H h0

/-! ByteIntervalsModel.image()I -/
theorem B_X7_image_0 {d : Nat} {Q : Int → am_H → Prop} {h : am_H} (H : cf d M_X7_copy [.inr (.inr 295), .inr (.inr 296)] h (fun _ h2 => Q (h2 295 4) h2)) : wf (d + 1) M_X7_image Q 0 [some (.inr (.inr 294))] [] h := by
  intro h0
  refine ar_aload_n (pc := 0) (i := 0) (k0 := 0) (by decide +kernel) rfl rfl ?_
  refine ar_getFV (pc := 1) (a := 294) (b := 295) 7 0 (by decide +kernel) k_294 rfl (by decide) wf_RX7_7 rfl (fun _ => rfl) rfl ?_
  refine ar_aload_n (pc := 4) (i := 0) (k0 := 0) (by decide +kernel) rfl rfl ?_
  refine ar_getFV (pc := 5) (a := 294) (b := 296) 7 1 (by decide +kernel) k_294 rfl (by decide) wf_RX7_13 rfl (fun _ => rfl) rfl ?_
  refine ar_callS (pc := 8) (M2 := M_X7_copy) (as := [.inr (.inr 295), .inr (.inr 296)]) (n2 := 321) (st := []) (by decide +kernel) rfl wm_RX7_104 ws_yX7_copy wz_RX7 wc_yX7_copy ⟨by decide, by decide, rfl⟩ (by decide) (Nat.le_of_ble_eq_true rfl) (Nat.le_refl _) (Nat.le_refl _) (am_Cl_mono H (fun r1 h2 H => ?_))
  show am_Wp true (d + 1) M_X7_image 321 321 h0 Q 11 [some (.inr (.inr 294))] [] 321 h2
  refine ar_aload_n (pc := 11) (i := 0) (k0 := 0) (by decide +kernel) rfl rfl ?_
  refine ar_getFV (pc := 12) (a := 294) (b := 295) 7 0 (by decide +kernel) k_294 rfl (by decide) wf_RX7_7 rfl (fun _ => rfl) rfl ?_
  refine ar_iconst (pc := 15) (z := 4) (by decide +kernel) (by unfold am_i32; omega) ?_
  refine ar_iald (pc := 16) (a := 295) (i := 4) (by decide +kernel) k_295 (by decide) (am_lt_eq (b := 2159) (by decide) (l_295).symm) ?_
  exact ar_iret (pc := 17) (x := (h2 295 4)) (by decide +kernel) rfl rfl H

/-! ByteIntervalsModel.back()I -/
theorem B_X7_back_0 {d : Nat} {Q : Int → am_H → Prop} {h : am_H} (H : cf d M_X7_copy [.inr (.inr 296), .inr (.inr 295)] h (fun _ h2 => Q (h2 295 4) h2)) : wf (d + 1) M_X7_back Q 0 [some (.inr (.inr 294))] [] h := by
  intro h0
  refine ar_aload_n (pc := 0) (i := 0) (k0 := 0) (by decide +kernel) rfl rfl ?_
  refine ar_getFV (pc := 1) (a := 294) (b := 296) 7 1 (by decide +kernel) k_294 rfl (by decide) wf_RX7_13 rfl (fun _ => rfl) rfl ?_
  refine ar_aload_n (pc := 4) (i := 0) (k0 := 0) (by decide +kernel) rfl rfl ?_
  refine ar_getFV (pc := 5) (a := 294) (b := 295) 7 0 (by decide +kernel) k_294 rfl (by decide) wf_RX7_7 rfl (fun _ => rfl) rfl ?_
  refine ar_callS (pc := 8) (M2 := M_X7_copy) (as := [.inr (.inr 296), .inr (.inr 295)]) (n2 := 321) (st := []) (by decide +kernel) rfl wm_RX7_104 ws_yX7_copy wz_RX7 wc_yX7_copy ⟨by decide, by decide, rfl⟩ (by decide) (Nat.le_of_ble_eq_true rfl) (Nat.le_refl _) (Nat.le_refl _) (am_Cl_mono H (fun r1 h2 H => ?_))
  show am_Wp true (d + 1) M_X7_back 321 321 h0 Q 11 [some (.inr (.inr 294))] [] 321 h2
  refine ar_aload_n (pc := 11) (i := 0) (k0 := 0) (by decide +kernel) rfl rfl ?_
  refine ar_getFV (pc := 12) (a := 294) (b := 295) 7 0 (by decide +kernel) k_294 rfl (by decide) wf_RX7_7 rfl (fun _ => rfl) rfl ?_
  refine ar_iconst (pc := 15) (z := 4) (by decide +kernel) (by unfold am_i32; omega) ?_
  refine ar_iald (pc := 16) (a := 295) (i := 4) (by decide +kernel) k_295 (by decide) (am_lt_eq (b := 2159) (by decide) (l_295).symm) ?_
  exact ar_iret (pc := 17) (x := (h2 295 4)) (by decide +kernel) rfl rfl H

/-! ByteIntervalsModel.about(I)I -/
theorem B_X7_about_0 {d : Nat} {Q : Int → am_H → Prop} {h : am_H} {v1 : Int} (H : cf d M_X7_isIn [.inl v1, .inl 0, .inl 3] h (fun r1 h2 => (r1 = 0 → (¬ v1 = 4 → Q (-2) h2) ∧ (v1 = 4 → Q (h2 294 4) h2)) ∧ (¬ r1 = 0 → (0 ≤ v1) ∧ ((v1 < 2159) ∧ (Q (h2 295 v1) h2))))) : wf (d + 1) M_X7_about Q 0 [some (.inr (.inr 294)), some (.inl v1)] [] h := by
  intro h0
  refine ar_iload_n (pc := 0) (i := 1) (k0 := 1) (by decide +kernel) rfl rfl ?_
  refine ar_iconst (pc := 1) (z := 0) (by decide +kernel) (by unfold am_i32; omega) ?_
  refine ar_iconst (pc := 2) (z := 3) (by decide +kernel) (by unfold am_i32; omega) ?_
  refine ar_callS (pc := 3) (M2 := M_X7_isIn) (as := [.inl v1, .inl 0, .inl 3]) (n2 := 321) (st := []) (by decide +kernel) rfl wm_RX7_108 ws_yX7_isIn wz_RX7 wc_yX7_isIn ⟨by decide, by decide, rfl⟩ (by decide) (Nat.le_of_ble_eq_true rfl) (Nat.le_refl _) (Nat.le_refl _) (am_Cl_mono H (fun r1 h2 H => ?_))
  show am_Wp true (d + 1) M_X7_about 321 321 h0 Q 6 [some (.inr (.inr 294)), some (.inl v1)] [.inl r1] 321 h2
  refine ar_if_eq (pc := 6) (x := r1) (tgt := 18) (off := 12) (by decide +kernel) (by decide) (fun c3 => ?_) (fun c3 => ?_)
  · replace H := H.1 c3
    refine ar_iload_n (pc := 18) (i := 1) (k0 := 1) (by decide +kernel) rfl rfl ?_
    refine ar_iconst (pc := 19) (z := 4) (by decide +kernel) (by unfold am_i32; omega) ?_
    refine ar_icmp_ne (pc := 20) (x := v1) (y := 4) (tgt := 30) (off := 10) (by decide +kernel) (by decide) (fun c4 => ?_) (fun c4 => ?_)
    · replace H := H.1 c4
      refine ar_bipush (pc := 30) (z := (-2)) (by decide +kernel) (by omega) ?_
      exact ar_iret (pc := 32) (x := (-2)) (by decide +kernel) rfl rfl H
    · replace H := H.2 c4
      refine ar_aload_n (pc := 23) (i := 0) (k0 := 0) (by decide +kernel) rfl rfl ?_
      refine ar_getV (pc := 24) (a := 294) (v := .inl (h2 294 4)) 7 4 (by decide +kernel) k_294 rfl (by decide) wf_RX7_112 rfl ?_
      refine ar_goto (pc := 27) (tgt := 32) (off := 5) (by decide +kernel) (by decide) ?_
      exact ar_iret (pc := 32) (x := (h2 294 4)) (by decide +kernel) rfl rfl H
  · replace H := H.2 c3
    refine ar_aload_n (pc := 9) (i := 0) (k0 := 0) (by decide +kernel) rfl rfl ?_
    refine ar_getFV (pc := 10) (a := 294) (b := 295) 7 0 (by decide +kernel) k_294 rfl (by decide) wf_RX7_7 rfl (fun _ => rfl) rfl ?_
    refine ar_iload_n (pc := 13) (i := 1) (k0 := 1) (by decide +kernel) rfl rfl ?_
    obtain ⟨g5, H⟩ := H
    obtain ⟨g6, H⟩ := H
    refine ar_iald (pc := 14) (a := 295) (i := v1) (by decide +kernel) k_295 g5 (am_lt_eq g6 (l_295).symm) ?_
    refine ar_goto (pc := 15) (tgt := 32) (off := 17) (by decide +kernel) (by decide) ?_
    exact ar_iret (pc := 32) (x := (h2 295 v1)) (by decide +kernel) rfl rfl H

