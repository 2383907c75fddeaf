/-! ByteIntervals.inside(IIII)I -/
theorem B_X6_inside_0 {d : Nat} {Q : Int → am_H → Prop} {h : am_H} {v1 v2 v3 v4 : Int} (H : cf d M_X6_textAt [.inr (.inr 1), .inl v1] h (fun r1 h2 => (0 ≤ r1) ∧ ((r1 = 0 → Q (-2) h2) ∧ (1 ≤ r1 → cf d M_X6_isField [.inl v2] h2 (fun r5 h6 => (r5 = 0 → Q (-2) h6) ∧ (¬ r5 = 0 → cf d M_X6_isField [.inl v3] h6 (fun r8 h9 => (r8 = 0 → Q (-2) h9) ∧ (¬ r8 = 0 → (am_kd 321 r1 = 15) ∧ ((0 ≤ v2) ∧ ((v2 < 8) ∧ (((h9 (r1 + 5) v2) = 2 → cf d M_X2_readFile [.inr (.inr 218), .inr (.inr r1), .inr (.inr 5), .inl (h9 (r1 + 12) v2)] h9 (fun r15 h16 => (am_kd 321 r15 = 13) ∧ (cf d M_X3_how [.inr (.inr r15), .inl v2] h16 (fun r17 h18 => (¬ r17 = 1 → cf d M_X2_readInside [.inr (.inr 218), .inr (.inr r1), .inl (h18 (r15 + 2) v2), .inl (h18 (r15 + 3) v2)] h18 (fun r21 h22 => (am_kd 321 r21 = 13) ∧ (cf d M_X3_tell [.inr (.inr r21), .inl v3, .inl v4] h22 (fun r23 h24 => Q r23 h24)))) ∧ (r17 = 1 → Q (-2) h18))))) ∧ (¬ (h9 (r1 + 5) v2) = 2 → Q (-2) h9)))))))))))) : wf (d + 1) M_X6_inside Q 0 [some (.inr (.inr 1)), some (.inl v1), some (.inl v2), some (.inl v3), some (.inl v4), none, none] [] h := by
  intro h0
  refine ar_aload_n (pc := 0) (i := 0) (k0 := 0) (by decide +kernel) rfl rfl ?_
  refine ar_iload_n (pc := 1) (i := 1) (k0 := 1) (by decide +kernel) rfl rfl ?_
  refine ar_callV (pc := 2) (M2 := M_X6_textAt) (a := 1) (ci := 6) (as := [.inl v1]) (n2 := 321) (st := []) (by decide +kernel) rfl wm_RX6_78 wi_yX6_textAt wl_yX6_textAt k_1 rfl wz_RX6 wc_yX6_textAt ⟨by decide, by decide, rfl⟩ (by decide) (Nat.le_of_ble_eq_true rfl) (Nat.le_refl _) (Nat.le_refl _) (am_Cl_mono H (fun r1 h2 H => ?_))
  show am_Wp true (d + 1) M_X6_inside 321 321 h0 Q 5 [some (.inr (.inr 1)), some (.inl v1), some (.inl v2), some (.inl v3), some (.inl v4), none, none] [.inr (.inr r1)] 321 h2
  refine ar_astore (pc := 5) (i := 5) (ls2 := [some (.inr (.inr 1)), some (.inl v1), some (.inl v2), some (.inl v3), some (.inl v4), some (.inr (.inr r1)), none]) (by decide +kernel) (by decide) rfl ?_
  refine ar_aload (pc := 7) (i := 5) (by decide +kernel) rfl ?_
  obtain ⟨g4, H⟩ := H
  refine ar_ifnull (pc := 9) (x := r1) (tgt := 37) (off := 28) (by decide +kernel) (by decide) g4 (fun c3 => ?_) (fun c3 => ?_)
  · replace H := H.1 c3
    refine ar_bipush (pc := 37) (z := (-2)) (by decide +kernel) (by omega) ?_
    exact ar_iret (pc := 39) (x := (-2)) (by decide +kernel) rfl rfl H
  · replace H := H.2 c3
    refine ar_iload_n (pc := 12) (i := 2) (k0 := 2) (by decide +kernel) rfl rfl ?_
    refine ar_callS (pc := 13) (M2 := M_X6_isField) (as := [.inl v2]) (n2 := 321) (st := []) (by decide +kernel) rfl wm_RX6_215 ws_yX6_isField wz_RX6 wc_yX6_isField ⟨by decide, by decide, rfl⟩ (by decide) (Nat.le_of_ble_eq_true rfl) (Nat.le_refl _) (Nat.le_refl _) (am_Cl_mono H (fun r5 h6 H => ?_))
    show am_Wp true (d + 1) M_X6_inside 321 321 h0 Q 16 [some (.inr (.inr 1)), some (.inl v1), some (.inl v2), some (.inl v3), some (.inl v4), some (.inr (.inr r1)), none] [.inl r5] 321 h6
    refine ar_if_eq (pc := 16) (x := r5) (tgt := 37) (off := 21) (by decide +kernel) (by decide) (fun c7 => ?_) (fun c7 => ?_)
    · replace H := H.1 c7
      refine ar_bipush (pc := 37) (z := (-2)) (by decide +kernel) (by omega) ?_
      exact ar_iret (pc := 39) (x := (-2)) (by decide +kernel) rfl rfl H
    · replace H := H.2 c7
      refine ar_iload_n (pc := 19) (i := 3) (k0 := 3) (by decide +kernel) rfl rfl ?_
      refine ar_callS (pc := 20) (M2 := M_X6_isField) (as := [.inl v3]) (n2 := 321) (st := []) (by decide +kernel) rfl wm_RX6_215 ws_yX6_isField wz_RX6 wc_yX6_isField ⟨by decide, by decide, rfl⟩ (by decide) (Nat.le_of_ble_eq_true rfl) (Nat.le_refl _) (Nat.le_refl _) (am_Cl_mono H (fun r8 h9 H => ?_))
      show am_Wp true (d + 1) M_X6_inside 321 321 h0 Q 23 [some (.inr (.inr 1)), some (.inl v1), some (.inl v2), some (.inl v3), some (.inl v4), some (.inr (.inr r1)), none] [.inl r8] 321 h9
      refine ar_if_eq (pc := 23) (x := r8) (tgt := 37) (off := 14) (by decide +kernel) (by decide) (fun c10 => ?_) (fun c10 => ?_)
      · replace H := H.1 c10
        refine ar_bipush (pc := 37) (z := (-2)) (by decide +kernel) (by omega) ?_
        exact ar_iret (pc := 39) (x := (-2)) (by decide +kernel) rfl rfl H
      · replace H := H.2 c10
        refine ar_aload (pc := 26) (i := 5) (by decide +kernel) rfl ?_
        obtain ⟨g11, H⟩ := H
        refine ar_getFNV (pc := 28) (a := r1) (b := (r1 + 5)) 5 7 (by decide +kernel) g11 rfl (by decide) wg_RX6_228 rfl (fun _ => rfl) rfl ?_
        refine ar_iload_n (pc := 31) (i := 2) (k0 := 2) (by decide +kernel) rfl rfl ?_
        obtain ⟨g12, H⟩ := H
        obtain ⟨g13, H⟩ := H
        refine ar_iald (pc := 32) (a := (r1 + 5)) (i := v2) (by decide +kernel) (kX5_7 g11).1 g12 (am_lt_eq g13 ((kX5_7 g11).2).symm) ?_
        refine ar_iconst (pc := 33) (z := 2) (by decide +kernel) (by unfold am_i32; omega) ?_
        refine ar_icmp_eq (pc := 34) (x := (h9 (r1 + 5) v2)) (y := 2) (tgt := 40) (off := 6) (by decide +kernel) (by decide) (fun c14 => ?_) (fun c14 => ?_)
        · replace H := H.1 c14
          refine ar_aload_n (pc := 40) (i := 0) (k0 := 0) (by decide +kernel) rfl rfl ?_
          refine ar_getFV (pc := 41) (a := 1) (b := 218) 6 9 (by decide +kernel) k_1 rfl (by decide) wf_RX6_56 rfl (fun _ => rfl) rfl ?_
          refine ar_aload (pc := 44) (i := 5) (by decide +kernel) rfl ?_
          refine ar_aload_n (pc := 46) (i := 0) (k0 := 0) (by decide +kernel) rfl rfl ?_
          refine ar_getFV (pc := 47) (a := 1) (b := 4) 6 5 (by decide +kernel) k_1 rfl (by decide) wf_RX6_32 rfl (fun _ => rfl) rfl ?_
          refine ar_getFNV (pc := 50) (a := 4) (b := 5) 4 0 (by decide +kernel) k_4 rfl (by decide) wg_RX6_82 rfl (fun _ => rfl) rfl ?_
          refine ar_aload (pc := 53) (i := 5) (by decide +kernel) rfl ?_
          refine ar_getFNV (pc := 55) (a := r1) (b := (r1 + 12)) 5 16 (by decide +kernel) g11 rfl (by decide) wg_RX6_218 rfl (fun _ => rfl) rfl ?_
          refine ar_iload_n (pc := 58) (i := 2) (k0 := 2) (by decide +kernel) rfl rfl ?_
          refine ar_iald (pc := 59) (a := (r1 + 12)) (i := v2) (by decide +kernel) (kX5_16 g11).1 g12 (am_lt_eq g13 ((kX5_16 g11).2).symm) ?_
          refine ar_callVN (pc := 60) (M2 := M_X2_readFile) (a := 218) (ci := 2) (as := [.inr (.inr r1), .inr (.inr 5), .inl (h9 (r1 + 12) v2)]) (n2 := 321) (st := []) (by decide +kernel) rfl wn_RX6_221 wi_yX2_readFile wl_yX2_readFile k_218 rfl wz_RX2 wc_yX2_readFile ⟨by decide, by decide, rfl⟩ (by decide) (Nat.le_of_ble_eq_true rfl) (Nat.le_refl _) (Nat.le_refl _) (am_Cl_mono H (fun r15 h16 H => ?_))
          show am_Wp true (d + 1) M_X6_inside 321 321 h0 Q 63 [some (.inr (.inr 1)), some (.inl v1), some (.inl v2), some (.inl v3), some (.inl v4), some (.inr (.inr r1)), none] [.inr (.inr r15)] 321 h16
          refine ar_astore (pc := 63) (i := 6) (ls2 := [some (.inr (.inr 1)), some (.inl v1), some (.inl v2), some (.inl v3), some (.inl v4), some (.inr (.inr r1)), some (.inr (.inr r15))]) (by decide +kernel) (by decide) rfl ?_
          refine ar_aload (pc := 65) (i := 6) (by decide +kernel) rfl ?_
          refine ar_iload_n (pc := 67) (i := 2) (k0 := 2) (by decide +kernel) rfl rfl ?_
          obtain ⟨g19, H⟩ := H
          refine ar_callVN (pc := 68) (M2 := M_X3_how) (a := r15) (ci := 3) (as := [.inl v2]) (n2 := 321) (st := []) (by decide +kernel) rfl wn_RX6_231 wi_yX3_how wl_yX3_how g19 rfl wz_RX3 wc_yX3_how ⟨by decide, by decide, rfl⟩ (by decide) (Nat.le_of_ble_eq_true rfl) (Nat.le_refl _) (Nat.le_refl _) (am_Cl_mono H (fun r17 h18 H => ?_))
          show am_Wp true (d + 1) M_X6_inside 321 321 h0 Q 71 [some (.inr (.inr 1)), some (.inl v1), some (.inl v2), some (.inl v3), some (.inl v4), some (.inr (.inr r1)), some (.inr (.inr r15))] [.inl r17] 321 h18
          refine ar_iconst (pc := 71) (z := 1) (by decide +kernel) (by unfold am_i32; omega) ?_
          refine ar_icmp_ne (pc := 72) (x := r17) (y := 1) (tgt := 78) (off := 6) (by decide +kernel) (by decide) (fun c20 => ?_) (fun c20 => ?_)
          · replace H := H.1 c20
            refine ar_aload_n (pc := 78) (i := 0) (k0 := 0) (by decide +kernel) rfl rfl ?_
            refine ar_getFV (pc := 79) (a := 1) (b := 218) 6 9 (by decide +kernel) k_1 rfl (by decide) wf_RX6_56 rfl (fun _ => rfl) rfl ?_
            refine ar_aload (pc := 82) (i := 5) (by decide +kernel) rfl ?_
            refine ar_aload (pc := 84) (i := 6) (by decide +kernel) rfl ?_
            refine ar_getFNV (pc := 86) (a := r15) (b := (r15 + 2)) 3 7 (by decide +kernel) g19 rfl (by decide) wg_RX6_234 rfl (fun _ => rfl) rfl ?_
            refine ar_iload_n (pc := 89) (i := 2) (k0 := 2) (by decide +kernel) rfl rfl ?_
            refine ar_iald (pc := 90) (a := (r15 + 2)) (i := v2) (by decide +kernel) (kX3_7 g19).1 g12 (am_lt_eq g13 ((kX3_7 g19).2).symm) ?_
            refine ar_aload (pc := 91) (i := 6) (by decide +kernel) rfl ?_
            refine ar_getFNV (pc := 93) (a := r15) (b := (r15 + 3)) 3 8 (by decide +kernel) g19 rfl (by decide) wg_RX6_237 rfl (fun _ => rfl) rfl ?_
            refine ar_iload_n (pc := 96) (i := 2) (k0 := 2) (by decide +kernel) rfl rfl ?_
            refine ar_iald (pc := 97) (a := (r15 + 3)) (i := v2) (by decide +kernel) (kX3_8 g19).1 g12 (am_lt_eq g13 ((kX3_8 g19).2).symm) ?_
            refine ar_callVN (pc := 98) (M2 := M_X2_readInside) (a := 218) (ci := 2) (as := [.inr (.inr r1), .inl (h18 (r15 + 2) v2), .inl (h18 (r15 + 3) v2)]) (n2 := 321) (st := []) (by decide +kernel) rfl wn_RX6_240 wi_yX2_readInside wl_yX2_readInside k_218 rfl wz_RX2 wc_yX2_readInside ⟨by decide, by decide, rfl⟩ (by decide) (Nat.le_of_ble_eq_true rfl) (Nat.le_refl _) (Nat.le_refl _) (am_Cl_mono H (fun r21 h22 H => ?_))
            show am_Wp true (d + 1) M_X6_inside 321 321 h0 Q 101 [some (.inr (.inr 1)), some (.inl v1), some (.inl v2), some (.inl v3), some (.inl v4), some (.inr (.inr r1)), some (.inr (.inr r15))] [.inr (.inr r21)] 321 h22
            refine ar_iload_n (pc := 101) (i := 3) (k0 := 3) (by decide +kernel) rfl rfl ?_
            refine ar_iload (pc := 102) (i := 4) (by decide +kernel) rfl ?_
            obtain ⟨g25, H⟩ := H
            refine ar_callVN (pc := 104) (M2 := M_X3_tell) (a := r21) (ci := 3) (as := [.inl v3, .inl v4]) (n2 := 321) (st := []) (by decide +kernel) rfl wn_RX6_225 wi_yX3_tell wl_yX3_tell g25 rfl wz_RX3 wc_yX3_tell ⟨by decide, by decide, rfl⟩ (by decide) (Nat.le_of_ble_eq_true rfl) (Nat.le_refl _) (Nat.le_refl _) (am_Cl_mono H (fun r23 h24 H => ?_))
            show am_Wp true (d + 1) M_X6_inside 321 321 h0 Q 107 [some (.inr (.inr 1)), some (.inl v1), some (.inl v2), some (.inl v3), some (.inl v4), some (.inr (.inr r1)), some (.inr (.inr r15))] [.inl r23] 321 h24
            exact ar_iret (pc := 107) (x := r23) (by decide +kernel) rfl rfl H
          · replace H := H.2 c20
            refine ar_bipush (pc := 75) (z := (-2)) (by decide +kernel) (by omega) ?_
            exact ar_iret (pc := 77) (x := (-2)) (by decide +kernel) rfl rfl H
        · replace H := H.2 c14
          refine ar_bipush (pc := 37) (z := (-2)) (by decide +kernel) (by omega) ?_
          exact ar_iret (pc := 39) (x := (-2)) (by decide +kernel) rfl rfl H

/-! ByteIntervals.order(II)I -/
theorem B_X6_order_0 {d : Nat} {Q : Int → am_H → Prop} {h : am_H} {v1 v2 : Int} (H : cf d M_X6_textAt [.inr (.inr 1), .inl v1] h (fun r1 h2 => (0 ≤ r1) ∧ ((r1 = 0 → Q (-1) h2) ∧ (1 ≤ r1 → (v2 < 0 → Q (-1) h2) ∧ (0 ≤ v2 → (am_kd 321 r1 = 15) ∧ (((h2 r1 14) ≤ v2 → Q (-1) h2) ∧ (v2 < (h2 r1 14) → (v2 < 8 → Q (h2 (r1 + 11) v2) h2) ∧ (8 ≤ v2 → Q (-1) h2)))))))) : wf (d + 1) M_X6_order Q 0 [some (.inr (.inr 1)), some (.inl v1), some (.inl v2), none] [] h := by
  intro h0
  refine ar_aload_n (pc := 0) (i := 0) (k0 := 0) (by decide +kernel) rfl rfl ?_
  refine ar_iload_n (pc := 1) (i := 1) (k0 := 1) (by decide +kernel) rfl rfl ?_
  refine ar_callV (pc := 2) (M2 := M_X6_textAt) (a := 1) (ci := 6) (as := [.inl v1]) (n2 := 321) (st := []) (by decide +kernel) rfl wm_RX6_78 wi_yX6_textAt wl_yX6_textAt k_1 rfl wz_RX6 wc_yX6_textAt ⟨by decide, by decide, rfl⟩ (by decide) (Nat.le_of_ble_eq_true rfl) (Nat.le_refl _) (Nat.le_refl _) (am_Cl_mono H (fun r1 h2 H => ?_))
  show am_Wp true (d + 1) M_X6_order 321 321 h0 Q 5 [some (.inr (.inr 1)), some (.inl v1), some (.inl v2), none] [.inr (.inr r1)] 321 h2
  refine ar_astore_n (pc := 5) (i := 3) (k0 := 3) (ls2 := [some (.inr (.inr 1)), some (.inl v1), some (.inl v2), some (.inr (.inr r1))]) (by decide +kernel) rfl (by decide) rfl ?_
  refine ar_aload_n (pc := 6) (i := 3) (k0 := 3) (by decide +kernel) rfl rfl ?_
  obtain ⟨g4, H⟩ := H
  refine ar_ifnull (pc := 7) (x := r1) (tgt := 28) (off := 21) (by decide +kernel) (by decide) g4 (fun c3 => ?_) (fun c3 => ?_)
  · replace H := H.1 c3
    refine ar_iconst (pc := 28) (z := (-1)) (by decide +kernel) (by unfold am_i32; omega) ?_
    exact ar_iret (pc := 29) (x := (-1)) (by decide +kernel) rfl rfl H
  · replace H := H.2 c3
    refine ar_iload_n (pc := 10) (i := 2) (k0 := 2) (by decide +kernel) rfl rfl ?_
    refine ar_if_lt (pc := 11) (x := v2) (tgt := 28) (off := 17) (by decide +kernel) (by decide) (fun c5 => ?_) (fun c5 => ?_)
    · replace H := H.1 c5
      refine ar_iconst (pc := 28) (z := (-1)) (by decide +kernel) (by unfold am_i32; omega) ?_
      exact ar_iret (pc := 29) (x := (-1)) (by decide +kernel) rfl rfl H
    · replace H := H.2 c5
      refine ar_iload_n (pc := 14) (i := 2) (k0 := 2) (by decide +kernel) rfl rfl ?_
      refine ar_aload_n (pc := 15) (i := 3) (k0 := 3) (by decide +kernel) rfl rfl ?_
      obtain ⟨g6, H⟩ := H
      refine ar_getNV (pc := 16) (a := r1) (v := .inl (h2 r1 14)) 5 14 (by decide +kernel) g6 rfl (by decide) wg_RX6_244 rfl ?_
      refine ar_icmp_ge (pc := 19) (x := v2) (y := (h2 r1 14)) (tgt := 28) (off := 9) (by decide +kernel) (by decide) (fun c7 => ?_) (fun c7 => ?_)
      · replace H := H.1 c7
        refine ar_iconst (pc := 28) (z := (-1)) (by decide +kernel) (by unfold am_i32; omega) ?_
        exact ar_iret (pc := 29) (x := (-1)) (by decide +kernel) rfl rfl H
      · replace H := H.2 c7
        refine ar_iload_n (pc := 22) (i := 2) (k0 := 2) (by decide +kernel) rfl rfl ?_
        refine ar_bipush (pc := 23) (z := 8) (by decide +kernel) (by omega) ?_
        refine ar_icmp_lt (pc := 25) (x := v2) (y := 8) (tgt := 30) (off := 5) (by decide +kernel) (by decide) (fun c8 => ?_) (fun c8 => ?_)
        · replace H := H.1 c8
          refine ar_aload_n (pc := 30) (i := 3) (k0 := 3) (by decide +kernel) rfl rfl ?_
          refine ar_getFNV (pc := 31) (a := r1) (b := (r1 + 11)) 5 13 (by decide +kernel) g6 rfl (by decide) wg_RX6_247 rfl (fun _ => rfl) rfl ?_
          refine ar_iload_n (pc := 34) (i := 2) (k0 := 2) (by decide +kernel) rfl rfl ?_
          refine ar_iald (pc := 35) (a := (r1 + 11)) (i := v2) (by decide +kernel) (kX5_13 g6).1 c5 (am_lt_eq c8 ((kX5_13 g6).2).symm) ?_
          exact ar_iret (pc := 36) (x := (h2 (r1 + 11) v2)) (by decide +kernel) rfl rfl H
        · replace H := H.2 c8
          refine ar_iconst (pc := 28) (z := (-1)) (by decide +kernel) (by unfold am_i32; omega) ?_
          exact ar_iret (pc := 29) (x := (-1)) (by decide +kernel) rfl rfl H

/-! ByteIntervals.ring(I)I -/
theorem B_X6_ring_0 {d : Nat} {Q : Int → am_H → Prop} {h : am_H} {v1 : Int} (H : cf d M_X6_textAt [.inr (.inr 1), .inl v1] h (fun r1 h2 => (0 ≤ r1) ∧ ((1 ≤ r1 → (am_kd 321 r1 = 15) ∧ (Q (h2 r1 15) h2)) ∧ (r1 = 0 → Q (-1) h2)))) : wf (d + 1) M_X6_ring Q 0 [some (.inr (.inr 1)), some (.inl v1), none] [] h := by
  intro h0
  refine ar_aload_n (pc := 0) (i := 0) (k0 := 0) (by decide +kernel) rfl rfl ?_
  refine ar_iload_n (pc := 1) (i := 1) (k0 := 1) (by decide +kernel) rfl rfl ?_
  refine ar_callV (pc := 2) (M2 := M_X6_textAt) (a := 1) (ci := 6) (as := [.inl v1]) (n2 := 321) (st := []) (by decide +kernel) rfl wm_RX6_78 wi_yX6_textAt wl_yX6_textAt k_1 rfl wz_RX6 wc_yX6_textAt ⟨by decide, by decide, rfl⟩ (by decide) (Nat.le_of_ble_eq_true rfl) (Nat.le_refl _) (Nat.le_refl _) (am_Cl_mono H (fun r1 h2 H => ?_))
  show am_Wp true (d + 1) M_X6_ring 321 321 h0 Q 5 [some (.inr (.inr 1)), some (.inl v1), none] [.inr (.inr r1)] 321 h2
  refine ar_astore_n (pc := 5) (i := 2) (k0 := 2) (ls2 := [some (.inr (.inr 1)), some (.inl v1), some (.inr (.inr r1))]) (by decide +kernel) rfl (by decide) rfl ?_
  refine ar_aload_n (pc := 6) (i := 2) (k0 := 2) (by decide +kernel) rfl rfl ?_
  obtain ⟨g4, H⟩ := H
  refine ar_ifnonnull (pc := 7) (x := r1) (tgt := 14) (off := 7) (by decide +kernel) (by decide) g4 (fun c3 => ?_) (fun c3 => ?_)
  · replace H := H.1 c3
    refine ar_aload_n (pc := 14) (i := 2) (k0 := 2) (by decide +kernel) rfl rfl ?_
    obtain ⟨g5, H⟩ := H
    refine ar_getNV (pc := 15) (a := r1) (v := .inl (h2 r1 15)) 5 15 (by decide +kernel) g5 rfl (by decide) wg_RX6_250 rfl ?_
    exact ar_iret (pc := 18) (x := (h2 r1 15)) (by decide +kernel) rfl rfl H
  · replace H := H.2 c3
    refine ar_iconst (pc := 10) (z := (-1)) (by decide +kernel) (by unfold am_i32; omega) ?_
    refine ar_goto (pc := 11) (tgt := 18) (off := 7) (by decide +kernel) (by decide) ?_
    exact ar_iret (pc := 18) (x := (-1)) (by decide +kernel) rfl rfl H

/-! ByteIntervals.overlap(II)I -/
theorem B_X6_overlap_0 {d : Nat} {Q : Int → am_H → Prop} {h : am_H} {v1 v2 : Int} (H : cf d M_X6_textAt [.inr (.inr 1), .inl v1] h (fun r1 h2 => (0 ≤ r1) ∧ ((r1 = 0 → Q (-1) h2) ∧ (1 ≤ r1 → cf d M_X6_isField [.inl v2] h2 (fun r5 h6 => (¬ r5 = 0 → cf d M_X2_readFile [.inr (.inr 218), .inr (.inr r1), .inr (.inr 5), .inl 255] h6 (fun r8 h9 => (am_kd 321 r8 = 13) ∧ (cf d M_X3_isKnown [.inr (.inr r8), .inl v2] h9 (fun r10 h11 => (¬ r10 = 0 → cf d M_X3_covered [.inr (.inr r8), .inl v2] h11 (fun r14 h15 => wf (d + 1) M_X6_overlap Q 64 [none, none, some (.inl v2), none, some (.inr (.inr r8)), some (.inr (.inl r14)), none, some (.inl 0), some (.inl 0)] [] h15)) ∧ (r10 = 0 → Q (-1) h11))))) ∧ (r5 = 0 → Q (-1) h6)))))) : wf (d + 1) M_X6_overlap Q 0 [some (.inr (.inr 1)), some (.inl v1), some (.inl v2), none, none, none, none, none, none] [] h := by
  intro h0
  refine ar_aload_n (pc := 0) (i := 0) (k0 := 0) (by decide +kernel) rfl rfl ?_
  refine ar_iload_n (pc := 1) (i := 1) (k0 := 1) (by decide +kernel) rfl rfl ?_
  refine ar_callV (pc := 2) (M2 := M_X6_textAt) (a := 1) (ci := 6) (as := [.inl v1]) (n2 := 321) (st := []) (by decide +kernel) rfl wm_RX6_78 wi_yX6_textAt wl_yX6_textAt k_1 rfl wz_RX6 wc_yX6_textAt ⟨by decide, by decide, rfl⟩ (by decide) (Nat.le_of_ble_eq_true rfl) (Nat.le_refl _) (Nat.le_refl _) (am_Cl_mono H (fun r1 h2 H => ?_))
  show am_Wp true (d + 1) M_X6_overlap 321 321 h0 Q 5 [some (.inr (.inr 1)), some (.inl v1), some (.inl v2), none, none, none, none, none, none] [.inr (.inr r1)] 321 h2
  refine ar_astore_n (pc := 5) (i := 3) (k0 := 3) (ls2 := [some (.inr (.inr 1)), some (.inl v1), some (.inl v2), some (.inr (.inr r1)), none, none, none, none, none]) (by decide +kernel) rfl (by decide) rfl ?_
  refine ar_aload_n (pc := 6) (i := 3) (k0 := 3) (by decide +kernel) rfl rfl ?_
  obtain ⟨g4, H⟩ := H
  refine ar_ifnull (pc := 7) (x := r1) (tgt := 17) (off := 10) (by decide +kernel) (by decide) g4 (fun c3 => ?_) (fun c3 => ?_)
  · replace H := H.1 c3
    refine ar_iconst (pc := 17) (z := (-1)) (by decide +kernel) (by unfold am_i32; omega) ?_
    exact ar_iret (pc := 18) (x := (-1)) (by decide +kernel) rfl rfl H
  · replace H := H.2 c3
    refine ar_iload_n (pc := 10) (i := 2) (k0 := 2) (by decide +kernel) rfl rfl ?_
    refine ar_callS (pc := 11) (M2 := M_X6_isField) (as := [.inl v2]) (n2 := 321) (st := []) (by decide +kernel) rfl wm_RX6_215 ws_yX6_isField wz_RX6 wc_yX6_isField ⟨by decide, by decide, rfl⟩ (by decide) (Nat.le_of_ble_eq_true rfl) (Nat.le_refl _) (Nat.le_refl _) (am_Cl_mono H (fun r5 h6 H => ?_))
    show am_Wp true (d + 1) M_X6_overlap 321 321 h0 Q 14 [some (.inr (.inr 1)), some (.inl v1), some (.inl v2), some (.inr (.inr r1)), none, none, none, none, none] [.inl r5] 321 h6
    refine ar_if_ne (pc := 14) (x := r5) (tgt := 19) (off := 5) (by decide +kernel) (by decide) (fun c7 => ?_) (fun c7 => ?_)
    · replace H := H.1 c7
      refine ar_aload_n (pc := 19) (i := 0) (k0 := 0) (by decide +kernel) rfl rfl ?_
      refine ar_getFV (pc := 20) (a := 1) (b := 218) 6 9 (by decide +kernel) k_1 rfl (by decide) wf_RX6_56 rfl (fun _ => rfl) rfl ?_
      refine ar_aload_n (pc := 23) (i := 3) (k0 := 3) (by decide +kernel) rfl rfl ?_
      refine ar_aload_n (pc := 24) (i := 0) (k0 := 0) (by decide +kernel) rfl rfl ?_
      refine ar_getFV (pc := 25) (a := 1) (b := 4) 6 5 (by decide +kernel) k_1 rfl (by decide) wf_RX6_32 rfl (fun _ => rfl) rfl ?_
      refine ar_getFNV (pc := 28) (a := 4) (b := 5) 4 0 (by decide +kernel) k_4 rfl (by decide) wg_RX6_82 rfl (fun _ => rfl) rfl ?_
      refine ar_sipush (pc := 31) (z := 255) (by decide +kernel) (by omega) ?_
      refine ar_callVN (pc := 34) (M2 := M_X2_readFile) (a := 218) (ci := 2) (as := [.inr (.inr r1), .inr (.inr 5), .inl 255]) (n2 := 321) (st := []) (by decide +kernel) rfl wn_RX6_221 wi_yX2_readFile wl_yX2_readFile k_218 rfl wz_RX2 wc_yX2_readFile ⟨by decide, by decide, rfl⟩ (by decide) (Nat.le_of_ble_eq_true rfl) (Nat.le_refl _) (Nat.le_refl _) (am_Cl_mono H (fun r8 h9 H => ?_))
      show am_Wp true (d + 1) M_X6_overlap 321 321 h0 Q 37 [some (.inr (.inr 1)), some (.inl v1), some (.inl v2), some (.inr (.inr r1)), none, none, none, none, none] [.inr (.inr r8)] 321 h9
      refine ar_astore (pc := 37) (i := 4) (ls2 := [some (.inr (.inr 1)), some (.inl v1), some (.inl v2), some (.inr (.inr r1)), some (.inr (.inr r8)), none, none, none, none]) (by decide +kernel) (by decide) rfl ?_
      refine ar_aload (pc := 39) (i := 4) (by decide +kernel) rfl ?_
      refine ar_iload_n (pc := 41) (i := 2) (k0 := 2) (by decide +kernel) rfl rfl ?_
      obtain ⟨g12, H⟩ := H
      refine ar_callVN (pc := 42) (M2 := M_X3_isKnown) (a := r8) (ci := 3) (as := [.inl v2]) (n2 := 321) (st := []) (by decide +kernel) rfl wn_RX6_253 wi_yX3_isKnown wl_yX3_isKnown g12 rfl wz_RX3 wc_yX3_isKnown ⟨by decide, by decide, rfl⟩ (by decide) (Nat.le_of_ble_eq_true rfl) (Nat.le_refl _) (Nat.le_refl _) (am_Cl_mono H (fun r10 h11 H => ?_))
      show am_Wp true (d + 1) M_X6_overlap 321 321 h0 Q 45 [some (.inr (.inr 1)), some (.inl v1), some (.inl v2), some (.inr (.inr r1)), some (.inr (.inr r8)), none, none, none, none] [.inl r10] 321 h11
      refine ar_if_ne (pc := 45) (x := r10) (tgt := 50) (off := 5) (by decide +kernel) (by decide) (fun c13 => ?_) (fun c13 => ?_)
      · replace H := H.1 c13
        refine ar_aload (pc := 50) (i := 4) (by decide +kernel) rfl ?_
        refine ar_iload_n (pc := 52) (i := 2) (k0 := 2) (by decide +kernel) rfl rfl ?_
        refine ar_callVN (pc := 53) (M2 := M_X3_covered) (a := r8) (ci := 3) (as := [.inl v2]) (n2 := 321) (st := []) (by decide +kernel) rfl wn_RX6_256 wi_yX3_covered wl_yX3_covered g12 rfl wz_RX3 wc_yX3_covered ⟨by decide, by decide, rfl⟩ (by decide) (Nat.le_of_ble_eq_true rfl) (Nat.le_refl _) (Nat.le_refl _) (am_Cl_mono H (fun r14 h15 H => ?_))
        show am_Wp true (d + 1) M_X6_overlap 321 321 h0 Q 56 [some (.inr (.inr 1)), some (.inl v1), some (.inl v2), some (.inr (.inr r1)), some (.inr (.inr r8)), none, none, none, none] [.inr (.inl r14)] 321 h15
        refine ar_lstore (pc := 56) (i := 5) (ls2 := [some (.inr (.inr 1)), some (.inl v1), some (.inl v2), some (.inr (.inr r1)), some (.inr (.inr r8)), some (.inr (.inl r14)), none, none, none]) (by decide +kernel) (by decide) rfl ?_
        refine ar_iconst (pc := 58) (z := 0) (by decide +kernel) (by unfold am_i32; omega) ?_
        refine ar_istore (pc := 59) (i := 7) (ls2 := [some (.inr (.inr 1)), some (.inl v1), some (.inl v2), some (.inr (.inr r1)), some (.inr (.inr r8)), some (.inr (.inl r14)), none, some (.inl 0), none]) (by decide +kernel) (by decide) rfl ?_
        refine ar_iconst (pc := 61) (z := 0) (by decide +kernel) (by unfold am_i32; omega) ?_
        refine ar_istore (pc := 62) (i := 8) (ls2 := [some (.inr (.inr 1)), some (.inl v1), some (.inl v2), some (.inr (.inr r1)), some (.inr (.inr r8)), some (.inr (.inl r14)), none, some (.inl 0), some (.inl 0)]) (by decide +kernel) (by decide) rfl ?_
        refine ar_forget [false, false, true, false, true, true, true, true, true] rfl ?_
        exact H h0
      · replace H := H.2 c13
        refine ar_iconst (pc := 48) (z := (-1)) (by decide +kernel) (by unfold am_i32; omega) ?_
        exact ar_iret (pc := 49) (x := (-1)) (by decide +kernel) rfl rfl H
    · replace H := H.2 c7
      refine ar_iconst (pc := 17) (z := (-1)) (by decide +kernel) (by unfold am_i32; omega) ?_
      exact ar_iret (pc := 18) (x := (-1)) (by decide +kernel) rfl rfl H
theorem B_X6_overlap_64 {d : Nat} {Q : Int → am_H → Prop} {h : am_H} {v2 v4 v5 v7 v8 : Int} (H : (8 ≤ v8 → Q v7 h) ∧ (v8 < 8 → (v8 = v2 → wf (d + 1) M_X6_overlap Q 101 [none, none, some (.inl v2), none, some (.inr (.inr v4)), some (.inr (.inl v5)), none, some (.inl v7), some (.inl v8)] [] h) ∧ (¬ v8 = v2 → (am_kd 321 v4 = 13) ∧ (cf d M_X3_covered [.inr (.inr v4), .inl v8] h (fun r3 h4 => ((am_lcmp (am_land r3 v5) 0) = 0 → wf (d + 1) M_X6_overlap Q 101 [none, none, some (.inl v2), none, some (.inr (.inr v4)), some (.inr (.inl v5)), none, some (.inl v7), some (.inl v8)] [] h4) ∧ (¬ (am_lcmp (am_land r3 v5) 0) = 0 → wf (d + 1) M_X6_overlap Q 101 [none, none, some (.inl v2), none, some (.inr (.inr v4)), some (.inr (.inl v5)), none, some (.inl (am_ior v7 (am_ishl 1 v8))), some (.inl v8)] [] h4)))))) : wf (d + 1) M_X6_overlap Q 64 [none, none, some (.inl v2), none, some (.inr (.inr v4)), some (.inr (.inl v5)), none, some (.inl v7), some (.inl v8)] [] h := by
  intro h0
  refine ar_iload (pc := 64) (i := 8) (by decide +kernel) rfl ?_
  refine ar_bipush (pc := 66) (z := 8) (by decide +kernel) (by omega) ?_
  refine ar_icmp_ge (pc := 68) (x := v8) (y := 8) (tgt := 107) (off := 39) (by decide +kernel) (by decide) (fun c1 => ?_) (fun c1 => ?_)
  · replace H := H.1 c1
    refine ar_iload (pc := 107) (i := 7) (by decide +kernel) rfl ?_
    exact ar_iret (pc := 109) (x := v7) (by decide +kernel) rfl rfl H
  · replace H := H.2 c1
    refine ar_iload (pc := 71) (i := 8) (by decide +kernel) rfl ?_
    refine ar_iload_n (pc := 73) (i := 2) (k0 := 2) (by decide +kernel) rfl rfl ?_
    refine ar_icmp_eq (pc := 74) (x := v8) (y := v2) (tgt := 101) (off := 27) (by decide +kernel) (by decide) (fun c2 => ?_) (fun c2 => ?_)
    · replace H := H.1 c2
      exact H h0
    · replace H := H.2 c2
      refine ar_aload (pc := 77) (i := 4) (by decide +kernel) rfl ?_
      refine ar_iload (pc := 79) (i := 8) (by decide +kernel) rfl ?_
      obtain ⟨g5, H⟩ := H
      refine ar_callVN (pc := 81) (M2 := M_X3_covered) (a := v4) (ci := 3) (as := [.inl v8]) (n2 := 321) (st := []) (by decide +kernel) rfl wn_RX6_256 wi_yX3_covered wl_yX3_covered g5 rfl wz_RX3 wc_yX3_covered ⟨by decide, by decide, rfl⟩ (by decide) (Nat.le_of_ble_eq_true rfl) (Nat.le_refl _) (Nat.le_refl _) (am_Cl_mono H (fun r3 h4 H => ?_))
      show am_Wp true (d + 1) M_X6_overlap 321 321 h0 Q 84 [none, none, some (.inl v2), none, some (.inr (.inr v4)), some (.inr (.inl v5)), none, some (.inl v7), some (.inl v8)] [.inr (.inl r3)] 321 h4
      refine ar_lload (pc := 84) (i := 5) (by decide +kernel) rfl ?_
      refine ar_land (pc := 86) (x := r3) (y := v5) (by decide +kernel) ?_
      refine ar_lconst (pc := 87) (i := 0) (z := 0) (by decide +kernel) rfl ?_
      refine ar_lcmp (pc := 88) (x := (am_land r3 v5)) (y := 0) (by decide +kernel) ?_
      refine ar_if_eq (pc := 89) (x := (am_lcmp (am_land r3 v5) 0)) (tgt := 101) (off := 12) (by decide +kernel) (by decide) (fun c6 => ?_) (fun c6 => ?_)
      · replace H := H.1 c6
        exact H h0
      · replace H := H.2 c6
        refine ar_iload (pc := 92) (i := 7) (by decide +kernel) rfl ?_
        refine ar_iconst (pc := 94) (z := 1) (by decide +kernel) (by unfold am_i32; omega) ?_
        refine ar_iload (pc := 95) (i := 8) (by decide +kernel) rfl ?_
        refine ar_ishl (pc := 97) (x := 1) (y := v8) (by decide +kernel) ?_
        refine ar_ior (pc := 98) (x := v7) (y := (am_ishl 1 v8)) (by decide +kernel) ?_
        refine ar_istore (pc := 99) (i := 7) (ls2 := [none, none, some (.inl v2), none, some (.inr (.inr v4)), some (.inr (.inl v5)), none, some (.inl (am_ior v7 (am_ishl 1 v8))), some (.inl v8)]) (by decide +kernel) (by decide) rfl ?_
        exact H h0
theorem B_X6_overlap_101 {d : Nat} {Q : Int → am_H → Prop} {h : am_H} {v2 v4 v5 v7 v8 : Int} (H : wf (d + 1) M_X6_overlap Q 64 [none, none, some (.inl v2), none, some (.inr (.inr v4)), some (.inr (.inl v5)), none, some (.inl v7), some (.inl (am_w32 (v8 + 1)))] [] h) : wf (d + 1) M_X6_overlap Q 101 [none, none, some (.inl v2), none, some (.inr (.inr v4)), some (.inr (.inl v5)), none, some (.inl v7), some (.inl v8)] [] h := by
  intro h0
  refine ar_iinc (pc := 101) (i := 8) (z := 1) (x := v8) (ls2 := [none, none, some (.inl v2), none, some (.inr (.inr v4)), some (.inr (.inl v5)), none, some (.inl v7), some (.inl (am_w32 (v8 + 1)))]) (by decide +kernel) rfl (by decide) rfl ?_
  refine ar_goto (pc := 104) (tgt := 64) (off := -40) (by decide +kernel) (by decide) ?_
  exact H h0

/-! ByteIntervals.loose(I)J -/
theorem B_X6_loose_0 {d : Nat} {Q : Int → am_H → Prop} {h : am_H} {v1 : Int} (H : cf d M_X6_textAt [.inr (.inr 1), .inl v1] h (fun r1 h2 => (0 ≤ r1) ∧ ((1 ≤ r1 → cf d M_X2_readFile [.inr (.inr 218), .inr (.inr r1), .inr (.inr 5), .inl 255] h2 (fun r5 h6 => wf (d + 1) M_X6_loose Q 39 [some (.inr (.inr 1)), none, none, some (.inr (.inr r5)), some (.inr (.inl 0)), none, some (.inl 0)] [] h6)) ∧ (r1 = 0 → Q (-1) h2)))) : wf (d + 1) M_X6_loose Q 0 [some (.inr (.inr 1)), some (.inl v1), none, none, none, none, none] [] h := by
  intro h0
  refine ar_aload_n (pc := 0) (i := 0) (k0 := 0) (by decide +kernel) rfl rfl ?_
  refine ar_iload_n (pc := 1) (i := 1) (k0 := 1) (by decide +kernel) rfl rfl ?_
  refine ar_callV (pc := 2) (M2 := M_X6_textAt) (a := 1) (ci := 6) (as := [.inl v1]) (n2 := 321) (st := []) (by decide +kernel) rfl wm_RX6_78 wi_yX6_textAt wl_yX6_textAt k_1 rfl wz_RX6 wc_yX6_textAt ⟨by decide, by decide, rfl⟩ (by decide) (Nat.le_of_ble_eq_true rfl) (Nat.le_refl _) (Nat.le_refl _) (am_Cl_mono H (fun r1 h2 H => ?_))
  show am_Wp true (d + 1) M_X6_loose 321 321 h0 Q 5 [some (.inr (.inr 1)), some (.inl v1), none, none, none, none, none] [.inr (.inr r1)] 321 h2
  refine ar_astore_n (pc := 5) (i := 2) (k0 := 2) (ls2 := [some (.inr (.inr 1)), some (.inl v1), some (.inr (.inr r1)), none, none, none, none]) (by decide +kernel) rfl (by decide) rfl ?_
  refine ar_aload_n (pc := 6) (i := 2) (k0 := 2) (by decide +kernel) rfl rfl ?_
  obtain ⟨g4, H⟩ := H
  refine ar_ifnonnull (pc := 7) (x := r1) (tgt := 14) (off := 7) (by decide +kernel) (by decide) g4 (fun c3 => ?_) (fun c3 => ?_)
  · replace H := H.1 c3
    refine ar_aload_n (pc := 14) (i := 0) (k0 := 0) (by decide +kernel) rfl rfl ?_
    refine ar_getFV (pc := 15) (a := 1) (b := 218) 6 9 (by decide +kernel) k_1 rfl (by decide) wf_RX6_56 rfl (fun _ => rfl) rfl ?_
    refine ar_aload_n (pc := 18) (i := 2) (k0 := 2) (by decide +kernel) rfl rfl ?_
    refine ar_aload_n (pc := 19) (i := 0) (k0 := 0) (by decide +kernel) rfl rfl ?_
    refine ar_getFV (pc := 20) (a := 1) (b := 4) 6 5 (by decide +kernel) k_1 rfl (by decide) wf_RX6_32 rfl (fun _ => rfl) rfl ?_
    refine ar_getFNV (pc := 23) (a := 4) (b := 5) 4 0 (by decide +kernel) k_4 rfl (by decide) wg_RX6_82 rfl (fun _ => rfl) rfl ?_
    refine ar_sipush (pc := 26) (z := 255) (by decide +kernel) (by omega) ?_
    refine ar_callVN (pc := 29) (M2 := M_X2_readFile) (a := 218) (ci := 2) (as := [.inr (.inr r1), .inr (.inr 5), .inl 255]) (n2 := 321) (st := []) (by decide +kernel) rfl wn_RX6_221 wi_yX2_readFile wl_yX2_readFile k_218 rfl wz_RX2 wc_yX2_readFile ⟨by decide, by decide, rfl⟩ (by decide) (Nat.le_of_ble_eq_true rfl) (Nat.le_refl _) (Nat.le_refl _) (am_Cl_mono H (fun r5 h6 H => ?_))
    show am_Wp true (d + 1) M_X6_loose 321 321 h0 Q 32 [some (.inr (.inr 1)), some (.inl v1), some (.inr (.inr r1)), none, none, none, none] [.inr (.inr r5)] 321 h6
    refine ar_astore_n (pc := 32) (i := 3) (k0 := 3) (ls2 := [some (.inr (.inr 1)), some (.inl v1), some (.inr (.inr r1)), some (.inr (.inr r5)), none, none, none]) (by decide +kernel) rfl (by decide) rfl ?_
    refine ar_lconst (pc := 33) (i := 0) (z := 0) (by decide +kernel) rfl ?_
    refine ar_lstore (pc := 34) (i := 4) (ls2 := [some (.inr (.inr 1)), some (.inl v1), some (.inr (.inr r1)), some (.inr (.inr r5)), some (.inr (.inl 0)), none, none]) (by decide +kernel) (by decide) rfl ?_
    refine ar_iconst (pc := 36) (z := 0) (by decide +kernel) (by unfold am_i32; omega) ?_
    refine ar_istore (pc := 37) (i := 6) (ls2 := [some (.inr (.inr 1)), some (.inl v1), some (.inr (.inr r1)), some (.inr (.inr r5)), some (.inr (.inl 0)), none, some (.inl 0)]) (by decide +kernel) (by decide) rfl ?_
    refine ar_forget [true, false, false, true, true, true, true] rfl ?_
    exact H h0
  · replace H := H.2 c3
    refine ar_ldc2 (pc := 10) (z := (-1)) (by decide +kernel) wk_RX6_260 (by unfold am_i64; omega) ?_
    exact ar_lret (pc := 13) (x := (-1)) (by decide +kernel) rfl rfl H
theorem B_X6_loose_39 {d : Nat} {Q : Int → am_H → Prop} {h : am_H} {v3 v4 v6 : Int} (H : (8 ≤ v6 → cf d M_X6_span [.inl 0, .inl (h 5 3)] h (fun r2 h3 => Q (am_land r2 (am_lxor v4 (-1))) h3)) ∧ (v6 < 8 → (am_kd 321 v3 = 13) ∧ (cf d M_X3_covered [.inr (.inr v3), .inl v6] h (fun r4 h5 => wf (d + 1) M_X6_loose Q 39 [some (.inr (.inr 1)), none, none, some (.inr (.inr v3)), some (.inr (.inl (am_lor v4 r4))), none, some (.inl (am_w32 (v6 + 1)))] [] h5)))) : wf (d + 1) M_X6_loose Q 39 [some (.inr (.inr 1)), none, none, some (.inr (.inr v3)), some (.inr (.inl v4)), none, some (.inl v6)] [] h := by
  intro h0
  refine ar_iload (pc := 39) (i := 6) (by decide +kernel) rfl ?_
  refine ar_bipush (pc := 41) (z := 8) (by decide +kernel) (by omega) ?_
  refine ar_icmp_ge (pc := 43) (x := v6) (y := 8) (tgt := 63) (off := 20) (by decide +kernel) (by decide) (fun c1 => ?_) (fun c1 => ?_)
  · replace H := H.1 c1
    refine ar_iconst (pc := 63) (z := 0) (by decide +kernel) (by unfold am_i32; omega) ?_
    refine ar_aload_n (pc := 64) (i := 0) (k0 := 0) (by decide +kernel) rfl rfl ?_
    refine ar_getFV (pc := 65) (a := 1) (b := 4) 6 5 (by decide +kernel) k_1 rfl (by decide) wf_RX6_32 rfl (fun _ => rfl) rfl ?_
    refine ar_getFNV (pc := 68) (a := 4) (b := 5) 4 0 (by decide +kernel) k_4 rfl (by decide) wg_RX6_82 rfl (fun _ => rfl) rfl ?_
    refine ar_getNV (pc := 71) (a := 5) (v := .inl (h 5 3)) 0 3 (by decide +kernel) k_5 rfl (by decide) wg_RX6_129 rfl ?_
    refine ar_callS (pc := 74) (M2 := M_X6_span) (as := [.inl 0, .inl (h 5 3)]) (n2 := 321) (st := []) (by decide +kernel) rfl wm_RX6_262 ws_yX6_span wz_RX6 wc_yX6_span ⟨by decide, by decide, rfl⟩ (by decide) (Nat.le_of_ble_eq_true rfl) (Nat.le_refl _) (Nat.le_refl _) (am_Cl_mono H (fun r2 h3 H => ?_))
    show am_Wp true (d + 1) M_X6_loose 321 321 h0 Q 77 [some (.inr (.inr 1)), none, none, some (.inr (.inr v3)), some (.inr (.inl v4)), none, some (.inl v6)] [.inr (.inl r2)] 321 h3
    refine ar_lload (pc := 77) (i := 4) (by decide +kernel) rfl ?_
    refine ar_ldc2 (pc := 79) (z := (-1)) (by decide +kernel) wk_RX6_260 (by unfold am_i64; omega) ?_
    refine ar_lxor (pc := 82) (x := v4) (y := (-1)) (by decide +kernel) ?_
    refine ar_land (pc := 83) (x := r2) (y := (am_lxor v4 (-1))) (by decide +kernel) ?_
    exact ar_lret (pc := 84) (x := (am_land r2 (am_lxor v4 (-1)))) (by decide +kernel) rfl rfl H
  · replace H := H.2 c1
    refine ar_lload (pc := 46) (i := 4) (by decide +kernel) rfl ?_
    refine ar_aload_n (pc := 48) (i := 3) (k0 := 3) (by decide +kernel) rfl rfl ?_
    refine ar_iload (pc := 49) (i := 6) (by decide +kernel) rfl ?_
    obtain ⟨g6, H⟩ := H
    refine ar_callVN (pc := 51) (M2 := M_X3_covered) (a := v3) (ci := 3) (as := [.inl v6]) (n2 := 321) (st := [.inr (.inl v4)]) (by decide +kernel) rfl wn_RX6_256 wi_yX3_covered wl_yX3_covered g6 rfl wz_RX3 wc_yX3_covered ⟨by decide, by decide, rfl⟩ (by decide) (Nat.le_of_ble_eq_true rfl) (Nat.le_refl _) (Nat.le_refl _) (am_Cl_mono H (fun r4 h5 H => ?_))
    show am_Wp true (d + 1) M_X6_loose 321 321 h0 Q 54 [some (.inr (.inr 1)), none, none, some (.inr (.inr v3)), some (.inr (.inl v4)), none, some (.inl v6)] [.inr (.inl r4), .inr (.inl v4)] 321 h5
    refine ar_lor (pc := 54) (x := v4) (y := r4) (by decide +kernel) ?_
    refine ar_lstore (pc := 55) (i := 4) (ls2 := [some (.inr (.inr 1)), none, none, some (.inr (.inr v3)), some (.inr (.inl (am_lor v4 r4))), none, some (.inl v6)]) (by decide +kernel) (by decide) rfl ?_
    refine ar_iinc (pc := 57) (i := 6) (z := 1) (x := v6) (ls2 := [some (.inr (.inr 1)), none, none, some (.inr (.inr v3)), some (.inr (.inl (am_lor v4 r4))), none, some (.inl (am_w32 (v6 + 1)))]) (by decide +kernel) rfl (by decide) rfl ?_
    refine ar_goto (pc := 60) (tgt := 39) (off := -21) (by decide +kernel) (by decide) ?_
    exact H h0

/-! ByteIntervals.needs(II)J -/
theorem B_X6_needs_0 {d : Nat} {Q : Int → am_H → Prop} {h : am_H} {v1 v2 : Int} (H : cf d M_X6_textAt [.inr (.inr 1), .inl v1] h (fun r1 h2 => (0 ≤ r1) ∧ ((r1 = 0 → Q (-1) h2) ∧ (1 ≤ r1 → cf d M_X6_isField [.inl v2] h2 (fun r5 h6 => (r5 = 0 → Q (-1) h6) ∧ (¬ r5 = 0 → (am_kd 321 r1 = 15) ∧ (cf d M_X5_tells [.inr (.inr r1), .inl v2] h6 (fun r8 h9 => (¬ r8 = 0 → (0 ≤ v2) ∧ ((v2 < 8) ∧ (cf d M_X2_readFile [.inr (.inr 218), .inr (.inr r1), .inr (.inr 5), .inl (h9 (r1 + 12) v2)] h9 (fun r14 h15 => (am_kd 321 r14 = 13) ∧ (cf d M_X3_looksOf [.inr (.inr r14), .inl (h15 (r1 + 12) v2)] h15 (fun r16 h17 => Q r16 h17)))))) ∧ (r8 = 0 → Q (-1) h9))))))))) : wf (d + 1) M_X6_needs Q 0 [some (.inr (.inr 1)), some (.inl v1), some (.inl v2), none] [] h := by
  intro h0
  refine ar_aload_n (pc := 0) (i := 0) (k0 := 0) (by decide +kernel) rfl rfl ?_
  refine ar_iload_n (pc := 1) (i := 1) (k0 := 1) (by decide +kernel) rfl rfl ?_
  refine ar_callV (pc := 2) (M2 := M_X6_textAt) (a := 1) (ci := 6) (as := [.inl v1]) (n2 := 321) (st := []) (by decide +kernel) rfl wm_RX6_78 wi_yX6_textAt wl_yX6_textAt k_1 rfl wz_RX6 wc_yX6_textAt ⟨by decide, by decide, rfl⟩ (by decide) (Nat.le_of_ble_eq_true rfl) (Nat.le_refl _) (Nat.le_refl _) (am_Cl_mono H (fun r1 h2 H => ?_))
  show am_Wp true (d + 1) M_X6_needs 321 321 h0 Q 5 [some (.inr (.inr 1)), some (.inl v1), some (.inl v2), none] [.inr (.inr r1)] 321 h2
  refine ar_astore_n (pc := 5) (i := 3) (k0 := 3) (ls2 := [some (.inr (.inr 1)), some (.inl v1), some (.inl v2), some (.inr (.inr r1))]) (by decide +kernel) rfl (by decide) rfl ?_
  refine ar_aload_n (pc := 6) (i := 3) (k0 := 3) (by decide +kernel) rfl rfl ?_
  obtain ⟨g4, H⟩ := H
  refine ar_ifnull (pc := 7) (x := r1) (tgt := 25) (off := 18) (by decide +kernel) (by decide) g4 (fun c3 => ?_) (fun c3 => ?_)
  · replace H := H.1 c3
    refine ar_ldc2 (pc := 25) (z := (-1)) (by decide +kernel) wk_RX6_260 (by unfold am_i64; omega) ?_
    exact ar_lret (pc := 28) (x := (-1)) (by decide +kernel) rfl rfl H
  · replace H := H.2 c3
    refine ar_iload_n (pc := 10) (i := 2) (k0 := 2) (by decide +kernel) rfl rfl ?_
    refine ar_callS (pc := 11) (M2 := M_X6_isField) (as := [.inl v2]) (n2 := 321) (st := []) (by decide +kernel) rfl wm_RX6_215 ws_yX6_isField wz_RX6 wc_yX6_isField ⟨by decide, by decide, rfl⟩ (by decide) (Nat.le_of_ble_eq_true rfl) (Nat.le_refl _) (Nat.le_refl _) (am_Cl_mono H (fun r5 h6 H => ?_))
    show am_Wp true (d + 1) M_X6_needs 321 321 h0 Q 14 [some (.inr (.inr 1)), some (.inl v1), some (.inl v2), some (.inr (.inr r1))] [.inl r5] 321 h6
    refine ar_if_eq (pc := 14) (x := r5) (tgt := 25) (off := 11) (by decide +kernel) (by decide) (fun c7 => ?_) (fun c7 => ?_)
    · replace H := H.1 c7
      refine ar_ldc2 (pc := 25) (z := (-1)) (by decide +kernel) wk_RX6_260 (by unfold am_i64; omega) ?_
      exact ar_lret (pc := 28) (x := (-1)) (by decide +kernel) rfl rfl H
    · replace H := H.2 c7
      refine ar_aload_n (pc := 17) (i := 3) (k0 := 3) (by decide +kernel) rfl rfl ?_
      refine ar_iload_n (pc := 18) (i := 2) (k0 := 2) (by decide +kernel) rfl rfl ?_
      obtain ⟨g10, H⟩ := H
      refine ar_callVN (pc := 19) (M2 := M_X5_tells) (a := r1) (ci := 5) (as := [.inl v2]) (n2 := 321) (st := []) (by decide +kernel) rfl wn_RX6_266 wi_yX5_tells wl_yX5_tells g10 rfl wz_RX5 wc_yX5_tells ⟨by decide, by decide, rfl⟩ (by decide) (Nat.le_of_ble_eq_true rfl) (Nat.le_refl _) (Nat.le_refl _) (am_Cl_mono H (fun r8 h9 H => ?_))
      show am_Wp true (d + 1) M_X6_needs 321 321 h0 Q 22 [some (.inr (.inr 1)), some (.inl v1), some (.inl v2), some (.inr (.inr r1))] [.inl r8] 321 h9
      refine ar_if_ne (pc := 22) (x := r8) (tgt := 29) (off := 7) (by decide +kernel) (by decide) (fun c11 => ?_) (fun c11 => ?_)
      · replace H := H.1 c11
        refine ar_aload_n (pc := 29) (i := 0) (k0 := 0) (by decide +kernel) rfl rfl ?_
        refine ar_getFV (pc := 30) (a := 1) (b := 218) 6 9 (by decide +kernel) k_1 rfl (by decide) wf_RX6_56 rfl (fun _ => rfl) rfl ?_
        refine ar_aload_n (pc := 33) (i := 3) (k0 := 3) (by decide +kernel) rfl rfl ?_
        refine ar_aload_n (pc := 34) (i := 0) (k0 := 0) (by decide +kernel) rfl rfl ?_
        refine ar_getFV (pc := 35) (a := 1) (b := 4) 6 5 (by decide +kernel) k_1 rfl (by decide) wf_RX6_32 rfl (fun _ => rfl) rfl ?_
        refine ar_getFNV (pc := 38) (a := 4) (b := 5) 4 0 (by decide +kernel) k_4 rfl (by decide) wg_RX6_82 rfl (fun _ => rfl) rfl ?_
        refine ar_aload_n (pc := 41) (i := 3) (k0 := 3) (by decide +kernel) rfl rfl ?_
        refine ar_getFNV (pc := 42) (a := r1) (b := (r1 + 12)) 5 16 (by decide +kernel) g10 rfl (by decide) wg_RX6_218 rfl (fun _ => rfl) rfl ?_
        refine ar_iload_n (pc := 45) (i := 2) (k0 := 2) (by decide +kernel) rfl rfl ?_
        obtain ⟨g12, H⟩ := H
        obtain ⟨g13, H⟩ := H
        refine ar_iald (pc := 46) (a := (r1 + 12)) (i := v2) (by decide +kernel) (kX5_16 g10).1 g12 (am_lt_eq g13 ((kX5_16 g10).2).symm) ?_
        refine ar_callVN (pc := 47) (M2 := M_X2_readFile) (a := 218) (ci := 2) (as := [.inr (.inr r1), .inr (.inr 5), .inl (h9 (r1 + 12) v2)]) (n2 := 321) (st := []) (by decide +kernel) rfl wn_RX6_221 wi_yX2_readFile wl_yX2_readFile k_218 rfl wz_RX2 wc_yX2_readFile ⟨by decide, by decide, rfl⟩ (by decide) (Nat.le_of_ble_eq_true rfl) (Nat.le_refl _) (Nat.le_refl _) (am_Cl_mono H (fun r14 h15 H => ?_))
        show am_Wp true (d + 1) M_X6_needs 321 321 h0 Q 50 [some (.inr (.inr 1)), some (.inl v1), some (.inl v2), some (.inr (.inr r1))] [.inr (.inr r14)] 321 h15
        refine ar_aload_n (pc := 50) (i := 3) (k0 := 3) (by decide +kernel) rfl rfl ?_
        refine ar_getFNV (pc := 51) (a := r1) (b := (r1 + 12)) 5 16 (by decide +kernel) g10 rfl (by decide) wg_RX6_218 rfl (fun _ => rfl) rfl ?_
        refine ar_iload_n (pc := 54) (i := 2) (k0 := 2) (by decide +kernel) rfl rfl ?_
        refine ar_iald (pc := 55) (a := (r1 + 12)) (i := v2) (by decide +kernel) (kX5_16 g10).1 g12 (am_lt_eq g13 ((kX5_16 g10).2).symm) ?_
        obtain ⟨g18, H⟩ := H
        refine ar_callVN (pc := 56) (M2 := M_X3_looksOf) (a := r14) (ci := 3) (as := [.inl (h15 (r1 + 12) v2)]) (n2 := 321) (st := []) (by decide +kernel) rfl wn_RX6_269 wi_yX3_looksOf wl_yX3_looksOf g18 rfl wz_RX3 wc_yX3_looksOf ⟨by decide, by decide, rfl⟩ (by decide) (Nat.le_of_ble_eq_true rfl) (Nat.le_refl _) (Nat.le_refl _) (am_Cl_mono H (fun r16 h17 H => ?_))
        show am_Wp true (d + 1) M_X6_needs 321 321 h0 Q 59 [some (.inr (.inr 1)), some (.inl v1), some (.inl v2), some (.inr (.inr r1))] [.inr (.inl r16)] 321 h17
        exact ar_lret (pc := 59) (x := r16) (by decide +kernel) rfl rfl H
      · replace H := H.2 c11
        refine ar_ldc2 (pc := 25) (z := (-1)) (by decide +kernel) wk_RX6_260 (by unfold am_i64; omega) ?_
        exact ar_lret (pc := 28) (x := (-1)) (by decide +kernel) rfl rfl H

/-! ByteIntervals.flips(II)I -/
theorem B_X6_flips_0 {d : Nat} {Q : Int → am_H → Prop} {h : am_H} {v1 v2 : Int} (H : cf d M_X6_textAt [.inr (.inr 1), .inl v1] h (fun r1 h2 => (0 ≤ r1) ∧ ((r1 = 0 → Q (-1) h2) ∧ (1 ≤ r1 → (v2 < 0 → Q (-1) h2) ∧ (0 ≤ v2 → ((h2 5 3) ≤ v2 → Q (-1) h2) ∧ (v2 < (h2 5 3) → (v2 < 40 → cf d M_X2_readFile [.inr (.inr 218), .inr (.inr r1), .inr (.inr 5), .inl 255] h2 (fun r8 h9 => cf d M_X3_copy [.inr (.inr 235), .inr (.inr r8)] h9 (fun _ h11 => cf d M_X0_copy [.inr (.inr 198), .inr (.inr 5)] h11 (fun _ h13 => cf d M_X2_readFile [.inr (.inr 218), .inr (.inr r1), .inr (.inr 198), .inl 255] (am_up h13 199 v2 (am_w32 (255 - (h13 199 v2)))) (fun r14 h15 => (am_kd 321 r1 = 15) ∧ (cf d M_X3_likeFields [.inr (.inr 235), .inr (.inr r14)] h15 (fun r17 h18 => Q (am_iand (h15 r1 6) (am_ixor r17 (-1))) h18))))))) ∧ (40 ≤ v2 → Q (-1) h2))))))) : wf (d + 1) M_X6_flips Q 0 [some (.inr (.inr 1)), some (.inl v1), some (.inl v2), none, none] [] h := by
  intro h0
  refine ar_aload_n (pc := 0) (i := 0) (k0 := 0) (by decide +kernel) rfl rfl ?_
  refine ar_iload_n (pc := 1) (i := 1) (k0 := 1) (by decide +kernel) rfl rfl ?_
  refine ar_callV (pc := 2) (M2 := M_X6_textAt) (a := 1) (ci := 6) (as := [.inl v1]) (n2 := 321) (st := []) (by decide +kernel) rfl wm_RX6_78 wi_yX6_textAt wl_yX6_textAt k_1 rfl wz_RX6 wc_yX6_textAt ⟨by decide, by decide, rfl⟩ (by decide) (Nat.le_of_ble_eq_true rfl) (Nat.le_refl _) (Nat.le_refl _) (am_Cl_mono H (fun r1 h2 H => ?_))
  show am_Wp true (d + 1) M_X6_flips 321 321 h0 Q 5 [some (.inr (.inr 1)), some (.inl v1), some (.inl v2), none, none] [.inr (.inr r1)] 321 h2
  refine ar_astore_n (pc := 5) (i := 3) (k0 := 3) (ls2 := [some (.inr (.inr 1)), some (.inl v1), some (.inl v2), some (.inr (.inr r1)), none]) (by decide +kernel) rfl (by decide) rfl ?_
  refine ar_aload_n (pc := 6) (i := 3) (k0 := 3) (by decide +kernel) rfl rfl ?_
  obtain ⟨g4, H⟩ := H
  refine ar_ifnull (pc := 7) (x := r1) (tgt := 34) (off := 27) (by decide +kernel) (by decide) g4 (fun c3 => ?_) (fun c3 => ?_)
  · replace H := H.1 c3
    refine ar_iconst (pc := 34) (z := (-1)) (by decide +kernel) (by unfold am_i32; omega) ?_
    exact ar_iret (pc := 35) (x := (-1)) (by decide +kernel) rfl rfl H
  · replace H := H.2 c3
    refine ar_iload_n (pc := 10) (i := 2) (k0 := 2) (by decide +kernel) rfl rfl ?_
    refine ar_if_lt (pc := 11) (x := v2) (tgt := 34) (off := 23) (by decide +kernel) (by decide) (fun c5 => ?_) (fun c5 => ?_)
    · replace H := H.1 c5
      refine ar_iconst (pc := 34) (z := (-1)) (by decide +kernel) (by unfold am_i32; omega) ?_
      exact ar_iret (pc := 35) (x := (-1)) (by decide +kernel) rfl rfl H
    · replace H := H.2 c5
      refine ar_iload_n (pc := 14) (i := 2) (k0 := 2) (by decide +kernel) rfl rfl ?_
      refine ar_aload_n (pc := 15) (i := 0) (k0 := 0) (by decide +kernel) rfl rfl ?_
      refine ar_getFV (pc := 16) (a := 1) (b := 4) 6 5 (by decide +kernel) k_1 rfl (by decide) wf_RX6_32 rfl (fun _ => rfl) rfl ?_
      refine ar_getFNV (pc := 19) (a := 4) (b := 5) 4 0 (by decide +kernel) k_4 rfl (by decide) wg_RX6_82 rfl (fun _ => rfl) rfl ?_
      refine ar_getNV (pc := 22) (a := 5) (v := .inl (h2 5 3)) 0 3 (by decide +kernel) k_5 rfl (by decide) wg_RX6_129 rfl ?_
      refine ar_icmp_ge (pc := 25) (x := v2) (y := (h2 5 3)) (tgt := 34) (off := 9) (by decide +kernel) (by decide) (fun c6 => ?_) (fun c6 => ?_)
      · replace H := H.1 c6
        refine ar_iconst (pc := 34) (z := (-1)) (by decide +kernel) (by unfold am_i32; omega) ?_
        exact ar_iret (pc := 35) (x := (-1)) (by decide +kernel) rfl rfl H
      · replace H := H.2 c6
        refine ar_iload_n (pc := 28) (i := 2) (k0 := 2) (by decide +kernel) rfl rfl ?_
        refine ar_bipush (pc := 29) (z := 40) (by decide +kernel) (by omega) ?_
        refine ar_icmp_lt (pc := 31) (x := v2) (y := 40) (tgt := 36) (off := 5) (by decide +kernel) (by decide) (fun c7 => ?_) (fun c7 => ?_)
        · replace H := H.1 c7
          refine ar_aload_n (pc := 36) (i := 0) (k0 := 0) (by decide +kernel) rfl rfl ?_
          refine ar_getFV (pc := 37) (a := 1) (b := 218) 6 9 (by decide +kernel) k_1 rfl (by decide) wf_RX6_56 rfl (fun _ => rfl) rfl ?_
          refine ar_getFNV (pc := 40) (a := 218) (b := 235) 2 4 (by decide +kernel) k_218 rfl (by decide) wg_RX6_272 rfl (fun _ => rfl) rfl ?_
          refine ar_aload_n (pc := 43) (i := 0) (k0 := 0) (by decide +kernel) rfl rfl ?_
          refine ar_getFV (pc := 44) (a := 1) (b := 218) 6 9 (by decide +kernel) k_1 rfl (by decide) wf_RX6_56 rfl (fun _ => rfl) rfl ?_
          refine ar_aload_n (pc := 47) (i := 3) (k0 := 3) (by decide +kernel) rfl rfl ?_
          refine ar_aload_n (pc := 48) (i := 0) (k0 := 0) (by decide +kernel) rfl rfl ?_
          refine ar_getFV (pc := 49) (a := 1) (b := 4) 6 5 (by decide +kernel) k_1 rfl (by decide) wf_RX6_32 rfl (fun _ => rfl) rfl ?_
          refine ar_getFNV (pc := 52) (a := 4) (b := 5) 4 0 (by decide +kernel) k_4 rfl (by decide) wg_RX6_82 rfl (fun _ => rfl) rfl ?_
          refine ar_sipush (pc := 55) (z := 255) (by decide +kernel) (by omega) ?_
          refine ar_callVN (pc := 58) (M2 := M_X2_readFile) (a := 218) (ci := 2) (as := [.inr (.inr r1), .inr (.inr 5), .inl 255]) (n2 := 321) (st := [.inr (.inr 235)]) (by decide +kernel) rfl wn_RX6_221 wi_yX2_readFile wl_yX2_readFile k_218 rfl wz_RX2 wc_yX2_readFile ⟨by decide, by decide, rfl⟩ (by decide) (Nat.le_of_ble_eq_true rfl) (Nat.le_refl _) (Nat.le_refl _) (am_Cl_mono H (fun r8 h9 H => ?_))
          show am_Wp true (d + 1) M_X6_flips 321 321 h0 Q 61 [some (.inr (.inr 1)), some (.inl v1), some (.inl v2), some (.inr (.inr r1)), none] [.inr (.inr r8), .inr (.inr 235)] 321 h9
          refine ar_callVN (pc := 61) (M2 := M_X3_copy) (a := 235) (ci := 3) (as := [.inr (.inr r8)]) (n2 := 321) (st := []) (by decide +kernel) rfl wn_RX6_276 wi_yX3_copy wl_yX3_copy k_235 rfl wz_RX3 wc_yX3_copy ⟨by decide, by decide, rfl⟩ (by decide) (Nat.le_of_ble_eq_true rfl) (Nat.le_refl _) (Nat.le_refl _) (am_Cl_mono H (fun r10 h11 H => ?_))
          show am_Wp true (d + 1) M_X6_flips 321 321 h0 Q 64 [some (.inr (.inr 1)), some (.inl v1), some (.inl v2), some (.inr (.inr r1)), none] [] 321 h11
          refine ar_aload_n (pc := 64) (i := 0) (k0 := 0) (by decide +kernel) rfl rfl ?_
          refine ar_getFV (pc := 65) (a := 1) (b := 198) 6 7 (by decide +kernel) k_1 rfl (by decide) wf_RX6_42 rfl (fun _ => rfl) rfl ?_
          refine ar_aload_n (pc := 68) (i := 0) (k0 := 0) (by decide +kernel) rfl rfl ?_
          refine ar_getFV (pc := 69) (a := 1) (b := 4) 6 5 (by decide +kernel) k_1 rfl (by decide) wf_RX6_32 rfl (fun _ => rfl) rfl ?_
          refine ar_getFNV (pc := 72) (a := 4) (b := 5) 4 0 (by decide +kernel) k_4 rfl (by decide) wg_RX6_82 rfl (fun _ => rfl) rfl ?_
          refine ar_callVN (pc := 75) (M2 := M_X0_copy) (a := 198) (ci := 0) (as := [.inr (.inr 5)]) (n2 := 321) (st := []) (by decide +kernel) rfl wn_RX6_197 wi_yX0_copy wl_yX0_copy k_198 rfl wz_RX0 wc_yX0_copy ⟨by decide, by decide, rfl⟩ (by decide) (Nat.le_of_ble_eq_true rfl) (Nat.le_refl _) (Nat.le_refl _) (am_Cl_mono H (fun r12 h13 H => ?_))
          show am_Wp true (d + 1) M_X6_flips 321 321 h0 Q 78 [some (.inr (.inr 1)), some (.inl v1), some (.inl v2), some (.inr (.inr r1)), none] [] 321 h13
          refine ar_aload_n (pc := 78) (i := 0) (k0 := 0) (by decide +kernel) rfl rfl ?_
          refine ar_getFV (pc := 79) (a := 1) (b := 198) 6 7 (by decide +kernel) k_1 rfl (by decide) wf_RX6_42 rfl (fun _ => rfl) rfl ?_
          refine ar_getFNV (pc := 82) (a := 198) (b := 199) 0 0 (by decide +kernel) k_198 rfl (by decide) wg_RX6_182 rfl (fun _ => rfl) rfl ?_
          refine ar_iload_n (pc := 85) (i := 2) (k0 := 2) (by decide +kernel) rfl rfl ?_
          refine ar_sipush (pc := 86) (z := 255) (by decide +kernel) (by omega) ?_
          refine ar_aload_n (pc := 89) (i := 0) (k0 := 0) (by decide +kernel) rfl rfl ?_
          refine ar_getFV (pc := 90) (a := 1) (b := 198) 6 7 (by decide +kernel) k_1 rfl (by decide) wf_RX6_42 rfl (fun _ => rfl) rfl ?_
          refine ar_getFNV (pc := 93) (a := 198) (b := 199) 0 0 (by decide +kernel) k_198 rfl (by decide) wg_RX6_182 rfl (fun _ => rfl) rfl ?_
          refine ar_iload_n (pc := 96) (i := 2) (k0 := 2) (by decide +kernel) rfl rfl ?_
          refine ar_iald (pc := 97) (a := 199) (i := v2) (by decide +kernel) k_199 c5 (am_lt_eq c7 (l_199).symm) ?_
          refine ar_isub (pc := 98) (x := 255) (y := (h13 199 v2)) (by decide +kernel) ?_
          refine ar_iast (pc := 99) (a := 199) (i := v2) (z := (am_w32 (255 - (h13 199 v2)))) (by decide +kernel) k_199 c5 (am_lt_eq c7 (l_199).symm) ?_
          refine ar_aload_n (pc := 100) (i := 0) (k0 := 0) (by decide +kernel) rfl rfl ?_
          refine ar_getFV (pc := 101) (a := 1) (b := 218) 6 9 (by decide +kernel) k_1 rfl (by decide) wf_RX6_56 rfl (fun _ => rfl) rfl ?_
          refine ar_aload_n (pc := 104) (i := 3) (k0 := 3) (by decide +kernel) rfl rfl ?_
          refine ar_aload_n (pc := 105) (i := 0) (k0 := 0) (by decide +kernel) rfl rfl ?_
          refine ar_getFV (pc := 106) (a := 1) (b := 198) 6 7 (by decide +kernel) k_1 rfl (by decide) wf_RX6_42 rfl (fun _ => rfl) rfl ?_
          refine ar_sipush (pc := 109) (z := 255) (by decide +kernel) (by omega) ?_
          refine ar_callVN (pc := 112) (M2 := M_X2_readFile) (a := 218) (ci := 2) (as := [.inr (.inr r1), .inr (.inr 198), .inl 255]) (n2 := 321) (st := []) (by decide +kernel) rfl wn_RX6_221 wi_yX2_readFile wl_yX2_readFile k_218 rfl wz_RX2 wc_yX2_readFile ⟨by decide, by decide, rfl⟩ (by decide) (Nat.le_of_ble_eq_true rfl) (Nat.le_refl _) (Nat.le_refl _) (am_Cl_mono H (fun r14 h15 H => ?_))
          show am_Wp true (d + 1) M_X6_flips 321 321 h0 Q 115 [some (.inr (.inr 1)), some (.inl v1), some (.inl v2), some (.inr (.inr r1)), none] [.inr (.inr r14)] 321 h15
          refine ar_astore (pc := 115) (i := 4) (ls2 := [some (.inr (.inr 1)), some (.inl v1), some (.inl v2), some (.inr (.inr r1)), some (.inr (.inr r14))]) (by decide +kernel) (by decide) rfl ?_
          refine ar_aload_n (pc := 117) (i := 3) (k0 := 3) (by decide +kernel) rfl rfl ?_
          obtain ⟨g16, H⟩ := H
          refine ar_getNV (pc := 118) (a := r1) (v := .inl (h15 r1 6)) 5 6 (by decide +kernel) g16 rfl (by decide) wg_RX6_279 rfl ?_
          refine ar_aload_n (pc := 121) (i := 0) (k0 := 0) (by decide +kernel) rfl rfl ?_
          refine ar_getFV (pc := 122) (a := 1) (b := 218) 6 9 (by decide +kernel) k_1 rfl (by decide) wf_RX6_56 rfl (fun _ => rfl) rfl ?_
          refine ar_getFNV (pc := 125) (a := 218) (b := 235) 2 4 (by decide +kernel) k_218 rfl (by decide) wg_RX6_272 rfl (fun _ => rfl) rfl ?_
          refine ar_aload (pc := 128) (i := 4) (by decide +kernel) rfl ?_
          refine ar_callVN (pc := 130) (M2 := M_X3_likeFields) (a := 235) (ci := 3) (as := [.inr (.inr r14)]) (n2 := 321) (st := [.inl (h15 r1 6)]) (by decide +kernel) rfl wn_RX6_282 wi_yX3_likeFields wl_yX3_likeFields k_235 rfl wz_RX3 wc_yX3_likeFields ⟨by decide, by decide, rfl⟩ (by decide) (Nat.le_of_ble_eq_true rfl) (Nat.le_refl _) (Nat.le_refl _) (am_Cl_mono H (fun r17 h18 H => ?_))
          show am_Wp true (d + 1) M_X6_flips 321 321 h0 Q 133 [some (.inr (.inr 1)), some (.inl v1), some (.inl v2), some (.inr (.inr r1)), some (.inr (.inr r14))] [.inl r17, .inl (h15 r1 6)] 321 h18
          refine ar_iconst (pc := 133) (z := (-1)) (by decide +kernel) (by unfold am_i32; omega) ?_
          refine ar_ixor (pc := 134) (x := r17) (y := (-1)) (by decide +kernel) ?_
          refine ar_iand (pc := 135) (x := (h15 r1 6)) (y := (am_ixor r17 (-1))) (by decide +kernel) ?_
          exact ar_iret (pc := 136) (x := (am_iand (h15 r1 6) (am_ixor r17 (-1)))) (by decide +kernel) rfl rfl H
        · replace H := H.2 c7
          refine ar_iconst (pc := 34) (z := (-1)) (by decide +kernel) (by unfold am_i32; omega) ?_
          exact ar_iret (pc := 35) (x := (-1)) (by decide +kernel) rfl rfl H

/-! ByteIntervals.sure(II)Z -/
theorem B_X6_sure_0 {d : Nat} {Q : Int → am_H → Prop} {h : am_H} {v1 v2 : Int} (H : cf d M_X6_textAt [.inr (.inr 1), .inl v1] h (fun r1 h2 => (0 ≤ r1) ∧ ((r1 = 0 → Q 0 h2) ∧ (1 ≤ r1 → cf d M_X6_isField [.inl v2] h2 (fun r5 h6 => (r5 = 0 → Q 0 h6) ∧ (¬ r5 = 0 → (am_kd 321 r1 = 15) ∧ ((0 ≤ v2) ∧ ((v2 < 8) ∧ (((h6 (r1 + 5) v2) = 2 → (¬ (h6 (r1 + 9) v2) = 0 → Q 0 h6) ∧ ((h6 (r1 + 9) v2) = 0 → ((h6 (r1 + 10) v2) = 0 → wf (d + 1) M_X6_sure Q 52 [some (.inr (.inr 1)), none, some (.inl v2), some (.inr (.inr r1)), some (.inl 1)] [] h6) ∧ (¬ (h6 (r1 + 10) v2) = 0 → Q 0 h6))) ∧ (¬ (h6 (r1 + 5) v2) = 2 → Q 0 h6)))))))))) : wf (d + 1) M_X6_sure Q 0 [some (.inr (.inr 1)), some (.inl v1), some (.inl v2), none, none] [] h := by
  intro h0
  refine ar_aload_n (pc := 0) (i := 0) (k0 := 0) (by decide +kernel) rfl rfl ?_
  refine ar_iload_n (pc := 1) (i := 1) (k0 := 1) (by decide +kernel) rfl rfl ?_
  refine ar_callV (pc := 2) (M2 := M_X6_textAt) (a := 1) (ci := 6) (as := [.inl v1]) (n2 := 321) (st := []) (by decide +kernel) rfl wm_RX6_78 wi_yX6_textAt wl_yX6_textAt k_1 rfl wz_RX6 wc_yX6_textAt ⟨by decide, by decide, rfl⟩ (by decide) (Nat.le_of_ble_eq_true rfl) (Nat.le_refl _) (Nat.le_refl _) (am_Cl_mono H (fun r1 h2 H => ?_))
  show am_Wp true (d + 1) M_X6_sure 321 321 h0 Q 5 [some (.inr (.inr 1)), some (.inl v1), some (.inl v2), none, none] [.inr (.inr r1)] 321 h2
  refine ar_astore_n (pc := 5) (i := 3) (k0 := 3) (ls2 := [some (.inr (.inr 1)), some (.inl v1), some (.inl v2), some (.inr (.inr r1)), none]) (by decide +kernel) rfl (by decide) rfl ?_
  refine ar_aload_n (pc := 6) (i := 3) (k0 := 3) (by decide +kernel) rfl rfl ?_
  obtain ⟨g4, H⟩ := H
  refine ar_ifnull (pc := 7) (x := r1) (tgt := 27) (off := 20) (by decide +kernel) (by decide) g4 (fun c3 => ?_) (fun c3 => ?_)
  · replace H := H.1 c3
    refine ar_iconst (pc := 27) (z := 0) (by decide +kernel) (by unfold am_i32; omega) ?_
    exact ar_zret (pc := 28) (x := 0) (by decide +kernel) rfl rfl (by decide) H
  · replace H := H.2 c3
    refine ar_iload_n (pc := 10) (i := 2) (k0 := 2) (by decide +kernel) rfl rfl ?_
    refine ar_callS (pc := 11) (M2 := M_X6_isField) (as := [.inl v2]) (n2 := 321) (st := []) (by decide +kernel) rfl wm_RX6_215 ws_yX6_isField wz_RX6 wc_yX6_isField ⟨by decide, by decide, rfl⟩ (by decide) (Nat.le_of_ble_eq_true rfl) (Nat.le_refl _) (Nat.le_refl _) (am_Cl_mono H (fun r5 h6 H => ?_))
    show am_Wp true (d + 1) M_X6_sure 321 321 h0 Q 14 [some (.inr (.inr 1)), some (.inl v1), some (.inl v2), some (.inr (.inr r1)), none] [.inl r5] 321 h6
    refine ar_if_eq (pc := 14) (x := r5) (tgt := 27) (off := 13) (by decide +kernel) (by decide) (fun c7 => ?_) (fun c7 => ?_)
    · replace H := H.1 c7
      refine ar_iconst (pc := 27) (z := 0) (by decide +kernel) (by unfold am_i32; omega) ?_
      exact ar_zret (pc := 28) (x := 0) (by decide +kernel) rfl rfl (by decide) H
    · replace H := H.2 c7
      refine ar_aload_n (pc := 17) (i := 3) (k0 := 3) (by decide +kernel) rfl rfl ?_
      obtain ⟨g8, H⟩ := H
      refine ar_getFNV (pc := 18) (a := r1) (b := (r1 + 5)) 5 7 (by decide +kernel) g8 rfl (by decide) wg_RX6_228 rfl (fun _ => rfl) rfl ?_
      refine ar_iload_n (pc := 21) (i := 2) (k0 := 2) (by decide +kernel) rfl rfl ?_
      obtain ⟨g9, H⟩ := H
      obtain ⟨g10, H⟩ := H
      refine ar_iald (pc := 22) (a := (r1 + 5)) (i := v2) (by decide +kernel) (kX5_7 g8).1 g9 (am_lt_eq g10 ((kX5_7 g8).2).symm) ?_
      refine ar_iconst (pc := 23) (z := 2) (by decide +kernel) (by unfold am_i32; omega) ?_
      refine ar_icmp_eq (pc := 24) (x := (h6 (r1 + 5) v2)) (y := 2) (tgt := 29) (off := 5) (by decide +kernel) (by decide) (fun c11 => ?_) (fun c11 => ?_)
      · replace H := H.1 c11
        refine ar_aload_n (pc := 29) (i := 3) (k0 := 3) (by decide +kernel) rfl rfl ?_
        refine ar_getFNV (pc := 30) (a := r1) (b := (r1 + 9)) 5 11 (by decide +kernel) g8 rfl (by decide) wg_RX6_286 rfl (fun _ => rfl) rfl ?_
        refine ar_iload_n (pc := 33) (i := 2) (k0 := 2) (by decide +kernel) rfl rfl ?_
        refine ar_iald (pc := 34) (a := (r1 + 9)) (i := v2) (by decide +kernel) (kX5_11 g8).1 g9 (am_lt_eq g10 ((kX5_11 g8).2).symm) ?_
        refine ar_if_ne (pc := 35) (x := (h6 (r1 + 9) v2)) (tgt := 47) (off := 12) (by decide +kernel) (by decide) (fun c12 => ?_) (fun c12 => ?_)
        · replace H := H.1 c12
          refine ar_iconst (pc := 47) (z := 0) (by decide +kernel) (by unfold am_i32; omega) ?_
          exact ar_zret (pc := 48) (x := 0) (by decide +kernel) rfl rfl (by decide) H
        · replace H := H.2 c12
          refine ar_aload_n (pc := 38) (i := 3) (k0 := 3) (by decide +kernel) rfl rfl ?_
          refine ar_getFNV (pc := 39) (a := r1) (b := (r1 + 10)) 5 12 (by decide +kernel) g8 rfl (by decide) wg_RX6_289 rfl (fun _ => rfl) rfl ?_
          refine ar_iload_n (pc := 42) (i := 2) (k0 := 2) (by decide +kernel) rfl rfl ?_
          refine ar_iald (pc := 43) (a := (r1 + 10)) (i := v2) (by decide +kernel) (kX5_12 g8).1 g9 (am_lt_eq g10 ((kX5_12 g8).2).symm) ?_
          refine ar_if_eq (pc := 44) (x := (h6 (r1 + 10) v2)) (tgt := 49) (off := 5) (by decide +kernel) (by decide) (fun c13 => ?_) (fun c13 => ?_)
          · replace H := H.1 c13
            refine ar_iconst (pc := 49) (z := 1) (by decide +kernel) (by unfold am_i32; omega) ?_
            refine ar_istore (pc := 50) (i := 4) (ls2 := [some (.inr (.inr 1)), some (.inl v1), some (.inl v2), some (.inr (.inr r1)), some (.inl 1)]) (by decide +kernel) (by decide) rfl ?_
            refine ar_forget [true, false, true, true, true] rfl ?_
            exact H h0
          · replace H := H.2 c13
            refine ar_iconst (pc := 47) (z := 0) (by decide +kernel) (by unfold am_i32; omega) ?_
            exact ar_zret (pc := 48) (x := 0) (by decide +kernel) rfl rfl (by decide) H
      · replace H := H.2 c11
        refine ar_iconst (pc := 27) (z := 0) (by decide +kernel) (by unfold am_i32; omega) ?_
        exact ar_zret (pc := 28) (x := 0) (by decide +kernel) rfl rfl (by decide) H
theorem B_X6_sure_52 {d : Nat} {Q : Int → am_H → Prop} {h : am_H} {v2 v3 v4 : Int} (H : (40 < v4 → Q 1 h) ∧ (v4 ≤ 40 → cf d M_X2_isShorter [.inr (.inr 218), .inr (.inr v3), .inl v2, .inl v4] h (fun r2 h3 => (¬ r2 = 0 → wf (d + 1) M_X6_sure Q 52 [some (.inr (.inr 1)), none, some (.inl v2), some (.inr (.inr v3)), some (.inl (am_w32 (v4 + 1)))] [] h3) ∧ (r2 = 0 → Q 0 h3)))) : wf (d + 1) M_X6_sure Q 52 [some (.inr (.inr 1)), none, some (.inl v2), some (.inr (.inr v3)), some (.inl v4)] [] h := by
  intro h0
  refine ar_iload (pc := 52) (i := 4) (by decide +kernel) rfl ?_
  refine ar_bipush (pc := 54) (z := 40) (by decide +kernel) (by omega) ?_
  refine ar_icmp_gt (pc := 56) (x := v4) (y := 40) (tgt := 81) (off := 25) (by decide +kernel) (by decide) (fun c1 => ?_) (fun c1 => ?_)
  · replace H := H.1 c1
    refine ar_iconst (pc := 81) (z := 1) (by decide +kernel) (by unfold am_i32; omega) ?_
    exact ar_zret (pc := 82) (x := 1) (by decide +kernel) rfl rfl (by decide) H
  · replace H := H.2 c1
    refine ar_aload_n (pc := 59) (i := 0) (k0 := 0) (by decide +kernel) rfl rfl ?_
    refine ar_getFV (pc := 60) (a := 1) (b := 218) 6 9 (by decide +kernel) k_1 rfl (by decide) wf_RX6_56 rfl (fun _ => rfl) rfl ?_
    refine ar_aload_n (pc := 63) (i := 3) (k0 := 3) (by decide +kernel) rfl rfl ?_
    refine ar_iload_n (pc := 64) (i := 2) (k0 := 2) (by decide +kernel) rfl rfl ?_
    refine ar_iload (pc := 65) (i := 4) (by decide +kernel) rfl ?_
    refine ar_callVN (pc := 67) (M2 := M_X2_isShorter) (a := 218) (ci := 2) (as := [.inr (.inr v3), .inl v2, .inl v4]) (n2 := 321) (st := []) (by decide +kernel) rfl wn_RX6_292 wi_yX2_isShorter wl_yX2_isShorter k_218 rfl wz_RX2 wc_yX2_isShorter ⟨by decide, by decide, rfl⟩ (by decide) (Nat.le_of_ble_eq_true rfl) (Nat.le_refl _) (Nat.le_refl _) (am_Cl_mono H (fun r2 h3 H => ?_))
    show am_Wp true (d + 1) M_X6_sure 321 321 h0 Q 70 [some (.inr (.inr 1)), none, some (.inl v2), some (.inr (.inr v3)), some (.inl v4)] [.inl r2] 321 h3
    refine ar_if_ne (pc := 70) (x := r2) (tgt := 75) (off := 5) (by decide +kernel) (by decide) (fun c4 => ?_) (fun c4 => ?_)
    · replace H := H.1 c4
      refine ar_iinc (pc := 75) (i := 4) (z := 1) (x := v4) (ls2 := [some (.inr (.inr 1)), none, some (.inl v2), some (.inr (.inr v3)), some (.inl (am_w32 (v4 + 1)))]) (by decide +kernel) rfl (by decide) rfl ?_
      refine ar_goto (pc := 78) (tgt := 52) (off := -26) (by decide +kernel) (by decide) ?_
      exact H h0
    · replace H := H.2 c4
      refine ar_iconst (pc := 73) (z := 0) (by decide +kernel) (by unfold am_i32; omega) ?_
      exact ar_zret (pc := 74) (x := 0) (by decide +kernel) rfl rfl (by decide) H

/-! ByteIntervals.least(I)I -/
theorem B_X6_least_0 {d : Nat} {Q : Int → am_H → Prop} {h : am_H} {v1 : Int} (H : cf d M_X6_textAt [.inr (.inr 1), .inl v1] h (fun r1 h2 => (0 ≤ r1) ∧ ((1 ≤ r1 → wf (d + 1) M_X6_least Q 14 [some (.inr (.inr 1)), none, some (.inr (.inr r1)), some (.inl 0)] [] h2) ∧ (r1 = 0 → Q (-1) h2)))) : wf (d + 1) M_X6_least Q 0 [some (.inr (.inr 1)), some (.inl v1), none, none] [] h := by
  intro h0
  refine ar_aload_n (pc := 0) (i := 0) (k0 := 0) (by decide +kernel) rfl rfl ?_
  refine ar_iload_n (pc := 1) (i := 1) (k0 := 1) (by decide +kernel) rfl rfl ?_
  refine ar_callV (pc := 2) (M2 := M_X6_textAt) (a := 1) (ci := 6) (as := [.inl v1]) (n2 := 321) (st := []) (by decide +kernel) rfl wm_RX6_78 wi_yX6_textAt wl_yX6_textAt k_1 rfl wz_RX6 wc_yX6_textAt ⟨by decide, by decide, rfl⟩ (by decide) (Nat.le_of_ble_eq_true rfl) (Nat.le_refl _) (Nat.le_refl _) (am_Cl_mono H (fun r1 h2 H => ?_))
  show am_Wp true (d + 1) M_X6_least 321 321 h0 Q 5 [some (.inr (.inr 1)), some (.inl v1), none, none] [.inr (.inr r1)] 321 h2
  refine ar_astore_n (pc := 5) (i := 2) (k0 := 2) (ls2 := [some (.inr (.inr 1)), some (.inl v1), some (.inr (.inr r1)), none]) (by decide +kernel) rfl (by decide) rfl ?_
  refine ar_aload_n (pc := 6) (i := 2) (k0 := 2) (by decide +kernel) rfl rfl ?_
  obtain ⟨g4, H⟩ := H
  refine ar_ifnonnull (pc := 7) (x := r1) (tgt := 12) (off := 5) (by decide +kernel) (by decide) g4 (fun c3 => ?_) (fun c3 => ?_)
  · replace H := H.1 c3
    refine ar_iconst (pc := 12) (z := 0) (by decide +kernel) (by unfold am_i32; omega) ?_
    refine ar_istore_n (pc := 13) (i := 3) (k0 := 3) (ls2 := [some (.inr (.inr 1)), some (.inl v1), some (.inr (.inr r1)), some (.inl 0)]) (by decide +kernel) rfl (by decide) rfl ?_
    refine ar_forget [true, false, true, true] rfl ?_
    exact H h0
  · replace H := H.2 c3
    refine ar_iconst (pc := 10) (z := (-1)) (by decide +kernel) (by unfold am_i32; omega) ?_
    exact ar_iret (pc := 11) (x := (-1)) (by decide +kernel) rfl rfl H
theorem B_X6_least_14 {d : Nat} {Q : Int → am_H → Prop} {h : am_H} {v2 v3 : Int} (H : (40 < v3 → Q (-1) h) ∧ (v3 ≤ 40 → cf d M_X2_isValid [.inr (.inr 218), .inr (.inr v2), .inr (.inr 6), .inl v3] h (fun r2 h3 => (r2 = 0 → wf (d + 1) M_X6_least Q 14 [some (.inr (.inr 1)), none, some (.inr (.inr v2)), some (.inl (am_w32 (v3 + 1)))] [] h3) ∧ (¬ r2 = 0 → Q v3 h3)))) : wf (d + 1) M_X6_least Q 14 [some (.inr (.inr 1)), none, some (.inr (.inr v2)), some (.inl v3)] [] h := by
  intro h0
  refine ar_iload_n (pc := 14) (i := 3) (k0 := 3) (by decide +kernel) rfl rfl ?_
  refine ar_bipush (pc := 15) (z := 40) (by decide +kernel) (by omega) ?_
  refine ar_icmp_gt (pc := 17) (x := v3) (y := 40) (tgt := 50) (off := 33) (by decide +kernel) (by decide) (fun c1 => ?_) (fun c1 => ?_)
  · replace H := H.1 c1
    refine ar_iconst (pc := 50) (z := (-1)) (by decide +kernel) (by unfold am_i32; omega) ?_
    exact ar_iret (pc := 51) (x := (-1)) (by decide +kernel) rfl rfl H
  · replace H := H.2 c1
    refine ar_aload_n (pc := 20) (i := 0) (k0 := 0) (by decide +kernel) rfl rfl ?_
    refine ar_getFV (pc := 21) (a := 1) (b := 218) 6 9 (by decide +kernel) k_1 rfl (by decide) wf_RX6_56 rfl (fun _ => rfl) rfl ?_
    refine ar_aload_n (pc := 24) (i := 2) (k0 := 2) (by decide +kernel) rfl rfl ?_
    refine ar_aload_n (pc := 25) (i := 0) (k0 := 0) (by decide +kernel) rfl rfl ?_
    refine ar_getFV (pc := 26) (a := 1) (b := 4) 6 5 (by decide +kernel) k_1 rfl (by decide) wf_RX6_32 rfl (fun _ => rfl) rfl ?_
    refine ar_getFNV (pc := 29) (a := 4) (b := 5) 4 0 (by decide +kernel) k_4 rfl (by decide) wg_RX6_82 rfl (fun _ => rfl) rfl ?_
    refine ar_getFNV (pc := 32) (a := 5) (b := 6) 0 0 (by decide +kernel) k_5 rfl (by decide) wg_RX6_182 rfl (fun _ => rfl) rfl ?_
    refine ar_iload_n (pc := 35) (i := 3) (k0 := 3) (by decide +kernel) rfl rfl ?_
    refine ar_callVN (pc := 36) (M2 := M_X2_isValid) (a := 218) (ci := 2) (as := [.inr (.inr v2), .inr (.inr 6), .inl v3]) (n2 := 321) (st := []) (by decide +kernel) rfl wn_RX6_211 wi_yX2_isValid wl_yX2_isValid k_218 rfl wz_RX2 wc_yX2_isValid ⟨by decide, by decide, rfl⟩ (by decide) (Nat.le_of_ble_eq_true rfl) (Nat.le_refl _) (Nat.le_refl _) (am_Cl_mono H (fun r2 h3 H => ?_))
    show am_Wp true (d + 1) M_X6_least 321 321 h0 Q 39 [some (.inr (.inr 1)), none, some (.inr (.inr v2)), some (.inl v3)] [.inl r2] 321 h3
    refine ar_if_eq (pc := 39) (x := r2) (tgt := 44) (off := 5) (by decide +kernel) (by decide) (fun c4 => ?_) (fun c4 => ?_)
    · replace H := H.1 c4
      refine ar_iinc (pc := 44) (i := 3) (z := 1) (x := v3) (ls2 := [some (.inr (.inr 1)), none, some (.inr (.inr v2)), some (.inl (am_w32 (v3 + 1)))]) (by decide +kernel) rfl (by decide) rfl ?_
      refine ar_goto (pc := 47) (tgt := 14) (off := -33) (by decide +kernel) (by decide) ?_
      exact H h0
    · replace H := H.2 c4
      refine ar_iload_n (pc := 42) (i := 3) (k0 := 3) (by decide +kernel) rfl rfl ?_
      exact ar_iret (pc := 43) (x := v3) (by decide +kernel) rfl rfl H

/-! ByteIntervals.make(III)I -/
theorem B_X6_make_0 {d : Nat} {Q : Int → am_H → Prop} {h : am_H} {v1 v2 v3 : Int} (H : cf d M_X6_textAt [.inr (.inr 1), .inl v1] h (fun r1 h2 => (0 ≤ r1) ∧ ((r1 = 0 → Q (-1) h2) ∧ (1 ≤ r1 → cf d M_X6_isField [.inl v2] h2 (fun r5 h6 => (r5 = 0 → Q (-1) h6) ∧ (¬ r5 = 0 → (v3 < 0 → Q (-1) h6) ∧ (0 ≤ v3 → (am_kd 321 r1 = 15) ∧ (cf d M_X5_mostOf [.inr (.inr r1), .inl v2] h6 (fun r9 h10 => (v3 ≤ r9 → (0 ≤ v2) ∧ ((v2 < 8) ∧ (cf d M_X2_readValues [.inr (.inr 218), .inr (.inr r1), .inr (.inr 5), .inl (h10 (r1 + 12) v2)] h10 (fun r15 h16 => (am_kd 321 r15 = 13) ∧ (cf d M_X3_has [.inr (.inr r15), .inl v2, .inl v3] h16 (fun r17 h18 => cf d M_X3_looksOf [.inr (.inr r15), .inl (h10 (r1 + 12) v2)] h18 (fun r20 h21 => cf d M_X0_copy [.inr (.inr 198), .inr (.inr 5)] h21 (fun _ h23 => wf (d + 1) M_X6_make Q 99 [some (.inr (.inr 1)), none, some (.inl v2), some (.inl v3), some (.inr (.inr r1)), none, none, some (.inl r17), some (.inr (.inl r20)), none, some (.inl 0), none] [] h23)))))))) ∧ (r9 < v3 → Q (-1) h10)))))))))) : wf (d + 1) M_X6_make Q 0 [some (.inr (.inr 1)), some (.inl v1), some (.inl v2), some (.inl v3), none, none, none, none, none, none, none, none] [] h := by
  intro h0
  refine ar_aload_n (pc := 0) (i := 0) (k0 := 0) (by decide +kernel) rfl rfl ?_
  refine ar_iload_n (pc := 1) (i := 1) (k0 := 1) (by decide +kernel) rfl rfl ?_
  refine ar_callV (pc := 2) (M2 := M_X6_textAt) (a := 1) (ci := 6) (as := [.inl v1]) (n2 := 321) (st := []) (by decide +kernel) rfl wm_RX6_78 wi_yX6_textAt wl_yX6_textAt k_1 rfl wz_RX6 wc_yX6_textAt ⟨by decide, by decide, rfl⟩ (by decide) (Nat.le_of_ble_eq_true rfl) (Nat.le_refl _) (Nat.le_refl _) (am_Cl_mono H (fun r1 h2 H => ?_))
  show am_Wp true (d + 1) M_X6_make 321 321 h0 Q 5 [some (.inr (.inr 1)), some (.inl v1), some (.inl v2), some (.inl v3), none, none, none, none, none, none, none, none] [.inr (.inr r1)] 321 h2
  refine ar_astore (pc := 5) (i := 4) (ls2 := [some (.inr (.inr 1)), some (.inl v1), some (.inl v2), some (.inl v3), some (.inr (.inr r1)), none, none, none, none, none, none, none]) (by decide +kernel) (by decide) rfl ?_
  refine ar_aload (pc := 7) (i := 4) (by decide +kernel) rfl ?_
  obtain ⟨g4, H⟩ := H
  refine ar_ifnull (pc := 9) (x := r1) (tgt := 33) (off := 24) (by decide +kernel) (by decide) g4 (fun c3 => ?_) (fun c3 => ?_)
  · replace H := H.1 c3
    refine ar_iconst (pc := 33) (z := (-1)) (by decide +kernel) (by unfold am_i32; omega) ?_
    exact ar_iret (pc := 34) (x := (-1)) (by decide +kernel) rfl rfl H
  · replace H := H.2 c3
    refine ar_iload_n (pc := 12) (i := 2) (k0 := 2) (by decide +kernel) rfl rfl ?_
    refine ar_callS (pc := 13) (M2 := M_X6_isField) (as := [.inl v2]) (n2 := 321) (st := []) (by decide +kernel) rfl wm_RX6_215 ws_yX6_isField wz_RX6 wc_yX6_isField ⟨by decide, by decide, rfl⟩ (by decide) (Nat.le_of_ble_eq_true rfl) (Nat.le_refl _) (Nat.le_refl _) (am_Cl_mono H (fun r5 h6 H => ?_))
    show am_Wp true (d + 1) M_X6_make 321 321 h0 Q 16 [some (.inr (.inr 1)), some (.inl v1), some (.inl v2), some (.inl v3), some (.inr (.inr r1)), none, none, none, none, none, none, none] [.inl r5] 321 h6
    refine ar_if_eq (pc := 16) (x := r5) (tgt := 33) (off := 17) (by decide +kernel) (by decide) (fun c7 => ?_) (fun c7 => ?_)
    · replace H := H.1 c7
      refine ar_iconst (pc := 33) (z := (-1)) (by decide +kernel) (by unfold am_i32; omega) ?_
      exact ar_iret (pc := 34) (x := (-1)) (by decide +kernel) rfl rfl H
    · replace H := H.2 c7
      refine ar_iload_n (pc := 19) (i := 3) (k0 := 3) (by decide +kernel) rfl rfl ?_
      refine ar_if_lt (pc := 20) (x := v3) (tgt := 33) (off := 13) (by decide +kernel) (by decide) (fun c8 => ?_) (fun c8 => ?_)
      · replace H := H.1 c8
        refine ar_iconst (pc := 33) (z := (-1)) (by decide +kernel) (by unfold am_i32; omega) ?_
        exact ar_iret (pc := 34) (x := (-1)) (by decide +kernel) rfl rfl H
      · replace H := H.2 c8
        refine ar_iload_n (pc := 23) (i := 3) (k0 := 3) (by decide +kernel) rfl rfl ?_
        refine ar_aload (pc := 24) (i := 4) (by decide +kernel) rfl ?_
        refine ar_iload_n (pc := 26) (i := 2) (k0 := 2) (by decide +kernel) rfl rfl ?_
        obtain ⟨g11, H⟩ := H
        refine ar_callVN (pc := 27) (M2 := M_X5_mostOf) (a := r1) (ci := 5) (as := [.inl v2]) (n2 := 321) (st := [.inl v3]) (by decide +kernel) rfl wn_RX6_296 wi_yX5_mostOf wl_yX5_mostOf g11 rfl wz_RX5 wc_yX5_mostOf ⟨by decide, by decide, rfl⟩ (by decide) (Nat.le_of_ble_eq_true rfl) (Nat.le_refl _) (Nat.le_refl _) (am_Cl_mono H (fun r9 h10 H => ?_))
        show am_Wp true (d + 1) M_X6_make 321 321 h0 Q 30 [some (.inr (.inr 1)), some (.inl v1), some (.inl v2), some (.inl v3), some (.inr (.inr r1)), none, none, none, none, none, none, none] [.inl r9, .inl v3] 321 h10
        refine ar_icmp_le (pc := 30) (x := v3) (y := r9) (tgt := 35) (off := 5) (by decide +kernel) (by decide) (fun c12 => ?_) (fun c12 => ?_)
        · replace H := H.1 c12
          refine ar_aload (pc := 35) (i := 4) (by decide +kernel) rfl ?_
          refine ar_getFNV (pc := 37) (a := r1) (b := (r1 + 12)) 5 16 (by decide +kernel) g11 rfl (by decide) wg_RX6_218 rfl (fun _ => rfl) rfl ?_
          refine ar_iload_n (pc := 40) (i := 2) (k0 := 2) (by decide +kernel) rfl rfl ?_
          obtain ⟨g13, H⟩ := H
          obtain ⟨g14, H⟩ := H
          refine ar_iald (pc := 41) (a := (r1 + 12)) (i := v2) (by decide +kernel) (kX5_16 g11).1 g13 (am_lt_eq g14 ((kX5_16 g11).2).symm) ?_
          refine ar_istore (pc := 42) (i := 5) (ls2 := [some (.inr (.inr 1)), some (.inl v1), some (.inl v2), some (.inl v3), some (.inr (.inr r1)), some (.inl (h10 (r1 + 12) v2)), none, none, none, none, none, none]) (by decide +kernel) (by decide) rfl ?_
          refine ar_aload_n (pc := 44) (i := 0) (k0 := 0) (by decide +kernel) rfl rfl ?_
          refine ar_getFV (pc := 45) (a := 1) (b := 218) 6 9 (by decide +kernel) k_1 rfl (by decide) wf_RX6_56 rfl (fun _ => rfl) rfl ?_
          refine ar_aload (pc := 48) (i := 4) (by decide +kernel) rfl ?_
          refine ar_aload_n (pc := 50) (i := 0) (k0 := 0) (by decide +kernel) rfl rfl ?_
          refine ar_getFV (pc := 51) (a := 1) (b := 4) 6 5 (by decide +kernel) k_1 rfl (by decide) wf_RX6_32 rfl (fun _ => rfl) rfl ?_
          refine ar_getFNV (pc := 54) (a := 4) (b := 5) 4 0 (by decide +kernel) k_4 rfl (by decide) wg_RX6_82 rfl (fun _ => rfl) rfl ?_
          refine ar_iload (pc := 57) (i := 5) (by decide +kernel) rfl ?_
          refine ar_callVN (pc := 59) (M2 := M_X2_readValues) (a := 218) (ci := 2) (as := [.inr (.inr r1), .inr (.inr 5), .inl (h10 (r1 + 12) v2)]) (n2 := 321) (st := []) (by decide +kernel) rfl wn_RX6_299 wi_yX2_readValues wl_yX2_readValues k_218 rfl wz_RX2 wc_yX2_readValues ⟨by decide, by decide, rfl⟩ (by decide) (Nat.le_of_ble_eq_true rfl) (Nat.le_refl _) (Nat.le_refl _) (am_Cl_mono H (fun r15 h16 H => ?_))
          show am_Wp true (d + 1) M_X6_make 321 321 h0 Q 62 [some (.inr (.inr 1)), some (.inl v1), some (.inl v2), some (.inl v3), some (.inr (.inr r1)), some (.inl (h10 (r1 + 12) v2)), none, none, none, none, none, none] [.inr (.inr r15)] 321 h16
          refine ar_astore (pc := 62) (i := 6) (ls2 := [some (.inr (.inr 1)), some (.inl v1), some (.inl v2), some (.inl v3), some (.inr (.inr r1)), some (.inl (h10 (r1 + 12) v2)), some (.inr (.inr r15)), none, none, none, none, none]) (by decide +kernel) (by decide) rfl ?_
          refine ar_aload (pc := 64) (i := 6) (by decide +kernel) rfl ?_
          refine ar_iload_n (pc := 66) (i := 2) (k0 := 2) (by decide +kernel) rfl rfl ?_
          refine ar_iload_n (pc := 67) (i := 3) (k0 := 3) (by decide +kernel) rfl rfl ?_
          obtain ⟨g19, H⟩ := H
          refine ar_callVN (pc := 68) (M2 := M_X3_has) (a := r15) (ci := 3) (as := [.inl v2, .inl v3]) (n2 := 321) (st := []) (by decide +kernel) rfl wn_RX6_302 wi_yX3_has wl_yX3_has g19 rfl wz_RX3 wc_yX3_has ⟨by decide, by decide, rfl⟩ (by decide) (Nat.le_of_ble_eq_true rfl) (Nat.le_refl _) (Nat.le_refl _) (am_Cl_mono H (fun r17 h18 H => ?_))
          show am_Wp true (d + 1) M_X6_make 321 321 h0 Q 71 [some (.inr (.inr 1)), some (.inl v1), some (.inl v2), some (.inl v3), some (.inr (.inr r1)), some (.inl (h10 (r1 + 12) v2)), some (.inr (.inr r15)), none, none, none, none, none] [.inl r17] 321 h18
          refine ar_istore (pc := 71) (i := 7) (ls2 := [some (.inr (.inr 1)), some (.inl v1), some (.inl v2), some (.inl v3), some (.inr (.inr r1)), some (.inl (h10 (r1 + 12) v2)), some (.inr (.inr r15)), some (.inl r17), none, none, none, none]) (by decide +kernel) (by decide) rfl ?_
          refine ar_aload (pc := 73) (i := 6) (by decide +kernel) rfl ?_
          refine ar_iload (pc := 75) (i := 5) (by decide +kernel) rfl ?_
          refine ar_callVN (pc := 77) (M2 := M_X3_looksOf) (a := r15) (ci := 3) (as := [.inl (h10 (r1 + 12) v2)]) (n2 := 321) (st := []) (by decide +kernel) rfl wn_RX6_269 wi_yX3_looksOf wl_yX3_looksOf g19 rfl wz_RX3 wc_yX3_looksOf ⟨by decide, by decide, rfl⟩ (by decide) (Nat.le_of_ble_eq_true rfl) (Nat.le_refl _) (Nat.le_refl _) (am_Cl_mono H (fun r20 h21 H => ?_))
          show am_Wp true (d + 1) M_X6_make 321 321 h0 Q 80 [some (.inr (.inr 1)), some (.inl v1), some (.inl v2), some (.inl v3), some (.inr (.inr r1)), some (.inl (h10 (r1 + 12) v2)), some (.inr (.inr r15)), some (.inl r17), none, none, none, none] [.inr (.inl r20)] 321 h21
          refine ar_lstore (pc := 80) (i := 8) (ls2 := [some (.inr (.inr 1)), some (.inl v1), some (.inl v2), some (.inl v3), some (.inr (.inr r1)), some (.inl (h10 (r1 + 12) v2)), some (.inr (.inr r15)), some (.inl r17), some (.inr (.inl r20)), none, none, none]) (by decide +kernel) (by decide) rfl ?_
          refine ar_aload_n (pc := 82) (i := 0) (k0 := 0) (by decide +kernel) rfl rfl ?_
          refine ar_getFV (pc := 83) (a := 1) (b := 198) 6 7 (by decide +kernel) k_1 rfl (by decide) wf_RX6_42 rfl (fun _ => rfl) rfl ?_
          refine ar_aload_n (pc := 86) (i := 0) (k0 := 0) (by decide +kernel) rfl rfl ?_
          refine ar_getFV (pc := 87) (a := 1) (b := 4) 6 5 (by decide +kernel) k_1 rfl (by decide) wf_RX6_32 rfl (fun _ => rfl) rfl ?_
          refine ar_getFNV (pc := 90) (a := 4) (b := 5) 4 0 (by decide +kernel) k_4 rfl (by decide) wg_RX6_82 rfl (fun _ => rfl) rfl ?_
          refine ar_callVN (pc := 93) (M2 := M_X0_copy) (a := 198) (ci := 0) (as := [.inr (.inr 5)]) (n2 := 321) (st := []) (by decide +kernel) rfl wn_RX6_197 wi_yX0_copy wl_yX0_copy k_198 rfl wz_RX0 wc_yX0_copy ⟨by decide, by decide, rfl⟩ (by decide) (Nat.le_of_ble_eq_true rfl) (Nat.le_refl _) (Nat.le_refl _) (am_Cl_mono H (fun r22 h23 H => ?_))
          show am_Wp true (d + 1) M_X6_make 321 321 h0 Q 96 [some (.inr (.inr 1)), some (.inl v1), some (.inl v2), some (.inl v3), some (.inr (.inr r1)), some (.inl (h10 (r1 + 12) v2)), some (.inr (.inr r15)), some (.inl r17), some (.inr (.inl r20)), none, none, none] [] 321 h23
          refine ar_iconst (pc := 96) (z := 0) (by decide +kernel) (by unfold am_i32; omega) ?_
          refine ar_istore (pc := 97) (i := 10) (ls2 := [some (.inr (.inr 1)), some (.inl v1), some (.inl v2), some (.inl v3), some (.inr (.inr r1)), some (.inl (h10 (r1 + 12) v2)), some (.inr (.inr r15)), some (.inl r17), some (.inr (.inl r20)), none, some (.inl 0), none]) (by decide +kernel) (by decide) rfl ?_
          refine ar_forget [true, false, true, true, true, false, false, true, true, true, true, true] rfl ?_
          exact H h0
        · replace H := H.2 c12
          refine ar_iconst (pc := 33) (z := (-1)) (by decide +kernel) (by unfold am_i32; omega) ?_
          exact ar_iret (pc := 34) (x := (-1)) (by decide +kernel) rfl rfl H
theorem B_X6_make_99 {d : Nat} {Q : Int → am_H → Prop} {h : am_H} {v2 v3 v4 v7 v8 v10 : Int} (H : ((h 198 3) ≤ v10 → Q (-1) h) ∧ (v10 < (h 198 3) → (40 ≤ v10 → Q (-1) h) ∧ (v10 < 40 → ((am_lcmp (am_land (am_lshr v8 v10) 1) 0) = 0 → (v7 = 0 → wf (d + 1) M_X6_make Q 192 [some (.inr (.inr 1)), none, some (.inl v2), some (.inl v3), some (.inr (.inr v4)), none, none, some (.inl v7), some (.inr (.inl v8)), none, some (.inl v10), none] [] h) ∧ (¬ v7 = 0 → (0 ≤ v10) ∧ ((¬ (h 199 v10) = 0 → Q (am_w32 ((am_w32 (v10 * 256)) + 0)) h) ∧ ((h 199 v10) = 0 → Q (am_w32 ((am_w32 (v10 * 256)) + 1)) h)))) ∧ (¬ (am_lcmp (am_land (am_lshr v8 v10) 1) 0) = 0 → cf d M_X6_madeAt [.inr (.inr 1), .inr (.inr v4), .inl v2, .inl v3, .inl v10] h (fun r7 h8 => (r7 = (-1) → wf (d + 1) M_X6_make Q 192 [some (.inr (.inr 1)), none, some (.inl v2), some (.inl v3), some (.inr (.inr v4)), none, none, some (.inl v7), some (.inr (.inl v8)), none, some (.inl v10), none] [] h8) ∧ (¬ r7 = (-1) → Q (am_w32 ((am_w32 (v10 * 256)) + r7)) h8)))))) : wf (d + 1) M_X6_make Q 99 [some (.inr (.inr 1)), none, some (.inl v2), some (.inl v3), some (.inr (.inr v4)), none, none, some (.inl v7), some (.inr (.inl v8)), none, some (.inl v10), none] [] h := by
  intro h0
  refine ar_iload (pc := 99) (i := 10) (by decide +kernel) rfl ?_
  refine ar_aload_n (pc := 101) (i := 0) (k0 := 0) (by decide +kernel) rfl rfl ?_
  refine ar_getFV (pc := 102) (a := 1) (b := 198) 6 7 (by decide +kernel) k_1 rfl (by decide) wf_RX6_42 rfl (fun _ => rfl) rfl ?_
  refine ar_getNV (pc := 105) (a := 198) (v := .inl (h 198 3)) 0 3 (by decide +kernel) k_198 rfl (by decide) wg_RX6_129 rfl ?_
  refine ar_icmp_ge (pc := 108) (x := v10) (y := (h 198 3)) (tgt := 198) (off := 90) (by decide +kernel) (by decide) (fun c1 => ?_) (fun c1 => ?_)
  · replace H := H.1 c1
    refine ar_iconst (pc := 198) (z := (-1)) (by decide +kernel) (by unfold am_i32; omega) ?_
    exact ar_iret (pc := 199) (x := (-1)) (by decide +kernel) rfl rfl H
  · replace H := H.2 c1
    refine ar_iload (pc := 111) (i := 10) (by decide +kernel) rfl ?_
    refine ar_bipush (pc := 113) (z := 40) (by decide +kernel) (by omega) ?_
    refine ar_icmp_ge (pc := 115) (x := v10) (y := 40) (tgt := 198) (off := 83) (by decide +kernel) (by decide) (fun c2 => ?_) (fun c2 => ?_)
    · replace H := H.1 c2
      refine ar_iconst (pc := 198) (z := (-1)) (by decide +kernel) (by unfold am_i32; omega) ?_
      exact ar_iret (pc := 199) (x := (-1)) (by decide +kernel) rfl rfl H
    · replace H := H.2 c2
      refine ar_lload (pc := 118) (i := 8) (by decide +kernel) rfl ?_
      refine ar_iload (pc := 120) (i := 10) (by decide +kernel) rfl ?_
      refine ar_lshr (pc := 122) (x := v8) (y := v10) (by decide +kernel) ?_
      refine ar_lconst (pc := 123) (i := 1) (z := 1) (by decide +kernel) rfl ?_
      refine ar_land (pc := 124) (x := (am_lshr v8 v10)) (y := 1) (by decide +kernel) ?_
      refine ar_lconst (pc := 125) (i := 0) (z := 0) (by decide +kernel) rfl ?_
      refine ar_lcmp (pc := 126) (x := (am_land (am_lshr v8 v10) 1)) (y := 0) (by decide +kernel) ?_
      refine ar_if_eq (pc := 127) (x := (am_lcmp (am_land (am_lshr v8 v10) 1) 0)) (tgt := 161) (off := 34) (by decide +kernel) (by decide) (fun c3 => ?_) (fun c3 => ?_)
      · replace H := H.1 c3
        refine ar_iload (pc := 161) (i := 7) (by decide +kernel) rfl ?_
        refine ar_if_eq (pc := 163) (x := v7) (tgt := 192) (off := 29) (by decide +kernel) (by decide) (fun c4 => ?_) (fun c4 => ?_)
        · replace H := H.1 c4
          exact H h0
        · replace H := H.2 c4
          refine ar_iload (pc := 166) (i := 10) (by decide +kernel) rfl ?_
          refine ar_sipush (pc := 168) (z := 256) (by decide +kernel) (by omega) ?_
          refine ar_imul (pc := 171) (x := v10) (y := 256) (by decide +kernel) ?_
          refine ar_aload_n (pc := 172) (i := 0) (k0 := 0) (by decide +kernel) rfl rfl ?_
          refine ar_getFV (pc := 173) (a := 1) (b := 198) 6 7 (by decide +kernel) k_1 rfl (by decide) wf_RX6_42 rfl (fun _ => rfl) rfl ?_
          refine ar_getFNV (pc := 176) (a := 198) (b := 199) 0 0 (by decide +kernel) k_198 rfl (by decide) wg_RX6_182 rfl (fun _ => rfl) rfl ?_
          refine ar_iload (pc := 179) (i := 10) (by decide +kernel) rfl ?_
          obtain ⟨g5, H⟩ := H
          refine ar_iald (pc := 181) (a := 199) (i := v10) (by decide +kernel) k_199 g5 (am_lt_eq c2 (l_199).symm) ?_
          refine ar_if_ne (pc := 182) (x := (h 199 v10)) (tgt := 189) (off := 7) (by decide +kernel) (by decide) (fun c6 => ?_) (fun c6 => ?_)
          · replace H := H.1 c6
            refine ar_iconst (pc := 189) (z := 0) (by decide +kernel) (by unfold am_i32; omega) ?_
            refine ar_iadd (pc := 190) (x := (am_w32 (v10 * 256))) (y := 0) (by decide +kernel) ?_
            exact ar_iret (pc := 191) (x := (am_w32 ((am_w32 (v10 * 256)) + 0))) (by decide +kernel) rfl rfl H
          · replace H := H.2 c6
            refine ar_iconst (pc := 185) (z := 1) (by decide +kernel) (by unfold am_i32; omega) ?_
            refine ar_goto (pc := 186) (tgt := 190) (off := 4) (by decide +kernel) (by decide) ?_
            refine ar_iadd (pc := 190) (x := (am_w32 (v10 * 256))) (y := 1) (by decide +kernel) ?_
            exact ar_iret (pc := 191) (x := (am_w32 ((am_w32 (v10 * 256)) + 1))) (by decide +kernel) rfl rfl H
      · replace H := H.2 c3
        refine ar_aload_n (pc := 130) (i := 0) (k0 := 0) (by decide +kernel) rfl rfl ?_
        refine ar_aload (pc := 131) (i := 4) (by decide +kernel) rfl ?_
        refine ar_iload_n (pc := 133) (i := 2) (k0 := 2) (by decide +kernel) rfl rfl ?_
        refine ar_iload_n (pc := 134) (i := 3) (k0 := 3) (by decide +kernel) rfl rfl ?_
        refine ar_iload (pc := 135) (i := 10) (by decide +kernel) rfl ?_
        refine ar_callV (pc := 137) (M2 := M_X6_madeAt) (a := 1) (ci := 6) (as := [.inr (.inr v4), .inl v2, .inl v3, .inl v10]) (n2 := 321) (st := []) (by decide +kernel) rfl wm_RX6_305 wi_yX6_madeAt wl_yX6_madeAt k_1 rfl wz_RX6 wc_yX6_madeAt ⟨by decide, by decide, rfl⟩ (by decide) (Nat.le_of_ble_eq_true rfl) (Nat.le_refl _) (Nat.le_refl _) (am_Cl_mono H (fun r7 h8 H => ?_))
        show am_Wp true (d + 1) M_X6_make 321 321 h0 Q 140 [some (.inr (.inr 1)), none, some (.inl v2), some (.inl v3), some (.inr (.inr v4)), none, none, some (.inl v7), some (.inr (.inl v8)), none, some (.inl v10), none] [.inl r7] 321 h8
        refine ar_istore (pc := 140) (i := 11) (ls2 := [some (.inr (.inr 1)), none, some (.inl v2), some (.inl v3), some (.inr (.inr v4)), none, none, some (.inl v7), some (.inr (.inl v8)), none, some (.inl v10), some (.inl r7)]) (by decide +kernel) (by decide) rfl ?_
        refine ar_iload (pc := 142) (i := 11) (by decide +kernel) rfl ?_
        refine ar_iconst (pc := 144) (z := (-1)) (by decide +kernel) (by unfold am_i32; omega) ?_
        refine ar_icmp_eq (pc := 145) (x := r7) (y := (-1)) (tgt := 158) (off := 13) (by decide +kernel) (by decide) (fun c9 => ?_) (fun c9 => ?_)
        · replace H := H.1 c9
          refine ar_goto (pc := 158) (tgt := 192) (off := 34) (by decide +kernel) (by decide) ?_
          refine ar_forget [true, true, true, true, true, true, true, true, true, true, true, false] rfl ?_
          exact H h0
        · replace H := H.2 c9
          refine ar_iload (pc := 148) (i := 10) (by decide +kernel) rfl ?_
          refine ar_sipush (pc := 150) (z := 256) (by decide +kernel) (by omega) ?_
          refine ar_imul (pc := 153) (x := v10) (y := 256) (by decide +kernel) ?_
          refine ar_iload (pc := 154) (i := 11) (by decide +kernel) rfl ?_
          refine ar_iadd (pc := 156) (x := (am_w32 (v10 * 256))) (y := r7) (by decide +kernel) ?_
          exact ar_iret (pc := 157) (x := (am_w32 ((am_w32 (v10 * 256)) + r7))) (by decide +kernel) rfl rfl H
theorem B_X6_make_192 {d : Nat} {Q : Int → am_H → Prop} {h : am_H} {v2 v3 v4 v7 v8 v10 : Int} (H : wf (d + 1) M_X6_make Q 99 [some (.inr (.inr 1)), none, some (.inl v2), some (.inl v3), some (.inr (.inr v4)), none, none, some (.inl v7), some (.inr (.inl v8)), none, some (.inl (am_w32 (v10 + 1))), none] [] h) : wf (d + 1) M_X6_make Q 192 [some (.inr (.inr 1)), none, some (.inl v2), some (.inl v3), some (.inr (.inr v4)), none, none, some (.inl v7), some (.inr (.inl v8)), none, some (.inl v10), none] [] h := by
  intro h0
  refine ar_iinc (pc := 192) (i := 10) (z := 1) (x := v10) (ls2 := [some (.inr (.inr 1)), none, some (.inl v2), some (.inl v3), some (.inr (.inr v4)), none, none, some (.inl v7), some (.inr (.inl v8)), none, some (.inl (am_w32 (v10 + 1))), none]) (by decide +kernel) rfl (by decide) rfl ?_
  refine ar_goto (pc := 195) (tgt := 99) (off := -96) (by decide +kernel) (by decide) ?_
  exact H h0

/-! ByteIntervals.madeAt(LByteIntervals$Text;III)I -/
theorem B_X6_madeAt_0 {d : Nat} {Q : Int → am_H → Prop} {h : am_H} {a1 v2 v3 v4 : Int} (H : (v4 < 0 → Q (-1) h) ∧ (0 ≤ v4 → (v4 < 40 → wf (d + 1) M_X6_madeAt Q 32 [some (.inr (.inr 1)), some (.inr (.inr a1)), some (.inl v2), some (.inl v3), some (.inl v4), some (.inl (h 199 v4)), some (.inl (-1)), some (.inl 0)] [] h) ∧ (40 ≤ v4 → Q (-1) h))) : wf (d + 1) M_X6_madeAt Q 0 [some (.inr (.inr 1)), some (.inr (.inr a1)), some (.inl v2), some (.inl v3), some (.inl v4), none, none, none] [] h := by
  intro h0
  refine ar_iload (pc := 0) (i := 4) (by decide +kernel) rfl ?_
  refine ar_if_lt (pc := 2) (x := v4) (tgt := 12) (off := 10) (by decide +kernel) (by decide) (fun c1 => ?_) (fun c1 => ?_)
  · replace H := H.1 c1
    refine ar_iconst (pc := 12) (z := (-1)) (by decide +kernel) (by unfold am_i32; omega) ?_
    exact ar_iret (pc := 13) (x := (-1)) (by decide +kernel) rfl rfl H
  · replace H := H.2 c1
    refine ar_iload (pc := 5) (i := 4) (by decide +kernel) rfl ?_
    refine ar_bipush (pc := 7) (z := 40) (by decide +kernel) (by omega) ?_
    refine ar_icmp_lt (pc := 9) (x := v4) (y := 40) (tgt := 14) (off := 5) (by decide +kernel) (by decide) (fun c2 => ?_) (fun c2 => ?_)
    · replace H := H.1 c2
      refine ar_aload_n (pc := 14) (i := 0) (k0 := 0) (by decide +kernel) rfl rfl ?_
      refine ar_getFV (pc := 15) (a := 1) (b := 198) 6 7 (by decide +kernel) k_1 rfl (by decide) wf_RX6_42 rfl (fun _ => rfl) rfl ?_
      refine ar_getFNV (pc := 18) (a := 198) (b := 199) 0 0 (by decide +kernel) k_198 rfl (by decide) wg_RX6_182 rfl (fun _ => rfl) rfl ?_
      refine ar_iload (pc := 21) (i := 4) (by decide +kernel) rfl ?_
      refine ar_iald (pc := 23) (a := 199) (i := v4) (by decide +kernel) k_199 c1 (am_lt_eq c2 (l_199).symm) ?_
      refine ar_istore (pc := 24) (i := 5) (ls2 := [some (.inr (.inr 1)), some (.inr (.inr a1)), some (.inl v2), some (.inl v3), some (.inl v4), some (.inl (h 199 v4)), none, none]) (by decide +kernel) (by decide) rfl ?_
      refine ar_iconst (pc := 26) (z := (-1)) (by decide +kernel) (by unfold am_i32; omega) ?_
      refine ar_istore (pc := 27) (i := 6) (ls2 := [some (.inr (.inr 1)), some (.inr (.inr a1)), some (.inl v2), some (.inl v3), some (.inl v4), some (.inl (h 199 v4)), some (.inl (-1)), none]) (by decide +kernel) (by decide) rfl ?_
      refine ar_iconst (pc := 29) (z := 0) (by decide +kernel) (by unfold am_i32; omega) ?_
      refine ar_istore (pc := 30) (i := 7) (ls2 := [some (.inr (.inr 1)), some (.inr (.inr a1)), some (.inl v2), some (.inl v3), some (.inl v4), some (.inl (h 199 v4)), some (.inl (-1)), some (.inl 0)]) (by decide +kernel) (by decide) rfl ?_
      exact H h0
    · replace H := H.2 c2
      refine ar_iconst (pc := 12) (z := (-1)) (by decide +kernel) (by unfold am_i32; omega) ?_
      exact ar_iret (pc := 13) (x := (-1)) (by decide +kernel) rfl rfl H
theorem B_X6_madeAt_32 {d : Nat} {Q : Int → am_H → Prop} {h : am_H} {a1 v2 v3 v4 v5 v6 v7 : Int} (H : (256 ≤ v7 → wf (d + 1) M_X6_madeAt Q 101 [some (.inr (.inr 1)), none, none, none, some (.inl v4), some (.inl v5), some (.inl v6), none] [] h) ∧ (v7 < 256 → (¬ v6 = (-1) → wf (d + 1) M_X6_madeAt Q 101 [some (.inr (.inr 1)), none, none, none, some (.inl v4), some (.inl v5), some (.inl v6), none] [] h) ∧ (v6 = (-1) → (v7 = v5 → wf (d + 1) M_X6_madeAt Q 95 [some (.inr (.inr 1)), some (.inr (.inr a1)), some (.inl v2), some (.inl v3), some (.inl v4), some (.inl v5), some (.inl v6), some (.inl v7)] [] h) ∧ (¬ v7 = v5 → (0 ≤ v4) ∧ ((v4 < 40) ∧ ((am_kd 321 a1 = 15) ∧ ((0 ≤ v2) ∧ ((v2 < 8) ∧ (cf d M_X2_readValues [.inr (.inr 218), .inr (.inr a1), .inr (.inr 198), .inl ((am_up h 199 v4 v7) (a1 + 12) v2)] (am_up h 199 v4 v7) (fun r9 h10 => (am_kd 321 r9 = 13) ∧ (cf d M_X3_has [.inr (.inr r9), .inl v2, .inl v3] h10 (fun r11 h12 => (r11 = 0 → wf (d + 1) M_X6_madeAt Q 95 [some (.inr (.inr 1)), some (.inr (.inr a1)), some (.inl v2), some (.inl v3), some (.inl v4), some (.inl v5), some (.inl v6), some (.inl v7)] [] h12) ∧ (¬ r11 = 0 → wf (d + 1) M_X6_madeAt Q 95 [some (.inr (.inr 1)), some (.inr (.inr a1)), some (.inl v2), some (.inl v3), some (.inl v4), some (.inl v5), some (.inl v7), some (.inl v7)] [] h12))))))))))))) : wf (d + 1) M_X6_madeAt Q 32 [some (.inr (.inr 1)), some (.inr (.inr a1)), some (.inl v2), some (.inl v3), some (.inl v4), some (.inl v5), some (.inl v6), some (.inl v7)] [] h := by
  intro h0
  refine ar_iload (pc := 32) (i := 7) (by decide +kernel) rfl ?_
  refine ar_sipush (pc := 34) (z := 256) (by decide +kernel) (by omega) ?_
  refine ar_icmp_ge (pc := 37) (x := v7) (y := 256) (tgt := 101) (off := 64) (by decide +kernel) (by decide) (fun c1 => ?_) (fun c1 => ?_)
  · replace H := H.1 c1
    refine ar_forget [true, false, false, false, true, true, true, false] rfl ?_
    exact H h0
  · replace H := H.2 c1
    refine ar_iload (pc := 40) (i := 6) (by decide +kernel) rfl ?_
    refine ar_iconst (pc := 42) (z := (-1)) (by decide +kernel) (by unfold am_i32; omega) ?_
    refine ar_icmp_ne (pc := 43) (x := v6) (y := (-1)) (tgt := 101) (off := 58) (by decide +kernel) (by decide) (fun c2 => ?_) (fun c2 => ?_)
    · replace H := H.1 c2
      refine ar_forget [true, false, false, false, true, true, true, false] rfl ?_
      exact H h0
    · replace H := H.2 c2
      refine ar_iload (pc := 46) (i := 7) (by decide +kernel) rfl ?_
      refine ar_iload (pc := 48) (i := 5) (by decide +kernel) rfl ?_
      refine ar_icmp_eq (pc := 50) (x := v7) (y := v5) (tgt := 95) (off := 45) (by decide +kernel) (by decide) (fun c3 => ?_) (fun c3 => ?_)
      · replace H := H.1 c3
        exact H h0
      · replace H := H.2 c3
        refine ar_aload_n (pc := 53) (i := 0) (k0 := 0) (by decide +kernel) rfl rfl ?_
        refine ar_getFV (pc := 54) (a := 1) (b := 198) 6 7 (by decide +kernel) k_1 rfl (by decide) wf_RX6_42 rfl (fun _ => rfl) rfl ?_
        refine ar_getFNV (pc := 57) (a := 198) (b := 199) 0 0 (by decide +kernel) k_198 rfl (by decide) wg_RX6_182 rfl (fun _ => rfl) rfl ?_
        refine ar_iload (pc := 60) (i := 4) (by decide +kernel) rfl ?_
        refine ar_iload (pc := 62) (i := 7) (by decide +kernel) rfl ?_
        obtain ⟨g4, H⟩ := H
        obtain ⟨g5, H⟩ := H
        refine ar_iast (pc := 64) (a := 199) (i := v4) (z := v7) (by decide +kernel) k_199 g4 (am_lt_eq g5 (l_199).symm) ?_
        refine ar_aload_n (pc := 65) (i := 0) (k0 := 0) (by decide +kernel) rfl rfl ?_
        refine ar_getFV (pc := 66) (a := 1) (b := 218) 6 9 (by decide +kernel) k_1 rfl (by decide) wf_RX6_56 rfl (fun _ => rfl) rfl ?_
        refine ar_aload_n (pc := 69) (i := 1) (k0 := 1) (by decide +kernel) rfl rfl ?_
        refine ar_aload_n (pc := 70) (i := 0) (k0 := 0) (by decide +kernel) rfl rfl ?_
        refine ar_getFV (pc := 71) (a := 1) (b := 198) 6 7 (by decide +kernel) k_1 rfl (by decide) wf_RX6_42 rfl (fun _ => rfl) rfl ?_
        refine ar_aload_n (pc := 74) (i := 1) (k0 := 1) (by decide +kernel) rfl rfl ?_
        obtain ⟨g6, H⟩ := H
        refine ar_getFNV (pc := 75) (a := a1) (b := (a1 + 12)) 5 16 (by decide +kernel) g6 rfl (by decide) wg_RX6_218 rfl (fun _ => rfl) rfl ?_
        refine ar_iload_n (pc := 78) (i := 2) (k0 := 2) (by decide +kernel) rfl rfl ?_
        obtain ⟨g7, H⟩ := H
        obtain ⟨g8, H⟩ := H
        refine ar_iald (pc := 79) (a := (a1 + 12)) (i := v2) (by decide +kernel) (kX5_16 g6).1 g7 (am_lt_eq g8 ((kX5_16 g6).2).symm) ?_
        refine ar_callVN (pc := 80) (M2 := M_X2_readValues) (a := 218) (ci := 2) (as := [.inr (.inr a1), .inr (.inr 198), .inl ((am_up h 199 v4 v7) (a1 + 12) v2)]) (n2 := 321) (st := []) (by decide +kernel) rfl wn_RX6_299 wi_yX2_readValues wl_yX2_readValues k_218 rfl wz_RX2 wc_yX2_readValues ⟨by decide, by decide, rfl⟩ (by decide) (Nat.le_of_ble_eq_true rfl) (Nat.le_refl _) (Nat.le_refl _) (am_Cl_mono H (fun r9 h10 H => ?_))
        show am_Wp true (d + 1) M_X6_madeAt 321 321 h0 Q 83 [some (.inr (.inr 1)), some (.inr (.inr a1)), some (.inl v2), some (.inl v3), some (.inl v4), some (.inl v5), some (.inl v6), some (.inl v7)] [.inr (.inr r9)] 321 h10
        refine ar_iload_n (pc := 83) (i := 2) (k0 := 2) (by decide +kernel) rfl rfl ?_
        refine ar_iload_n (pc := 84) (i := 3) (k0 := 3) (by decide +kernel) rfl rfl ?_
        obtain ⟨g13, H⟩ := H
        refine ar_callVN (pc := 85) (M2 := M_X3_has) (a := r9) (ci := 3) (as := [.inl v2, .inl v3]) (n2 := 321) (st := []) (by decide +kernel) rfl wn_RX6_302 wi_yX3_has wl_yX3_has g13 rfl wz_RX3 wc_yX3_has ⟨by decide, by decide, rfl⟩ (by decide) (Nat.le_of_ble_eq_true rfl) (Nat.le_refl _) (Nat.le_refl _) (am_Cl_mono H (fun r11 h12 H => ?_))
        show am_Wp true (d + 1) M_X6_madeAt 321 321 h0 Q 88 [some (.inr (.inr 1)), some (.inr (.inr a1)), some (.inl v2), some (.inl v3), some (.inl v4), some (.inl v5), some (.inl v6), some (.inl v7)] [.inl r11] 321 h12
        refine ar_if_eq (pc := 88) (x := r11) (tgt := 95) (off := 7) (by decide +kernel) (by decide) (fun c14 => ?_) (fun c14 => ?_)
        · replace H := H.1 c14
          exact H h0
        · replace H := H.2 c14
          refine ar_iload (pc := 91) (i := 7) (by decide +kernel) rfl ?_
          refine ar_istore (pc := 93) (i := 6) (ls2 := [some (.inr (.inr 1)), some (.inr (.inr a1)), some (.inl v2), some (.inl v3), some (.inl v4), some (.inl v5), some (.inl v7), some (.inl v7)]) (by decide +kernel) (by decide) rfl ?_
          exact H h0
theorem B_X6_madeAt_95 {d : Nat} {Q : Int → am_H → Prop} {h : am_H} {a1 v2 v3 v4 v5 v6 v7 : Int} (H : wf (d + 1) M_X6_madeAt Q 32 [some (.inr (.inr 1)), some (.inr (.inr a1)), some (.inl v2), some (.inl v3), some (.inl v4), some (.inl v5), some (.inl v6), some (.inl (am_w32 (v7 + 1)))] [] h) : wf (d + 1) M_X6_madeAt Q 95 [some (.inr (.inr 1)), some (.inr (.inr a1)), some (.inl v2), some (.inl v3), some (.inl v4), some (.inl v5), some (.inl v6), some (.inl v7)] [] h := by
  intro h0
  refine ar_iinc (pc := 95) (i := 7) (z := 1) (x := v7) (ls2 := [some (.inr (.inr 1)), some (.inr (.inr a1)), some (.inl v2), some (.inl v3), some (.inl v4), some (.inl v5), some (.inl v6), some (.inl (am_w32 (v7 + 1)))]) (by decide +kernel) rfl (by decide) rfl ?_
  refine ar_goto (pc := 98) (tgt := 32) (off := -66) (by decide +kernel) (by decide) ?_
  exact H h0
theorem B_X6_madeAt_101 {d : Nat} {Q : Int → am_H → Prop} {h : am_H} {v4 v5 v6 : Int} (H : (0 ≤ v4) ∧ ((v4 < 40) ∧ (Q v6 (am_up h 199 v4 v5)))) : wf (d + 1) M_X6_madeAt Q 101 [some (.inr (.inr 1)), none, none, none, some (.inl v4), some (.inl v5), some (.inl v6), none] [] h := by
  intro h0
  refine ar_aload_n (pc := 101) (i := 0) (k0 := 0) (by decide +kernel) rfl rfl ?_
  refine ar_getFV (pc := 102) (a := 1) (b := 198) 6 7 (by decide +kernel) k_1 rfl (by decide) wf_RX6_42 rfl (fun _ => rfl) rfl ?_
  refine ar_getFNV (pc := 105) (a := 198) (b := 199) 0 0 (by decide +kernel) k_198 rfl (by decide) wg_RX6_182 rfl (fun _ => rfl) rfl ?_
  refine ar_iload (pc := 108) (i := 4) (by decide +kernel) rfl ?_
  refine ar_iload (pc := 110) (i := 5) (by decide +kernel) rfl ?_
  obtain ⟨g1, H⟩ := H
  obtain ⟨g2, H⟩ := H
  refine ar_iast (pc := 112) (a := 199) (i := v4) (z := v5) (by decide +kernel) k_199 g1 (am_lt_eq g2 (l_199).symm) ?_
  refine ar_iload (pc := 113) (i := 6) (by decide +kernel) rfl ?_
  exact ar_iret (pc := 115) (x := v6) (by decide +kernel) rfl rfl H

/-! ByteIntervals.alike(II)I -/
theorem B_X6_alike_0 {d : Nat} {Q : Int → am_H → Prop} {h : am_H} {v1 v2 : Int} (H : cf d M_X6_textAt [.inr (.inr 1), .inl v1] h (fun r1 h2 => cf d M_X6_textAt [.inr (.inr 1), .inl v2] h2 (fun r3 h4 => (0 ≤ r1) ∧ ((r1 = 0 → Q (-1) h4) ∧ (1 ≤ r1 → (0 ≤ r3) ∧ ((1 ≤ r3 → cf d M_X2_readFile [.inr (.inr 218), .inr (.inr r1), .inr (.inr 5), .inl 255] h4 (fun r9 h10 => cf d M_X3_copy [.inr (.inr 235), .inr (.inr r9)] h10 (fun _ h12 => cf d M_X2_readFile [.inr (.inr 218), .inr (.inr r3), .inr (.inr 5), .inl 255] h12 (fun r13 h14 => (am_kd 321 r1 = 15) ∧ ((am_kd 321 r3 = 15) ∧ (cf d M_X3_likeFields [.inr (.inr 235), .inr (.inr r13)] h14 (fun r17 h18 => Q (am_iand (am_iand (h14 r1 6) (h14 r3 6)) r17) h18))))))) ∧ (r3 = 0 → Q (-1) h4))))))) : wf (d + 1) M_X6_alike Q 0 [some (.inr (.inr 1)), some (.inl v1), some (.inl v2), none, none, none] [] h := by
  intro h0
  refine ar_aload_n (pc := 0) (i := 0) (k0 := 0) (by decide +kernel) rfl rfl ?_
  refine ar_iload_n (pc := 1) (i := 1) (k0 := 1) (by decide +kernel) rfl rfl ?_
  refine ar_callV (pc := 2) (M2 := M_X6_textAt) (a := 1) (ci := 6) (as := [.inl v1]) (n2 := 321) (st := []) (by decide +kernel) rfl wm_RX6_78 wi_yX6_textAt wl_yX6_textAt k_1 rfl wz_RX6 wc_yX6_textAt ⟨by decide, by decide, rfl⟩ (by decide) (Nat.le_of_ble_eq_true rfl) (Nat.le_refl _) (Nat.le_refl _) (am_Cl_mono H (fun r1 h2 H => ?_))
  show am_Wp true (d + 1) M_X6_alike 321 321 h0 Q 5 [some (.inr (.inr 1)), some (.inl v1), some (.inl v2), none, none, none] [.inr (.inr r1)] 321 h2
  refine ar_astore_n (pc := 5) (i := 3) (k0 := 3) (ls2 := [some (.inr (.inr 1)), some (.inl v1), some (.inl v2), some (.inr (.inr r1)), none, none]) (by decide +kernel) rfl (by decide) rfl ?_
  refine ar_aload_n (pc := 6) (i := 0) (k0 := 0) (by decide +kernel) rfl rfl ?_
  refine ar_iload_n (pc := 7) (i := 2) (k0 := 2) (by decide +kernel) rfl rfl ?_
  refine ar_callV (pc := 8) (M2 := M_X6_textAt) (a := 1) (ci := 6) (as := [.inl v2]) (n2 := 321) (st := []) (by decide +kernel) rfl wm_RX6_78 wi_yX6_textAt wl_yX6_textAt k_1 rfl wz_RX6 wc_yX6_textAt ⟨by decide, by decide, rfl⟩ (by decide) (Nat.le_of_ble_eq_true rfl) (Nat.le_refl _) (Nat.le_refl _) (am_Cl_mono H (fun r3 h4 H => ?_))
  show am_Wp true (d + 1) M_X6_alike 321 321 h0 Q 11 [some (.inr (.inr 1)), some (.inl v1), some (.inl v2), some (.inr (.inr r1)), none, none] [.inr (.inr r3)] 321 h4
  refine ar_astore (pc := 11) (i := 4) (ls2 := [some (.inr (.inr 1)), some (.inl v1), some (.inl v2), some (.inr (.inr r1)), some (.inr (.inr r3)), none]) (by decide +kernel) (by decide) rfl ?_
  refine ar_aload_n (pc := 13) (i := 3) (k0 := 3) (by decide +kernel) rfl rfl ?_
  obtain ⟨g6, H⟩ := H
  refine ar_ifnull (pc := 14) (x := r1) (tgt := 22) (off := 8) (by decide +kernel) (by decide) g6 (fun c5 => ?_) (fun c5 => ?_)
  · replace H := H.1 c5
    refine ar_iconst (pc := 22) (z := (-1)) (by decide +kernel) (by unfold am_i32; omega) ?_
    exact ar_iret (pc := 23) (x := (-1)) (by decide +kernel) rfl rfl H
  · replace H := H.2 c5
    refine ar_aload (pc := 17) (i := 4) (by decide +kernel) rfl ?_
    obtain ⟨g8, H⟩ := H
    refine ar_ifnonnull (pc := 19) (x := r3) (tgt := 24) (off := 5) (by decide +kernel) (by decide) g8 (fun c7 => ?_) (fun c7 => ?_)
    · replace H := H.1 c7
      refine ar_aload_n (pc := 24) (i := 0) (k0 := 0) (by decide +kernel) rfl rfl ?_
      refine ar_getFV (pc := 25) (a := 1) (b := 218) 6 9 (by decide +kernel) k_1 rfl (by decide) wf_RX6_56 rfl (fun _ => rfl) rfl ?_
      refine ar_getFNV (pc := 28) (a := 218) (b := 235) 2 4 (by decide +kernel) k_218 rfl (by decide) wg_RX6_272 rfl (fun _ => rfl) rfl ?_
      refine ar_aload_n (pc := 31) (i := 0) (k0 := 0) (by decide +kernel) rfl rfl ?_
      refine ar_getFV (pc := 32) (a := 1) (b := 218) 6 9 (by decide +kernel) k_1 rfl (by decide) wf_RX6_56 rfl (fun _ => rfl) rfl ?_
      refine ar_aload_n (pc := 35) (i := 3) (k0 := 3) (by decide +kernel) rfl rfl ?_
      refine ar_aload_n (pc := 36) (i := 0) (k0 := 0) (by decide +kernel) rfl rfl ?_
      refine ar_getFV (pc := 37) (a := 1) (b := 4) 6 5 (by decide +kernel) k_1 rfl (by decide) wf_RX6_32 rfl (fun _ => rfl) rfl ?_
      refine ar_getFNV (pc := 40) (a := 4) (b := 5) 4 0 (by decide +kernel) k_4 rfl (by decide) wg_RX6_82 rfl (fun _ => rfl) rfl ?_
      refine ar_sipush (pc := 43) (z := 255) (by decide +kernel) (by omega) ?_
      refine ar_callVN (pc := 46) (M2 := M_X2_readFile) (a := 218) (ci := 2) (as := [.inr (.inr r1), .inr (.inr 5), .inl 255]) (n2 := 321) (st := [.inr (.inr 235)]) (by decide +kernel) rfl wn_RX6_221 wi_yX2_readFile wl_yX2_readFile k_218 rfl wz_RX2 wc_yX2_readFile ⟨by decide, by decide, rfl⟩ (by decide) (Nat.le_of_ble_eq_true rfl) (Nat.le_refl _) (Nat.le_refl _) (am_Cl_mono H (fun r9 h10 H => ?_))
      show am_Wp true (d + 1) M_X6_alike 321 321 h0 Q 49 [some (.inr (.inr 1)), some (.inl v1), some (.inl v2), some (.inr (.inr r1)), some (.inr (.inr r3)), none] [.inr (.inr r9), .inr (.inr 235)] 321 h10
      refine ar_callVN (pc := 49) (M2 := M_X3_copy) (a := 235) (ci := 3) (as := [.inr (.inr r9)]) (n2 := 321) (st := []) (by decide +kernel) rfl wn_RX6_276 wi_yX3_copy wl_yX3_copy k_235 rfl wz_RX3 wc_yX3_copy ⟨by decide, by decide, rfl⟩ (by decide) (Nat.le_of_ble_eq_true rfl) (Nat.le_refl _) (Nat.le_refl _) (am_Cl_mono H (fun r11 h12 H => ?_))
      show am_Wp true (d + 1) M_X6_alike 321 321 h0 Q 52 [some (.inr (.inr 1)), some (.inl v1), some (.inl v2), some (.inr (.inr r1)), some (.inr (.inr r3)), none] [] 321 h12
      refine ar_aload_n (pc := 52) (i := 0) (k0 := 0) (by decide +kernel) rfl rfl ?_
      refine ar_getFV (pc := 53) (a := 1) (b := 218) 6 9 (by decide +kernel) k_1 rfl (by decide) wf_RX6_56 rfl (fun _ => rfl) rfl ?_
      refine ar_aload (pc := 56) (i := 4) (by decide +kernel) rfl ?_
      refine ar_aload_n (pc := 58) (i := 0) (k0 := 0) (by decide +kernel) rfl rfl ?_
      refine ar_getFV (pc := 59) (a := 1) (b := 4) 6 5 (by decide +kernel) k_1 rfl (by decide) wf_RX6_32 rfl (fun _ => rfl) rfl ?_
      refine ar_getFNV (pc := 62) (a := 4) (b := 5) 4 0 (by decide +kernel) k_4 rfl (by decide) wg_RX6_82 rfl (fun _ => rfl) rfl ?_
      refine ar_sipush (pc := 65) (z := 255) (by decide +kernel) (by omega) ?_
      refine ar_callVN (pc := 68) (M2 := M_X2_readFile) (a := 218) (ci := 2) (as := [.inr (.inr r3), .inr (.inr 5), .inl 255]) (n2 := 321) (st := []) (by decide +kernel) rfl wn_RX6_221 wi_yX2_readFile wl_yX2_readFile k_218 rfl wz_RX2 wc_yX2_readFile ⟨by decide, by decide, rfl⟩ (by decide) (Nat.le_of_ble_eq_true rfl) (Nat.le_refl _) (Nat.le_refl _) (am_Cl_mono H (fun r13 h14 H => ?_))
      show am_Wp true (d + 1) M_X6_alike 321 321 h0 Q 71 [some (.inr (.inr 1)), some (.inl v1), some (.inl v2), some (.inr (.inr r1)), some (.inr (.inr r3)), none] [.inr (.inr r13)] 321 h14
      refine ar_astore (pc := 71) (i := 5) (ls2 := [some (.inr (.inr 1)), some (.inl v1), some (.inl v2), some (.inr (.inr r1)), some (.inr (.inr r3)), some (.inr (.inr r13))]) (by decide +kernel) (by decide) rfl ?_
      refine ar_aload_n (pc := 73) (i := 3) (k0 := 3) (by decide +kernel) rfl rfl ?_
      obtain ⟨g15, H⟩ := H
      refine ar_getNV (pc := 74) (a := r1) (v := .inl (h14 r1 6)) 5 6 (by decide +kernel) g15 rfl (by decide) wg_RX6_279 rfl ?_
      refine ar_aload (pc := 77) (i := 4) (by decide +kernel) rfl ?_
      obtain ⟨g16, H⟩ := H
      refine ar_getNV (pc := 79) (a := r3) (v := .inl (h14 r3 6)) 5 6 (by decide +kernel) g16 rfl (by decide) wg_RX6_279 rfl ?_
      refine ar_iand (pc := 82) (x := (h14 r1 6)) (y := (h14 r3 6)) (by decide +kernel) ?_
      refine ar_aload_n (pc := 83) (i := 0) (k0 := 0) (by decide +kernel) rfl rfl ?_
      refine ar_getFV (pc := 84) (a := 1) (b := 218) 6 9 (by decide +kernel) k_1 rfl (by decide) wf_RX6_56 rfl (fun _ => rfl) rfl ?_
      refine ar_getFNV (pc := 87) (a := 218) (b := 235) 2 4 (by decide +kernel) k_218 rfl (by decide) wg_RX6_272 rfl (fun _ => rfl) rfl ?_
      refine ar_aload (pc := 90) (i := 5) (by decide +kernel) rfl ?_
      refine ar_callVN (pc := 92) (M2 := M_X3_likeFields) (a := 235) (ci := 3) (as := [.inr (.inr r13)]) (n2 := 321) (st := [.inl (am_iand (h14 r1 6) (h14 r3 6))]) (by decide +kernel) rfl wn_RX6_282 wi_yX3_likeFields wl_yX3_likeFields k_235 rfl wz_RX3 wc_yX3_likeFields ⟨by decide, by decide, rfl⟩ (by decide) (Nat.le_of_ble_eq_true rfl) (Nat.le_refl _) (Nat.le_refl _) (am_Cl_mono H (fun r17 h18 H => ?_))
      show am_Wp true (d + 1) M_X6_alike 321 321 h0 Q 95 [some (.inr (.inr 1)), some (.inl v1), some (.inl v2), some (.inr (.inr r1)), some (.inr (.inr r3)), some (.inr (.inr r13))] [.inl r17, .inl (am_iand (h14 r1 6) (h14 r3 6))] 321 h18
      refine ar_iand (pc := 95) (x := (am_iand (h14 r1 6) (h14 r3 6))) (y := r17) (by decide +kernel) ?_
      exact ar_iret (pc := 96) (x := (am_iand (am_iand (h14 r1 6) (h14 r3 6)) r17)) (by decide +kernel) rfl rfl H
    · replace H := H.2 c7
      refine ar_iconst (pc := 22) (z := (-1)) (by decide +kernel) (by unfold am_i32; omega) ?_
      exact ar_iret (pc := 23) (x := (-1)) (by decide +kernel) rfl rfl H

/-! ByteIntervals.must(I)I -/
theorem B_X6_must_0 {d : Nat} {Q : Int → am_H → Prop} {h : am_H} {v1 : Int} (H : cf d M_X6_textAt [.inr (.inr 1), .inl v1] h (fun r1 h2 => (0 ≤ r1) ∧ ((1 ≤ r1 → cf d M_X2_readFile [.inr (.inr 218), .inr (.inr r1), .inr (.inr 5), .inl 255] h2 (fun r5 h6 => (am_kd 321 r5 = 13) ∧ (Q (h6 r5 10) h6))) ∧ (r1 = 0 → Q (-1) h2)))) : wf (d + 1) M_X6_must Q 0 [some (.inr (.inr 1)), some (.inl v1), none] [] h := by
  intro h0
  refine ar_aload_n (pc := 0) (i := 0) (k0 := 0) (by decide +kernel) rfl rfl ?_
  refine ar_iload_n (pc := 1) (i := 1) (k0 := 1) (by decide +kernel) rfl rfl ?_
  refine ar_callV (pc := 2) (M2 := M_X6_textAt) (a := 1) (ci := 6) (as := [.inl v1]) (n2 := 321) (st := []) (by decide +kernel) rfl wm_RX6_78 wi_yX6_textAt wl_yX6_textAt k_1 rfl wz_RX6 wc_yX6_textAt ⟨by decide, by decide, rfl⟩ (by decide) (Nat.le_of_ble_eq_true rfl) (Nat.le_refl _) (Nat.le_refl _) (am_Cl_mono H (fun r1 h2 H => ?_))
  show am_Wp true (d + 1) M_X6_must 321 321 h0 Q 5 [some (.inr (.inr 1)), some (.inl v1), none] [.inr (.inr r1)] 321 h2
  refine ar_astore_n (pc := 5) (i := 2) (k0 := 2) (ls2 := [some (.inr (.inr 1)), some (.inl v1), some (.inr (.inr r1))]) (by decide +kernel) rfl (by decide) rfl ?_
  refine ar_aload_n (pc := 6) (i := 2) (k0 := 2) (by decide +kernel) rfl rfl ?_
  obtain ⟨g4, H⟩ := H
  refine ar_ifnonnull (pc := 7) (x := r1) (tgt := 12) (off := 5) (by decide +kernel) (by decide) g4 (fun c3 => ?_) (fun c3 => ?_)
  · replace H := H.1 c3
    refine ar_aload_n (pc := 12) (i := 0) (k0 := 0) (by decide +kernel) rfl rfl ?_
    refine ar_getFV (pc := 13) (a := 1) (b := 218) 6 9 (by decide +kernel) k_1 rfl (by decide) wf_RX6_56 rfl (fun _ => rfl) rfl ?_
    refine ar_aload_n (pc := 16) (i := 2) (k0 := 2) (by decide +kernel) rfl rfl ?_
    refine ar_aload_n (pc := 17) (i := 0) (k0 := 0) (by decide +kernel) rfl rfl ?_
    refine ar_getFV (pc := 18) (a := 1) (b := 4) 6 5 (by decide +kernel) k_1 rfl (by decide) wf_RX6_32 rfl (fun _ => rfl) rfl ?_
    refine ar_getFNV (pc := 21) (a := 4) (b := 5) 4 0 (by decide +kernel) k_4 rfl (by decide) wg_RX6_82 rfl (fun _ => rfl) rfl ?_
    refine ar_sipush (pc := 24) (z := 255) (by decide +kernel) (by omega) ?_
    refine ar_callVN (pc := 27) (M2 := M_X2_readFile) (a := 218) (ci := 2) (as := [.inr (.inr r1), .inr (.inr 5), .inl 255]) (n2 := 321) (st := []) (by decide +kernel) rfl wn_RX6_221 wi_yX2_readFile wl_yX2_readFile k_218 rfl wz_RX2 wc_yX2_readFile ⟨by decide, by decide, rfl⟩ (by decide) (Nat.le_of_ble_eq_true rfl) (Nat.le_refl _) (Nat.le_refl _) (am_Cl_mono H (fun r5 h6 H => ?_))
    show am_Wp true (d + 1) M_X6_must 321 321 h0 Q 30 [some (.inr (.inr 1)), some (.inl v1), some (.inr (.inr r1))] [.inr (.inr r5)] 321 h6
    obtain ⟨g7, H⟩ := H
    refine ar_getNV (pc := 30) (a := r5) (v := .inl (h6 r5 10)) 3 10 (by decide +kernel) g7 rfl (by decide) wg_RX6_309 rfl ?_
    exact ar_iret (pc := 33) (x := (h6 r5 10)) (by decide +kernel) rfl rfl H
  · replace H := H.2 c3
    refine ar_iconst (pc := 10) (z := (-1)) (by decide +kernel) (by unfold am_i32; omega) ?_
    exact ar_iret (pc := 11) (x := (-1)) (by decide +kernel) rfl rfl H

/-! ByteIntervals.deep(I)I -/
theorem B_X6_deep_0 {d : Nat} {Q : Int → am_H → Prop} {h : am_H} {v1 : Int} (H : cf d M_X6_textAt [.inr (.inr 1), .inl v1] h (fun r1 h2 => (0 ≤ r1) ∧ ((1 ≤ r1 → cf d M_X2_readFile [.inr (.inr 218), .inr (.inr r1), .inr (.inr 5), .inl 255] h2 (fun _ h6 => Q (h6 218 8) h6)) ∧ (r1 = 0 → Q (-1) h2)))) : wf (d + 1) M_X6_deep Q 0 [some (.inr (.inr 1)), some (.inl v1), none] [] h := by
  intro h0
  refine ar_aload_n (pc := 0) (i := 0) (k0 := 0) (by decide +kernel) rfl rfl ?_
  refine ar_iload_n (pc := 1) (i := 1) (k0 := 1) (by decide +kernel) rfl rfl ?_
  refine ar_callV (pc := 2) (M2 := M_X6_textAt) (a := 1) (ci := 6) (as := [.inl v1]) (n2 := 321) (st := []) (by decide +kernel) rfl wm_RX6_78 wi_yX6_textAt wl_yX6_textAt k_1 rfl wz_RX6 wc_yX6_textAt ⟨by decide, by decide, rfl⟩ (by decide) (Nat.le_of_ble_eq_true rfl) (Nat.le_refl _) (Nat.le_refl _) (am_Cl_mono H (fun r1 h2 H => ?_))
  show am_Wp true (d + 1) M_X6_deep 321 321 h0 Q 5 [some (.inr (.inr 1)), some (.inl v1), none] [.inr (.inr r1)] 321 h2
  refine ar_astore_n (pc := 5) (i := 2) (k0 := 2) (ls2 := [some (.inr (.inr 1)), some (.inl v1), some (.inr (.inr r1))]) (by decide +kernel) rfl (by decide) rfl ?_
  refine ar_aload_n (pc := 6) (i := 2) (k0 := 2) (by decide +kernel) rfl rfl ?_
  obtain ⟨g4, H⟩ := H
  refine ar_ifnonnull (pc := 7) (x := r1) (tgt := 12) (off := 5) (by decide +kernel) (by decide) g4 (fun c3 => ?_) (fun c3 => ?_)
  · replace H := H.1 c3
    refine ar_aload_n (pc := 12) (i := 0) (k0 := 0) (by decide +kernel) rfl rfl ?_
    refine ar_getFV (pc := 13) (a := 1) (b := 218) 6 9 (by decide +kernel) k_1 rfl (by decide) wf_RX6_56 rfl (fun _ => rfl) rfl ?_
    refine ar_aload_n (pc := 16) (i := 2) (k0 := 2) (by decide +kernel) rfl rfl ?_
    refine ar_aload_n (pc := 17) (i := 0) (k0 := 0) (by decide +kernel) rfl rfl ?_
    refine ar_getFV (pc := 18) (a := 1) (b := 4) 6 5 (by decide +kernel) k_1 rfl (by decide) wf_RX6_32 rfl (fun _ => rfl) rfl ?_
    refine ar_getFNV (pc := 21) (a := 4) (b := 5) 4 0 (by decide +kernel) k_4 rfl (by decide) wg_RX6_82 rfl (fun _ => rfl) rfl ?_
    refine ar_sipush (pc := 24) (z := 255) (by decide +kernel) (by omega) ?_
    refine ar_callVN (pc := 27) (M2 := M_X2_readFile) (a := 218) (ci := 2) (as := [.inr (.inr r1), .inr (.inr 5), .inl 255]) (n2 := 321) (st := []) (by decide +kernel) rfl wn_RX6_221 wi_yX2_readFile wl_yX2_readFile k_218 rfl wz_RX2 wc_yX2_readFile ⟨by decide, by decide, rfl⟩ (by decide) (Nat.le_of_ble_eq_true rfl) (Nat.le_refl _) (Nat.le_refl _) (am_Cl_mono H (fun r5 h6 H => ?_))
    show am_Wp true (d + 1) M_X6_deep 321 321 h0 Q 30 [some (.inr (.inr 1)), some (.inl v1), some (.inr (.inr r1))] [.inr (.inr r5)] 321 h6
    refine ar_pop (pc := 30) (by decide +kernel) trivial ?_
    refine ar_aload_n (pc := 31) (i := 0) (k0 := 0) (by decide +kernel) rfl rfl ?_
    refine ar_getFV (pc := 32) (a := 1) (b := 218) 6 9 (by decide +kernel) k_1 rfl (by decide) wf_RX6_56 rfl (fun _ => rfl) rfl ?_
    refine ar_getNV (pc := 35) (a := 218) (v := .inl (h6 218 8)) 2 8 (by decide +kernel) k_218 rfl (by decide) wg_RX6_312 rfl ?_
    exact ar_iret (pc := 38) (x := (h6 218 8)) (by decide +kernel) rfl rfl H
  · replace H := H.2 c3
    refine ar_iconst (pc := 10) (z := (-1)) (by decide +kernel) (by unfold am_i32; omega) ?_
    exact ar_iret (pc := 11) (x := (-1)) (by decide +kernel) rfl rfl H

/-! ByteIntervals.kind(II)I -/
theorem B_X6_kind_0 {d : Nat} {Q : Int → am_H → Prop} {h : am_H} {v1 v2 : Int} (H : cf d M_X6_textAt [.inr (.inr 1), .inl v1] h (fun r1 h2 => (0 ≤ r1) ∧ ((r1 = 0 → wf (d + 1) M_X6_kind Q 17 [none, none, none, none] [] h2) ∧ (1 ≤ r1 → cf d M_X6_isField [.inl v2] h2 (fun r5 h6 => (¬ r5 = 0 → (am_kd 321 r1 = 15) ∧ ((0 ≤ v2) ∧ ((v2 < 8) ∧ (Q (h6 (r1 + 5) v2) h6)))) ∧ (r5 = 0 → wf (d + 1) M_X6_kind Q 17 [none, none, none, none] [] h6)))))) : wf (d + 1) M_X6_kind Q 0 [some (.inr (.inr 1)), some (.inl v1), some (.inl v2), none] [] h := by
  intro h0
  refine ar_aload_n (pc := 0) (i := 0) (k0 := 0) (by decide +kernel) rfl rfl ?_
  refine ar_iload_n (pc := 1) (i := 1) (k0 := 1) (by decide +kernel) rfl rfl ?_
  refine ar_callV (pc := 2) (M2 := M_X6_textAt) (a := 1) (ci := 6) (as := [.inl v1]) (n2 := 321) (st := []) (by decide +kernel) rfl wm_RX6_78 wi_yX6_textAt wl_yX6_textAt k_1 rfl wz_RX6 wc_yX6_textAt ⟨by decide, by decide, rfl⟩ (by decide) (Nat.le_of_ble_eq_true rfl) (Nat.le_refl _) (Nat.le_refl _) (am_Cl_mono H (fun r1 h2 H => ?_))
  show am_Wp true (d + 1) M_X6_kind 321 321 h0 Q 5 [some (.inr (.inr 1)), some (.inl v1), some (.inl v2), none] [.inr (.inr r1)] 321 h2
  refine ar_astore_n (pc := 5) (i := 3) (k0 := 3) (ls2 := [some (.inr (.inr 1)), some (.inl v1), some (.inl v2), some (.inr (.inr r1))]) (by decide +kernel) rfl (by decide) rfl ?_
  refine ar_aload_n (pc := 6) (i := 3) (k0 := 3) (by decide +kernel) rfl rfl ?_
  obtain ⟨g4, H⟩ := H
  refine ar_ifnull (pc := 7) (x := r1) (tgt := 17) (off := 10) (by decide +kernel) (by decide) g4 (fun c3 => ?_) (fun c3 => ?_)
  · replace H := H.1 c3
    refine ar_forget [false, false, false, false] rfl ?_
    exact H h0
  · replace H := H.2 c3
    refine ar_iload_n (pc := 10) (i := 2) (k0 := 2) (by decide +kernel) rfl rfl ?_
    refine ar_callS (pc := 11) (M2 := M_X6_isField) (as := [.inl v2]) (n2 := 321) (st := []) (by decide +kernel) rfl wm_RX6_215 ws_yX6_isField wz_RX6 wc_yX6_isField ⟨by decide, by decide, rfl⟩ (by decide) (Nat.le_of_ble_eq_true rfl) (Nat.le_refl _) (Nat.le_refl _) (am_Cl_mono H (fun r5 h6 H => ?_))
    show am_Wp true (d + 1) M_X6_kind 321 321 h0 Q 14 [some (.inr (.inr 1)), some (.inl v1), some (.inl v2), some (.inr (.inr r1))] [.inl r5] 321 h6
    refine ar_if_ne (pc := 14) (x := r5) (tgt := 21) (off := 7) (by decide +kernel) (by decide) (fun c7 => ?_) (fun c7 => ?_)
    · replace H := H.1 c7
      refine ar_aload_n (pc := 21) (i := 3) (k0 := 3) (by decide +kernel) rfl rfl ?_
      obtain ⟨g8, H⟩ := H
      refine ar_getFNV (pc := 22) (a := r1) (b := (r1 + 5)) 5 7 (by decide +kernel) g8 rfl (by decide) wg_RX6_228 rfl (fun _ => rfl) rfl ?_
      refine ar_iload_n (pc := 25) (i := 2) (k0 := 2) (by decide +kernel) rfl rfl ?_
      obtain ⟨g9, H⟩ := H
      obtain ⟨g10, H⟩ := H
      refine ar_iald (pc := 26) (a := (r1 + 5)) (i := v2) (by decide +kernel) (kX5_7 g8).1 g9 (am_lt_eq g10 ((kX5_7 g8).2).symm) ?_
      exact ar_iret (pc := 27) (x := (h6 (r1 + 5) v2)) (by decide +kernel) rfl rfl H
    · replace H := H.2 c7
      refine ar_forget [false, false, false, false] rfl ?_
      exact H h0
theorem B_X6_kind_17 {d : Nat} {Q : Int → am_H → Prop} {h : am_H} (H : Q (-1) h) : wf (d + 1) M_X6_kind Q 17 [none, none, none, none] [] h := by
  intro h0
  refine ar_iconst (pc := 17) (z := (-1)) (by decide +kernel) (by unfold am_i32; omega) ?_
  refine ar_goto (pc := 18) (tgt := 27) (off := 9) (by decide +kernel) (by decide) ?_
  exact ar_iret (pc := 27) (x := (-1)) (by decide +kernel) rfl rfl H

/-! ByteIntervals.said(II)I -/
theorem B_X6_said_0 {d : Nat} {Q : Int → am_H → Prop} {h : am_H} {v1 v2 : Int} (H : (¬ v1 = (-1) → cf d M_X6_isField [.inl v1] h (fun r2 h3 => (r2 = 0 → Q (-2) h3) ∧ (¬ r2 = 0 → (v2 < 0 → Q (-2) h3) ∧ (0 ≤ v2 → (16777215 < v2 → Q (-2) h3) ∧ (v2 ≤ 16777215 → ((h 4 8) < 0 → Q (-2) h3) ∧ (0 ≤ (h 4 8) → ((h 4 8) < 8 → Q (am_w32 ((h 4 8) + 1)) (am_up (am_up (am_up h3 9 (h 4 8) v1) 10 (h 4 8) v2) 4 8 (am_w32 ((h 4 8) + 1)))) ∧ (8 ≤ (h 4 8) → Q (-2) h3))))))) ∧ (v1 = (-1) → Q 0 (am_up h 4 8 0))) : wf (d + 1) M_X6_said Q 0 [some (.inr (.inr 1)), some (.inl v1), some (.inl v2), none] [] h := by
  intro h0
  refine ar_iload_n (pc := 0) (i := 1) (k0 := 1) (by decide +kernel) rfl rfl ?_
  refine ar_iconst (pc := 1) (z := (-1)) (by decide +kernel) (by unfold am_i32; omega) ?_
  refine ar_icmp_ne (pc := 2) (x := v1) (y := (-1)) (tgt := 15) (off := 13) (by decide +kernel) (by decide) (fun c1 => ?_) (fun c1 => ?_)
  · replace H := H.1 c1
    refine ar_aload_n (pc := 15) (i := 0) (k0 := 0) (by decide +kernel) rfl rfl ?_
    refine ar_getFV (pc := 16) (a := 1) (b := 4) 6 5 (by decide +kernel) k_1 rfl (by decide) wf_RX6_32 rfl (fun _ => rfl) rfl ?_
    refine ar_getNV (pc := 19) (a := 4) (v := .inl (h 4 8)) 4 8 (by decide +kernel) k_4 rfl (by decide) wg_RX6_315 rfl ?_
    refine ar_istore_n (pc := 22) (i := 3) (k0 := 3) (ls2 := [some (.inr (.inr 1)), some (.inl v1), some (.inl v2), some (.inl (h 4 8))]) (by decide +kernel) rfl (by decide) rfl ?_
    refine ar_iload_n (pc := 23) (i := 1) (k0 := 1) (by decide +kernel) rfl rfl ?_
    refine ar_callS (pc := 24) (M2 := M_X6_isField) (as := [.inl v1]) (n2 := 321) (st := []) (by decide +kernel) rfl wm_RX6_215 ws_yX6_isField wz_RX6 wc_yX6_isField ⟨by decide, by decide, rfl⟩ (by decide) (Nat.le_of_ble_eq_true rfl) (Nat.le_refl _) (Nat.le_refl _) (am_Cl_mono H (fun r2 h3 H => ?_))
    show am_Wp true (d + 1) M_X6_said 321 321 h0 Q 27 [some (.inr (.inr 1)), some (.inl v1), some (.inl v2), some (.inl (h 4 8))] [.inl r2] 321 h3
    refine ar_if_eq (pc := 27) (x := r2) (tgt := 51) (off := 24) (by decide +kernel) (by decide) (fun c4 => ?_) (fun c4 => ?_)
    · replace H := H.1 c4
      refine ar_bipush (pc := 51) (z := (-2)) (by decide +kernel) (by omega) ?_
      exact ar_iret (pc := 53) (x := (-2)) (by decide +kernel) rfl rfl H
    · replace H := H.2 c4
      refine ar_iload_n (pc := 30) (i := 2) (k0 := 2) (by decide +kernel) rfl rfl ?_
      refine ar_if_lt (pc := 31) (x := v2) (tgt := 51) (off := 20) (by decide +kernel) (by decide) (fun c5 => ?_) (fun c5 => ?_)
      · replace H := H.1 c5
        refine ar_bipush (pc := 51) (z := (-2)) (by decide +kernel) (by omega) ?_
        exact ar_iret (pc := 53) (x := (-2)) (by decide +kernel) rfl rfl H
      · replace H := H.2 c5
        refine ar_iload_n (pc := 34) (i := 2) (k0 := 2) (by decide +kernel) rfl rfl ?_
        refine ar_ldcw (pc := 35) (z := 16777215) (by decide +kernel) wk_RX6_318 (by unfold am_i32; omega) ?_
        refine ar_icmp_gt (pc := 38) (x := v2) (y := 16777215) (tgt := 51) (off := 13) (by decide +kernel) (by decide) (fun c6 => ?_) (fun c6 => ?_)
        · replace H := H.1 c6
          refine ar_bipush (pc := 51) (z := (-2)) (by decide +kernel) (by omega) ?_
          exact ar_iret (pc := 53) (x := (-2)) (by decide +kernel) rfl rfl H
        · replace H := H.2 c6
          refine ar_iload_n (pc := 41) (i := 3) (k0 := 3) (by decide +kernel) rfl rfl ?_
          refine ar_if_lt (pc := 42) (x := (h 4 8)) (tgt := 51) (off := 9) (by decide +kernel) (by decide) (fun c7 => ?_) (fun c7 => ?_)
          · replace H := H.1 c7
            refine ar_bipush (pc := 51) (z := (-2)) (by decide +kernel) (by omega) ?_
            exact ar_iret (pc := 53) (x := (-2)) (by decide +kernel) rfl rfl H
          · replace H := H.2 c7
            refine ar_iload_n (pc := 45) (i := 3) (k0 := 3) (by decide +kernel) rfl rfl ?_
            refine ar_bipush (pc := 46) (z := 8) (by decide +kernel) (by omega) ?_
            refine ar_icmp_lt (pc := 48) (x := (h 4 8)) (y := 8) (tgt := 54) (off := 6) (by decide +kernel) (by decide) (fun c8 => ?_) (fun c8 => ?_)
            · replace H := H.1 c8
              refine ar_aload_n (pc := 54) (i := 0) (k0 := 0) (by decide +kernel) rfl rfl ?_
              refine ar_getFV (pc := 55) (a := 1) (b := 4) 6 5 (by decide +kernel) k_1 rfl (by decide) wf_RX6_32 rfl (fun _ => rfl) rfl ?_
              refine ar_getFNV (pc := 58) (a := 4) (b := 9) 4 6 (by decide +kernel) k_4 rfl (by decide) wg_RX6_319 rfl (fun _ => rfl) rfl ?_
              refine ar_iload_n (pc := 61) (i := 3) (k0 := 3) (by decide +kernel) rfl rfl ?_
              refine ar_iload_n (pc := 62) (i := 1) (k0 := 1) (by decide +kernel) rfl rfl ?_
              refine ar_iast (pc := 63) (a := 9) (i := (h 4 8)) (z := v1) (by decide +kernel) k_9 c7 (am_lt_eq c8 (l_9).symm) ?_
              refine ar_aload_n (pc := 64) (i := 0) (k0 := 0) (by decide +kernel) rfl rfl ?_
              refine ar_getFV (pc := 65) (a := 1) (b := 4) 6 5 (by decide +kernel) k_1 rfl (by decide) wf_RX6_32 rfl (fun _ => rfl) rfl ?_
              refine ar_getFNV (pc := 68) (a := 4) (b := 10) 4 7 (by decide +kernel) k_4 rfl (by decide) wg_RX6_322 rfl (fun _ => rfl) rfl ?_
              refine ar_iload_n (pc := 71) (i := 3) (k0 := 3) (by decide +kernel) rfl rfl ?_
              refine ar_iload_n (pc := 72) (i := 2) (k0 := 2) (by decide +kernel) rfl rfl ?_
              refine ar_iast (pc := 73) (a := 10) (i := (h 4 8)) (z := v2) (by decide +kernel) k_10 c7 (am_lt_eq c8 (l_10).symm) ?_
              refine ar_aload_n (pc := 74) (i := 0) (k0 := 0) (by decide +kernel) rfl rfl ?_
              refine ar_getFV (pc := 75) (a := 1) (b := 4) 6 5 (by decide +kernel) k_1 rfl (by decide) wf_RX6_32 rfl (fun _ => rfl) rfl ?_
              refine ar_iload_n (pc := 78) (i := 3) (k0 := 3) (by decide +kernel) rfl rfl ?_
              refine ar_iconst (pc := 79) (z := 1) (by decide +kernel) (by unfold am_i32; omega) ?_
              refine ar_iadd (pc := 80) (x := (h 4 8)) (y := 1) (by decide +kernel) ?_
              refine ar_putIN (pc := 81) (a := 4) (z := (am_w32 ((h 4 8) + 1))) 4 8 (by decide +kernel) k_4 rfl (by decide) rfl (fun _ => rfl) rfl wg_RX6_315 ?_
              refine ar_iload_n (pc := 84) (i := 3) (k0 := 3) (by decide +kernel) rfl rfl ?_
              refine ar_iconst (pc := 85) (z := 1) (by decide +kernel) (by unfold am_i32; omega) ?_
              refine ar_iadd (pc := 86) (x := (h 4 8)) (y := 1) (by decide +kernel) ?_
              exact ar_iret (pc := 87) (x := (am_w32 ((h 4 8) + 1))) (by decide +kernel) rfl rfl H
            · replace H := H.2 c8
              refine ar_bipush (pc := 51) (z := (-2)) (by decide +kernel) (by omega) ?_
              exact ar_iret (pc := 53) (x := (-2)) (by decide +kernel) rfl rfl H
  · replace H := H.2 c1
    refine ar_aload_n (pc := 5) (i := 0) (k0 := 0) (by decide +kernel) rfl rfl ?_
    refine ar_getFV (pc := 6) (a := 1) (b := 4) 6 5 (by decide +kernel) k_1 rfl (by decide) wf_RX6_32 rfl (fun _ => rfl) rfl ?_
    refine ar_iconst (pc := 9) (z := 0) (by decide +kernel) (by unfold am_i32; omega) ?_
    refine ar_putIN (pc := 10) (a := 4) (z := 0) 4 8 (by decide +kernel) k_4 rfl (by decide) rfl (fun _ => rfl) rfl wg_RX6_315 ?_
    refine ar_iconst (pc := 13) (z := 0) (by decide +kernel) (by unfold am_i32; omega) ?_
    exact ar_iret (pc := 14) (x := 0) (by decide +kernel) rfl rfl H

/-! ByteIntervals.whose()I -/
theorem B_X6_whose_0 {d : Nat} {Q : Int → am_H → Prop} {h : am_H} (H : wf (d + 1) M_X6_whose Q 4 [some (.inr (.inr 1)), some (.inl 0), some (.inl 0)] [] h) : wf (d + 1) M_X6_whose Q 0 [some (.inr (.inr 1)), none, none] [] h := by
  intro h0
  refine ar_iconst (pc := 0) (z := 0) (by decide +kernel) (by unfold am_i32; omega) ?_
  refine ar_istore_n (pc := 1) (i := 1) (k0 := 1) (ls2 := [some (.inr (.inr 1)), some (.inl 0), none]) (by decide +kernel) rfl (by decide) rfl ?_
  refine ar_iconst (pc := 2) (z := 0) (by decide +kernel) (by unfold am_i32; omega) ?_
  refine ar_istore_n (pc := 3) (i := 2) (k0 := 2) (ls2 := [some (.inr (.inr 1)), some (.inl 0), some (.inl 0)]) (by decide +kernel) rfl (by decide) rfl ?_
  exact H h0
theorem B_X6_whose_4 {d : Nat} {Q : Int → am_H → Prop} {h : am_H} {v1 v2 : Int} (H : ((h 4 4) ≤ v2 → Q v1 h) ∧ (v2 < (h 4 4) → (4 ≤ v2 → Q v1 h) ∧ (v2 < 4 → (0 ≤ v2) ∧ (cf d M_X6_allSaidIsSo [.inr (.inr 1), .inr (.inr (3 + 239 + 13 * v2))] h (fun r4 h5 => (r4 = 0 → wf (d + 1) M_X6_whose Q 43 [some (.inr (.inr 1)), some (.inl v1), some (.inl v2)] [] h5) ∧ (¬ r4 = 0 → wf (d + 1) M_X6_whose Q 43 [some (.inr (.inr 1)), some (.inl (am_ior v1 (am_ishl 1 v2))), some (.inl v2)] [] h5)))))) : wf (d + 1) M_X6_whose Q 4 [some (.inr (.inr 1)), some (.inl v1), some (.inl v2)] [] h := by
  intro h0
  refine ar_iload_n (pc := 4) (i := 2) (k0 := 2) (by decide +kernel) rfl rfl ?_
  refine ar_aload_n (pc := 5) (i := 0) (k0 := 0) (by decide +kernel) rfl rfl ?_
  refine ar_getFV (pc := 6) (a := 1) (b := 4) 6 5 (by decide +kernel) k_1 rfl (by decide) wf_RX6_32 rfl (fun _ => rfl) rfl ?_
  refine ar_getNV (pc := 9) (a := 4) (v := .inl (h 4 4)) 4 4 (by decide +kernel) k_4 rfl (by decide) wg_RX6_65 rfl ?_
  refine ar_icmp_ge (pc := 12) (x := v2) (y := (h 4 4)) (tgt := 49) (off := 37) (by decide +kernel) (by decide) (fun c1 => ?_) (fun c1 => ?_)
  · replace H := H.1 c1
    refine ar_iload_n (pc := 49) (i := 1) (k0 := 1) (by decide +kernel) rfl rfl ?_
    exact ar_iret (pc := 50) (x := v1) (by decide +kernel) rfl rfl H
  · replace H := H.2 c1
    refine ar_iload_n (pc := 15) (i := 2) (k0 := 2) (by decide +kernel) rfl rfl ?_
    refine ar_aload_n (pc := 16) (i := 0) (k0 := 0) (by decide +kernel) rfl rfl ?_
    refine ar_getFV (pc := 17) (a := 1) (b := 3) 6 4 (by decide +kernel) k_1 rfl (by decide) wf_RX6_25 rfl (fun _ => rfl) rfl ?_
    refine ar_alen (pc := 20) (a := 3) (by decide +kernel) (by rw [k_3]; decide) ?_
    rw [l_3]
    refine ar_icmp_ge (pc := 21) (x := v2) (y := 4) (tgt := 49) (off := 28) (by decide +kernel) (by decide) (fun c2 => ?_) (fun c2 => ?_)
    · replace H := H.1 c2
      refine ar_iload_n (pc := 49) (i := 1) (k0 := 1) (by decide +kernel) rfl rfl ?_
      exact ar_iret (pc := 50) (x := v1) (by decide +kernel) rfl rfl H
    · replace H := H.2 c2
      refine ar_aload_n (pc := 24) (i := 0) (k0 := 0) (by decide +kernel) rfl rfl ?_
      refine ar_aload_n (pc := 25) (i := 0) (k0 := 0) (by decide +kernel) rfl rfl ?_
      refine ar_getFV (pc := 26) (a := 1) (b := 3) 6 4 (by decide +kernel) k_1 rfl (by decide) wf_RX6_25 rfl (fun _ => rfl) rfl ?_
      refine ar_iload_n (pc := 29) (i := 2) (k0 := 2) (by decide +kernel) rfl rfl ?_
      obtain ⟨g3, H⟩ := H
      refine ar_aaldT (pc := 30) (a := 3) (i := v2) (by decide +kernel) k_3 g3 (am_lt_eq c2 (l_3).symm) ?_
      refine ar_callV (pc := 31) (M2 := M_X6_allSaidIsSo) (a := 1) (ci := 6) (as := [.inr (.inr (3 + 239 + 13 * v2))]) (n2 := 321) (st := []) (by decide +kernel) rfl wm_RX6_325 wi_yX6_allSaidIsSo wl_yX6_allSaidIsSo k_1 rfl wz_RX6 wc_yX6_allSaidIsSo ⟨by decide, by decide, rfl⟩ (by decide) (Nat.le_of_ble_eq_true rfl) (Nat.le_refl _) (Nat.le_refl _) (am_Cl_mono H (fun r4 h5 H => ?_))
      show am_Wp true (d + 1) M_X6_whose 321 321 h0 Q 34 [some (.inr (.inr 1)), some (.inl v1), some (.inl v2)] [.inl r4] 321 h5
      refine ar_if_eq (pc := 34) (x := r4) (tgt := 43) (off := 9) (by decide +kernel) (by decide) (fun c6 => ?_) (fun c6 => ?_)
      · replace H := H.1 c6
        exact H h0
      · replace H := H.2 c6
        refine ar_iload_n (pc := 37) (i := 1) (k0 := 1) (by decide +kernel) rfl rfl ?_
        refine ar_iconst (pc := 38) (z := 1) (by decide +kernel) (by unfold am_i32; omega) ?_
        refine ar_iload_n (pc := 39) (i := 2) (k0 := 2) (by decide +kernel) rfl rfl ?_
        refine ar_ishl (pc := 40) (x := 1) (y := v2) (by decide +kernel) ?_
        refine ar_ior (pc := 41) (x := v1) (y := (am_ishl 1 v2)) (by decide +kernel) ?_
        refine ar_istore_n (pc := 42) (i := 1) (k0 := 1) (ls2 := [some (.inr (.inr 1)), some (.inl (am_ior v1 (am_ishl 1 v2))), some (.inl v2)]) (by decide +kernel) rfl (by decide) rfl ?_
        exact H h0
theorem B_X6_whose_43 {d : Nat} {Q : Int → am_H → Prop} {h : am_H} {v1 v2 : Int} (H : wf (d + 1) M_X6_whose Q 4 [some (.inr (.inr 1)), some (.inl v1), some (.inl (am_w32 (v2 + 1)))] [] h) : wf (d + 1) M_X6_whose Q 43 [some (.inr (.inr 1)), some (.inl v1), some (.inl v2)] [] h := by
  intro h0
  refine ar_iinc (pc := 43) (i := 2) (z := 1) (x := v2) (ls2 := [some (.inr (.inr 1)), some (.inl v1), some (.inl (am_w32 (v2 + 1)))]) (by decide +kernel) rfl (by decide) rfl ?_
  refine ar_goto (pc := 46) (tgt := 4) (off := -42) (by decide +kernel) (by decide) ?_
  exact H h0

/-! ByteIntervals.allSaidIsSo(LByteIntervals$Text;)Z -/
theorem B_X6_allSaidIsSo_0 {d : Nat} {Q : Int → am_H → Prop} {h : am_H} {a1 : Int} (H : (0 ≤ a1) ∧ ((1 ≤ a1 → cf d M_X2_readFile [.inr (.inr 218), .inr (.inr a1), .inr (.inr 5), .inl 255] h (fun r3 h4 => wf (d + 1) M_X6_allSaidIsSo Q 27 [some (.inr (.inr 1)), none, some (.inr (.inr r3)), some (.inl 0)] [] h4)) ∧ (a1 = 0 → Q 0 h))) : wf (d + 1) M_X6_allSaidIsSo Q 0 [some (.inr (.inr 1)), some (.inr (.inr a1)), none, none] [] h := by
  intro h0
  refine ar_aload_n (pc := 0) (i := 1) (k0 := 1) (by decide +kernel) rfl rfl ?_
  obtain ⟨g2, H⟩ := H
  refine ar_ifnonnull (pc := 1) (x := a1) (tgt := 6) (off := 5) (by decide +kernel) (by decide) g2 (fun c1 => ?_) (fun c1 => ?_)
  · replace H := H.1 c1
    refine ar_aload_n (pc := 6) (i := 0) (k0 := 0) (by decide +kernel) rfl rfl ?_
    refine ar_getFV (pc := 7) (a := 1) (b := 218) 6 9 (by decide +kernel) k_1 rfl (by decide) wf_RX6_56 rfl (fun _ => rfl) rfl ?_
    refine ar_aload_n (pc := 10) (i := 1) (k0 := 1) (by decide +kernel) rfl rfl ?_
    refine ar_aload_n (pc := 11) (i := 0) (k0 := 0) (by decide +kernel) rfl rfl ?_
    refine ar_getFV (pc := 12) (a := 1) (b := 4) 6 5 (by decide +kernel) k_1 rfl (by decide) wf_RX6_32 rfl (fun _ => rfl) rfl ?_
    refine ar_getFNV (pc := 15) (a := 4) (b := 5) 4 0 (by decide +kernel) k_4 rfl (by decide) wg_RX6_82 rfl (fun _ => rfl) rfl ?_
    refine ar_sipush (pc := 18) (z := 255) (by decide +kernel) (by omega) ?_
    refine ar_callVN (pc := 21) (M2 := M_X2_readFile) (a := 218) (ci := 2) (as := [.inr (.inr a1), .inr (.inr 5), .inl 255]) (n2 := 321) (st := []) (by decide +kernel) rfl wn_RX6_221 wi_yX2_readFile wl_yX2_readFile k_218 rfl wz_RX2 wc_yX2_readFile ⟨by decide, by decide, rfl⟩ (by decide) (Nat.le_of_ble_eq_true rfl) (Nat.le_refl _) (Nat.le_refl _) (am_Cl_mono H (fun r3 h4 H => ?_))
    show am_Wp true (d + 1) M_X6_allSaidIsSo 321 321 h0 Q 24 [some (.inr (.inr 1)), some (.inr (.inr a1)), none, none] [.inr (.inr r3)] 321 h4
    refine ar_astore_n (pc := 24) (i := 2) (k0 := 2) (ls2 := [some (.inr (.inr 1)), some (.inr (.inr a1)), some (.inr (.inr r3)), none]) (by decide +kernel) rfl (by decide) rfl ?_
    refine ar_iconst (pc := 25) (z := 0) (by decide +kernel) (by unfold am_i32; omega) ?_
    refine ar_istore_n (pc := 26) (i := 3) (k0 := 3) (ls2 := [some (.inr (.inr 1)), some (.inr (.inr a1)), some (.inr (.inr r3)), some (.inl 0)]) (by decide +kernel) rfl (by decide) rfl ?_
    refine ar_forget [true, false, true, true] rfl ?_
    exact H h0
  · replace H := H.2 c1
    refine ar_iconst (pc := 4) (z := 0) (by decide +kernel) (by unfold am_i32; omega) ?_
    exact ar_zret (pc := 5) (x := 0) (by decide +kernel) rfl rfl (by decide) H
theorem B_X6_allSaidIsSo_27 {d : Nat} {Q : Int → am_H → Prop} {h : am_H} {v2 v3 : Int} (H : ((h 4 8) ≤ v3 → Q 1 h) ∧ (v3 < (h 4 8) → (8 ≤ v3 → Q 1 h) ∧ (v3 < 8 → (0 ≤ v3) ∧ ((am_kd 321 v2 = 13) ∧ (cf d M_X3_has [.inr (.inr v2), .inl (h 9 v3), .inl (h 10 v3)] h (fun r4 h5 => (¬ r4 = 0 → wf (d + 1) M_X6_allSaidIsSo Q 27 [some (.inr (.inr 1)), none, some (.inr (.inr v2)), some (.inl (am_w32 (v3 + 1)))] [] h5) ∧ (r4 = 0 → Q 0 h5))))))) : wf (d + 1) M_X6_allSaidIsSo Q 27 [some (.inr (.inr 1)), none, some (.inr (.inr v2)), some (.inl v3)] [] h := by
  intro h0
  refine ar_iload_n (pc := 27) (i := 3) (k0 := 3) (by decide +kernel) rfl rfl ?_
  refine ar_aload_n (pc := 28) (i := 0) (k0 := 0) (by decide +kernel) rfl rfl ?_
  refine ar_getFV (pc := 29) (a := 1) (b := 4) 6 5 (by decide +kernel) k_1 rfl (by decide) wf_RX6_32 rfl (fun _ => rfl) rfl ?_
  refine ar_getNV (pc := 32) (a := 4) (v := .inl (h 4 8)) 4 8 (by decide +kernel) k_4 rfl (by decide) wg_RX6_315 rfl ?_
  refine ar_icmp_ge (pc := 35) (x := v3) (y := (h 4 8)) (tgt := 77) (off := 42) (by decide +kernel) (by decide) (fun c1 => ?_) (fun c1 => ?_)
  · replace H := H.1 c1
    refine ar_iconst (pc := 77) (z := 1) (by decide +kernel) (by unfold am_i32; omega) ?_
    exact ar_zret (pc := 78) (x := 1) (by decide +kernel) rfl rfl (by decide) H
  · replace H := H.2 c1
    refine ar_iload_n (pc := 38) (i := 3) (k0 := 3) (by decide +kernel) rfl rfl ?_
    refine ar_bipush (pc := 39) (z := 8) (by decide +kernel) (by omega) ?_
    refine ar_icmp_ge (pc := 41) (x := v3) (y := 8) (tgt := 77) (off := 36) (by decide +kernel) (by decide) (fun c2 => ?_) (fun c2 => ?_)
    · replace H := H.1 c2
      refine ar_iconst (pc := 77) (z := 1) (by decide +kernel) (by unfold am_i32; omega) ?_
      exact ar_zret (pc := 78) (x := 1) (by decide +kernel) rfl rfl (by decide) H
    · replace H := H.2 c2
      refine ar_aload_n (pc := 44) (i := 2) (k0 := 2) (by decide +kernel) rfl rfl ?_
      refine ar_aload_n (pc := 45) (i := 0) (k0 := 0) (by decide +kernel) rfl rfl ?_
      refine ar_getFV (pc := 46) (a := 1) (b := 4) 6 5 (by decide +kernel) k_1 rfl (by decide) wf_RX6_32 rfl (fun _ => rfl) rfl ?_
      refine ar_getFNV (pc := 49) (a := 4) (b := 9) 4 6 (by decide +kernel) k_4 rfl (by decide) wg_RX6_319 rfl (fun _ => rfl) rfl ?_
      refine ar_iload_n (pc := 52) (i := 3) (k0 := 3) (by decide +kernel) rfl rfl ?_
      obtain ⟨g3, H⟩ := H
      refine ar_iald (pc := 53) (a := 9) (i := v3) (by decide +kernel) k_9 g3 (am_lt_eq c2 (l_9).symm) ?_
      refine ar_aload_n (pc := 54) (i := 0) (k0 := 0) (by decide +kernel) rfl rfl ?_
      refine ar_getFV (pc := 55) (a := 1) (b := 4) 6 5 (by decide +kernel) k_1 rfl (by decide) wf_RX6_32 rfl (fun _ => rfl) rfl ?_
      refine ar_getFNV (pc := 58) (a := 4) (b := 10) 4 7 (by decide +kernel) k_4 rfl (by decide) wg_RX6_322 rfl (fun _ => rfl) rfl ?_
      refine ar_iload_n (pc := 61) (i := 3) (k0 := 3) (by decide +kernel) rfl rfl ?_
      refine ar_iald (pc := 62) (a := 10) (i := v3) (by decide +kernel) k_10 g3 (am_lt_eq c2 (l_10).symm) ?_
      obtain ⟨g6, H⟩ := H
      refine ar_callVN (pc := 63) (M2 := M_X3_has) (a := v2) (ci := 3) (as := [.inl (h 9 v3), .inl (h 10 v3)]) (n2 := 321) (st := []) (by decide +kernel) rfl wn_RX6_302 wi_yX3_has wl_yX3_has g6 rfl wz_RX3 wc_yX3_has ⟨by decide, by decide, rfl⟩ (by decide) (Nat.le_of_ble_eq_true rfl) (Nat.le_refl _) (Nat.le_refl _) (am_Cl_mono H (fun r4 h5 H => ?_))
      show am_Wp true (d + 1) M_X6_allSaidIsSo 321 321 h0 Q 66 [some (.inr (.inr 1)), none, some (.inr (.inr v2)), some (.inl v3)] [.inl r4] 321 h5
      refine ar_if_ne (pc := 66) (x := r4) (tgt := 71) (off := 5) (by decide +kernel) (by decide) (fun c7 => ?_) (fun c7 => ?_)
      · replace H := H.1 c7
        refine ar_iinc (pc := 71) (i := 3) (z := 1) (x := v3) (ls2 := [some (.inr (.inr 1)), none, some (.inr (.inr v2)), some (.inl (am_w32 (v3 + 1)))]) (by decide +kernel) rfl (by decide) rfl ?_
        refine ar_goto (pc := 74) (tgt := 27) (off := -47) (by decide +kernel) (by decide) ?_
        exact H h0
      · replace H := H.2 c7
        refine ar_iconst (pc := 69) (z := 0) (by decide +kernel) (by unfold am_i32; omega) ?_
        exact ar_zret (pc := 70) (x := 0) (by decide +kernel) rfl rfl (by decide) H

/-! ByteIntervals.image()I -/
theorem B_X6_image_0 {d : Nat} {Q : Int → am_H → Prop} {h : am_H} (H : cf d M_X4_copy [.inr (.inr 101), .inr (.inr 4)] h (fun _ h2 => Q (h2 5 4) h2)) : wf (d + 1) M_X6_image Q 0 [some (.inr (.inr 1))] [] h := by
  intro h0
  refine ar_aload_n (pc := 0) (i := 0) (k0 := 0) (by decide +kernel) rfl rfl ?_
  refine ar_getFV (pc := 1) (a := 1) (b := 101) 6 6 (by decide +kernel) k_1 rfl (by decide) wf_RX6_36 rfl (fun _ => rfl) rfl ?_
  refine ar_aload_n (pc := 4) (i := 0) (k0 := 0) (by decide +kernel) rfl rfl ?_
  refine ar_getFV (pc := 5) (a := 1) (b := 4) 6 5 (by decide +kernel) k_1 rfl (by decide) wf_RX6_32 rfl (fun _ => rfl) rfl ?_
  refine ar_callVN (pc := 8) (M2 := M_X4_copy) (a := 101) (ci := 4) (as := [.inr (.inr 4)]) (n2 := 321) (st := []) (by decide +kernel) rfl wn_RX6_329 wi_yX4_copy wl_yX4_copy k_101 rfl wz_RX4 wc_yX4_copy ⟨by decide, by decide, rfl⟩ (by decide) (Nat.le_of_ble_eq_true rfl) (Nat.le_refl _) (Nat.le_refl _) (am_Cl_mono H (fun r1 h2 H => ?_))
  show am_Wp true (d + 1) M_X6_image 321 321 h0 Q 11 [some (.inr (.inr 1))] [] 321 h2
  refine ar_aload_n (pc := 11) (i := 0) (k0 := 0) (by decide +kernel) rfl rfl ?_
  refine ar_getFV (pc := 12) (a := 1) (b := 4) 6 5 (by decide +kernel) k_1 rfl (by decide) wf_RX6_32 rfl (fun _ => rfl) rfl ?_
  refine ar_getFNV (pc := 15) (a := 4) (b := 5) 4 0 (by decide +kernel) k_4 rfl (by decide) wg_RX6_82 rfl (fun _ => rfl) rfl ?_
  refine ar_getNV (pc := 18) (a := 5) (v := .inl (h2 5 4)) 0 4 (by decide +kernel) k_5 rfl (by decide) wg_RX6_118 rfl ?_
  exact ar_iret (pc := 21) (x := (h2 5 4)) (by decide +kernel) rfl rfl H

/-! ByteIntervals.back()I -/
theorem B_X6_back_0 {d : Nat} {Q : Int → am_H → Prop} {h : am_H} (H : cf d M_X4_copy [.inr (.inr 4), .inr (.inr 101)] h (fun _ h2 => Q (h2 5 4) h2)) : wf (d + 1) M_X6_back Q 0 [some (.inr (.inr 1))] [] h := by
  intro h0
  refine ar_aload_n (pc := 0) (i := 0) (k0 := 0) (by decide +kernel) rfl rfl ?_
  refine ar_getFV (pc := 1) (a := 1) (b := 4) 6 5 (by decide +kernel) k_1 rfl (by decide) wf_RX6_32 rfl (fun _ => rfl) rfl ?_
  refine ar_aload_n (pc := 4) (i := 0) (k0 := 0) (by decide +kernel) rfl rfl ?_
  refine ar_getFV (pc := 5) (a := 1) (b := 101) 6 6 (by decide +kernel) k_1 rfl (by decide) wf_RX6_36 rfl (fun _ => rfl) rfl ?_
  refine ar_callVN (pc := 8) (M2 := M_X4_copy) (a := 4) (ci := 4) (as := [.inr (.inr 101)]) (n2 := 321) (st := []) (by decide +kernel) rfl wn_RX6_329 wi_yX4_copy wl_yX4_copy k_4 rfl wz_RX4 wc_yX4_copy ⟨by decide, by decide, rfl⟩ (by decide) (Nat.le_of_ble_eq_true rfl) (Nat.le_refl _) (Nat.le_refl _) (am_Cl_mono H (fun r1 h2 H => ?_))
  show am_Wp true (d + 1) M_X6_back 321 321 h0 Q 11 [some (.inr (.inr 1))] [] 321 h2
  refine ar_aload_n (pc := 11) (i := 0) (k0 := 0) (by decide +kernel) rfl rfl ?_
  refine ar_getFV (pc := 12) (a := 1) (b := 4) 6 5 (by decide +kernel) k_1 rfl (by decide) wf_RX6_32 rfl (fun _ => rfl) rfl ?_
  refine ar_getFNV (pc := 15) (a := 4) (b := 5) 4 0 (by decide +kernel) k_4 rfl (by decide) wg_RX6_82 rfl (fun _ => rfl) rfl ?_
  refine ar_getNV (pc := 18) (a := 5) (v := .inl (h2 5 4)) 0 4 (by decide +kernel) k_5 rfl (by decide) wg_RX6_118 rfl ?_
  exact ar_iret (pc := 21) (x := (h2 5 4)) (by decide +kernel) rfl rfl H

/-! ByteIntervals.about(I)I -/
theorem B_X6_about_0 {d : Nat} {Q : Int → am_H → Prop} {h : am_H} {v1 : Int} (H : (v1 < 0 ∨ 4 < v1 → Q (-2) h) ∧ (v1 = 0 → Q (h 4 4) h) ∧ (v1 = 1 → Q (h 4 5) h) ∧ (v1 = 2 → Q (h 4 3) h) ∧ (v1 = 3 → Q (h 4 8) h) ∧ (v1 = 4 → Q (h 1 1) h)) : wf d M_X6_about Q 0 [some (.inr (.inr 1)), some (.inl v1)] [] h := by
  intro h0
  refine ar_iload_n (pc := 0) (i := 1) (k0 := 1) (by decide +kernel) rfl rfl ?_
  refine ar_table (pc := 1) (dflt := 72) (lo := 0) (hi := 4) (offs := #[35, 43, 51, 59, 67]) (len := 35) (x := v1) (dt := 73) [36, 44, 52, 60, 68] (by decide +kernel) (by decide) (by decide) (by decide) (fun c1 => ?_) (And.intro (fun c1 => ?_) (And.intro (fun c1 => ?_) (And.intro (fun c1 => ?_) (And.intro (fun c1 => ?_) (And.intro (fun c1 => ?_) (True.intro))))))
  · replace H := H.1 c1
    refine ar_bipush (pc := 73) (z := (-2)) (by decide +kernel) (by omega) ?_
    exact ar_iret (pc := 75) (x := (-2)) (by decide +kernel) rfl rfl H
  · replace H := H.2.1 c1
    refine ar_aload_n (pc := 36) (i := 0) (k0 := 0) (by decide +kernel) rfl rfl ?_
    refine ar_getFV (pc := 37) (a := 1) (b := 4) 6 5 (by decide +kernel) k_1 rfl (by decide) wf_RX6_32 rfl (fun _ => rfl) rfl ?_
    refine ar_getNV (pc := 40) (a := 4) (v := .inl (h 4 4)) 4 4 (by decide +kernel) k_4 rfl (by decide) wg_RX6_65 rfl ?_
    exact ar_iret (pc := 43) (x := (h 4 4)) (by decide +kernel) rfl rfl H
  · replace H := H.2.2.1 c1
    refine ar_aload_n (pc := 44) (i := 0) (k0 := 0) (by decide +kernel) rfl rfl ?_
    refine ar_getFV (pc := 45) (a := 1) (b := 4) 6 5 (by decide +kernel) k_1 rfl (by decide) wf_RX6_32 rfl (fun _ => rfl) rfl ?_
    refine ar_getNV (pc := 48) (a := 4) (v := .inl (h 4 5)) 4 5 (by decide +kernel) k_4 rfl (by decide) wg_RX6_75 rfl ?_
    exact ar_iret (pc := 51) (x := (h 4 5)) (by decide +kernel) rfl rfl H
  · replace H := H.2.2.2.1 c1
    refine ar_aload_n (pc := 52) (i := 0) (k0 := 0) (by decide +kernel) rfl rfl ?_
    refine ar_getFV (pc := 53) (a := 1) (b := 4) 6 5 (by decide +kernel) k_1 rfl (by decide) wf_RX6_32 rfl (fun _ => rfl) rfl ?_
    refine ar_getNV (pc := 56) (a := 4) (v := .inl (h 4 3)) 4 3 (by decide +kernel) k_4 rfl (by decide) wg_RX6_332 rfl ?_
    exact ar_iret (pc := 59) (x := (h 4 3)) (by decide +kernel) rfl rfl H
  · replace H := H.2.2.2.2.1 c1
    refine ar_aload_n (pc := 60) (i := 0) (k0 := 0) (by decide +kernel) rfl rfl ?_
    refine ar_getFV (pc := 61) (a := 1) (b := 4) 6 5 (by decide +kernel) k_1 rfl (by decide) wf_RX6_32 rfl (fun _ => rfl) rfl ?_
    refine ar_getNV (pc := 64) (a := 4) (v := .inl (h 4 8)) 4 8 (by decide +kernel) k_4 rfl (by decide) wg_RX6_315 rfl ?_
    exact ar_iret (pc := 67) (x := (h 4 8)) (by decide +kernel) rfl rfl H
  · replace H := H.2.2.2.2.2 c1
    refine ar_aload_n (pc := 68) (i := 0) (k0 := 0) (by decide +kernel) rfl rfl ?_
    refine ar_getV (pc := 69) (a := 1) (v := .inl (h 1 1)) 6 1 (by decide +kernel) k_1 rfl (by decide) wf_RX6_13 rfl ?_
    exact ar_iret (pc := 72) (x := (h 1 1)) (by decide +kernel) rfl rfl H

/-! ByteIntervals.isField(I)Z -/
theorem B_X6_isField_0 {d : Nat} {Q : Int → am_H → Prop} {h : am_H} {v0 : Int} (H : (v0 < 0 → Q 0 h) ∧ (0 ≤ v0 → (8 ≤ v0 → Q 0 h) ∧ (v0 < 8 → Q 1 h))) : wf d M_X6_isField Q 0 [some (.inl v0)] [] h := by
  intro h0
  refine ar_iload_n (pc := 0) (i := 0) (k0 := 0) (by decide +kernel) rfl rfl ?_
  refine ar_if_lt (pc := 1) (x := v0) (tgt := 14) (off := 13) (by decide +kernel) (by decide) (fun c1 => ?_) (fun c1 => ?_)
  · replace H := H.1 c1
    refine ar_iconst (pc := 14) (z := 0) (by decide +kernel) (by unfold am_i32; omega) ?_
    exact ar_zret (pc := 15) (x := 0) (by decide +kernel) rfl rfl (by decide) H
  · replace H := H.2 c1
    refine ar_iload_n (pc := 4) (i := 0) (k0 := 0) (by decide +kernel) rfl rfl ?_
    refine ar_bipush (pc := 5) (z := 8) (by decide +kernel) (by omega) ?_
    refine ar_icmp_ge (pc := 7) (x := v0) (y := 8) (tgt := 14) (off := 7) (by decide +kernel) (by decide) (fun c2 => ?_) (fun c2 => ?_)
    · replace H := H.1 c2
      refine ar_iconst (pc := 14) (z := 0) (by decide +kernel) (by unfold am_i32; omega) ?_
      exact ar_zret (pc := 15) (x := 0) (by decide +kernel) rfl rfl (by decide) H
    · replace H := H.2 c2
      refine ar_iconst (pc := 10) (z := 1) (by decide +kernel) (by unfold am_i32; omega) ?_
      refine ar_goto (pc := 11) (tgt := 15) (off := 4) (by decide +kernel) (by decide) ?_
      exact ar_zret (pc := 15) (x := 1) (by decide +kernel) rfl rfl (by decide) H

/-! ByteIntervals.hasBit(II)Z -/
theorem B_X6_hasBit_0 {d : Nat} {Q : Int → am_H → Prop} {h : am_H} {v0 v1 : Int} (H : ((am_iand (am_ishr v0 v1) 1) = 0 → Q 0 h) ∧ (¬ (am_iand (am_ishr v0 v1) 1) = 0 → Q 1 h)) : wf d M_X6_hasBit Q 0 [some (.inl v0), some (.inl v1)] [] h := by
  intro h0
  refine ar_iload_n (pc := 0) (i := 0) (k0 := 0) (by decide +kernel) rfl rfl ?_
  refine ar_iload_n (pc := 1) (i := 1) (k0 := 1) (by decide +kernel) rfl rfl ?_
  refine ar_ishr (pc := 2) (x := v0) (y := v1) (by decide +kernel) ?_
  refine ar_iconst (pc := 3) (z := 1) (by decide +kernel) (by unfold am_i32; omega) ?_
  refine ar_iand (pc := 4) (x := (am_ishr v0 v1)) (y := 1) (by decide +kernel) ?_
  refine ar_if_eq (pc := 5) (x := (am_iand (am_ishr v0 v1) 1)) (tgt := 12) (off := 7) (by decide +kernel) (by decide) (fun c1 => ?_) (fun c1 => ?_)
  · replace H := H.1 c1
    refine ar_iconst (pc := 12) (z := 0) (by decide +kernel) (by unfold am_i32; omega) ?_
    exact ar_zret (pc := 13) (x := 0) (by decide +kernel) rfl rfl (by decide) H
  · replace H := H.2 c1
    refine ar_iconst (pc := 8) (z := 1) (by decide +kernel) (by unfold am_i32; omega) ?_
    refine ar_goto (pc := 9) (tgt := 13) (off := 4) (by decide +kernel) (by decide) ?_
    exact ar_zret (pc := 13) (x := 1) (by decide +kernel) rfl rfl (by decide) H

/-! ByteIntervals.span(II)J -/
theorem B_X6_span_0 {d : Nat} {Q : Int → am_H → Prop} {h : am_H} {v0 v1 : Int} (H : (v0 < 0 → Q 0 h) ∧ (0 ≤ v0 → (v1 ≤ v0 → Q 0 h) ∧ (v0 < v1 → (v1 ≤ 40 → Q (am_lshl (am_w64 ((am_lshl 1 (am_w32 (v1 - v0))) - 1)) v0) h) ∧ (40 < v1 → Q 0 h)))) : wf d M_X6_span Q 0 [some (.inl v0), some (.inl v1)] [] h := by
  intro h0
  refine ar_iload_n (pc := 0) (i := 0) (k0 := 0) (by decide +kernel) rfl rfl ?_
  refine ar_if_lt (pc := 1) (x := v0) (tgt := 15) (off := 14) (by decide +kernel) (by decide) (fun c1 => ?_) (fun c1 => ?_)
  · replace H := H.1 c1
    refine ar_lconst (pc := 15) (i := 0) (z := 0) (by decide +kernel) rfl ?_
    exact ar_lret (pc := 16) (x := 0) (by decide +kernel) rfl rfl H
  · replace H := H.2 c1
    refine ar_iload_n (pc := 4) (i := 1) (k0 := 1) (by decide +kernel) rfl rfl ?_
    refine ar_iload_n (pc := 5) (i := 0) (k0 := 0) (by decide +kernel) rfl rfl ?_
    refine ar_icmp_le (pc := 6) (x := v1) (y := v0) (tgt := 15) (off := 9) (by decide +kernel) (by decide) (fun c2 => ?_) (fun c2 => ?_)
    · replace H := H.1 c2
      refine ar_lconst (pc := 15) (i := 0) (z := 0) (by decide +kernel) rfl ?_
      exact ar_lret (pc := 16) (x := 0) (by decide +kernel) rfl rfl H
    · replace H := H.2 c2
      refine ar_iload_n (pc := 9) (i := 1) (k0 := 1) (by decide +kernel) rfl rfl ?_
      refine ar_bipush (pc := 10) (z := 40) (by decide +kernel) (by omega) ?_
      refine ar_icmp_le (pc := 12) (x := v1) (y := 40) (tgt := 17) (off := 5) (by decide +kernel) (by decide) (fun c3 => ?_) (fun c3 => ?_)
      · replace H := H.1 c3
        refine ar_lconst (pc := 17) (i := 1) (z := 1) (by decide +kernel) rfl ?_
        refine ar_iload_n (pc := 18) (i := 1) (k0 := 1) (by decide +kernel) rfl rfl ?_
        refine ar_iload_n (pc := 19) (i := 0) (k0 := 0) (by decide +kernel) rfl rfl ?_
        refine ar_isub (pc := 20) (x := v1) (y := v0) (by decide +kernel) ?_
        refine ar_lshl (pc := 21) (x := 1) (y := (am_w32 (v1 - v0))) (by decide +kernel) ?_
        refine ar_lconst (pc := 22) (i := 1) (z := 1) (by decide +kernel) rfl ?_
        refine ar_lsub (pc := 23) (x := (am_lshl 1 (am_w32 (v1 - v0)))) (y := 1) (by decide +kernel) ?_
        refine ar_iload_n (pc := 24) (i := 0) (k0 := 0) (by decide +kernel) rfl rfl ?_
        refine ar_lshl (pc := 25) (x := (am_w64 ((am_lshl 1 (am_w32 (v1 - v0))) - 1))) (y := v0) (by decide +kernel) ?_
        exact ar_lret (pc := 26) (x := (am_lshl (am_w64 ((am_lshl 1 (am_w32 (v1 - v0))) - 1)) v0)) (by decide +kernel) rfl rfl H
      · replace H := H.2 c3
        refine ar_lconst (pc := 15) (i := 0) (z := 0) (by decide +kernel) rfl ?_
        exact ar_lret (pc := 16) (x := 0) (by decide +kernel) rfl rfl H

/-! ByteIntervals.asNumber([III)I -/
theorem B_X6_asNumber_0 {d : Nat} {Q : Int → am_H → Prop} {h : am_H} {a0 v1 v2 : Int} (H : cf d M_J9_max_7cf53 [.inl v1, .inl 0] h (fun r1 h2 => wf (d + 1) M_X6_asNumber Q 9 [some (.inr (.inr a0)), none, some (.inl v2), some (.inl 0), some (.inl r1)] [] h2)) : wf (d + 1) M_X6_asNumber Q 0 [some (.inr (.inr a0)), some (.inl v1), some (.inl v2), none, none] [] h := by
  intro h0
  refine ar_iconst (pc := 0) (z := 0) (by decide +kernel) (by unfold am_i32; omega) ?_
  refine ar_istore_n (pc := 1) (i := 3) (k0 := 3) (ls2 := [some (.inr (.inr a0)), some (.inl v1), some (.inl v2), some (.inl 0), none]) (by decide +kernel) rfl (by decide) rfl ?_
  refine ar_iload_n (pc := 2) (i := 1) (k0 := 1) (by decide +kernel) rfl rfl ?_
  refine ar_iconst (pc := 3) (z := 0) (by decide +kernel) (by unfold am_i32; omega) ?_
  refine ar_callS (pc := 4) (M2 := M_J9_max_7cf53) (as := [.inl v1, .inl 0]) (n2 := 321) (st := []) (by decide +kernel) rfl wm_RX6_208 ws_yJ9_max_7cf53 wz_RJ9 wc_yJ9_max_7cf53 ⟨by decide, by decide, rfl⟩ (by decide) (Nat.le_of_ble_eq_true rfl) (Nat.le_refl _) (Nat.le_refl _) (am_Cl_mono H (fun r1 h2 H => ?_))
  show am_Wp true (d + 1) M_X6_asNumber 321 321 h0 Q 7 [some (.inr (.inr a0)), some (.inl v1), some (.inl v2), some (.inl 0), none] [.inl r1] 321 h2
  refine ar_istore (pc := 7) (i := 4) (ls2 := [some (.inr (.inr a0)), some (.inl v1), some (.inl v2), some (.inl 0), some (.inl r1)]) (by decide +kernel) (by decide) rfl ?_
  refine ar_forget [true, false, true, true, true] rfl ?_
  exact H h0
theorem B_X6_asNumber_9 {d : Nat} {Q : Int → am_H → Prop} {h : am_H} {a0 v2 v3 v4 : Int} (H : (v2 ≤ v4 → Q v3 h) ∧ (v4 < v2 → (am_kd 321 a0 = 0) ∧ (((am_ln a0) ≤ v4 → Q v3 h) ∧ (v4 < (am_ln a0) → (0 ≤ v4) ∧ ((v4 < am_ln a0) ∧ (wf (d + 1) M_X6_asNumber Q 9 [some (.inr (.inr a0)), none, some (.inl v2), some (.inl (am_w32 ((am_w32 (v3 * 256)) + (h a0 v4)))), some (.inl (am_w32 (v4 + 1)))] [] h)))))) : wf (d + 1) M_X6_asNumber Q 9 [some (.inr (.inr a0)), none, some (.inl v2), some (.inl v3), some (.inl v4)] [] h := by
  intro h0
  refine ar_iload (pc := 9) (i := 4) (by decide +kernel) rfl ?_
  refine ar_iload_n (pc := 11) (i := 2) (k0 := 2) (by decide +kernel) rfl rfl ?_
  refine ar_icmp_ge (pc := 12) (x := v4) (y := v2) (tgt := 39) (off := 27) (by decide +kernel) (by decide) (fun c1 => ?_) (fun c1 => ?_)
  · replace H := H.1 c1
    refine ar_iload_n (pc := 39) (i := 3) (k0 := 3) (by decide +kernel) rfl rfl ?_
    exact ar_iret (pc := 40) (x := v3) (by decide +kernel) rfl rfl H
  · replace H := H.2 c1
    refine ar_iload (pc := 15) (i := 4) (by decide +kernel) rfl ?_
    refine ar_aload_n (pc := 17) (i := 0) (k0 := 0) (by decide +kernel) rfl rfl ?_
    obtain ⟨g2, H⟩ := H
    refine ar_alen (pc := 18) (a := a0) (by decide +kernel) (by rw [g2]; decide) ?_
    refine ar_icmp_ge (pc := 19) (x := v4) (y := (am_ln a0)) (tgt := 39) (off := 20) (by decide +kernel) (by decide) (fun c3 => ?_) (fun c3 => ?_)
    · replace H := H.1 c3
      refine ar_iload_n (pc := 39) (i := 3) (k0 := 3) (by decide +kernel) rfl rfl ?_
      exact ar_iret (pc := 40) (x := v3) (by decide +kernel) rfl rfl H
    · replace H := H.2 c3
      refine ar_iload_n (pc := 22) (i := 3) (k0 := 3) (by decide +kernel) rfl rfl ?_
      refine ar_sipush (pc := 23) (z := 256) (by decide +kernel) (by omega) ?_
      refine ar_imul (pc := 26) (x := v3) (y := 256) (by decide +kernel) ?_
      refine ar_aload_n (pc := 27) (i := 0) (k0 := 0) (by decide +kernel) rfl rfl ?_
      refine ar_iload (pc := 28) (i := 4) (by decide +kernel) rfl ?_
      obtain ⟨g4, H⟩ := H
      obtain ⟨g5, H⟩ := H
      refine ar_iald (pc := 30) (a := a0) (i := v4) (by decide +kernel) g2 g4 g5 ?_
      refine ar_iadd (pc := 31) (x := (am_w32 (v3 * 256))) (y := (h a0 v4)) (by decide +kernel) ?_
      refine ar_istore_n (pc := 32) (i := 3) (k0 := 3) (ls2 := [some (.inr (.inr a0)), none, some (.inl v2), some (.inl (am_w32 ((am_w32 (v3 * 256)) + (h a0 v4)))), some (.inl v4)]) (by decide +kernel) rfl (by decide) rfl ?_
      refine ar_iinc (pc := 33) (i := 4) (z := 1) (x := v4) (ls2 := [some (.inr (.inr a0)), none, some (.inl v2), some (.inl (am_w32 ((am_w32 (v3 * 256)) + (h a0 v4)))), some (.inl (am_w32 (v4 + 1)))]) (by decide +kernel) rfl (by decide) rfl ?_
      refine ar_goto (pc := 36) (tgt := 9) (off := -27) (by decide +kernel) (by decide) ?_
      exact H h0

