/-! ByteIntervals$Reader.mended(LByteIntervals$Text;LByteIntervals$Moment;)I -/
theorem B_X2_mended_0 {d : Nat} {Q : Int → am_H → Prop} {h : am_H} {a1 a2 : Int} (H : (0 ≤ a1) ∧ ((a1 = 0 → Q (-1) h) ∧ (1 ≤ a1 → (am_kd 321 a1 = 15) ∧ ((¬ (h a1 17) = 0 → (am_kd 321 a2 = 10) ∧ (wf (d + 1) M_X2_mended Q 38 [some (.inr (.inr 218)), some (.inr (.inr a1)), some (.inr (.inr a2)), some (.inl 0)] [] (am_up (am_cp h (a2 + 1) 0 240 0 40) 218 7 240))) ∧ ((h a1 17) = 0 → Q (-1) h))))) : wf (d + 1) M_X2_mended Q 0 [some (.inr (.inr 218)), some (.inr (.inr a1)), some (.inr (.inr a2)), none] [] h := by
  intro h0
  refine ar_aload_n (pc := 0) (i := 1) (k0 := 1) (by decide +kernel) rfl rfl ?_
  obtain ⟨g2, H⟩ := H
  refine ar_ifnull (pc := 1) (x := a1) (tgt := 11) (off := 10) (by decide +kernel) (by decide) g2 (fun c1 => ?_) (fun c1 => ?_)
  · replace H := H.1 c1
    refine ar_iconst (pc := 11) (z := (-1)) (by decide +kernel) (by unfold am_i32; omega) ?_
    exact ar_iret (pc := 12) (x := (-1)) (by decide +kernel) rfl rfl H
  · replace H := H.2 c1
    refine ar_aload_n (pc := 4) (i := 1) (k0 := 1) (by decide +kernel) rfl rfl ?_
    obtain ⟨g3, H⟩ := H
    refine ar_getNV (pc := 5) (a := a1) (v := .inl (h a1 17)) 5 17 (by decide +kernel) g3 rfl (by decide) wg_RX2_208 rfl ?_
    refine ar_if_ne (pc := 8) (x := (h a1 17)) (tgt := 13) (off := 5) (by decide +kernel) (by decide) (fun c4 => ?_) (fun c4 => ?_)
    · replace H := H.1 c4
      refine ar_aload_n (pc := 13) (i := 2) (k0 := 2) (by decide +kernel) rfl rfl ?_
      obtain ⟨g5, H⟩ := H
      refine ar_getFNV (pc := 14) (a := a2) (b := (a2 + 1)) 0 0 (by decide +kernel) g5 rfl (by decide) wg_RX2_40 rfl (fun _ => rfl) rfl ?_
      refine ar_iconst (pc := 17) (z := 0) (by decide +kernel) (by unfold am_i32; omega) ?_
      refine ar_aload_n (pc := 18) (i := 0) (k0 := 0) (by decide +kernel) rfl rfl ?_
      refine ar_getFV (pc := 19) (a := 218) (b := 240) 2 5 (by decide +kernel) k_218 rfl (by decide) wf_RX2_31 rfl (fun _ => rfl) rfl ?_
      refine ar_iconst (pc := 22) (z := 0) (by decide +kernel) (by unfold am_i32; omega) ?_
      refine ar_bipush (pc := 23) (z := 40) (by decide +kernel) (by omega) ?_
      refine ar_copy (pc := 25) (a0 := (a2 + 1)) (sp := 0) (a := 240) (dp := 0) (len := 40) (by decide +kernel) wm_RX2_211 wnat wstat wsys (kX0_0 g5).1 k_240 (by decide) (by decide) (by decide) (am_le_eq (b := 40) (by decide) ((kX0_0 g5).2).symm) (am_le_eq (b := 40) (by decide) (l_240).symm) (Nat.le_of_ble_eq_true rfl) ?_
      refine ar_aload_n (pc := 28) (i := 0) (k0 := 0) (by decide +kernel) rfl rfl ?_
      refine ar_aload_n (pc := 29) (i := 0) (k0 := 0) (by decide +kernel) rfl rfl ?_
      refine ar_getFV (pc := 30) (a := 218) (b := 240) 2 5 (by decide +kernel) k_218 rfl (by decide) wf_RX2_31 rfl (fun _ => rfl) rfl ?_
      refine ar_putA (pc := 33) (a := 218) (z := 240) 2 7 (by decide +kernel) k_218 rfl (by decide) (Or.inr ⟨_, rfl⟩) (fun _ => rfl) rfl wf_RX2_37 ?_
      refine ar_iconst (pc := 36) (z := 0) (by decide +kernel) (by unfold am_i32; omega) ?_
      refine ar_istore_n (pc := 37) (i := 3) (k0 := 3) (ls2 := [some (.inr (.inr 218)), some (.inr (.inr a1)), some (.inr (.inr a2)), some (.inl 0)]) (by decide +kernel) rfl (by decide) rfl ?_
      exact H h0
    · replace H := H.2 c4
      refine ar_iconst (pc := 11) (z := (-1)) (by decide +kernel) (by unfold am_i32; omega) ?_
      exact ar_iret (pc := 12) (x := (-1)) (by decide +kernel) rfl rfl H
theorem B_X2_mended_38 {d : Nat} {Q : Int → am_H → Prop} {h : am_H} {a1 a2 v3 : Int} (H : (8 ≤ v3 → Q (-1) h) ∧ (v3 < 8 → (am_kd 321 a2 = 10) ∧ ((am_kd 321 a1 = 15) ∧ (cf d M_X2_readFormat [.inr (.inr 218), .inr (.inr a1), .inl 0, .inl 0, .inl (h a2 3), .inl (h a1 18)] h (fun _ h5 => cf d M_X2_putSums [.inr (.inr 218), .inr (.inr a1)] (am_cp h5 240 0 241 0 40) (fun _ h7 => cf d M_X2_unlikeBytes [.inr (.inr 218), .inr (.inr 241)] h7 (fun r8 h9 => (¬ r8 = 0 → wf (d + 1) M_X2_mended Q 38 [some (.inr (.inr 218)), some (.inr (.inr a1)), some (.inr (.inr a2)), some (.inl (am_w32 (v3 + 1)))] [] h9) ∧ (r8 = 0 → cf d M_X2_unlikeBytes [.inr (.inr 218), .inr (.inr (a2 + 1))] h9 (fun r11 h12 => Q r11 h12))))))))) : wf (d + 1) M_X2_mended Q 38 [some (.inr (.inr 218)), some (.inr (.inr a1)), some (.inr (.inr a2)), some (.inl v3)] [] h := by
  intro h0
  refine ar_iload_n (pc := 38) (i := 3) (k0 := 3) (by decide +kernel) rfl rfl ?_
  refine ar_bipush (pc := 39) (z := 8) (by decide +kernel) (by omega) ?_
  refine ar_icmp_ge (pc := 41) (x := v3) (y := 8) (tgt := 106) (off := 65) (by decide +kernel) (by decide) (fun c1 => ?_) (fun c1 => ?_)
  · replace H := H.1 c1
    refine ar_iconst (pc := 106) (z := (-1)) (by decide +kernel) (by unfold am_i32; omega) ?_
    exact ar_iret (pc := 107) (x := (-1)) (by decide +kernel) rfl rfl H
  · replace H := H.2 c1
    refine ar_aload_n (pc := 44) (i := 0) (k0 := 0) (by decide +kernel) rfl rfl ?_
    refine ar_aload_n (pc := 45) (i := 1) (k0 := 1) (by decide +kernel) rfl rfl ?_
    refine ar_iconst (pc := 46) (z := 0) (by decide +kernel) (by unfold am_i32; omega) ?_
    refine ar_iconst (pc := 47) (z := 0) (by decide +kernel) (by unfold am_i32; omega) ?_
    refine ar_aload_n (pc := 48) (i := 2) (k0 := 2) (by decide +kernel) rfl rfl ?_
    obtain ⟨g2, H⟩ := H
    refine ar_getNV (pc := 49) (a := a2) (v := .inl (h a2 3)) 0 3 (by decide +kernel) g2 rfl (by decide) wg_RX2_47 rfl ?_
    refine ar_aload_n (pc := 52) (i := 1) (k0 := 1) (by decide +kernel) rfl rfl ?_
    obtain ⟨g3, H⟩ := H
    refine ar_getNV (pc := 53) (a := a1) (v := .inl (h a1 18)) 5 18 (by decide +kernel) g3 rfl (by decide) wg_RX2_217 rfl ?_
    refine ar_callV (pc := 56) (M2 := M_X2_readFormat) (a := 218) (ci := 2) (as := [.inr (.inr a1), .inl 0, .inl 0, .inl (h a2 3), .inl (h a1 18)]) (n2 := 321) (st := []) (by decide +kernel) rfl wm_RX2_50 wi_yX2_readFormat wl_yX2_readFormat k_218 rfl wz_RX2 wc_yX2_readFormat ⟨by decide, by decide, rfl⟩ (by decide) (Nat.le_of_ble_eq_true rfl) (Nat.le_refl _) (Nat.le_refl _) (am_Cl_mono H (fun r4 h5 H => ?_))
    show am_Wp true (d + 1) M_X2_mended 321 321 h0 Q 59 [some (.inr (.inr 218)), some (.inr (.inr a1)), some (.inr (.inr a2)), some (.inl v3)] [.inr (.inr r4)] 321 h5
    refine ar_pop (pc := 59) (by decide +kernel) trivial ?_
    refine ar_aload_n (pc := 60) (i := 0) (k0 := 0) (by decide +kernel) rfl rfl ?_
    refine ar_getFV (pc := 61) (a := 218) (b := 240) 2 5 (by decide +kernel) k_218 rfl (by decide) wf_RX2_31 rfl (fun _ => rfl) rfl ?_
    refine ar_iconst (pc := 64) (z := 0) (by decide +kernel) (by unfold am_i32; omega) ?_
    refine ar_aload_n (pc := 65) (i := 0) (k0 := 0) (by decide +kernel) rfl rfl ?_
    refine ar_getFV (pc := 66) (a := 218) (b := 241) 2 6 (by decide +kernel) k_218 rfl (by decide) wf_RX2_34 rfl (fun _ => rfl) rfl ?_
    refine ar_iconst (pc := 69) (z := 0) (by decide +kernel) (by unfold am_i32; omega) ?_
    refine ar_bipush (pc := 70) (z := 40) (by decide +kernel) (by omega) ?_
    refine ar_copy (pc := 72) (a0 := 240) (sp := 0) (a := 241) (dp := 0) (len := 40) (by decide +kernel) wm_RX2_211 wnat wstat wsys k_240 k_241 (by decide) (by decide) (by decide) (am_le_eq (b := 40) (by decide) (l_240).symm) (am_le_eq (b := 40) (by decide) (l_241).symm) (Nat.le_of_ble_eq_true rfl) ?_
    refine ar_aload_n (pc := 75) (i := 0) (k0 := 0) (by decide +kernel) rfl rfl ?_
    refine ar_aload_n (pc := 76) (i := 1) (k0 := 1) (by decide +kernel) rfl rfl ?_
    refine ar_callV (pc := 77) (M2 := M_X2_putSums) (a := 218) (ci := 2) (as := [.inr (.inr a1)]) (n2 := 321) (st := []) (by decide +kernel) rfl wm_RX2_220 wi_yX2_putSums wl_yX2_putSums k_218 rfl wz_RX2 wc_yX2_putSums ⟨by decide, by decide, rfl⟩ (by decide) (Nat.le_of_ble_eq_true rfl) (Nat.le_refl _) (Nat.le_refl _) (am_Cl_mono H (fun r6 h7 H => ?_))
    show am_Wp true (d + 1) M_X2_mended 321 321 h0 Q 80 [some (.inr (.inr 218)), some (.inr (.inr a1)), some (.inr (.inr a2)), some (.inl v3)] [] 321 h7
    refine ar_aload_n (pc := 80) (i := 0) (k0 := 0) (by decide +kernel) rfl rfl ?_
    refine ar_aload_n (pc := 81) (i := 0) (k0 := 0) (by decide +kernel) rfl rfl ?_
    refine ar_getFV (pc := 82) (a := 218) (b := 241) 2 6 (by decide +kernel) k_218 rfl (by decide) wf_RX2_34 rfl (fun _ => rfl) rfl ?_
    refine ar_callV (pc := 85) (M2 := M_X2_unlikeBytes) (a := 218) (ci := 2) (as := [.inr (.inr 241)]) (n2 := 321) (st := []) (by decide +kernel) rfl wm_RX2_224 wi_yX2_unlikeBytes wl_yX2_unlikeBytes k_218 rfl wz_RX2 wc_yX2_unlikeBytes ⟨by decide, by decide, rfl⟩ (by decide) (Nat.le_of_ble_eq_true rfl) (Nat.le_refl _) (Nat.le_refl _) (am_Cl_mono H (fun r8 h9 H => ?_))
    show am_Wp true (d + 1) M_X2_mended 321 321 h0 Q 88 [some (.inr (.inr 218)), some (.inr (.inr a1)), some (.inr (.inr a2)), some (.inl v3)] [.inl r8] 321 h9
    refine ar_if_ne (pc := 88) (x := r8) (tgt := 100) (off := 12) (by decide +kernel) (by decide) (fun c10 => ?_) (fun c10 => ?_)
    · replace H := H.1 c10
      refine ar_iinc (pc := 100) (i := 3) (z := 1) (x := v3) (ls2 := [some (.inr (.inr 218)), some (.inr (.inr a1)), some (.inr (.inr a2)), some (.inl (am_w32 (v3 + 1)))]) (by decide +kernel) rfl (by decide) rfl ?_
      refine ar_goto (pc := 103) (tgt := 38) (off := -65) (by decide +kernel) (by decide) ?_
      exact H h0
    · replace H := H.2 c10
      refine ar_aload_n (pc := 91) (i := 0) (k0 := 0) (by decide +kernel) rfl rfl ?_
      refine ar_aload_n (pc := 92) (i := 2) (k0 := 2) (by decide +kernel) rfl rfl ?_
      refine ar_getFNV (pc := 93) (a := a2) (b := (a2 + 1)) 0 0 (by decide +kernel) g2 rfl (by decide) wg_RX2_40 rfl (fun _ => rfl) rfl ?_
      refine ar_callV (pc := 96) (M2 := M_X2_unlikeBytes) (a := 218) (ci := 2) (as := [.inr (.inr (a2 + 1))]) (n2 := 321) (st := []) (by decide +kernel) rfl wm_RX2_224 wi_yX2_unlikeBytes wl_yX2_unlikeBytes k_218 rfl wz_RX2 wc_yX2_unlikeBytes ⟨by decide, by decide, rfl⟩ (by decide) (Nat.le_of_ble_eq_true rfl) (Nat.le_refl _) (Nat.le_refl _) (am_Cl_mono H (fun r11 h12 H => ?_))
      show am_Wp true (d + 1) M_X2_mended 321 321 h0 Q 99 [some (.inr (.inr 218)), some (.inr (.inr a1)), some (.inr (.inr a2)), some (.inl v3)] [.inl r11] 321 h12
      exact ar_iret (pc := 99) (x := r11) (by decide +kernel) rfl rfl H

/-! ByteIntervals$Reader.putSums(LByteIntervals$Text;)V -/
theorem B_X2_putSums_0 {d : Nat} {Q : Int → am_H → Prop} {h : am_H} {a1 : Int} (H : wf (d + 1) M_X2_putSums Q 2 [some (.inr (.inr 218)), some (.inr (.inr a1)), some (.inl 0), none, none] [] h) : wf (d + 1) M_X2_putSums Q 0 [some (.inr (.inr 218)), some (.inr (.inr a1)), none, none, none] [] h := by
  intro h0
  refine ar_iconst (pc := 0) (z := 0) (by decide +kernel) (by unfold am_i32; omega) ?_
  refine ar_istore_n (pc := 1) (i := 2) (k0 := 2) (ls2 := [some (.inr (.inr 218)), some (.inr (.inr a1)), some (.inl 0), none, none]) (by decide +kernel) rfl (by decide) rfl ?_
  exact H h0
theorem B_X2_putSums_2 {d : Nat} {Q : Int → am_H → Prop} {h : am_H} {a1 v2 : Int} (H : (am_kd 321 a1 = 15) ∧ (((h a1 14) ≤ v2 → Q 0 h) ∧ (v2 < (h a1 14) → (8 ≤ v2 → Q 0 h) ∧ (v2 < 8 → (0 ≤ v2) ∧ (cf d M_X6_isField [.inl (h (a1 + 11) v2)] h (fun r5 h6 => (r5 = 0 → wf (d + 1) M_X2_putSums Q 90 [some (.inr (.inr 218)), some (.inr (.inr a1)), some (.inl v2), none, none] [] h6) ∧ (¬ r5 = 0 → (0 ≤ (h (a1 + 11) v2)) ∧ (((h (a1 + 11) v2) < 8) ∧ ((¬ (h6 (a1 + 5) (h (a1 + 11) v2)) = 1 → wf (d + 1) M_X2_putSums Q 90 [some (.inr (.inr 218)), some (.inr (.inr a1)), some (.inl v2), none, none] [] h6) ∧ ((h6 (a1 + 5) (h (a1 + 11) v2)) = 1 → cf d M_X3_isKnown [.inr (.inr 220), .inl (h (a1 + 11) v2)] h6 (fun r11 h12 => (r11 = 0 → wf (d + 1) M_X2_putSums Q 90 [some (.inr (.inr 218)), some (.inr (.inr a1)), some (.inl v2), none, none] [] h12) ∧ (¬ r11 = 0 → ((h12 222 (h (a1 + 11) v2)) < 0 → wf (d + 1) M_X2_putSums Q 90 [some (.inr (.inr 218)), some (.inr (.inr a1)), some (.inl v2), none, none] [] h12) ∧ (0 ≤ (h12 222 (h (a1 + 11) v2)) → (40 ≤ (h12 222 (h (a1 + 11) v2)) → wf (d + 1) M_X2_putSums Q 90 [some (.inr (.inr 218)), some (.inr (.inr a1)), some (.inl v2), none, none] [] h12) ∧ ((h12 222 (h (a1 + 11) v2)) < 40 → wf (d + 1) M_X2_putSums Q 90 [some (.inr (.inr 218)), some (.inr (.inr a1)), some (.inl v2), none, none] [] (am_up h12 240 (h12 222 (h (a1 + 11) v2)) (h12 221 (h (a1 + 11) v2))))))))))))))))) : wf (d + 1) M_X2_putSums Q 2 [some (.inr (.inr 218)), some (.inr (.inr a1)), some (.inl v2), none, none] [] h := by
  intro h0
  refine ar_iload_n (pc := 2) (i := 2) (k0 := 2) (by decide +kernel) rfl rfl ?_
  refine ar_aload_n (pc := 3) (i := 1) (k0 := 1) (by decide +kernel) rfl rfl ?_
  obtain ⟨g1, H⟩ := H
  refine ar_getNV (pc := 4) (a := a1) (v := .inl (h a1 14)) 5 14 (by decide +kernel) g1 rfl (by decide) wg_RX2_78 rfl ?_
  refine ar_icmp_ge (pc := 7) (x := v2) (y := (h a1 14)) (tgt := 96) (off := 89) (by decide +kernel) (by decide) (fun c2 => ?_) (fun c2 => ?_)
  · replace H := H.1 c2
    exact ar_vret (pc := 96) (by decide +kernel) rfl rfl H
  · replace H := H.2 c2
    refine ar_iload_n (pc := 10) (i := 2) (k0 := 2) (by decide +kernel) rfl rfl ?_
    refine ar_bipush (pc := 11) (z := 8) (by decide +kernel) (by omega) ?_
    refine ar_icmp_ge (pc := 13) (x := v2) (y := 8) (tgt := 96) (off := 83) (by decide +kernel) (by decide) (fun c3 => ?_) (fun c3 => ?_)
    · replace H := H.1 c3
      exact ar_vret (pc := 96) (by decide +kernel) rfl rfl H
    · replace H := H.2 c3
      refine ar_aload_n (pc := 16) (i := 1) (k0 := 1) (by decide +kernel) rfl rfl ?_
      refine ar_getFNV (pc := 17) (a := a1) (b := (a1 + 11)) 5 13 (by decide +kernel) g1 rfl (by decide) wg_RX2_81 rfl (fun _ => rfl) rfl ?_
      refine ar_iload_n (pc := 20) (i := 2) (k0 := 2) (by decide +kernel) rfl rfl ?_
      obtain ⟨g4, H⟩ := H
      refine ar_iald (pc := 21) (a := (a1 + 11)) (i := v2) (by decide +kernel) (kX5_13 g1).1 g4 (am_lt_eq c3 ((kX5_13 g1).2).symm) ?_
      refine ar_istore_n (pc := 22) (i := 3) (k0 := 3) (ls2 := [some (.inr (.inr 218)), some (.inr (.inr a1)), some (.inl v2), some (.inl (h (a1 + 11) v2)), none]) (by decide +kernel) rfl (by decide) rfl ?_
      refine ar_iload_n (pc := 23) (i := 3) (k0 := 3) (by decide +kernel) rfl rfl ?_
      refine ar_callSN (pc := 24) (M2 := M_X6_isField) (as := [.inl (h (a1 + 11) v2)]) (n2 := 321) (st := []) (by decide +kernel) rfl wn_RX2_84 ws_yX6_isField wz_RX6 wc_yX6_isField ⟨by decide, by decide, rfl⟩ (by decide) (Nat.le_of_ble_eq_true rfl) (Nat.le_refl _) (Nat.le_refl _) (am_Cl_mono H (fun r5 h6 H => ?_))
      show am_Wp true (d + 1) M_X2_putSums 321 321 h0 Q 27 [some (.inr (.inr 218)), some (.inr (.inr a1)), some (.inl v2), some (.inl (h (a1 + 11) v2)), none] [.inl r5] 321 h6
      refine ar_if_eq (pc := 27) (x := r5) (tgt := 90) (off := 63) (by decide +kernel) (by decide) (fun c7 => ?_) (fun c7 => ?_)
      · replace H := H.1 c7
        refine ar_forget [true, true, true, false, true] rfl ?_
        exact H h0
      · replace H := H.2 c7
        refine ar_aload_n (pc := 30) (i := 1) (k0 := 1) (by decide +kernel) rfl rfl ?_
        refine ar_getFNV (pc := 31) (a := a1) (b := (a1 + 5)) 5 7 (by decide +kernel) g1 rfl (by decide) wg_RX2_106 rfl (fun _ => rfl) rfl ?_
        refine ar_iload_n (pc := 34) (i := 3) (k0 := 3) (by decide +kernel) rfl rfl ?_
        obtain ⟨g8, H⟩ := H
        obtain ⟨g9, H⟩ := H
        refine ar_iald (pc := 35) (a := (a1 + 5)) (i := (h (a1 + 11) v2)) (by decide +kernel) (kX5_7 g1).1 g8 (am_lt_eq g9 ((kX5_7 g1).2).symm) ?_
        refine ar_iconst (pc := 36) (z := 1) (by decide +kernel) (by unfold am_i32; omega) ?_
        refine ar_icmp_ne (pc := 37) (x := (h6 (a1 + 5) (h (a1 + 11) v2))) (y := 1) (tgt := 90) (off := 53) (by decide +kernel) (by decide) (fun c10 => ?_) (fun c10 => ?_)
        · replace H := H.1 c10
          refine ar_forget [true, true, true, false, true] rfl ?_
          exact H h0
        · replace H := H.2 c10
          refine ar_aload_n (pc := 40) (i := 0) (k0 := 0) (by decide +kernel) rfl rfl ?_
          refine ar_getFV (pc := 41) (a := 218) (b := 220) 2 1 (by decide +kernel) k_218 rfl (by decide) wf_RX2_18 rfl (fun _ => rfl) rfl ?_
          refine ar_iload_n (pc := 44) (i := 3) (k0 := 3) (by decide +kernel) rfl rfl ?_
          refine ar_callVN (pc := 45) (M2 := M_X3_isKnown) (a := 220) (ci := 3) (as := [.inl (h (a1 + 11) v2)]) (n2 := 321) (st := []) (by decide +kernel) rfl wn_RX2_183 wi_yX3_isKnown wl_yX3_isKnown k_220 rfl wz_RX3 wc_yX3_isKnown ⟨by decide, by decide, rfl⟩ (by decide) (Nat.le_of_ble_eq_true rfl) (Nat.le_refl _) (Nat.le_refl _) (am_Cl_mono H (fun r11 h12 H => ?_))
          show am_Wp true (d + 1) M_X2_putSums 321 321 h0 Q 48 [some (.inr (.inr 218)), some (.inr (.inr a1)), some (.inl v2), some (.inl (h (a1 + 11) v2)), none] [.inl r11] 321 h12
          refine ar_if_eq (pc := 48) (x := r11) (tgt := 90) (off := 42) (by decide +kernel) (by decide) (fun c13 => ?_) (fun c13 => ?_)
          · replace H := H.1 c13
            refine ar_forget [true, true, true, false, true] rfl ?_
            exact H h0
          · replace H := H.2 c13
            refine ar_aload_n (pc := 51) (i := 0) (k0 := 0) (by decide +kernel) rfl rfl ?_
            refine ar_getFV (pc := 52) (a := 218) (b := 220) 2 1 (by decide +kernel) k_218 rfl (by decide) wf_RX2_18 rfl (fun _ => rfl) rfl ?_
            refine ar_getFNV (pc := 55) (a := 220) (b := 222) 3 7 (by decide +kernel) k_220 rfl (by decide) wg_RX2_156 rfl (fun _ => rfl) rfl ?_
            refine ar_iload_n (pc := 58) (i := 3) (k0 := 3) (by decide +kernel) rfl rfl ?_
            refine ar_iald (pc := 59) (a := 222) (i := (h (a1 + 11) v2)) (by decide +kernel) k_222 g8 (am_lt_eq g9 (l_222).symm) ?_
            refine ar_istore (pc := 60) (i := 4) (ls2 := [some (.inr (.inr 218)), some (.inr (.inr a1)), some (.inl v2), some (.inl (h (a1 + 11) v2)), some (.inl (h12 222 (h (a1 + 11) v2)))]) (by decide +kernel) (by decide) rfl ?_
            refine ar_iload (pc := 62) (i := 4) (by decide +kernel) rfl ?_
            refine ar_if_lt (pc := 64) (x := (h12 222 (h (a1 + 11) v2))) (tgt := 90) (off := 26) (by decide +kernel) (by decide) (fun c14 => ?_) (fun c14 => ?_)
            · replace H := H.1 c14
              refine ar_forget [true, true, true, false, false] rfl ?_
              exact H h0
            · replace H := H.2 c14
              refine ar_iload (pc := 67) (i := 4) (by decide +kernel) rfl ?_
              refine ar_bipush (pc := 69) (z := 40) (by decide +kernel) (by omega) ?_
              refine ar_icmp_ge (pc := 71) (x := (h12 222 (h (a1 + 11) v2))) (y := 40) (tgt := 90) (off := 19) (by decide +kernel) (by decide) (fun c15 => ?_) (fun c15 => ?_)
              · replace H := H.1 c15
                refine ar_forget [true, true, true, false, false] rfl ?_
                exact H h0
              · replace H := H.2 c15
                refine ar_aload_n (pc := 74) (i := 0) (k0 := 0) (by decide +kernel) rfl rfl ?_
                refine ar_getFV (pc := 75) (a := 218) (b := 240) 2 5 (by decide +kernel) k_218 rfl (by decide) wf_RX2_31 rfl (fun _ => rfl) rfl ?_
                refine ar_iload (pc := 78) (i := 4) (by decide +kernel) rfl ?_
                refine ar_aload_n (pc := 80) (i := 0) (k0 := 0) (by decide +kernel) rfl rfl ?_
                refine ar_getFV (pc := 81) (a := 218) (b := 220) 2 1 (by decide +kernel) k_218 rfl (by decide) wf_RX2_18 rfl (fun _ => rfl) rfl ?_
                refine ar_getFNV (pc := 84) (a := 220) (b := 221) 3 6 (by decide +kernel) k_220 rfl (by decide) wg_RX2_162 rfl (fun _ => rfl) rfl ?_
                refine ar_iload_n (pc := 87) (i := 3) (k0 := 3) (by decide +kernel) rfl rfl ?_
                refine ar_iald (pc := 88) (a := 221) (i := (h (a1 + 11) v2)) (by decide +kernel) k_221 g8 (am_lt_eq g9 (l_221).symm) ?_
                refine ar_iast (pc := 89) (a := 240) (i := (h12 222 (h (a1 + 11) v2))) (z := (h12 221 (h (a1 + 11) v2))) (by decide +kernel) k_240 c14 (am_lt_eq c15 (l_240).symm) ?_
                refine ar_forget [true, true, true, false, false] rfl ?_
                exact H h0
theorem B_X2_putSums_90 {d : Nat} {Q : Int → am_H → Prop} {h : am_H} {a1 v2 : Int} (H : wf (d + 1) M_X2_putSums Q 2 [some (.inr (.inr 218)), some (.inr (.inr a1)), some (.inl (am_w32 (v2 + 1))), none, none] [] h) : wf (d + 1) M_X2_putSums Q 90 [some (.inr (.inr 218)), some (.inr (.inr a1)), some (.inl v2), none, none] [] h := by
  intro h0
  refine ar_iinc (pc := 90) (i := 2) (z := 1) (x := v2) (ls2 := [some (.inr (.inr 218)), some (.inr (.inr a1)), some (.inl (am_w32 (v2 + 1))), none, none]) (by decide +kernel) rfl (by decide) rfl ?_
  refine ar_goto (pc := 93) (tgt := 2) (off := -91) (by decide +kernel) (by decide) ?_
  exact H h0

/-! ByteIntervals$Reader.unlikeBytes([I)I -/
theorem B_X2_unlikeBytes_0 {d : Nat} {Q : Int → am_H → Prop} {h : am_H} {a1 : Int} (H : wf d M_X2_unlikeBytes Q 4 [some (.inr (.inr 218)), some (.inr (.inr a1)), some (.inl 0), some (.inl 0)] [] h) : wf d M_X2_unlikeBytes Q 0 [some (.inr (.inr 218)), some (.inr (.inr a1)), none, none] [] h := by
  intro h0
  refine ar_iconst (pc := 0) (z := 0) (by decide +kernel) (by unfold am_i32; omega) ?_
  refine ar_istore_n (pc := 1) (i := 2) (k0 := 2) (ls2 := [some (.inr (.inr 218)), some (.inr (.inr a1)), some (.inl 0), none]) (by decide +kernel) rfl (by decide) rfl ?_
  refine ar_iconst (pc := 2) (z := 0) (by decide +kernel) (by unfold am_i32; omega) ?_
  refine ar_istore_n (pc := 3) (i := 3) (k0 := 3) (ls2 := [some (.inr (.inr 218)), some (.inr (.inr a1)), some (.inl 0), some (.inl 0)]) (by decide +kernel) rfl (by decide) rfl ?_
  exact H h0
theorem B_X2_unlikeBytes_4 {d : Nat} {Q : Int → am_H → Prop} {h : am_H} {a1 v2 v3 : Int} (H : (40 ≤ v3 → Q v2 h) ∧ (v3 < 40 → (am_kd 321 a1 = 0) ∧ (((am_ln a1) ≤ v3 → Q v2 h) ∧ (v3 < (am_ln a1) → (0 ≤ v3) ∧ ((v3 < am_ln a1) ∧ ((¬ (h 240 v3) = (h a1 v3) → wf d M_X2_unlikeBytes Q 34 [some (.inr (.inr 218)), some (.inr (.inr a1)), none, some (.inl v3)] [.inl 1, .inl v2] h) ∧ ((h 240 v3) = (h a1 v3) → wf d M_X2_unlikeBytes Q 34 [some (.inr (.inr 218)), some (.inr (.inr a1)), none, some (.inl v3)] [.inl 0, .inl v2] h))))))) : wf d M_X2_unlikeBytes Q 4 [some (.inr (.inr 218)), some (.inr (.inr a1)), some (.inl v2), some (.inl v3)] [] h := by
  intro h0
  refine ar_iload_n (pc := 4) (i := 3) (k0 := 3) (by decide +kernel) rfl rfl ?_
  refine ar_bipush (pc := 5) (z := 40) (by decide +kernel) (by omega) ?_
  refine ar_icmp_ge (pc := 7) (x := v3) (y := 40) (tgt := 42) (off := 35) (by decide +kernel) (by decide) (fun c1 => ?_) (fun c1 => ?_)
  · replace H := H.1 c1
    refine ar_iload_n (pc := 42) (i := 2) (k0 := 2) (by decide +kernel) rfl rfl ?_
    exact ar_iret (pc := 43) (x := v2) (by decide +kernel) rfl rfl H
  · replace H := H.2 c1
    refine ar_iload_n (pc := 10) (i := 3) (k0 := 3) (by decide +kernel) rfl rfl ?_
    refine ar_aload_n (pc := 11) (i := 1) (k0 := 1) (by decide +kernel) rfl rfl ?_
    obtain ⟨g2, H⟩ := H
    refine ar_alen (pc := 12) (a := a1) (by decide +kernel) (by rw [g2]; decide) ?_
    refine ar_icmp_ge (pc := 13) (x := v3) (y := (am_ln a1)) (tgt := 42) (off := 29) (by decide +kernel) (by decide) (fun c3 => ?_) (fun c3 => ?_)
    · replace H := H.1 c3
      refine ar_iload_n (pc := 42) (i := 2) (k0 := 2) (by decide +kernel) rfl rfl ?_
      exact ar_iret (pc := 43) (x := v2) (by decide +kernel) rfl rfl H
    · replace H := H.2 c3
      refine ar_iload_n (pc := 16) (i := 2) (k0 := 2) (by decide +kernel) rfl rfl ?_
      refine ar_aload_n (pc := 17) (i := 0) (k0 := 0) (by decide +kernel) rfl rfl ?_
      refine ar_getFV (pc := 18) (a := 218) (b := 240) 2 5 (by decide +kernel) k_218 rfl (by decide) wf_RX2_31 rfl (fun _ => rfl) rfl ?_
      refine ar_iload_n (pc := 21) (i := 3) (k0 := 3) (by decide +kernel) rfl rfl ?_
      obtain ⟨g4, H⟩ := H
      refine ar_iald (pc := 22) (a := 240) (i := v3) (by decide +kernel) k_240 g4 (am_lt_eq c1 (l_240).symm) ?_
      refine ar_aload_n (pc := 23) (i := 1) (k0 := 1) (by decide +kernel) rfl rfl ?_
      refine ar_iload_n (pc := 24) (i := 3) (k0 := 3) (by decide +kernel) rfl rfl ?_
      obtain ⟨g5, H⟩ := H
      refine ar_iald (pc := 25) (a := a1) (i := v3) (by decide +kernel) g2 g4 g5 ?_
      refine ar_icmp_ne (pc := 26) (x := (h 240 v3)) (y := (h a1 v3)) (tgt := 33) (off := 7) (by decide +kernel) (by decide) (fun c6 => ?_) (fun c6 => ?_)
      · replace H := H.1 c6
        refine ar_iconst (pc := 33) (z := 1) (by decide +kernel) (by unfold am_i32; omega) ?_
        refine ar_forget [true, true, false, true] rfl ?_
        exact H h0
      · replace H := H.2 c6
        refine ar_iconst (pc := 29) (z := 0) (by decide +kernel) (by unfold am_i32; omega) ?_
        refine ar_goto (pc := 30) (tgt := 34) (off := 4) (by decide +kernel) (by decide) ?_
        refine ar_forget [true, true, false, true] rfl ?_
        exact H h0
theorem B_X2_unlikeBytes_34 {d : Nat} {Q : Int → am_H → Prop} {h : am_H} {a1 v3 s0 s1 : Int} (H : wf d M_X2_unlikeBytes Q 4 [some (.inr (.inr 218)), some (.inr (.inr a1)), some (.inl (am_w32 (s0 + s1))), some (.inl (am_w32 (v3 + 1)))] [] h) : wf d M_X2_unlikeBytes Q 34 [some (.inr (.inr 218)), some (.inr (.inr a1)), none, some (.inl v3)] [.inl s1, .inl s0] h := by
  intro h0
  refine ar_iadd (pc := 34) (x := s0) (y := s1) (by decide +kernel) ?_
  refine ar_istore_n (pc := 35) (i := 2) (k0 := 2) (ls2 := [some (.inr (.inr 218)), some (.inr (.inr a1)), some (.inl (am_w32 (s0 + s1))), some (.inl v3)]) (by decide +kernel) rfl (by decide) rfl ?_
  refine ar_iinc (pc := 36) (i := 3) (z := 1) (x := v3) (ls2 := [some (.inr (.inr 218)), some (.inr (.inr a1)), some (.inl (am_w32 (s0 + s1))), some (.inl (am_w32 (v3 + 1)))]) (by decide +kernel) rfl (by decide) rfl ?_
  refine ar_goto (pc := 39) (tgt := 4) (off := -35) (by decide +kernel) (by decide) ?_
  exact H h0

/-! ByteIntervals$Reader.rots(LByteIntervals$Text;LByteIntervals$Moment;I)I -/
theorem B_X2_rots_0 {d : Nat} {Q : Int → am_H → Prop} {h : am_H} {a1 a2 v3 : Int} (H : (0 ≤ a1) ∧ ((a1 = 0 → Q 3 h) ∧ (1 ≤ a1 → (am_kd 321 a1 = 15) ∧ (((h a1 5) = (-1) → Q 3 h) ∧ (¬ (h a1 5) = (-1) → (v3 < 0 → Q 3 h) ∧ (0 ≤ v3 → (v3 < 40 → (am_kd 321 a2 = 10) ∧ (cf d M_X3_begin [.inr (.inr 220), .inl 0, .inl 0, .inl 0, .inl ((am_up h 218 7 (a2 + 1)) a2 3)] (am_up h 218 7 (a2 + 1)) (fun _ h9 => cf d M_X2_answer [.inr (.inr 218), .inr (.inr a1), .inl ((am_up (am_up (am_up h9 218 11 (h9 a2 4)) 218 12 v3) 218 13 ((am_up (am_up h9 218 11 (h9 a2 4)) 218 12 v3) (a2 + 1) v3)) a1 5), .inr (.inr 220)] (am_up (am_up (am_up h9 218 11 (h9 a2 4)) 218 12 v3) 218 13 ((am_up (am_up h9 218 11 (h9 a2 4)) 218 12 v3) (a2 + 1) v3)) (fun r10 h11 => cf d M_J9_min_7cf53 [.inl 10, .inl r10] h11 (fun r12 h13 => cf d M_J9_max_7cf53 [.inl 0, .inl r12] h13 (fun r14 h15 => Q r14 h15)))))) ∧ (40 ≤ v3 → Q 3 h))))))) : wf (d + 1) M_X2_rots Q 0 [some (.inr (.inr 218)), some (.inr (.inr a1)), some (.inr (.inr a2)), some (.inl v3)] [] h := by
  intro h0
  refine ar_aload_n (pc := 0) (i := 1) (k0 := 1) (by decide +kernel) rfl rfl ?_
  obtain ⟨g2, H⟩ := H
  refine ar_ifnull (pc := 1) (x := a1) (tgt := 22) (off := 21) (by decide +kernel) (by decide) g2 (fun c1 => ?_) (fun c1 => ?_)
  · replace H := H.1 c1
    refine ar_iconst (pc := 22) (z := 3) (by decide +kernel) (by unfold am_i32; omega) ?_
    exact ar_iret (pc := 23) (x := 3) (by decide +kernel) rfl rfl H
  · replace H := H.2 c1
    refine ar_aload_n (pc := 4) (i := 1) (k0 := 1) (by decide +kernel) rfl rfl ?_
    obtain ⟨g3, H⟩ := H
    refine ar_getNV (pc := 5) (a := a1) (v := .inl (h a1 5)) 5 5 (by decide +kernel) g3 rfl (by decide) wg_RX2_228 rfl ?_
    refine ar_iconst (pc := 8) (z := (-1)) (by decide +kernel) (by unfold am_i32; omega) ?_
    refine ar_icmp_eq (pc := 9) (x := (h a1 5)) (y := (-1)) (tgt := 22) (off := 13) (by decide +kernel) (by decide) (fun c4 => ?_) (fun c4 => ?_)
    · replace H := H.1 c4
      refine ar_iconst (pc := 22) (z := 3) (by decide +kernel) (by unfold am_i32; omega) ?_
      exact ar_iret (pc := 23) (x := 3) (by decide +kernel) rfl rfl H
    · replace H := H.2 c4
      refine ar_iload_n (pc := 12) (i := 3) (k0 := 3) (by decide +kernel) rfl rfl ?_
      refine ar_if_lt (pc := 13) (x := v3) (tgt := 22) (off := 9) (by decide +kernel) (by decide) (fun c5 => ?_) (fun c5 => ?_)
      · replace H := H.1 c5
        refine ar_iconst (pc := 22) (z := 3) (by decide +kernel) (by unfold am_i32; omega) ?_
        exact ar_iret (pc := 23) (x := 3) (by decide +kernel) rfl rfl H
      · replace H := H.2 c5
        refine ar_iload_n (pc := 16) (i := 3) (k0 := 3) (by decide +kernel) rfl rfl ?_
        refine ar_bipush (pc := 17) (z := 40) (by decide +kernel) (by omega) ?_
        refine ar_icmp_lt (pc := 19) (x := v3) (y := 40) (tgt := 24) (off := 5) (by decide +kernel) (by decide) (fun c6 => ?_) (fun c6 => ?_)
        · replace H := H.1 c6
          refine ar_aload_n (pc := 24) (i := 0) (k0 := 0) (by decide +kernel) rfl rfl ?_
          refine ar_aload_n (pc := 25) (i := 2) (k0 := 2) (by decide +kernel) rfl rfl ?_
          obtain ⟨g7, H⟩ := H
          refine ar_getFNV (pc := 26) (a := a2) (b := (a2 + 1)) 0 0 (by decide +kernel) g7 rfl (by decide) wg_RX2_40 rfl (fun _ => rfl) rfl ?_
          refine ar_putA (pc := 29) (a := 218) (z := (a2 + 1)) 2 7 (by decide +kernel) k_218 rfl (by decide) (Or.inr ⟨_, rfl⟩) (fun _ => rfl) rfl wf_RX2_37 ?_
          refine ar_aload_n (pc := 32) (i := 0) (k0 := 0) (by decide +kernel) rfl rfl ?_
          refine ar_getFV (pc := 33) (a := 218) (b := 220) 2 1 (by decide +kernel) k_218 rfl (by decide) wf_RX2_18 rfl (fun _ => rfl) rfl ?_
          refine ar_iconst (pc := 36) (z := 0) (by decide +kernel) (by unfold am_i32; omega) ?_
          refine ar_iconst (pc := 37) (z := 0) (by decide +kernel) (by unfold am_i32; omega) ?_
          refine ar_iconst (pc := 38) (z := 0) (by decide +kernel) (by unfold am_i32; omega) ?_
          refine ar_aload_n (pc := 39) (i := 2) (k0 := 2) (by decide +kernel) rfl rfl ?_
          refine ar_getNV (pc := 40) (a := a2) (v := .inl ((am_up h 218 7 (a2 + 1)) a2 3)) 0 3 (by decide +kernel) g7 rfl (by decide) wg_RX2_47 rfl ?_
          refine ar_callVN (pc := 43) (M2 := M_X3_begin) (a := 220) (ci := 3) (as := [.inl 0, .inl 0, .inl 0, .inl ((am_up h 218 7 (a2 + 1)) a2 3)]) (n2 := 321) (st := []) (by decide +kernel) rfl wn_RX2_74 wi_yX3_begin wl_yX3_begin k_220 rfl wz_RX3 wc_yX3_begin ⟨by decide, by decide, rfl⟩ (by decide) (Nat.le_of_ble_eq_true rfl) (Nat.le_refl _) (Nat.le_refl _) (am_Cl_mono H (fun r8 h9 H => ?_))
          show am_Wp true (d + 1) M_X2_rots 321 321 h0 Q 46 [some (.inr (.inr 218)), some (.inr (.inr a1)), some (.inr (.inr a2)), some (.inl v3)] [] 321 h9
          refine ar_aload_n (pc := 46) (i := 0) (k0 := 0) (by decide +kernel) rfl rfl ?_
          refine ar_aload_n (pc := 47) (i := 2) (k0 := 2) (by decide +kernel) rfl rfl ?_
          refine ar_getNV (pc := 48) (a := a2) (v := .inl (h9 a2 4)) 0 4 (by decide +kernel) g7 rfl (by decide) wg_RX2_231 rfl ?_
          refine ar_putI (pc := 51) (a := 218) (z := (h9 a2 4)) 2 11 (by decide +kernel) k_218 rfl (by decide) rfl (fun _ => rfl) rfl wf_RX2_234 ?_
          refine ar_aload_n (pc := 54) (i := 0) (k0 := 0) (by decide +kernel) rfl rfl ?_
          refine ar_iload_n (pc := 55) (i := 3) (k0 := 3) (by decide +kernel) rfl rfl ?_
          refine ar_putI (pc := 56) (a := 218) (z := v3) 2 12 (by decide +kernel) k_218 rfl (by decide) rfl (fun _ => rfl) rfl wf_RX2_237 ?_
          refine ar_aload_n (pc := 59) (i := 0) (k0 := 0) (by decide +kernel) rfl rfl ?_
          refine ar_aload_n (pc := 60) (i := 2) (k0 := 2) (by decide +kernel) rfl rfl ?_
          refine ar_getFNV (pc := 61) (a := a2) (b := (a2 + 1)) 0 0 (by decide +kernel) g7 rfl (by decide) wg_RX2_40 rfl (fun _ => rfl) rfl ?_
          refine ar_iload_n (pc := 64) (i := 3) (k0 := 3) (by decide +kernel) rfl rfl ?_
          refine ar_iald (pc := 65) (a := (a2 + 1)) (i := v3) (by decide +kernel) (kX0_0 g7).1 c5 (am_lt_eq c6 ((kX0_0 g7).2).symm) ?_
          refine ar_putI (pc := 66) (a := 218) (z := ((am_up (am_up h9 218 11 (h9 a2 4)) 218 12 v3) (a2 + 1) v3)) 2 13 (by decide +kernel) k_218 rfl (by decide) rfl (fun _ => rfl) rfl wf_RX2_240 ?_
          refine ar_iconst (pc := 69) (z := 0) (by decide +kernel) (by unfold am_i32; omega) ?_
          refine ar_bipush (pc := 70) (z := 10) (by decide +kernel) (by omega) ?_
          refine ar_aload_n (pc := 72) (i := 0) (k0 := 0) (by decide +kernel) rfl rfl ?_
          refine ar_aload_n (pc := 73) (i := 1) (k0 := 1) (by decide +kernel) rfl rfl ?_
          refine ar_aload_n (pc := 74) (i := 1) (k0 := 1) (by decide +kernel) rfl rfl ?_
          refine ar_getNV (pc := 75) (a := a1) (v := .inl ((am_up (am_up (am_up h9 218 11 (h9 a2 4)) 218 12 v3) 218 13 ((am_up (am_up h9 218 11 (h9 a2 4)) 218 12 v3) (a2 + 1) v3)) a1 5)) 5 5 (by decide +kernel) g3 rfl (by decide) wg_RX2_228 rfl ?_
          refine ar_aload_n (pc := 78) (i := 0) (k0 := 0) (by decide +kernel) rfl rfl ?_
          refine ar_getFV (pc := 79) (a := 218) (b := 220) 2 1 (by decide +kernel) k_218 rfl (by decide) wf_RX2_18 rfl (fun _ => rfl) rfl ?_
          refine ar_callV (pc := 82) (M2 := M_X2_answer) (a := 218) (ci := 2) (as := [.inr (.inr a1), .inl ((am_up (am_up (am_up h9 218 11 (h9 a2 4)) 218 12 v3) 218 13 ((am_up (am_up h9 218 11 (h9 a2 4)) 218 12 v3) (a2 + 1) v3)) a1 5), .inr (.inr 220)]) (n2 := 321) (st := [.inl 10, .inl 0]) (by decide +kernel) rfl wm_RX2_116 wi_yX2_answer wl_yX2_answer k_218 rfl wz_RX2 wc_yX2_answer ⟨by decide, by decide, rfl⟩ (by decide) (Nat.le_of_ble_eq_true rfl) (Nat.le_refl _) (Nat.le_refl _) (am_Cl_mono H (fun r10 h11 H => ?_))
          show am_Wp true (d + 1) M_X2_rots 321 321 h0 Q 85 [some (.inr (.inr 218)), some (.inr (.inr a1)), some (.inr (.inr a2)), some (.inl v3)] [.inl r10, .inl 10, .inl 0] 321 h11
          refine ar_callS (pc := 85) (M2 := M_J9_min_7cf53) (as := [.inl 10, .inl r10]) (n2 := 321) (st := [.inl 0]) (by decide +kernel) rfl wm_RX2_243 ws_yJ9_min_7cf53 wz_RJ9 wc_yJ9_min_7cf53 ⟨by decide, by decide, rfl⟩ (by decide) (Nat.le_of_ble_eq_true rfl) (Nat.le_refl _) (Nat.le_refl _) (am_Cl_mono H (fun r12 h13 H => ?_))
          show am_Wp true (d + 1) M_X2_rots 321 321 h0 Q 88 [some (.inr (.inr 218)), some (.inr (.inr a1)), some (.inr (.inr a2)), some (.inl v3)] [.inl r12, .inl 0] 321 h13
          refine ar_callS (pc := 88) (M2 := M_J9_max_7cf53) (as := [.inl 0, .inl r12]) (n2 := 321) (st := []) (by decide +kernel) rfl wm_RX2_174 ws_yJ9_max_7cf53 wz_RJ9 wc_yJ9_max_7cf53 ⟨by decide, by decide, rfl⟩ (by decide) (Nat.le_of_ble_eq_true rfl) (Nat.le_refl _) (Nat.le_refl _) (am_Cl_mono H (fun r14 h15 H => ?_))
          show am_Wp true (d + 1) M_X2_rots 321 321 h0 Q 91 [some (.inr (.inr 218)), some (.inr (.inr a1)), some (.inr (.inr a2)), some (.inl v3)] [.inl r14] 321 h15
          exact ar_iret (pc := 91) (x := r14) (by decide +kernel) rfl rfl H
        · replace H := H.2 c6
          refine ar_iconst (pc := 22) (z := 3) (by decide +kernel) (by unfold am_i32; omega) ?_
          exact ar_iret (pc := 23) (x := 3) (by decide +kernel) rfl rfl H

/-! ByteIntervals$Reader.byteIn(LByteIntervals$Reading;I)I -/
theorem B_X2_byteIn_0 {d : Nat} {Q : Int → am_H → Prop} {h : am_H} {a1 v2 : Int} (H : (am_kd 321 a1 = 13) ∧ ((v2 < 0 → Q 0 h) ∧ (0 ≤ v2 → ((h a1 1) ≤ v2 → Q 0 h) ∧ (v2 < (h a1 1) → ((am_w32 ((h a1 0) + v2)) < 0 → Q 0 h) ∧ (0 ≤ (am_w32 ((h a1 0) + v2)) → (am_kd 321 (h 218 7) = 0) ∧ (((am_ln (h 218 7)) ≤ (am_w32 ((h a1 0) + v2)) → Q 0 h) ∧ ((am_w32 ((h a1 0) + v2)) < (am_ln (h 218 7)) → ((am_w32 ((h a1 0) + v2)) < am_ln (h 218 7)) ∧ (Q (h (h 218 7) (am_w32 ((h a1 0) + v2))) h)))))))) : wf d M_X2_byteIn Q 0 [some (.inr (.inr 218)), some (.inr (.inr a1)), some (.inl v2), none] [] h := by
  intro h0
  refine ar_aload_n (pc := 0) (i := 1) (k0 := 1) (by decide +kernel) rfl rfl ?_
  obtain ⟨g1, H⟩ := H
  refine ar_getNV (pc := 1) (a := a1) (v := .inl (h a1 0)) 3 0 (by decide +kernel) g1 rfl (by decide) wg_RX2_131 rfl ?_
  refine ar_iload_n (pc := 4) (i := 2) (k0 := 2) (by decide +kernel) rfl rfl ?_
  refine ar_iadd (pc := 5) (x := (h a1 0)) (y := v2) (by decide +kernel) ?_
  refine ar_istore_n (pc := 6) (i := 3) (k0 := 3) (ls2 := [some (.inr (.inr 218)), some (.inr (.inr a1)), some (.inl v2), some (.inl (am_w32 ((h a1 0) + v2)))]) (by decide +kernel) rfl (by decide) rfl ?_
  refine ar_iload_n (pc := 7) (i := 2) (k0 := 2) (by decide +kernel) rfl rfl ?_
  refine ar_if_lt (pc := 8) (x := v2) (tgt := 41) (off := 33) (by decide +kernel) (by decide) (fun c2 => ?_) (fun c2 => ?_)
  · replace H := H.1 c2
    refine ar_iconst (pc := 41) (z := 0) (by decide +kernel) (by unfold am_i32; omega) ?_
    exact ar_iret (pc := 42) (x := 0) (by decide +kernel) rfl rfl H
  · replace H := H.2 c2
    refine ar_iload_n (pc := 11) (i := 2) (k0 := 2) (by decide +kernel) rfl rfl ?_
    refine ar_aload_n (pc := 12) (i := 1) (k0 := 1) (by decide +kernel) rfl rfl ?_
    refine ar_getNV (pc := 13) (a := a1) (v := .inl (h a1 1)) 3 1 (by decide +kernel) g1 rfl (by decide) wg_RX2_130 rfl ?_
    refine ar_icmp_ge (pc := 16) (x := v2) (y := (h a1 1)) (tgt := 41) (off := 25) (by decide +kernel) (by decide) (fun c3 => ?_) (fun c3 => ?_)
    · replace H := H.1 c3
      refine ar_iconst (pc := 41) (z := 0) (by decide +kernel) (by unfold am_i32; omega) ?_
      exact ar_iret (pc := 42) (x := 0) (by decide +kernel) rfl rfl H
    · replace H := H.2 c3
      refine ar_iload_n (pc := 19) (i := 3) (k0 := 3) (by decide +kernel) rfl rfl ?_
      refine ar_if_lt (pc := 20) (x := (am_w32 ((h a1 0) + v2))) (tgt := 41) (off := 21) (by decide +kernel) (by decide) (fun c4 => ?_) (fun c4 => ?_)
      · replace H := H.1 c4
        refine ar_iconst (pc := 41) (z := 0) (by decide +kernel) (by unfold am_i32; omega) ?_
        exact ar_iret (pc := 42) (x := 0) (by decide +kernel) rfl rfl H
      · replace H := H.2 c4
        refine ar_iload_n (pc := 23) (i := 3) (k0 := 3) (by decide +kernel) rfl rfl ?_
        refine ar_aload_n (pc := 24) (i := 0) (k0 := 0) (by decide +kernel) rfl rfl ?_
        refine ar_getV (pc := 25) (a := 218) (v := .inr (.inr (h 218 7))) 2 7 (by decide +kernel) k_218 rfl (by decide) wf_RX2_37 rfl ?_
        obtain ⟨g5, H⟩ := H
        refine ar_alen (pc := 28) (a := (h 218 7)) (by decide +kernel) (by rw [g5]; decide) ?_
        refine ar_icmp_ge (pc := 29) (x := (am_w32 ((h a1 0) + v2))) (y := (am_ln (h 218 7))) (tgt := 41) (off := 12) (by decide +kernel) (by decide) (fun c6 => ?_) (fun c6 => ?_)
        · replace H := H.1 c6
          refine ar_iconst (pc := 41) (z := 0) (by decide +kernel) (by unfold am_i32; omega) ?_
          exact ar_iret (pc := 42) (x := 0) (by decide +kernel) rfl rfl H
        · replace H := H.2 c6
          refine ar_aload_n (pc := 32) (i := 0) (k0 := 0) (by decide +kernel) rfl rfl ?_
          refine ar_getV (pc := 33) (a := 218) (v := .inr (.inr (h 218 7))) 2 7 (by decide +kernel) k_218 rfl (by decide) wf_RX2_37 rfl ?_
          refine ar_iload_n (pc := 36) (i := 3) (k0 := 3) (by decide +kernel) rfl rfl ?_
          obtain ⟨g7, H⟩ := H
          refine ar_iald (pc := 37) (a := (h 218 7)) (i := (am_w32 ((h a1 0) + v2))) (by decide +kernel) g5 c4 g7 ?_
          refine ar_goto (pc := 38) (tgt := 42) (off := 4) (by decide +kernel) (by decide) ?_
          exact ar_iret (pc := 42) (x := (h (h 218 7) (am_w32 ((h a1 0) + v2)))) (by decide +kernel) rfl rfl H

/-! ByteIntervals$Reader.answer(LByteIntervals$Text;ILByteIntervals$Reading;)I -/
theorem B_X2_answer_0 {d : Nat} {Q : Int → am_H → Prop} {h : am_H} {a1 v2 a3 : Int} (H : (am_kd 321 a1 = 15) ∧ (cf d M_J9_max_7cf53 [.inl v2, .inl 0] h (fun r2 h3 => wf (d + 1) M_X2_answer Q 16 [some (.inr (.inr 218)), none, none, some (.inr (.inr a3)), some (.inl 0), some (.inr (.inr (a1 + 4))), some (.inl r2), none, none] [] h3))) : wf (d + 1) M_X2_answer Q 0 [some (.inr (.inr 218)), some (.inr (.inr a1)), some (.inl v2), some (.inr (.inr a3)), none, none, none, none, none] [] h := by
  intro h0
  refine ar_iconst (pc := 0) (z := 0) (by decide +kernel) (by unfold am_i32; omega) ?_
  refine ar_istore (pc := 1) (i := 4) (ls2 := [some (.inr (.inr 218)), some (.inr (.inr a1)), some (.inl v2), some (.inr (.inr a3)), some (.inl 0), none, none, none, none]) (by decide +kernel) (by decide) rfl ?_
  refine ar_aload_n (pc := 3) (i := 1) (k0 := 1) (by decide +kernel) rfl rfl ?_
  obtain ⟨g1, H⟩ := H
  refine ar_getFNV (pc := 4) (a := a1) (b := (a1 + 4)) 5 4 (by decide +kernel) g1 rfl (by decide) wg_RX2_246 rfl (fun _ => rfl) rfl ?_
  refine ar_astore (pc := 7) (i := 5) (ls2 := [some (.inr (.inr 218)), some (.inr (.inr a1)), some (.inl v2), some (.inr (.inr a3)), some (.inl 0), some (.inr (.inr (a1 + 4))), none, none, none]) (by decide +kernel) (by decide) rfl ?_
  refine ar_iload_n (pc := 9) (i := 2) (k0 := 2) (by decide +kernel) rfl rfl ?_
  refine ar_iconst (pc := 10) (z := 0) (by decide +kernel) (by unfold am_i32; omega) ?_
  refine ar_callS (pc := 11) (M2 := M_J9_max_7cf53) (as := [.inl v2, .inl 0]) (n2 := 321) (st := []) (by decide +kernel) rfl wm_RX2_174 ws_yJ9_max_7cf53 wz_RJ9 wc_yJ9_max_7cf53 ⟨by decide, by decide, rfl⟩ (by decide) (Nat.le_of_ble_eq_true rfl) (Nat.le_refl _) (Nat.le_refl _) (am_Cl_mono H (fun r2 h3 H => ?_))
  show am_Wp true (d + 1) M_X2_answer 321 321 h0 Q 14 [some (.inr (.inr 218)), some (.inr (.inr a1)), some (.inl v2), some (.inr (.inr a3)), some (.inl 0), some (.inr (.inr (a1 + 4))), none, none, none] [.inl r2] 321 h3
  refine ar_istore (pc := 14) (i := 6) (ls2 := [some (.inr (.inr 218)), some (.inr (.inr a1)), some (.inl v2), some (.inr (.inr a3)), some (.inl 0), some (.inr (.inr (a1 + 4))), some (.inl r2), none, none]) (by decide +kernel) (by decide) rfl ?_
  refine ar_forget [true, false, false, true, true, true, true, true, true] rfl ?_
  exact H h0
theorem B_X2_answer_16 {d : Nat} {Q : Int → am_H → Prop} {h : am_H} {a1 a3 v4 v6 : Int} (H : (am_kd 321 (a1 + 4) = 0) ∧ (((am_ln (a1 + 4)) ≤ v6 → wf (d + 1) M_X2_answer Q 264 [some (.inr (.inr 218)), none, none, none, some (.inl v4), none, none, none, none] [] h) ∧ (v6 < (am_ln (a1 + 4)) → (0 ≤ v6) ∧ ((v6 < am_ln (a1 + 4)) ∧ ((6 < (am_iand (h (a1 + 4) v6) 31) → wf (d + 1) M_X2_answer Q 84 [some (.inr (.inr 218)), none, none, some (.inr (.inr a3)), some (.inl v4), some (.inr (.inr (a1 + 4))), some (.inl v6), some (.inl (am_iand (h (a1 + 4) v6) 31)), some (.inl (am_ishr (h (a1 + 4) v6) 5))] [] h) ∧ ((am_iand (h (a1 + 4) v6) 31) ≤ 6 → (v4 < 0 → wf (d + 1) M_X2_answer Q 84 [some (.inr (.inr 218)), none, none, some (.inr (.inr a3)), some (.inl v4), some (.inr (.inr (a1 + 4))), some (.inl v6), some (.inl (am_iand (h (a1 + 4) v6) 31)), some (.inl (am_ishr (h (a1 + 4) v6) 5))] [] h) ∧ (0 ≤ v4 → (64 ≤ v4 → wf (d + 1) M_X2_answer Q 84 [some (.inr (.inr 218)), none, none, some (.inr (.inr a3)), some (.inl v4), some (.inr (.inr (a1 + 4))), some (.inl v6), some (.inl (am_iand (h (a1 + 4) v6) 31)), some (.inl (am_ishr (h (a1 + 4) v6) 5))] [] h) ∧ (v4 < 64 → cf d M_X2_leaf [.inr (.inr 218), .inl (am_iand (h (a1 + 4) v6) 31), .inl (am_ishr (h (a1 + 4) v6) 5), .inr (.inr a3)] h (fun r8 h9 => wf (d + 1) M_X2_answer Q 258 [some (.inr (.inr 218)), none, none, some (.inr (.inr a3)), some (.inl (am_w32 (v4 + 1))), some (.inr (.inr (a1 + 4))), some (.inl v6), none, none] [] (am_up h9 219 v4 r8)))))))))) : wf (d + 1) M_X2_answer Q 16 [some (.inr (.inr 218)), none, none, some (.inr (.inr a3)), some (.inl v4), some (.inr (.inr (a1 + 4))), some (.inl v6), none, none] [] h := by
  intro h0
  refine ar_iload (pc := 16) (i := 6) (by decide +kernel) rfl ?_
  refine ar_aload (pc := 18) (i := 5) (by decide +kernel) rfl ?_
  obtain ⟨g1, H⟩ := H
  refine ar_alen (pc := 20) (a := (a1 + 4)) (by decide +kernel) (by rw [g1]; decide) ?_
  refine ar_icmp_ge (pc := 21) (x := v6) (y := (am_ln (a1 + 4))) (tgt := 264) (off := 243) (by decide +kernel) (by decide) (fun c2 => ?_) (fun c2 => ?_)
  · replace H := H.1 c2
    refine ar_forget [true, true, true, false, true, false, false, true, true] rfl ?_
    exact H h0
  · replace H := H.2 c2
    refine ar_aload (pc := 24) (i := 5) (by decide +kernel) rfl ?_
    refine ar_iload (pc := 26) (i := 6) (by decide +kernel) rfl ?_
    obtain ⟨g3, H⟩ := H
    obtain ⟨g4, H⟩ := H
    refine ar_iald (pc := 28) (a := (a1 + 4)) (i := v6) (by decide +kernel) g1 g3 g4 ?_
    refine ar_bipush (pc := 29) (z := 31) (by decide +kernel) (by omega) ?_
    refine ar_iand (pc := 31) (x := (h (a1 + 4) v6)) (y := 31) (by decide +kernel) ?_
    refine ar_istore (pc := 32) (i := 7) (ls2 := [some (.inr (.inr 218)), none, none, some (.inr (.inr a3)), some (.inl v4), some (.inr (.inr (a1 + 4))), some (.inl v6), some (.inl (am_iand (h (a1 + 4) v6) 31)), none]) (by decide +kernel) (by decide) rfl ?_
    refine ar_aload (pc := 34) (i := 5) (by decide +kernel) rfl ?_
    refine ar_iload (pc := 36) (i := 6) (by decide +kernel) rfl ?_
    refine ar_iald (pc := 38) (a := (a1 + 4)) (i := v6) (by decide +kernel) g1 g3 g4 ?_
    refine ar_iconst (pc := 39) (z := 5) (by decide +kernel) (by unfold am_i32; omega) ?_
    refine ar_ishr (pc := 40) (x := (h (a1 + 4) v6)) (y := 5) (by decide +kernel) ?_
    refine ar_istore (pc := 41) (i := 8) (ls2 := [some (.inr (.inr 218)), none, none, some (.inr (.inr a3)), some (.inl v4), some (.inr (.inr (a1 + 4))), some (.inl v6), some (.inl (am_iand (h (a1 + 4) v6) 31)), some (.inl (am_ishr (h (a1 + 4) v6) 5))]) (by decide +kernel) (by decide) rfl ?_
    refine ar_iload (pc := 43) (i := 7) (by decide +kernel) rfl ?_
    refine ar_bipush (pc := 45) (z := 6) (by decide +kernel) (by omega) ?_
    refine ar_icmp_gt (pc := 47) (x := (am_iand (h (a1 + 4) v6) 31)) (y := 6) (tgt := 84) (off := 37) (by decide +kernel) (by decide) (fun c5 => ?_) (fun c5 => ?_)
    · replace H := H.1 c5
      exact H h0
    · replace H := H.2 c5
      refine ar_iload (pc := 50) (i := 4) (by decide +kernel) rfl ?_
      refine ar_if_lt (pc := 52) (x := v4) (tgt := 84) (off := 32) (by decide +kernel) (by decide) (fun c6 => ?_) (fun c6 => ?_)
      · replace H := H.1 c6
        exact H h0
      · replace H := H.2 c6
        refine ar_iload (pc := 55) (i := 4) (by decide +kernel) rfl ?_
        refine ar_bipush (pc := 57) (z := 64) (by decide +kernel) (by omega) ?_
        refine ar_icmp_ge (pc := 59) (x := v4) (y := 64) (tgt := 84) (off := 25) (by decide +kernel) (by decide) (fun c7 => ?_) (fun c7 => ?_)
        · replace H := H.1 c7
          exact H h0
        · replace H := H.2 c7
          refine ar_aload_n (pc := 62) (i := 0) (k0 := 0) (by decide +kernel) rfl rfl ?_
          refine ar_getFV (pc := 63) (a := 218) (b := 219) 2 0 (by decide +kernel) k_218 rfl (by decide) wf_RX2_9 rfl (fun _ => rfl) rfl ?_
          refine ar_iload (pc := 66) (i := 4) (by decide +kernel) rfl ?_
          refine ar_aload_n (pc := 68) (i := 0) (k0 := 0) (by decide +kernel) rfl rfl ?_
          refine ar_iload (pc := 69) (i := 7) (by decide +kernel) rfl ?_
          refine ar_iload (pc := 71) (i := 8) (by decide +kernel) rfl ?_
          refine ar_aload_n (pc := 73) (i := 3) (k0 := 3) (by decide +kernel) rfl rfl ?_
          refine ar_callV (pc := 74) (M2 := M_X2_leaf) (a := 218) (ci := 2) (as := [.inl (am_iand (h (a1 + 4) v6) 31), .inl (am_ishr (h (a1 + 4) v6) 5), .inr (.inr a3)]) (n2 := 321) (st := [.inl v4, .inr (.inr 219)]) (by decide +kernel) rfl wm_RX2_249 wi_yX2_leaf wl_yX2_leaf k_218 rfl wz_RX2 wc_yX2_leaf ⟨by decide, by decide, rfl⟩ (by decide) (Nat.le_of_ble_eq_true rfl) (Nat.le_refl _) (Nat.le_refl _) (am_Cl_mono H (fun r8 h9 H => ?_))
          show am_Wp true (d + 1) M_X2_answer 321 321 h0 Q 77 [some (.inr (.inr 218)), none, none, some (.inr (.inr a3)), some (.inl v4), some (.inr (.inr (a1 + 4))), some (.inl v6), some (.inl (am_iand (h (a1 + 4) v6) 31)), some (.inl (am_ishr (h (a1 + 4) v6) 5))] [.inl r8, .inl v4, .inr (.inr 219)] 321 h9
          refine ar_iast (pc := 77) (a := 219) (i := v4) (z := r8) (by decide +kernel) k_219 c6 (am_lt_eq c7 (l_219).symm) ?_
          refine ar_iinc (pc := 78) (i := 4) (z := 1) (x := v4) (ls2 := [some (.inr (.inr 218)), none, none, some (.inr (.inr a3)), some (.inl (am_w32 (v4 + 1))), some (.inr (.inr (a1 + 4))), some (.inl v6), some (.inl (am_iand (h (a1 + 4) v6) 31)), some (.inl (am_ishr (h (a1 + 4) v6) 5))]) (by decide +kernel) rfl (by decide) rfl ?_
          refine ar_goto (pc := 81) (tgt := 258) (off := 177) (by decide +kernel) (by decide) ?_
          refine ar_forget [true, true, true, true, true, true, true, false, false] rfl ?_
          exact H h0
theorem B_X2_answer_84 {d : Nat} {Q : Int → am_H → Prop} {h : am_H} {a1 a3 v4 v6 v7 v8 : Int} (H : (9 < v7 → wf (d + 1) M_X2_answer Q 132 [some (.inr (.inr 218)), none, none, some (.inr (.inr a3)), some (.inl v4), some (.inr (.inr (a1 + 4))), some (.inl v6), some (.inl v7), some (.inl v8)] [] h) ∧ (v7 ≤ 9 → (v4 < 1 → wf (d + 1) M_X2_answer Q 132 [some (.inr (.inr 218)), none, none, some (.inr (.inr a3)), some (.inl v4), some (.inr (.inr (a1 + 4))), some (.inl v6), some (.inl v7), some (.inl v8)] [] h) ∧ (1 ≤ v4 → (64 < v4 → wf (d + 1) M_X2_answer Q 132 [some (.inr (.inr 218)), none, none, some (.inr (.inr a3)), some (.inl v4), some (.inr (.inr (a1 + 4))), some (.inl v6), some (.inl v7), some (.inl v8)] [] h) ∧ (v4 ≤ 64 → (0 ≤ (am_w32 (v4 - 1))) ∧ (((am_w32 (v4 - 1)) < 64) ∧ (cf d M_X2_ofOne [.inr (.inr 218), .inl v7, .inl (h 219 (am_w32 (v4 - 1))), .inr (.inr a3)] h (fun r6 h7 => wf (d + 1) M_X2_answer Q 258 [some (.inr (.inr 218)), none, none, some (.inr (.inr a3)), some (.inl v4), some (.inr (.inr (a1 + 4))), some (.inl v6), none, none] [] (am_up h7 219 (am_w32 (v4 - 1)) r6)))))))) : wf (d + 1) M_X2_answer Q 84 [some (.inr (.inr 218)), none, none, some (.inr (.inr a3)), some (.inl v4), some (.inr (.inr (a1 + 4))), some (.inl v6), some (.inl v7), some (.inl v8)] [] h := by
  intro h0
  refine ar_iload (pc := 84) (i := 7) (by decide +kernel) rfl ?_
  refine ar_bipush (pc := 86) (z := 9) (by decide +kernel) (by omega) ?_
  refine ar_icmp_gt (pc := 88) (x := v7) (y := 9) (tgt := 132) (off := 44) (by decide +kernel) (by decide) (fun c1 => ?_) (fun c1 => ?_)
  · replace H := H.1 c1
    exact H h0
  · replace H := H.2 c1
    refine ar_iload (pc := 91) (i := 4) (by decide +kernel) rfl ?_
    refine ar_iconst (pc := 93) (z := 1) (by decide +kernel) (by unfold am_i32; omega) ?_
    refine ar_icmp_lt (pc := 94) (x := v4) (y := 1) (tgt := 132) (off := 38) (by decide +kernel) (by decide) (fun c2 => ?_) (fun c2 => ?_)
    · replace H := H.1 c2
      exact H h0
    · replace H := H.2 c2
      refine ar_iload (pc := 97) (i := 4) (by decide +kernel) rfl ?_
      refine ar_bipush (pc := 99) (z := 64) (by decide +kernel) (by omega) ?_
      refine ar_icmp_gt (pc := 101) (x := v4) (y := 64) (tgt := 132) (off := 31) (by decide +kernel) (by decide) (fun c3 => ?_) (fun c3 => ?_)
      · replace H := H.1 c3
        exact H h0
      · replace H := H.2 c3
        refine ar_aload_n (pc := 104) (i := 0) (k0 := 0) (by decide +kernel) rfl rfl ?_
        refine ar_getFV (pc := 105) (a := 218) (b := 219) 2 0 (by decide +kernel) k_218 rfl (by decide) wf_RX2_9 rfl (fun _ => rfl) rfl ?_
        refine ar_iload (pc := 108) (i := 4) (by decide +kernel) rfl ?_
        refine ar_iconst (pc := 110) (z := 1) (by decide +kernel) (by unfold am_i32; omega) ?_
        refine ar_isub (pc := 111) (x := v4) (y := 1) (by decide +kernel) ?_
        refine ar_aload_n (pc := 112) (i := 0) (k0 := 0) (by decide +kernel) rfl rfl ?_
        refine ar_iload (pc := 113) (i := 7) (by decide +kernel) rfl ?_
        refine ar_aload_n (pc := 115) (i := 0) (k0 := 0) (by decide +kernel) rfl rfl ?_
        refine ar_getFV (pc := 116) (a := 218) (b := 219) 2 0 (by decide +kernel) k_218 rfl (by decide) wf_RX2_9 rfl (fun _ => rfl) rfl ?_
        refine ar_iload (pc := 119) (i := 4) (by decide +kernel) rfl ?_
        refine ar_iconst (pc := 121) (z := 1) (by decide +kernel) (by unfold am_i32; omega) ?_
        refine ar_isub (pc := 122) (x := v4) (y := 1) (by decide +kernel) ?_
        obtain ⟨g4, H⟩ := H
        obtain ⟨g5, H⟩ := H
        refine ar_iald (pc := 123) (a := 219) (i := (am_w32 (v4 - 1))) (by decide +kernel) k_219 g4 (am_lt_eq g5 (l_219).symm) ?_
        refine ar_aload_n (pc := 124) (i := 3) (k0 := 3) (by decide +kernel) rfl rfl ?_
        refine ar_callV (pc := 125) (M2 := M_X2_ofOne) (a := 218) (ci := 2) (as := [.inl v7, .inl (h 219 (am_w32 (v4 - 1))), .inr (.inr a3)]) (n2 := 321) (st := [.inl (am_w32 (v4 - 1)), .inr (.inr 219)]) (by decide +kernel) rfl wm_RX2_253 wi_yX2_ofOne wl_yX2_ofOne k_218 rfl wz_RX2 wc_yX2_ofOne ⟨by decide, by decide, rfl⟩ (by decide) (Nat.le_of_ble_eq_true rfl) (Nat.le_refl _) (Nat.le_refl _) (am_Cl_mono H (fun r6 h7 H => ?_))
        show am_Wp true (d + 1) M_X2_answer 321 321 h0 Q 128 [some (.inr (.inr 218)), none, none, some (.inr (.inr a3)), some (.inl v4), some (.inr (.inr (a1 + 4))), some (.inl v6), some (.inl v7), some (.inl v8)] [.inl r6, .inl (am_w32 (v4 - 1)), .inr (.inr 219)] 321 h7
        refine ar_iast (pc := 128) (a := 219) (i := (am_w32 (v4 - 1))) (z := r6) (by decide +kernel) k_219 g4 (am_lt_eq g5 (l_219).symm) ?_
        refine ar_goto (pc := 129) (tgt := 258) (off := 129) (by decide +kernel) (by decide) ?_
        refine ar_forget [true, true, true, true, true, true, true, false, false] rfl ?_
        exact H h0
theorem B_X2_answer_132 {d : Nat} {Q : Int → am_H → Prop} {h : am_H} {a1 a3 v4 v6 v7 v8 : Int} (H : (21 < v7 → wf (d + 1) M_X2_answer Q 188 [some (.inr (.inr 218)), none, none, some (.inr (.inr a3)), some (.inl v4), some (.inr (.inr (a1 + 4))), some (.inl v6), some (.inl v7), some (.inl v8)] [] h) ∧ (v7 ≤ 21 → (v4 < 2 → wf (d + 1) M_X2_answer Q 188 [some (.inr (.inr 218)), none, none, some (.inr (.inr a3)), some (.inl v4), some (.inr (.inr (a1 + 4))), some (.inl v6), some (.inl v7), some (.inl v8)] [] h) ∧ (2 ≤ v4 → (64 < v4 → wf (d + 1) M_X2_answer Q 188 [some (.inr (.inr 218)), none, none, some (.inr (.inr a3)), some (.inl v4), some (.inr (.inr (a1 + 4))), some (.inl v6), some (.inl v7), some (.inl v8)] [] h) ∧ (v4 ≤ 64 → (0 ≤ (am_w32 ((am_w32 (v4 + (-1))) - 1))) ∧ (((am_w32 ((am_w32 (v4 + (-1))) - 1)) < 64) ∧ ((0 ≤ (am_w32 (v4 + (-1)))) ∧ (((am_w32 (v4 + (-1))) < 64) ∧ (cf d M_X2_ofTwo [.inl v7, .inl (h 219 (am_w32 ((am_w32 (v4 + (-1))) - 1))), .inl (h 219 (am_w32 (v4 + (-1))))] h (fun r8 h9 => wf (d + 1) M_X2_answer Q 258 [some (.inr (.inr 218)), none, none, some (.inr (.inr a3)), some (.inl (am_w32 (v4 + (-1)))), some (.inr (.inr (a1 + 4))), some (.inl v6), none, none] [] (am_up h9 219 (am_w32 ((am_w32 (v4 + (-1))) - 1)) r8)))))))))) : wf (d + 1) M_X2_answer Q 132 [some (.inr (.inr 218)), none, none, some (.inr (.inr a3)), some (.inl v4), some (.inr (.inr (a1 + 4))), some (.inl v6), some (.inl v7), some (.inl v8)] [] h := by
  intro h0
  refine ar_iload (pc := 132) (i := 7) (by decide +kernel) rfl ?_
  refine ar_bipush (pc := 134) (z := 21) (by decide +kernel) (by omega) ?_
  refine ar_icmp_gt (pc := 136) (x := v7) (y := 21) (tgt := 188) (off := 52) (by decide +kernel) (by decide) (fun c1 => ?_) (fun c1 => ?_)
  · replace H := H.1 c1
    exact H h0
  · replace H := H.2 c1
    refine ar_iload (pc := 139) (i := 4) (by decide +kernel) rfl ?_
    refine ar_iconst (pc := 141) (z := 2) (by decide +kernel) (by unfold am_i32; omega) ?_
    refine ar_icmp_lt (pc := 142) (x := v4) (y := 2) (tgt := 188) (off := 46) (by decide +kernel) (by decide) (fun c2 => ?_) (fun c2 => ?_)
    · replace H := H.1 c2
      exact H h0
    · replace H := H.2 c2
      refine ar_iload (pc := 145) (i := 4) (by decide +kernel) rfl ?_
      refine ar_bipush (pc := 147) (z := 64) (by decide +kernel) (by omega) ?_
      refine ar_icmp_gt (pc := 149) (x := v4) (y := 64) (tgt := 188) (off := 39) (by decide +kernel) (by decide) (fun c3 => ?_) (fun c3 => ?_)
      · replace H := H.1 c3
        exact H h0
      · replace H := H.2 c3
        refine ar_iinc (pc := 152) (i := 4) (z := (-1)) (x := v4) (ls2 := [some (.inr (.inr 218)), none, none, some (.inr (.inr a3)), some (.inl (am_w32 (v4 + (-1)))), some (.inr (.inr (a1 + 4))), some (.inl v6), some (.inl v7), some (.inl v8)]) (by decide +kernel) rfl (by decide) rfl ?_
        refine ar_aload_n (pc := 155) (i := 0) (k0 := 0) (by decide +kernel) rfl rfl ?_
        refine ar_getFV (pc := 156) (a := 218) (b := 219) 2 0 (by decide +kernel) k_218 rfl (by decide) wf_RX2_9 rfl (fun _ => rfl) rfl ?_
        refine ar_iload (pc := 159) (i := 4) (by decide +kernel) rfl ?_
        refine ar_iconst (pc := 161) (z := 1) (by decide +kernel) (by unfold am_i32; omega) ?_
        refine ar_isub (pc := 162) (x := (am_w32 (v4 + (-1)))) (y := 1) (by decide +kernel) ?_
        refine ar_iload (pc := 163) (i := 7) (by decide +kernel) rfl ?_
        refine ar_aload_n (pc := 165) (i := 0) (k0 := 0) (by decide +kernel) rfl rfl ?_
        refine ar_getFV (pc := 166) (a := 218) (b := 219) 2 0 (by decide +kernel) k_218 rfl (by decide) wf_RX2_9 rfl (fun _ => rfl) rfl ?_
        refine ar_iload (pc := 169) (i := 4) (by decide +kernel) rfl ?_
        refine ar_iconst (pc := 171) (z := 1) (by decide +kernel) (by unfold am_i32; omega) ?_
        refine ar_isub (pc := 172) (x := (am_w32 (v4 + (-1)))) (y := 1) (by decide +kernel) ?_
        obtain ⟨g4, H⟩ := H
        obtain ⟨g5, H⟩ := H
        refine ar_iald (pc := 173) (a := 219) (i := (am_w32 ((am_w32 (v4 + (-1))) - 1))) (by decide +kernel) k_219 g4 (am_lt_eq g5 (l_219).symm) ?_
        refine ar_aload_n (pc := 174) (i := 0) (k0 := 0) (by decide +kernel) rfl rfl ?_
        refine ar_getFV (pc := 175) (a := 218) (b := 219) 2 0 (by decide +kernel) k_218 rfl (by decide) wf_RX2_9 rfl (fun _ => rfl) rfl ?_
        refine ar_iload (pc := 178) (i := 4) (by decide +kernel) rfl ?_
        obtain ⟨g6, H⟩ := H
        obtain ⟨g7, H⟩ := H
        refine ar_iald (pc := 180) (a := 219) (i := (am_w32 (v4 + (-1)))) (by decide +kernel) k_219 g6 (am_lt_eq g7 (l_219).symm) ?_
        refine ar_callS (pc := 181) (M2 := M_X2_ofTwo) (as := [.inl v7, .inl (h 219 (am_w32 ((am_w32 (v4 + (-1))) - 1))), .inl (h 219 (am_w32 (v4 + (-1))))]) (n2 := 321) (st := [.inl (am_w32 ((am_w32 (v4 + (-1))) - 1)), .inr (.inr 219)]) (by decide +kernel) rfl wm_RX2_256 ws_yX2_ofTwo wz_RX2 wc_yX2_ofTwo ⟨by decide, by decide, rfl⟩ (by decide) (Nat.le_of_ble_eq_true rfl) (Nat.le_refl _) (Nat.le_refl _) (am_Cl_mono H (fun r8 h9 H => ?_))
        show am_Wp true (d + 1) M_X2_answer 321 321 h0 Q 184 [some (.inr (.inr 218)), none, none, some (.inr (.inr a3)), some (.inl (am_w32 (v4 + (-1)))), some (.inr (.inr (a1 + 4))), some (.inl v6), some (.inl v7), some (.inl v8)] [.inl r8, .inl (am_w32 ((am_w32 (v4 + (-1))) - 1)), .inr (.inr 219)] 321 h9
        refine ar_iast (pc := 184) (a := 219) (i := (am_w32 ((am_w32 (v4 + (-1))) - 1))) (z := r8) (by decide +kernel) k_219 g4 (am_lt_eq g5 (l_219).symm) ?_
        refine ar_goto (pc := 185) (tgt := 258) (off := 73) (by decide +kernel) (by decide) ?_
        refine ar_forget [true, true, true, true, true, true, true, false, false] rfl ?_
        exact H h0
theorem B_X2_answer_188 {d : Nat} {Q : Int → am_H → Prop} {h : am_H} {a1 a3 v4 v6 v7 v8 : Int} (H : (¬ v7 = 22 → wf (d + 1) M_X2_answer Q 240 [some (.inr (.inr 218)), none, none, some (.inr (.inr a3)), some (.inl v4), some (.inr (.inr (a1 + 4))), some (.inl v6), some (.inl v7), some (.inl v8)] [] h) ∧ (v7 = 22 → (v4 < 1 → wf (d + 1) M_X2_answer Q 240 [some (.inr (.inr 218)), none, none, some (.inr (.inr a3)), some (.inl v4), some (.inr (.inr (a1 + 4))), some (.inl v6), some (.inl v7), some (.inl v8)] [] h) ∧ (1 ≤ v4 → (64 < v4 → wf (d + 1) M_X2_answer Q 240 [some (.inr (.inr 218)), none, none, some (.inr (.inr a3)), some (.inl v4), some (.inr (.inr (a1 + 4))), some (.inl v6), some (.inl v7), some (.inl v8)] [] h) ∧ (v4 ≤ 64 → (0 ≤ (am_w32 (v4 + (-1)))) ∧ (((am_w32 (v4 + (-1))) < 64) ∧ ((¬ (h 219 (am_w32 (v4 + (-1)))) = 0 → wf (d + 1) M_X2_answer Q 235 [some (.inr (.inr 218)), none, none, some (.inr (.inr a3)), some (.inl (am_w32 (v4 + (-1)))), some (.inr (.inr (a1 + 4))), none, none, none] [.inl v6] h) ∧ ((h 219 (am_w32 (v4 + (-1)))) = 0 → cf d M_J9_max_7cf53 [.inl v6, .inl (am_w32 (v8 - 1))] h (fun r7 h8 => wf (d + 1) M_X2_answer Q 235 [some (.inr (.inr 218)), none, none, some (.inr (.inr a3)), some (.inl (am_w32 (v4 + (-1)))), some (.inr (.inr (a1 + 4))), none, none, none] [.inl r7] h8)))))))) : wf (d + 1) M_X2_answer Q 188 [some (.inr (.inr 218)), none, none, some (.inr (.inr a3)), some (.inl v4), some (.inr (.inr (a1 + 4))), some (.inl v6), some (.inl v7), some (.inl v8)] [] h := by
  intro h0
  refine ar_iload (pc := 188) (i := 7) (by decide +kernel) rfl ?_
  refine ar_bipush (pc := 190) (z := 22) (by decide +kernel) (by omega) ?_
  refine ar_icmp_ne (pc := 192) (x := v7) (y := 22) (tgt := 240) (off := 48) (by decide +kernel) (by decide) (fun c1 => ?_) (fun c1 => ?_)
  · replace H := H.1 c1
    exact H h0
  · replace H := H.2 c1
    refine ar_iload (pc := 195) (i := 4) (by decide +kernel) rfl ?_
    refine ar_iconst (pc := 197) (z := 1) (by decide +kernel) (by unfold am_i32; omega) ?_
    refine ar_icmp_lt (pc := 198) (x := v4) (y := 1) (tgt := 240) (off := 42) (by decide +kernel) (by decide) (fun c2 => ?_) (fun c2 => ?_)
    · replace H := H.1 c2
      exact H h0
    · replace H := H.2 c2
      refine ar_iload (pc := 201) (i := 4) (by decide +kernel) rfl ?_
      refine ar_bipush (pc := 203) (z := 64) (by decide +kernel) (by omega) ?_
      refine ar_icmp_gt (pc := 205) (x := v4) (y := 64) (tgt := 240) (off := 35) (by decide +kernel) (by decide) (fun c3 => ?_) (fun c3 => ?_)
      · replace H := H.1 c3
        exact H h0
      · replace H := H.2 c3
        refine ar_iinc (pc := 208) (i := 4) (z := (-1)) (x := v4) (ls2 := [some (.inr (.inr 218)), none, none, some (.inr (.inr a3)), some (.inl (am_w32 (v4 + (-1)))), some (.inr (.inr (a1 + 4))), some (.inl v6), some (.inl v7), some (.inl v8)]) (by decide +kernel) rfl (by decide) rfl ?_
        refine ar_aload_n (pc := 211) (i := 0) (k0 := 0) (by decide +kernel) rfl rfl ?_
        refine ar_getFV (pc := 212) (a := 218) (b := 219) 2 0 (by decide +kernel) k_218 rfl (by decide) wf_RX2_9 rfl (fun _ => rfl) rfl ?_
        refine ar_iload (pc := 215) (i := 4) (by decide +kernel) rfl ?_
        obtain ⟨g4, H⟩ := H
        obtain ⟨g5, H⟩ := H
        refine ar_iald (pc := 217) (a := 219) (i := (am_w32 (v4 + (-1)))) (by decide +kernel) k_219 g4 (am_lt_eq g5 (l_219).symm) ?_
        refine ar_if_ne (pc := 218) (x := (h 219 (am_w32 (v4 + (-1))))) (tgt := 233) (off := 15) (by decide +kernel) (by decide) (fun c6 => ?_) (fun c6 => ?_)
        · replace H := H.1 c6
          refine ar_iload (pc := 233) (i := 6) (by decide +kernel) rfl ?_
          refine ar_forget [true, true, true, true, true, true, false, false, false] rfl ?_
          exact H h0
        · replace H := H.2 c6
          refine ar_iload (pc := 221) (i := 6) (by decide +kernel) rfl ?_
          refine ar_iload (pc := 223) (i := 8) (by decide +kernel) rfl ?_
          refine ar_iconst (pc := 225) (z := 1) (by decide +kernel) (by unfold am_i32; omega) ?_
          refine ar_isub (pc := 226) (x := v8) (y := 1) (by decide +kernel) ?_
          refine ar_callS (pc := 227) (M2 := M_J9_max_7cf53) (as := [.inl v6, .inl (am_w32 (v8 - 1))]) (n2 := 321) (st := []) (by decide +kernel) rfl wm_RX2_174 ws_yJ9_max_7cf53 wz_RJ9 wc_yJ9_max_7cf53 ⟨by decide, by decide, rfl⟩ (by decide) (Nat.le_of_ble_eq_true rfl) (Nat.le_refl _) (Nat.le_refl _) (am_Cl_mono H (fun r7 h8 H => ?_))
          show am_Wp true (d + 1) M_X2_answer 321 321 h0 Q 230 [some (.inr (.inr 218)), none, none, some (.inr (.inr a3)), some (.inl (am_w32 (v4 + (-1)))), some (.inr (.inr (a1 + 4))), some (.inl v6), some (.inl v7), some (.inl v8)] [.inl r7] 321 h8
          refine ar_goto (pc := 230) (tgt := 235) (off := 5) (by decide +kernel) (by decide) ?_
          refine ar_forget [true, true, true, true, true, true, false, false, false] rfl ?_
          exact H h0
theorem B_X2_answer_235 {d : Nat} {Q : Int → am_H → Prop} {h : am_H} {a1 a3 v4 s0 : Int} (H : wf (d + 1) M_X2_answer Q 258 [some (.inr (.inr 218)), none, none, some (.inr (.inr a3)), some (.inl v4), some (.inr (.inr (a1 + 4))), some (.inl s0), none, none] [] h) : wf (d + 1) M_X2_answer Q 235 [some (.inr (.inr 218)), none, none, some (.inr (.inr a3)), some (.inl v4), some (.inr (.inr (a1 + 4))), none, none, none] [.inl s0] h := by
  intro h0
  refine ar_istore (pc := 235) (i := 6) (ls2 := [some (.inr (.inr 218)), none, none, some (.inr (.inr a3)), some (.inl v4), some (.inr (.inr (a1 + 4))), some (.inl s0), none, none]) (by decide +kernel) (by decide) rfl ?_
  refine ar_goto (pc := 237) (tgt := 258) (off := 21) (by decide +kernel) (by decide) ?_
  exact H h0
theorem B_X2_answer_240 {d : Nat} {Q : Int → am_H → Prop} {h : am_H} {a1 a3 v4 v6 v7 v8 : Int} (H : (¬ v7 = 23 → wf (d + 1) M_X2_answer Q 264 [some (.inr (.inr 218)), none, none, none, some (.inl v4), none, none, none, none] [] h) ∧ (v7 = 23 → cf d M_J9_max_7cf53 [.inl v6, .inl (am_w32 (v8 - 1))] h (fun r2 h3 => wf (d + 1) M_X2_answer Q 258 [some (.inr (.inr 218)), none, none, some (.inr (.inr a3)), some (.inl v4), some (.inr (.inr (a1 + 4))), some (.inl r2), none, none] [] h3))) : wf (d + 1) M_X2_answer Q 240 [some (.inr (.inr 218)), none, none, some (.inr (.inr a3)), some (.inl v4), some (.inr (.inr (a1 + 4))), some (.inl v6), some (.inl v7), some (.inl v8)] [] h := by
  intro h0
  refine ar_iload (pc := 240) (i := 7) (by decide +kernel) rfl ?_
  refine ar_bipush (pc := 242) (z := 23) (by decide +kernel) (by omega) ?_
  refine ar_icmp_ne (pc := 244) (x := v7) (y := 23) (tgt := 264) (off := 20) (by decide +kernel) (by decide) (fun c1 => ?_) (fun c1 => ?_)
  · replace H := H.1 c1
    refine ar_forget [true, true, true, false, true, false, false, false, false] rfl ?_
    exact H h0
  · replace H := H.2 c1
    refine ar_iload (pc := 247) (i := 6) (by decide +kernel) rfl ?_
    refine ar_iload (pc := 249) (i := 8) (by decide +kernel) rfl ?_
    refine ar_iconst (pc := 251) (z := 1) (by decide +kernel) (by unfold am_i32; omega) ?_
    refine ar_isub (pc := 252) (x := v8) (y := 1) (by decide +kernel) ?_
    refine ar_callS (pc := 253) (M2 := M_J9_max_7cf53) (as := [.inl v6, .inl (am_w32 (v8 - 1))]) (n2 := 321) (st := []) (by decide +kernel) rfl wm_RX2_174 ws_yJ9_max_7cf53 wz_RJ9 wc_yJ9_max_7cf53 ⟨by decide, by decide, rfl⟩ (by decide) (Nat.le_of_ble_eq_true rfl) (Nat.le_refl _) (Nat.le_refl _) (am_Cl_mono H (fun r2 h3 H => ?_))
    show am_Wp true (d + 1) M_X2_answer 321 321 h0 Q 256 [some (.inr (.inr 218)), none, none, some (.inr (.inr a3)), some (.inl v4), some (.inr (.inr (a1 + 4))), some (.inl v6), some (.inl v7), some (.inl v8)] [.inl r2] 321 h3
    refine ar_istore (pc := 256) (i := 6) (ls2 := [some (.inr (.inr 218)), none, none, some (.inr (.inr a3)), some (.inl v4), some (.inr (.inr (a1 + 4))), some (.inl r2), some (.inl v7), some (.inl v8)]) (by decide +kernel) (by decide) rfl ?_
    refine ar_forget [true, true, true, true, true, true, true, false, false] rfl ?_
    exact H h0
theorem B_X2_answer_258 {d : Nat} {Q : Int → am_H → Prop} {h : am_H} {a1 a3 v4 v6 : Int} (H : wf (d + 1) M_X2_answer Q 16 [some (.inr (.inr 218)), none, none, some (.inr (.inr a3)), some (.inl v4), some (.inr (.inr (a1 + 4))), some (.inl (am_w32 (v6 + 1))), none, none] [] h) : wf (d + 1) M_X2_answer Q 258 [some (.inr (.inr 218)), none, none, some (.inr (.inr a3)), some (.inl v4), some (.inr (.inr (a1 + 4))), some (.inl v6), none, none] [] h := by
  intro h0
  refine ar_iinc (pc := 258) (i := 6) (z := 1) (x := v6) (ls2 := [some (.inr (.inr 218)), none, none, some (.inr (.inr a3)), some (.inl v4), some (.inr (.inr (a1 + 4))), some (.inl (am_w32 (v6 + 1))), none, none]) (by decide +kernel) rfl (by decide) rfl ?_
  refine ar_goto (pc := 261) (tgt := 16) (off := -245) (by decide +kernel) (by decide) ?_
  exact H h0
theorem B_X2_answer_264 {d : Nat} {Q : Int → am_H → Prop} {h : am_H} {v4 : Int} (H : (v4 < 1 → Q 0 h) ∧ (1 ≤ v4 → (64 < v4 → Q 0 h) ∧ (v4 ≤ 64 → (0 ≤ (am_w32 (v4 - 1))) ∧ (((am_w32 (v4 - 1)) < 64) ∧ (Q (h 219 (am_w32 (v4 - 1))) h))))) : wf (d + 1) M_X2_answer Q 264 [some (.inr (.inr 218)), none, none, none, some (.inl v4), none, none, none, none] [] h := by
  intro h0
  refine ar_iload (pc := 264) (i := 4) (by decide +kernel) rfl ?_
  refine ar_iconst (pc := 266) (z := 1) (by decide +kernel) (by unfold am_i32; omega) ?_
  refine ar_icmp_lt (pc := 267) (x := v4) (y := 1) (tgt := 289) (off := 22) (by decide +kernel) (by decide) (fun c1 => ?_) (fun c1 => ?_)
  · replace H := H.1 c1
    refine ar_iconst (pc := 289) (z := 0) (by decide +kernel) (by unfold am_i32; omega) ?_
    exact ar_iret (pc := 290) (x := 0) (by decide +kernel) rfl rfl H
  · replace H := H.2 c1
    refine ar_iload (pc := 270) (i := 4) (by decide +kernel) rfl ?_
    refine ar_bipush (pc := 272) (z := 64) (by decide +kernel) (by omega) ?_
    refine ar_icmp_gt (pc := 274) (x := v4) (y := 64) (tgt := 289) (off := 15) (by decide +kernel) (by decide) (fun c2 => ?_) (fun c2 => ?_)
    · replace H := H.1 c2
      refine ar_iconst (pc := 289) (z := 0) (by decide +kernel) (by unfold am_i32; omega) ?_
      exact ar_iret (pc := 290) (x := 0) (by decide +kernel) rfl rfl H
    · replace H := H.2 c2
      refine ar_aload_n (pc := 277) (i := 0) (k0 := 0) (by decide +kernel) rfl rfl ?_
      refine ar_getFV (pc := 278) (a := 218) (b := 219) 2 0 (by decide +kernel) k_218 rfl (by decide) wf_RX2_9 rfl (fun _ => rfl) rfl ?_
      refine ar_iload (pc := 281) (i := 4) (by decide +kernel) rfl ?_
      refine ar_iconst (pc := 283) (z := 1) (by decide +kernel) (by unfold am_i32; omega) ?_
      refine ar_isub (pc := 284) (x := v4) (y := 1) (by decide +kernel) ?_
      obtain ⟨g3, H⟩ := H
      obtain ⟨g4, H⟩ := H
      refine ar_iald (pc := 285) (a := 219) (i := (am_w32 (v4 - 1))) (by decide +kernel) k_219 g3 (am_lt_eq g4 (l_219).symm) ?_
      refine ar_goto (pc := 286) (tgt := 290) (off := 4) (by decide +kernel) (by decide) ?_
      exact ar_iret (pc := 290) (x := (h 219 (am_w32 (v4 - 1)))) (by decide +kernel) rfl rfl H

/-! ByteIntervals$Reader.leaf(IILByteIntervals$Reading;)I -/
theorem B_X2_leaf_0 {d : Nat} {Q : Int → am_H → Prop} {h : am_H} {v1 v2 a3 : Int} (H : (v1 < 0 ∨ 5 < v1 → Q (h 218 13) h) ∧ (v1 = 0 → Q v2 h) ∧ (v1 = 1 → cf d M_X6_isField [.inl v2] h (fun r2 h3 => (r2 = 0 → Q 0 h3) ∧ (¬ r2 = 0 → (am_kd 321 a3 = 13) ∧ ((0 ≤ v2) ∧ ((v2 < 8) ∧ (Q (h3 (a3 + 1) v2) h3)))))) ∧ (v1 = 2 → (am_kd 321 a3 = 13) ∧ (Q (h a3 1) h)) ∧ (v1 = 3 → (am_kd 321 a3 = 13) ∧ (Q (h a3 2) h)) ∧ (v1 = 4 → Q (h 218 11) h) ∧ (v1 = 5 → Q (h 218 12) h)) : wf (d + 1) M_X2_leaf Q 0 [some (.inr (.inr 218)), some (.inl v1), some (.inl v2), some (.inr (.inr a3))] [] h := by
  intro h0
  refine ar_iload_n (pc := 0) (i := 1) (k0 := 1) (by decide +kernel) rfl rfl ?_
  refine ar_table (pc := 1) (dflt := 79) (lo := 0) (hi := 5) (offs := #[39, 41, 59, 64, 69, 74]) (len := 39) (x := v1) (dt := 80) [40, 42, 60, 65, 70, 75] (by decide +kernel) (by decide) (by decide) (by decide) (fun c1 => ?_) (And.intro (fun c1 => ?_) (And.intro (fun c1 => ?_) (And.intro (fun c1 => ?_) (And.intro (fun c1 => ?_) (And.intro (fun c1 => ?_) (And.intro (fun c1 => ?_) (True.intro)))))))
  · replace H := H.1 c1
    refine ar_aload_n (pc := 80) (i := 0) (k0 := 0) (by decide +kernel) rfl rfl ?_
    refine ar_getV (pc := 81) (a := 218) (v := .inl (h 218 13)) 2 13 (by decide +kernel) k_218 rfl (by decide) wf_RX2_240 rfl ?_
    exact ar_iret (pc := 84) (x := (h 218 13)) (by decide +kernel) rfl rfl H
  · replace H := H.2.1 c1
    refine ar_iload_n (pc := 40) (i := 2) (k0 := 2) (by decide +kernel) rfl rfl ?_
    exact ar_iret (pc := 41) (x := v2) (by decide +kernel) rfl rfl H
  · replace H := H.2.2.1 c1
    refine ar_iload_n (pc := 42) (i := 2) (k0 := 2) (by decide +kernel) rfl rfl ?_
    refine ar_callSN (pc := 43) (M2 := M_X6_isField) (as := [.inl v2]) (n2 := 321) (st := []) (by decide +kernel) rfl wn_RX2_84 ws_yX6_isField wz_RX6 wc_yX6_isField ⟨by decide, by decide, rfl⟩ (by decide) (Nat.le_of_ble_eq_true rfl) (Nat.le_refl _) (Nat.le_refl _) (am_Cl_mono H (fun r2 h3 H => ?_))
    show am_Wp true (d + 1) M_X2_leaf 321 321 h0 Q 46 [some (.inr (.inr 218)), some (.inl v1), some (.inl v2), some (.inr (.inr a3))] [.inl r2] 321 h3
    refine ar_if_eq (pc := 46) (x := r2) (tgt := 58) (off := 12) (by decide +kernel) (by decide) (fun c4 => ?_) (fun c4 => ?_)
    · replace H := H.1 c4
      refine ar_iconst (pc := 58) (z := 0) (by decide +kernel) (by unfold am_i32; omega) ?_
      exact ar_iret (pc := 59) (x := 0) (by decide +kernel) rfl rfl H
    · replace H := H.2 c4
      refine ar_aload_n (pc := 49) (i := 3) (k0 := 3) (by decide +kernel) rfl rfl ?_
      obtain ⟨g5, H⟩ := H
      refine ar_getFNV (pc := 50) (a := a3) (b := (a3 + 1)) 3 6 (by decide +kernel) g5 rfl (by decide) wg_RX2_162 rfl (fun _ => rfl) rfl ?_
      refine ar_iload_n (pc := 53) (i := 2) (k0 := 2) (by decide +kernel) rfl rfl ?_
      obtain ⟨g6, H⟩ := H
      obtain ⟨g7, H⟩ := H
      refine ar_iald (pc := 54) (a := (a3 + 1)) (i := v2) (by decide +kernel) (kX3_6 g5).1 g6 (am_lt_eq g7 ((kX3_6 g5).2).symm) ?_
      refine ar_goto (pc := 55) (tgt := 59) (off := 4) (by decide +kernel) (by decide) ?_
      exact ar_iret (pc := 59) (x := (h3 (a3 + 1) v2)) (by decide +kernel) rfl rfl H
  · replace H := H.2.2.2.1 c1
    refine ar_aload_n (pc := 60) (i := 3) (k0 := 3) (by decide +kernel) rfl rfl ?_
    obtain ⟨g8, H⟩ := H
    refine ar_getNV (pc := 61) (a := a3) (v := .inl (h a3 1)) 3 1 (by decide +kernel) g8 rfl (by decide) wg_RX2_130 rfl ?_
    exact ar_iret (pc := 64) (x := (h a3 1)) (by decide +kernel) rfl rfl H
  · replace H := H.2.2.2.2.1 c1
    refine ar_aload_n (pc := 65) (i := 3) (k0 := 3) (by decide +kernel) rfl rfl ?_
    obtain ⟨g9, H⟩ := H
    refine ar_getNV (pc := 66) (a := a3) (v := .inl (h a3 2)) 3 2 (by decide +kernel) g9 rfl (by decide) wg_RX2_149 rfl ?_
    exact ar_iret (pc := 69) (x := (h a3 2)) (by decide +kernel) rfl rfl H
  · replace H := H.2.2.2.2.2.1 c1
    refine ar_aload_n (pc := 70) (i := 0) (k0 := 0) (by decide +kernel) rfl rfl ?_
    refine ar_getV (pc := 71) (a := 218) (v := .inl (h 218 11)) 2 11 (by decide +kernel) k_218 rfl (by decide) wf_RX2_234 rfl ?_
    exact ar_iret (pc := 74) (x := (h 218 11)) (by decide +kernel) rfl rfl H
  · replace H := H.2.2.2.2.2.2 c1
    refine ar_aload_n (pc := 75) (i := 0) (k0 := 0) (by decide +kernel) rfl rfl ?_
    refine ar_getV (pc := 76) (a := 218) (v := .inl (h 218 12)) 2 12 (by decide +kernel) k_218 rfl (by decide) wf_RX2_237 rfl ?_
    exact ar_iret (pc := 79) (x := (h 218 12)) (by decide +kernel) rfl rfl H

/-! ByteIntervals$Reader.ofOne(IILByteIntervals$Reading;)I -/
theorem B_X2_ofOne_0 {d : Nat} {Q : Int → am_H → Prop} {h : am_H} {v1 v2 a3 : Int} (H : (¬ v1 = 7 → (¬ v1 = 8 → (v2 < 0 → wf (d + 1) M_X2_ofOne Q 63 [some (.inr (.inr 218)), none, some (.inl v2), some (.inr (.inr a3))] [] h) ∧ (0 ≤ v2 → (am_kd 321 a3 = 13) ∧ (((h a3 1) ≤ v2 → wf (d + 1) M_X2_ofOne Q 63 [some (.inr (.inr 218)), none, some (.inl v2), some (.inr (.inr a3))] [] h) ∧ (v2 < (h a3 1) → cf d M_X6_span [.inl (am_w32 ((h a3 0) + v2)), .inl (am_w32 ((am_w32 ((h a3 0) + v2)) + 1))] h (fun r6 h7 => wf (d + 1) M_X2_ofOne Q 63 [some (.inr (.inr 218)), none, some (.inl v2), some (.inr (.inr a3))] [] (am_up h7 218 10 (am_lor (h 218 10) r6))))))) ∧ (v1 = 8 → (¬ v2 = 0 → Q 0 h) ∧ (v2 = 0 → Q 1 h))) ∧ (v1 = 7 → Q (am_w32 (-v2)) h)) : wf (d + 1) M_X2_ofOne Q 0 [some (.inr (.inr 218)), some (.inl v1), some (.inl v2), some (.inr (.inr a3))] [] h := by
  intro h0
  refine ar_iload_n (pc := 0) (i := 1) (k0 := 1) (by decide +kernel) rfl rfl ?_
  refine ar_bipush (pc := 1) (z := 7) (by decide +kernel) (by omega) ?_
  refine ar_icmp_ne (pc := 3) (x := v1) (y := 7) (tgt := 9) (off := 6) (by decide +kernel) (by decide) (fun c1 => ?_) (fun c1 => ?_)
  · replace H := H.1 c1
    refine ar_iload_n (pc := 9) (i := 1) (k0 := 1) (by decide +kernel) rfl rfl ?_
    refine ar_bipush (pc := 10) (z := 8) (by decide +kernel) (by omega) ?_
    refine ar_icmp_ne (pc := 12) (x := v1) (y := 8) (tgt := 25) (off := 13) (by decide +kernel) (by decide) (fun c2 => ?_) (fun c2 => ?_)
    · replace H := H.1 c2
      refine ar_iload_n (pc := 25) (i := 2) (k0 := 2) (by decide +kernel) rfl rfl ?_
      refine ar_if_lt (pc := 26) (x := v2) (tgt := 63) (off := 37) (by decide +kernel) (by decide) (fun c3 => ?_) (fun c3 => ?_)
      · replace H := H.1 c3
        refine ar_forget [true, false, true, true] rfl ?_
        exact H h0
      · replace H := H.2 c3
        refine ar_iload_n (pc := 29) (i := 2) (k0 := 2) (by decide +kernel) rfl rfl ?_
        refine ar_aload_n (pc := 30) (i := 3) (k0 := 3) (by decide +kernel) rfl rfl ?_
        obtain ⟨g4, H⟩ := H
        refine ar_getNV (pc := 31) (a := a3) (v := .inl (h a3 1)) 3 1 (by decide +kernel) g4 rfl (by decide) wg_RX2_130 rfl ?_
        refine ar_icmp_ge (pc := 34) (x := v2) (y := (h a3 1)) (tgt := 63) (off := 29) (by decide +kernel) (by decide) (fun c5 => ?_) (fun c5 => ?_)
        · replace H := H.1 c5
          refine ar_forget [true, false, true, true] rfl ?_
          exact H h0
        · replace H := H.2 c5
          refine ar_aload_n (pc := 37) (i := 0) (k0 := 0) (by decide +kernel) rfl rfl ?_
          refine ar_dup (pc := 38) (by decide +kernel) trivial ?_
          refine ar_getV (pc := 39) (a := 218) (v := .inr (.inl (h 218 10))) 2 10 (by decide +kernel) k_218 rfl (by decide) wf_RX2_109 rfl ?_
          refine ar_aload_n (pc := 42) (i := 3) (k0 := 3) (by decide +kernel) rfl rfl ?_
          refine ar_getNV (pc := 43) (a := a3) (v := .inl (h a3 0)) 3 0 (by decide +kernel) g4 rfl (by decide) wg_RX2_131 rfl ?_
          refine ar_iload_n (pc := 46) (i := 2) (k0 := 2) (by decide +kernel) rfl rfl ?_
          refine ar_iadd (pc := 47) (x := (h a3 0)) (y := v2) (by decide +kernel) ?_
          refine ar_aload_n (pc := 48) (i := 3) (k0 := 3) (by decide +kernel) rfl rfl ?_
          refine ar_getNV (pc := 49) (a := a3) (v := .inl (h a3 0)) 3 0 (by decide +kernel) g4 rfl (by decide) wg_RX2_131 rfl ?_
          refine ar_iload_n (pc := 52) (i := 2) (k0 := 2) (by decide +kernel) rfl rfl ?_
          refine ar_iadd (pc := 53) (x := (h a3 0)) (y := v2) (by decide +kernel) ?_
          refine ar_iconst (pc := 54) (z := 1) (by decide +kernel) (by unfold am_i32; omega) ?_
          refine ar_iadd (pc := 55) (x := (am_w32 ((h a3 0) + v2))) (y := 1) (by decide +kernel) ?_
          refine ar_callSN (pc := 56) (M2 := M_X6_span) (as := [.inl (am_w32 ((h a3 0) + v2)), .inl (am_w32 ((am_w32 ((h a3 0) + v2)) + 1))]) (n2 := 321) (st := [.inr (.inl (h 218 10)), .inr (.inr 218)]) (by decide +kernel) rfl wn_RX2_134 ws_yX6_span wz_RX6 wc_yX6_span ⟨by decide, by decide, rfl⟩ (by decide) (Nat.le_of_ble_eq_true rfl) (Nat.le_refl _) (Nat.le_refl _) (am_Cl_mono H (fun r6 h7 H => ?_))
          show am_Wp true (d + 1) M_X2_ofOne 321 321 h0 Q 59 [some (.inr (.inr 218)), some (.inl v1), some (.inl v2), some (.inr (.inr a3))] [.inr (.inl r6), .inr (.inl (h 218 10)), .inr (.inr 218)] 321 h7
          refine ar_lor (pc := 59) (x := (h 218 10)) (y := r6) (by decide +kernel) ?_
          refine ar_putL (pc := 60) (a := 218) (z := (am_lor (h 218 10) r6)) 2 10 (by decide +kernel) k_218 rfl (by decide) rfl (fun _ => rfl) rfl wf_RX2_109 ?_
          refine ar_forget [true, false, true, true] rfl ?_
          exact H h0
    · replace H := H.2 c2
      refine ar_iload_n (pc := 15) (i := 2) (k0 := 2) (by decide +kernel) rfl rfl ?_
      refine ar_if_ne (pc := 16) (x := v2) (tgt := 23) (off := 7) (by decide +kernel) (by decide) (fun c8 => ?_) (fun c8 => ?_)
      · replace H := H.1 c8
        refine ar_iconst (pc := 23) (z := 0) (by decide +kernel) (by unfold am_i32; omega) ?_
        exact ar_iret (pc := 24) (x := 0) (by decide +kernel) rfl rfl H
      · replace H := H.2 c8
        refine ar_iconst (pc := 19) (z := 1) (by decide +kernel) (by unfold am_i32; omega) ?_
        refine ar_goto (pc := 20) (tgt := 24) (off := 4) (by decide +kernel) (by decide) ?_
        exact ar_iret (pc := 24) (x := 1) (by decide +kernel) rfl rfl H
  · replace H := H.2 c1
    refine ar_iload_n (pc := 6) (i := 2) (k0 := 2) (by decide +kernel) rfl rfl ?_
    refine ar_ineg (pc := 7) (x := v2) (by decide +kernel) ?_
    exact ar_iret (pc := 8) (x := (am_w32 (-v2))) (by decide +kernel) rfl rfl H
theorem B_X2_ofOne_63 {d : Nat} {Q : Int → am_H → Prop} {h : am_H} {v2 a3 : Int} (H : cf d M_X2_byteIn [.inr (.inr 218), .inr (.inr a3), .inl v2] h (fun r1 h2 => Q r1 h2)) : wf (d + 1) M_X2_ofOne Q 63 [some (.inr (.inr 218)), none, some (.inl v2), some (.inr (.inr a3))] [] h := by
  intro h0
  refine ar_aload_n (pc := 63) (i := 0) (k0 := 0) (by decide +kernel) rfl rfl ?_
  refine ar_aload_n (pc := 64) (i := 3) (k0 := 3) (by decide +kernel) rfl rfl ?_
  refine ar_iload_n (pc := 65) (i := 2) (k0 := 2) (by decide +kernel) rfl rfl ?_
  refine ar_callV (pc := 66) (M2 := M_X2_byteIn) (a := 218) (ci := 2) (as := [.inr (.inr a3), .inl v2]) (n2 := 321) (st := []) (by decide +kernel) rfl wm_RX2_165 wi_yX2_byteIn wl_yX2_byteIn k_218 rfl wz_RX2 wc_yX2_byteIn ⟨by decide, by decide, rfl⟩ (by decide) (Nat.le_of_ble_eq_true rfl) (Nat.le_refl _) (Nat.le_refl _) (am_Cl_mono H (fun r1 h2 H => ?_))
  show am_Wp true (d + 1) M_X2_ofOne 321 321 h0 Q 69 [some (.inr (.inr 218)), none, some (.inl v2), some (.inr (.inr a3))] [.inl r1] 321 h2
  exact ar_iret (pc := 69) (x := r1) (by decide +kernel) rfl rfl H

/-! ByteIntervals$Reader.ofTwo(III)I -/
theorem B_X2_ofTwo_0 {d : Nat} {Q : Int → am_H → Prop} {h : am_H} {v0 v1 v2 : Int} (H : (v0 < 10 ∨ 21 < v0 → cf d M_X2_compares [.inl v0, .inl v1, .inl v2] h (fun r2 h3 => (r2 = 0 → Q 0 h3) ∧ (¬ r2 = 0 → Q 1 h3))) ∧ (v0 = 10 → cf d M_X2_confined [.inr (.inl (am_w64 (v1 + v2)))] h (fun r5 h6 => Q r5 h6)) ∧ (v0 = 11 → cf d M_X2_confined [.inr (.inl (am_w64 (v1 - v2)))] h (fun r7 h8 => Q r7 h8)) ∧ (v0 = 12 → cf d M_X2_confined [.inr (.inl (am_w64 (v1 * v2)))] h (fun r9 h10 => Q r9 h10)) ∧ (v0 = 13 → (¬ v2 = 0 → (v2 ≠ 0) ∧ (cf d M_X2_confined [.inr (.inl (am_w64 (v1.tdiv v2)))] h (fun r13 h14 => Q r13 h14))) ∧ (v2 = 0 → Q 0 h)) ∧ (v0 = 14 → cf d M_X2_compares [.inl v0, .inl v1, .inl v2] h (fun r15 h16 => (r15 = 0 → Q 0 h16) ∧ (¬ r15 = 0 → Q 1 h16))) ∧ (v0 = 15 → cf d M_X2_compares [.inl v0, .inl v1, .inl v2] h (fun r18 h19 => (r18 = 0 → Q 0 h19) ∧ (¬ r18 = 0 → Q 1 h19))) ∧ (v0 = 16 → cf d M_X2_compares [.inl v0, .inl v1, .inl v2] h (fun r21 h22 => (r21 = 0 → Q 0 h22) ∧ (¬ r21 = 0 → Q 1 h22))) ∧ (v0 = 17 → cf d M_X2_compares [.inl v0, .inl v1, .inl v2] h (fun r24 h25 => (r24 = 0 → Q 0 h25) ∧ (¬ r24 = 0 → Q 1 h25))) ∧ (v0 = 18 → cf d M_X2_compares [.inl v0, .inl v1, .inl v2] h (fun r27 h28 => (r27 = 0 → Q 0 h28) ∧ (¬ r27 = 0 → Q 1 h28))) ∧ (v0 = 19 → cf d M_X2_compares [.inl v0, .inl v1, .inl v2] h (fun r30 h31 => (r30 = 0 → Q 0 h31) ∧ (¬ r30 = 0 → Q 1 h31))) ∧ (v0 = 20 → Q (am_iand v1 v2) h) ∧ (v0 = 21 → Q (am_ior v1 v2) h)) : wf (d + 1) M_X2_ofTwo Q 0 [some (.inl v0), some (.inl v1), some (.inl v2)] [] h := by
  intro h0
  refine ar_iload_n (pc := 0) (i := 0) (k0 := 0) (by decide +kernel) rfl rfl ?_
  refine ar_table (pc := 1) (dflt := 115) (lo := 10) (hi := 21) (offs := #[63, 72, 81, 90, 115, 115, 115, 115, 115, 115, 107, 111]) (len := 63) (x := v0) (dt := 116) [64, 73, 82, 91, 116, 116, 116, 116, 116, 116, 108, 112] (by decide +kernel) (by decide) (by decide) (by decide) (fun c1 => ?_) (And.intro (fun c1 => ?_) (And.intro (fun c1 => ?_) (And.intro (fun c1 => ?_) (And.intro (fun c1 => ?_) (And.intro (fun c1 => ?_) (And.intro (fun c1 => ?_) (And.intro (fun c1 => ?_) (And.intro (fun c1 => ?_) (And.intro (fun c1 => ?_) (And.intro (fun c1 => ?_) (And.intro (fun c1 => ?_) (And.intro (fun c1 => ?_) (True.intro)))))))))))))
  · replace H := H.1 c1
    refine ar_iload_n (pc := 116) (i := 0) (k0 := 0) (by decide +kernel) rfl rfl ?_
    refine ar_iload_n (pc := 117) (i := 1) (k0 := 1) (by decide +kernel) rfl rfl ?_
    refine ar_iload_n (pc := 118) (i := 2) (k0 := 2) (by decide +kernel) rfl rfl ?_
    refine ar_callS (pc := 119) (M2 := M_X2_compares) (as := [.inl v0, .inl v1, .inl v2]) (n2 := 321) (st := []) (by decide +kernel) rfl wm_RX2_264 ws_yX2_compares wz_RX2 wc_yX2_compares ⟨by decide, by decide, rfl⟩ (by decide) (Nat.le_of_ble_eq_true rfl) (Nat.le_refl _) (Nat.le_refl _) (am_Cl_mono H (fun r2 h3 H => ?_))
    show am_Wp true (d + 1) M_X2_ofTwo 321 321 h0 Q 122 [some (.inl v0), some (.inl v1), some (.inl v2)] [.inl r2] 321 h3
    refine ar_if_eq (pc := 122) (x := r2) (tgt := 129) (off := 7) (by decide +kernel) (by decide) (fun c4 => ?_) (fun c4 => ?_)
    · replace H := H.1 c4
      refine ar_iconst (pc := 129) (z := 0) (by decide +kernel) (by unfold am_i32; omega) ?_
      exact ar_iret (pc := 130) (x := 0) (by decide +kernel) rfl rfl H
    · replace H := H.2 c4
      refine ar_iconst (pc := 125) (z := 1) (by decide +kernel) (by unfold am_i32; omega) ?_
      refine ar_goto (pc := 126) (tgt := 130) (off := 4) (by decide +kernel) (by decide) ?_
      exact ar_iret (pc := 130) (x := 1) (by decide +kernel) rfl rfl H
  · replace H := H.2.1 c1
    refine ar_iload_n (pc := 64) (i := 1) (k0 := 1) (by decide +kernel) rfl rfl ?_
    refine ar_i2l (pc := 65) (x := v1) (by decide +kernel) ?_
    refine ar_iload_n (pc := 66) (i := 2) (k0 := 2) (by decide +kernel) rfl rfl ?_
    refine ar_i2l (pc := 67) (x := v2) (by decide +kernel) ?_
    refine ar_ladd (pc := 68) (x := v1) (y := v2) (by decide +kernel) ?_
    refine ar_callS (pc := 69) (M2 := M_X2_confined) (as := [.inr (.inl (am_w64 (v1 + v2)))]) (n2 := 321) (st := []) (by decide +kernel) rfl wm_RX2_260 ws_yX2_confined wz_RX2 wc_yX2_confined ⟨by decide, by decide, rfl⟩ (by decide) (Nat.le_of_ble_eq_true rfl) (Nat.le_refl _) (Nat.le_refl _) (am_Cl_mono H (fun r5 h6 H => ?_))
    show am_Wp true (d + 1) M_X2_ofTwo 321 321 h0 Q 72 [some (.inl v0), some (.inl v1), some (.inl v2)] [.inl r5] 321 h6
    exact ar_iret (pc := 72) (x := r5) (by decide +kernel) rfl rfl H
  · replace H := H.2.2.1 c1
    refine ar_iload_n (pc := 73) (i := 1) (k0 := 1) (by decide +kernel) rfl rfl ?_
    refine ar_i2l (pc := 74) (x := v1) (by decide +kernel) ?_
    refine ar_iload_n (pc := 75) (i := 2) (k0 := 2) (by decide +kernel) rfl rfl ?_
    refine ar_i2l (pc := 76) (x := v2) (by decide +kernel) ?_
    refine ar_lsub (pc := 77) (x := v1) (y := v2) (by decide +kernel) ?_
    refine ar_callS (pc := 78) (M2 := M_X2_confined) (as := [.inr (.inl (am_w64 (v1 - v2)))]) (n2 := 321) (st := []) (by decide +kernel) rfl wm_RX2_260 ws_yX2_confined wz_RX2 wc_yX2_confined ⟨by decide, by decide, rfl⟩ (by decide) (Nat.le_of_ble_eq_true rfl) (Nat.le_refl _) (Nat.le_refl _) (am_Cl_mono H (fun r7 h8 H => ?_))
    show am_Wp true (d + 1) M_X2_ofTwo 321 321 h0 Q 81 [some (.inl v0), some (.inl v1), some (.inl v2)] [.inl r7] 321 h8
    exact ar_iret (pc := 81) (x := r7) (by decide +kernel) rfl rfl H
  · replace H := H.2.2.2.1 c1
    refine ar_iload_n (pc := 82) (i := 1) (k0 := 1) (by decide +kernel) rfl rfl ?_
    refine ar_i2l (pc := 83) (x := v1) (by decide +kernel) ?_
    refine ar_iload_n (pc := 84) (i := 2) (k0 := 2) (by decide +kernel) rfl rfl ?_
    refine ar_i2l (pc := 85) (x := v2) (by decide +kernel) ?_
    refine ar_lmul (pc := 86) (x := v1) (y := v2) (by decide +kernel) ?_
    refine ar_callS (pc := 87) (M2 := M_X2_confined) (as := [.inr (.inl (am_w64 (v1 * v2)))]) (n2 := 321) (st := []) (by decide +kernel) rfl wm_RX2_260 ws_yX2_confined wz_RX2 wc_yX2_confined ⟨by decide, by decide, rfl⟩ (by decide) (Nat.le_of_ble_eq_true rfl) (Nat.le_refl _) (Nat.le_refl _) (am_Cl_mono H (fun r9 h10 H => ?_))
    show am_Wp true (d + 1) M_X2_ofTwo 321 321 h0 Q 90 [some (.inl v0), some (.inl v1), some (.inl v2)] [.inl r9] 321 h10
    exact ar_iret (pc := 90) (x := r9) (by decide +kernel) rfl rfl H
  · replace H := H.2.2.2.2.1 c1
    refine ar_iload_n (pc := 91) (i := 2) (k0 := 2) (by decide +kernel) rfl rfl ?_
    refine ar_if_ne (pc := 92) (x := v2) (tgt := 99) (off := 7) (by decide +kernel) (by decide) (fun c11 => ?_) (fun c11 => ?_)
    · replace H := H.1 c11
      refine ar_iload_n (pc := 99) (i := 1) (k0 := 1) (by decide +kernel) rfl rfl ?_
      refine ar_i2l (pc := 100) (x := v1) (by decide +kernel) ?_
      refine ar_iload_n (pc := 101) (i := 2) (k0 := 2) (by decide +kernel) rfl rfl ?_
      refine ar_i2l (pc := 102) (x := v2) (by decide +kernel) ?_
      obtain ⟨g12, H⟩ := H
      refine ar_ldiv (pc := 103) (x := v1) (y := v2) (by decide +kernel) g12 ?_
      refine ar_callS (pc := 104) (M2 := M_X2_confined) (as := [.inr (.inl (am_w64 (v1.tdiv v2)))]) (n2 := 321) (st := []) (by decide +kernel) rfl wm_RX2_260 ws_yX2_confined wz_RX2 wc_yX2_confined ⟨by decide, by decide, rfl⟩ (by decide) (Nat.le_of_ble_eq_true rfl) (Nat.le_refl _) (Nat.le_refl _) (am_Cl_mono H (fun r13 h14 H => ?_))
      show am_Wp true (d + 1) M_X2_ofTwo 321 321 h0 Q 107 [some (.inl v0), some (.inl v1), some (.inl v2)] [.inl r13] 321 h14
      exact ar_iret (pc := 107) (x := r13) (by decide +kernel) rfl rfl H
    · replace H := H.2 c11
      refine ar_iconst (pc := 95) (z := 0) (by decide +kernel) (by unfold am_i32; omega) ?_
      refine ar_goto (pc := 96) (tgt := 107) (off := 11) (by decide +kernel) (by decide) ?_
      exact ar_iret (pc := 107) (x := 0) (by decide +kernel) rfl rfl H
  · replace H := H.2.2.2.2.2.1 c1
    refine ar_iload_n (pc := 116) (i := 0) (k0 := 0) (by decide +kernel) rfl rfl ?_
    refine ar_iload_n (pc := 117) (i := 1) (k0 := 1) (by decide +kernel) rfl rfl ?_
    refine ar_iload_n (pc := 118) (i := 2) (k0 := 2) (by decide +kernel) rfl rfl ?_
    refine ar_callS (pc := 119) (M2 := M_X2_compares) (as := [.inl v0, .inl v1, .inl v2]) (n2 := 321) (st := []) (by decide +kernel) rfl wm_RX2_264 ws_yX2_compares wz_RX2 wc_yX2_compares ⟨by decide, by decide, rfl⟩ (by decide) (Nat.le_of_ble_eq_true rfl) (Nat.le_refl _) (Nat.le_refl _) (am_Cl_mono H (fun r15 h16 H => ?_))
    show am_Wp true (d + 1) M_X2_ofTwo 321 321 h0 Q 122 [some (.inl v0), some (.inl v1), some (.inl v2)] [.inl r15] 321 h16
    refine ar_if_eq (pc := 122) (x := r15) (tgt := 129) (off := 7) (by decide +kernel) (by decide) (fun c17 => ?_) (fun c17 => ?_)
    · replace H := H.1 c17
      refine ar_iconst (pc := 129) (z := 0) (by decide +kernel) (by unfold am_i32; omega) ?_
      exact ar_iret (pc := 130) (x := 0) (by decide +kernel) rfl rfl H
    · replace H := H.2 c17
      refine ar_iconst (pc := 125) (z := 1) (by decide +kernel) (by unfold am_i32; omega) ?_
      refine ar_goto (pc := 126) (tgt := 130) (off := 4) (by decide +kernel) (by decide) ?_
      exact ar_iret (pc := 130) (x := 1) (by decide +kernel) rfl rfl H
  · replace H := H.2.2.2.2.2.2.1 c1
    refine ar_iload_n (pc := 116) (i := 0) (k0 := 0) (by decide +kernel) rfl rfl ?_
    refine ar_iload_n (pc := 117) (i := 1) (k0 := 1) (by decide +kernel) rfl rfl ?_
    refine ar_iload_n (pc := 118) (i := 2) (k0 := 2) (by decide +kernel) rfl rfl ?_
    refine ar_callS (pc := 119) (M2 := M_X2_compares) (as := [.inl v0, .inl v1, .inl v2]) (n2 := 321) (st := []) (by decide +kernel) rfl wm_RX2_264 ws_yX2_compares wz_RX2 wc_yX2_compares ⟨by decide, by decide, rfl⟩ (by decide) (Nat.le_of_ble_eq_true rfl) (Nat.le_refl _) (Nat.le_refl _) (am_Cl_mono H (fun r18 h19 H => ?_))
    show am_Wp true (d + 1) M_X2_ofTwo 321 321 h0 Q 122 [some (.inl v0), some (.inl v1), some (.inl v2)] [.inl r18] 321 h19
    refine ar_if_eq (pc := 122) (x := r18) (tgt := 129) (off := 7) (by decide +kernel) (by decide) (fun c20 => ?_) (fun c20 => ?_)
    · replace H := H.1 c20
      refine ar_iconst (pc := 129) (z := 0) (by decide +kernel) (by unfold am_i32; omega) ?_
      exact ar_iret (pc := 130) (x := 0) (by decide +kernel) rfl rfl H
    · replace H := H.2 c20
      refine ar_iconst (pc := 125) (z := 1) (by decide +kernel) (by unfold am_i32; omega) ?_
      refine ar_goto (pc := 126) (tgt := 130) (off := 4) (by decide +kernel) (by decide) ?_
      exact ar_iret (pc := 130) (x := 1) (by decide +kernel) rfl rfl H
  · replace H := H.2.2.2.2.2.2.2.1 c1
    refine ar_iload_n (pc := 116) (i := 0) (k0 := 0) (by decide +kernel) rfl rfl ?_
    refine ar_iload_n (pc := 117) (i := 1) (k0 := 1) (by decide +kernel) rfl rfl ?_
    refine ar_iload_n (pc := 118) (i := 2) (k0 := 2) (by decide +kernel) rfl rfl ?_
    refine ar_callS (pc := 119) (M2 := M_X2_compares) (as := [.inl v0, .inl v1, .inl v2]) (n2 := 321) (st := []) (by decide +kernel) rfl wm_RX2_264 ws_yX2_compares wz_RX2 wc_yX2_compares ⟨by decide, by decide, rfl⟩ (by decide) (Nat.le_of_ble_eq_true rfl) (Nat.le_refl _) (Nat.le_refl _) (am_Cl_mono H (fun r21 h22 H => ?_))
    show am_Wp true (d + 1) M_X2_ofTwo 321 321 h0 Q 122 [some (.inl v0), some (.inl v1), some (.inl v2)] [.inl r21] 321 h22
    refine ar_if_eq (pc := 122) (x := r21) (tgt := 129) (off := 7) (by decide +kernel) (by decide) (fun c23 => ?_) (fun c23 => ?_)
    · replace H := H.1 c23
      refine ar_iconst (pc := 129) (z := 0) (by decide +kernel) (by unfold am_i32; omega) ?_
      exact ar_iret (pc := 130) (x := 0) (by decide +kernel) rfl rfl H
    · replace H := H.2 c23
      refine ar_iconst (pc := 125) (z := 1) (by decide +kernel) (by unfold am_i32; omega) ?_
      refine ar_goto (pc := 126) (tgt := 130) (off := 4) (by decide +kernel) (by decide) ?_
      exact ar_iret (pc := 130) (x := 1) (by decide +kernel) rfl rfl H
  · replace H := H.2.2.2.2.2.2.2.2.1 c1
    refine ar_iload_n (pc := 116) (i := 0) (k0 := 0) (by decide +kernel) rfl rfl ?_
    refine ar_iload_n (pc := 117) (i := 1) (k0 := 1) (by decide +kernel) rfl rfl ?_
    refine ar_iload_n (pc := 118) (i := 2) (k0 := 2) (by decide +kernel) rfl rfl ?_
    refine ar_callS (pc := 119) (M2 := M_X2_compares) (as := [.inl v0, .inl v1, .inl v2]) (n2 := 321) (st := []) (by decide +kernel) rfl wm_RX2_264 ws_yX2_compares wz_RX2 wc_yX2_compares ⟨by decide, by decide, rfl⟩ (by decide) (Nat.le_of_ble_eq_true rfl) (Nat.le_refl _) (Nat.le_refl _) (am_Cl_mono H (fun r24 h25 H => ?_))
    show am_Wp true (d + 1) M_X2_ofTwo 321 321 h0 Q 122 [some (.inl v0), some (.inl v1), some (.inl v2)] [.inl r24] 321 h25
    refine ar_if_eq (pc := 122) (x := r24) (tgt := 129) (off := 7) (by decide +kernel) (by decide) (fun c26 => ?_) (fun c26 => ?_)
    · replace H := H.1 c26
      refine ar_iconst (pc := 129) (z := 0) (by decide +kernel) (by unfold am_i32; omega) ?_
      exact ar_iret (pc := 130) (x := 0) (by decide +kernel) rfl rfl H
    · replace H := H.2 c26
      refine ar_iconst (pc := 125) (z := 1) (by decide +kernel) (by unfold am_i32; omega) ?_
      refine ar_goto (pc := 126) (tgt := 130) (off := 4) (by decide +kernel) (by decide) ?_
      exact ar_iret (pc := 130) (x := 1) (by decide +kernel) rfl rfl H
  · replace H := H.2.2.2.2.2.2.2.2.2.1 c1
    refine ar_iload_n (pc := 116) (i := 0) (k0 := 0) (by decide +kernel) rfl rfl ?_
    refine ar_iload_n (pc := 117) (i := 1) (k0 := 1) (by decide +kernel) rfl rfl ?_
    refine ar_iload_n (pc := 118) (i := 2) (k0 := 2) (by decide +kernel) rfl rfl ?_
    refine ar_callS (pc := 119) (M2 := M_X2_compares) (as := [.inl v0, .inl v1, .inl v2]) (n2 := 321) (st := []) (by decide +kernel) rfl wm_RX2_264 ws_yX2_compares wz_RX2 wc_yX2_compares ⟨by decide, by decide, rfl⟩ (by decide) (Nat.le_of_ble_eq_true rfl) (Nat.le_refl _) (Nat.le_refl _) (am_Cl_mono H (fun r27 h28 H => ?_))
    show am_Wp true (d + 1) M_X2_ofTwo 321 321 h0 Q 122 [some (.inl v0), some (.inl v1), some (.inl v2)] [.inl r27] 321 h28
    refine ar_if_eq (pc := 122) (x := r27) (tgt := 129) (off := 7) (by decide +kernel) (by decide) (fun c29 => ?_) (fun c29 => ?_)
    · replace H := H.1 c29
      refine ar_iconst (pc := 129) (z := 0) (by decide +kernel) (by unfold am_i32; omega) ?_
      exact ar_iret (pc := 130) (x := 0) (by decide +kernel) rfl rfl H
    · replace H := H.2 c29
      refine ar_iconst (pc := 125) (z := 1) (by decide +kernel) (by unfold am_i32; omega) ?_
      refine ar_goto (pc := 126) (tgt := 130) (off := 4) (by decide +kernel) (by decide) ?_
      exact ar_iret (pc := 130) (x := 1) (by decide +kernel) rfl rfl H
  · replace H := H.2.2.2.2.2.2.2.2.2.2.1 c1
    refine ar_iload_n (pc := 116) (i := 0) (k0 := 0) (by decide +kernel) rfl rfl ?_
    refine ar_iload_n (pc := 117) (i := 1) (k0 := 1) (by decide +kernel) rfl rfl ?_
    refine ar_iload_n (pc := 118) (i := 2) (k0 := 2) (by decide +kernel) rfl rfl ?_
    refine ar_callS (pc := 119) (M2 := M_X2_compares) (as := [.inl v0, .inl v1, .inl v2]) (n2 := 321) (st := []) (by decide +kernel) rfl wm_RX2_264 ws_yX2_compares wz_RX2 wc_yX2_compares ⟨by decide, by decide, rfl⟩ (by decide) (Nat.le_of_ble_eq_true rfl) (Nat.le_refl _) (Nat.le_refl _) (am_Cl_mono H (fun r30 h31 H => ?_))
    show am_Wp true (d + 1) M_X2_ofTwo 321 321 h0 Q 122 [some (.inl v0), some (.inl v1), some (.inl v2)] [.inl r30] 321 h31
    refine ar_if_eq (pc := 122) (x := r30) (tgt := 129) (off := 7) (by decide +kernel) (by decide) (fun c32 => ?_) (fun c32 => ?_)
    · replace H := H.1 c32
      refine ar_iconst (pc := 129) (z := 0) (by decide +kernel) (by unfold am_i32; omega) ?_
      exact ar_iret (pc := 130) (x := 0) (by decide +kernel) rfl rfl H
    · replace H := H.2 c32
      refine ar_iconst (pc := 125) (z := 1) (by decide +kernel) (by unfold am_i32; omega) ?_
      refine ar_goto (pc := 126) (tgt := 130) (off := 4) (by decide +kernel) (by decide) ?_
      exact ar_iret (pc := 130) (x := 1) (by decide +kernel) rfl rfl H
  · replace H := H.2.2.2.2.2.2.2.2.2.2.2.1 c1
    refine ar_iload_n (pc := 108) (i := 1) (k0 := 1) (by decide +kernel) rfl rfl ?_
    refine ar_iload_n (pc := 109) (i := 2) (k0 := 2) (by decide +kernel) rfl rfl ?_
    refine ar_iand (pc := 110) (x := v1) (y := v2) (by decide +kernel) ?_
    exact ar_iret (pc := 111) (x := (am_iand v1 v2)) (by decide +kernel) rfl rfl H
  · replace H := H.2.2.2.2.2.2.2.2.2.2.2.2 c1
    refine ar_iload_n (pc := 112) (i := 1) (k0 := 1) (by decide +kernel) rfl rfl ?_
    refine ar_iload_n (pc := 113) (i := 2) (k0 := 2) (by decide +kernel) rfl rfl ?_
    refine ar_ior (pc := 114) (x := v1) (y := v2) (by decide +kernel) ?_
    exact ar_iret (pc := 115) (x := (am_ior v1 v2)) (by decide +kernel) rfl rfl H

/-! ByteIntervals$Reader.confined(J)I -/
theorem B_X2_confined_0 {d : Nat} {Q : Int → am_H → Prop} {h : am_H} {v0 : Int} (H : cf d M_J9_min_f86c9 [.inr (.inl 1000000), .inr (.inl v0)] h (fun r1 h2 => cf d M_J9_max_f86c9 [.inr (.inl (-1000000)), .inr (.inl r1)] h2 (fun r3 h4 => Q (am_l2i r3) h4))) : wf (d + 1) M_X2_confined Q 0 [some (.inr (.inl v0)), none] [] h := by
  intro h0
  refine ar_ldc2 (pc := 0) (z := (-1000000)) (by decide +kernel) wk_RX2_268 (by unfold am_i64; omega) ?_
  refine ar_ldc2 (pc := 3) (z := 1000000) (by decide +kernel) wk_RX2_270 (by unfold am_i64; omega) ?_
  refine ar_lload_n (pc := 6) (i := 0) (k0 := 0) (by decide +kernel) rfl rfl ?_
  refine ar_callS (pc := 7) (M2 := M_J9_min_f86c9) (as := [.inr (.inl 1000000), .inr (.inl v0)]) (n2 := 321) (st := [.inr (.inl (-1000000))]) (by decide +kernel) rfl wm_RX2_272 ws_yJ9_min_f86c9 wz_RJ9 wc_yJ9_min_f86c9 ⟨by decide, by decide, rfl⟩ (by decide) (Nat.le_of_ble_eq_true rfl) (Nat.le_refl _) (Nat.le_refl _) (am_Cl_mono H (fun r1 h2 H => ?_))
  show am_Wp true (d + 1) M_X2_confined 321 321 h0 Q 10 [some (.inr (.inl v0)), none] [.inr (.inl r1), .inr (.inl (-1000000))] 321 h2
  refine ar_callS (pc := 10) (M2 := M_J9_max_f86c9) (as := [.inr (.inl (-1000000)), .inr (.inl r1)]) (n2 := 321) (st := []) (by decide +kernel) rfl wm_RX2_275 ws_yJ9_max_f86c9 wz_RJ9 wc_yJ9_max_f86c9 ⟨by decide, by decide, rfl⟩ (by decide) (Nat.le_of_ble_eq_true rfl) (Nat.le_refl _) (Nat.le_refl _) (am_Cl_mono H (fun r3 h4 H => ?_))
  show am_Wp true (d + 1) M_X2_confined 321 321 h0 Q 13 [some (.inr (.inl v0)), none] [.inr (.inl r3)] 321 h4
  refine ar_l2i (pc := 13) (x := r3) (by decide +kernel) ?_
  exact ar_iret (pc := 14) (x := (am_l2i r3)) (by decide +kernel) rfl rfl H

/-! ByteIntervals$Reader.compares(III)Z -/
theorem B_X2_compares_0 {d : Nat} {Q : Int → am_H → Prop} {h : am_H} {v0 v1 v2 : Int} (H : (v0 < 14 ∨ 18 < v0 → (v1 = v2 → Q 0 h) ∧ (¬ v1 = v2 → Q 1 h)) ∧ (v0 = 14 → (v2 ≤ v1 → Q 0 h) ∧ (v1 < v2 → Q 1 h)) ∧ (v0 = 15 → (v2 < v1 → Q 0 h) ∧ (v1 ≤ v2 → Q 1 h)) ∧ (v0 = 16 → (v1 ≤ v2 → Q 0 h) ∧ (v2 < v1 → Q 1 h)) ∧ (v0 = 17 → (v1 < v2 → Q 0 h) ∧ (v2 ≤ v1 → Q 1 h)) ∧ (v0 = 18 → (¬ v1 = v2 → Q 0 h) ∧ (v1 = v2 → Q 1 h))) : wf d M_X2_compares Q 0 [some (.inl v0), some (.inl v1), some (.inl v2)] [] h := by
  intro h0
  refine ar_iload_n (pc := 0) (i := 0) (k0 := 0) (by decide +kernel) rfl rfl ?_
  refine ar_table (pc := 1) (dflt := 90) (lo := 14) (hi := 18) (offs := #[35, 46, 57, 68, 79]) (len := 35) (x := v0) (dt := 91) [36, 47, 58, 69, 80] (by decide +kernel) (by decide) (by decide) (by decide) (fun c1 => ?_) (And.intro (fun c1 => ?_) (And.intro (fun c1 => ?_) (And.intro (fun c1 => ?_) (And.intro (fun c1 => ?_) (And.intro (fun c1 => ?_) (True.intro))))))
  · replace H := H.1 c1
    refine ar_iload_n (pc := 91) (i := 1) (k0 := 1) (by decide +kernel) rfl rfl ?_
    refine ar_iload_n (pc := 92) (i := 2) (k0 := 2) (by decide +kernel) rfl rfl ?_
    refine ar_icmp_eq (pc := 93) (x := v1) (y := v2) (tgt := 100) (off := 7) (by decide +kernel) (by decide) (fun c2 => ?_) (fun c2 => ?_)
    · replace H := H.1 c2
      refine ar_iconst (pc := 100) (z := 0) (by decide +kernel) (by unfold am_i32; omega) ?_
      exact ar_zret (pc := 101) (x := 0) (by decide +kernel) rfl rfl (by decide) H
    · replace H := H.2 c2
      refine ar_iconst (pc := 96) (z := 1) (by decide +kernel) (by unfold am_i32; omega) ?_
      refine ar_goto (pc := 97) (tgt := 101) (off := 4) (by decide +kernel) (by decide) ?_
      exact ar_zret (pc := 101) (x := 1) (by decide +kernel) rfl rfl (by decide) H
  · replace H := H.2.1 c1
    refine ar_iload_n (pc := 36) (i := 1) (k0 := 1) (by decide +kernel) rfl rfl ?_
    refine ar_iload_n (pc := 37) (i := 2) (k0 := 2) (by decide +kernel) rfl rfl ?_
    refine ar_icmp_ge (pc := 38) (x := v1) (y := v2) (tgt := 45) (off := 7) (by decide +kernel) (by decide) (fun c3 => ?_) (fun c3 => ?_)
    · replace H := H.1 c3
      refine ar_iconst (pc := 45) (z := 0) (by decide +kernel) (by unfold am_i32; omega) ?_
      exact ar_zret (pc := 46) (x := 0) (by decide +kernel) rfl rfl (by decide) H
    · replace H := H.2 c3
      refine ar_iconst (pc := 41) (z := 1) (by decide +kernel) (by unfold am_i32; omega) ?_
      refine ar_goto (pc := 42) (tgt := 46) (off := 4) (by decide +kernel) (by decide) ?_
      exact ar_zret (pc := 46) (x := 1) (by decide +kernel) rfl rfl (by decide) H
  · replace H := H.2.2.1 c1
    refine ar_iload_n (pc := 47) (i := 1) (k0 := 1) (by decide +kernel) rfl rfl ?_
    refine ar_iload_n (pc := 48) (i := 2) (k0 := 2) (by decide +kernel) rfl rfl ?_
    refine ar_icmp_gt (pc := 49) (x := v1) (y := v2) (tgt := 56) (off := 7) (by decide +kernel) (by decide) (fun c4 => ?_) (fun c4 => ?_)
    · replace H := H.1 c4
      refine ar_iconst (pc := 56) (z := 0) (by decide +kernel) (by unfold am_i32; omega) ?_
      exact ar_zret (pc := 57) (x := 0) (by decide +kernel) rfl rfl (by decide) H
    · replace H := H.2 c4
      refine ar_iconst (pc := 52) (z := 1) (by decide +kernel) (by unfold am_i32; omega) ?_
      refine ar_goto (pc := 53) (tgt := 57) (off := 4) (by decide +kernel) (by decide) ?_
      exact ar_zret (pc := 57) (x := 1) (by decide +kernel) rfl rfl (by decide) H
  · replace H := H.2.2.2.1 c1
    refine ar_iload_n (pc := 58) (i := 1) (k0 := 1) (by decide +kernel) rfl rfl ?_
    refine ar_iload_n (pc := 59) (i := 2) (k0 := 2) (by decide +kernel) rfl rfl ?_
    refine ar_icmp_le (pc := 60) (x := v1) (y := v2) (tgt := 67) (off := 7) (by decide +kernel) (by decide) (fun c5 => ?_) (fun c5 => ?_)
    · replace H := H.1 c5
      refine ar_iconst (pc := 67) (z := 0) (by decide +kernel) (by unfold am_i32; omega) ?_
      exact ar_zret (pc := 68) (x := 0) (by decide +kernel) rfl rfl (by decide) H
    · replace H := H.2 c5
      refine ar_iconst (pc := 63) (z := 1) (by decide +kernel) (by unfold am_i32; omega) ?_
      refine ar_goto (pc := 64) (tgt := 68) (off := 4) (by decide +kernel) (by decide) ?_
      exact ar_zret (pc := 68) (x := 1) (by decide +kernel) rfl rfl (by decide) H
  · replace H := H.2.2.2.2.1 c1
    refine ar_iload_n (pc := 69) (i := 1) (k0 := 1) (by decide +kernel) rfl rfl ?_
    refine ar_iload_n (pc := 70) (i := 2) (k0 := 2) (by decide +kernel) rfl rfl ?_
    refine ar_icmp_lt (pc := 71) (x := v1) (y := v2) (tgt := 78) (off := 7) (by decide +kernel) (by decide) (fun c6 => ?_) (fun c6 => ?_)
    · replace H := H.1 c6
      refine ar_iconst (pc := 78) (z := 0) (by decide +kernel) (by unfold am_i32; omega) ?_
      exact ar_zret (pc := 79) (x := 0) (by decide +kernel) rfl rfl (by decide) H
    · replace H := H.2 c6
      refine ar_iconst (pc := 74) (z := 1) (by decide +kernel) (by unfold am_i32; omega) ?_
      refine ar_goto (pc := 75) (tgt := 79) (off := 4) (by decide +kernel) (by decide) ?_
      exact ar_zret (pc := 79) (x := 1) (by decide +kernel) rfl rfl (by decide) H
  · replace H := H.2.2.2.2.2 c1
    refine ar_iload_n (pc := 80) (i := 1) (k0 := 1) (by decide +kernel) rfl rfl ?_
    refine ar_iload_n (pc := 81) (i := 2) (k0 := 2) (by decide +kernel) rfl rfl ?_
    refine ar_icmp_ne (pc := 82) (x := v1) (y := v2) (tgt := 89) (off := 7) (by decide +kernel) (by decide) (fun c7 => ?_) (fun c7 => ?_)
    · replace H := H.1 c7
      refine ar_iconst (pc := 89) (z := 0) (by decide +kernel) (by unfold am_i32; omega) ?_
      exact ar_zret (pc := 90) (x := 0) (by decide +kernel) rfl rfl (by decide) H
    · replace H := H.2 c7
      refine ar_iconst (pc := 85) (z := 1) (by decide +kernel) (by unfold am_i32; omega) ?_
      refine ar_goto (pc := 86) (tgt := 90) (off := 4) (by decide +kernel) (by decide) ?_
      exact ar_zret (pc := 90) (x := 1) (by decide +kernel) rfl rfl (by decide) H

