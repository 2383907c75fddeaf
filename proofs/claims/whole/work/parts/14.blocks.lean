/-! ByteIntervals$Reader.readingAt(I)LByteIntervals$Reading; -/
theorem B_X2_readingAt_0 {d : Nat} {Q : Int → am_H → Prop} {h : am_H} {v1 : Int} (H : (0 < v1 → (¬ v1 = 1 → Q 230 h) ∧ (v1 = 1 → Q 225 h)) ∧ (v1 ≤ 0 → Q 220 h)) : wf d M_X2_readingAt Q 0 [some (.inr (.inr 218)), some (.inl v1)] [] h := by
  intro h0
  refine ar_iload_n (pc := 0) (i := 1) (k0 := 1) (by decide +kernel) rfl rfl ?_
  refine ar_if_gt (pc := 1) (x := v1) (tgt := 9) (off := 8) (by decide +kernel) (by decide) (fun c1 => ?_) (fun c1 => ?_)
  · replace H := H.1 c1
    refine ar_iload_n (pc := 9) (i := 1) (k0 := 1) (by decide +kernel) rfl rfl ?_
    refine ar_iconst (pc := 10) (z := 1) (by decide +kernel) (by unfold am_i32; omega) ?_
    refine ar_icmp_ne (pc := 11) (x := v1) (y := 1) (tgt := 21) (off := 10) (by decide +kernel) (by decide) (fun c2 => ?_) (fun c2 => ?_)
    · replace H := H.1 c2
      refine ar_aload_n (pc := 21) (i := 0) (k0 := 0) (by decide +kernel) rfl rfl ?_
      refine ar_getFV (pc := 22) (a := 218) (b := 230) 2 3 (by decide +kernel) k_218 rfl (by decide) wf_RX2_25 rfl (fun _ => rfl) rfl ?_
      exact ar_aret (pc := 25) (x := 230) (by decide +kernel) rfl rfl H
    · replace H := H.2 c2
      refine ar_aload_n (pc := 14) (i := 0) (k0 := 0) (by decide +kernel) rfl rfl ?_
      refine ar_getFV (pc := 15) (a := 218) (b := 225) 2 2 (by decide +kernel) k_218 rfl (by decide) wf_RX2_22 rfl (fun _ => rfl) rfl ?_
      refine ar_goto (pc := 18) (tgt := 25) (off := 7) (by decide +kernel) (by decide) ?_
      exact ar_aret (pc := 25) (x := 225) (by decide +kernel) rfl rfl H
  · replace H := H.2 c1
    refine ar_aload_n (pc := 4) (i := 0) (k0 := 0) (by decide +kernel) rfl rfl ?_
    refine ar_getFV (pc := 5) (a := 218) (b := 220) 2 1 (by decide +kernel) k_218 rfl (by decide) wf_RX2_18 rfl (fun _ => rfl) rfl ?_
    exact ar_aret (pc := 8) (x := 220) (by decide +kernel) rfl rfl H

/-! ByteIntervals$Reader.readFile(LByteIntervals$Text;LByteIntervals$Moment;I)LByteIntervals$Reading; -/
theorem B_X2_readFile_0 {d : Nat} {Q : Int → am_H → Prop} {h : am_H} {a1 a2 v3 : Int} (H : (am_kd 321 a2 = 10) ∧ (cf d M_X2_readFormat [.inr (.inr 218), .inr (.inr a1), .inl 0, .inl 0, .inl ((am_up (am_up h 218 7 (a2 + 1)) 218 8 0) a2 3), .inl v3] (am_up (am_up h 218 7 (a2 + 1)) 218 8 0) (fun r2 h3 => Q r2 h3))) : wf (d + 1) M_X2_readFile Q 0 [some (.inr (.inr 218)), some (.inr (.inr a1)), some (.inr (.inr a2)), some (.inl v3)] [] h := by
  intro h0
  refine ar_aload_n (pc := 0) (i := 0) (k0 := 0) (by decide +kernel) rfl rfl ?_
  refine ar_aload_n (pc := 1) (i := 2) (k0 := 2) (by decide +kernel) rfl rfl ?_
  obtain ⟨g1, H⟩ := H
  refine ar_getFNV (pc := 2) (a := a2) (b := (a2 + 1)) 0 0 (by decide +kernel) g1 rfl (by decide) wg_RX2_40 rfl (fun _ => rfl) rfl ?_
  refine ar_putA (pc := 5) (a := 218) (z := (a2 + 1)) 2 7 (by decide +kernel) k_218 rfl (by decide) (Or.inr ⟨_, rfl⟩) (fun _ => rfl) rfl wf_RX2_37 ?_
  refine ar_aload_n (pc := 8) (i := 0) (k0 := 0) (by decide +kernel) rfl rfl ?_
  refine ar_iconst (pc := 9) (z := 0) (by decide +kernel) (by unfold am_i32; omega) ?_
  refine ar_putI (pc := 10) (a := 218) (z := 0) 2 8 (by decide +kernel) k_218 rfl (by decide) rfl (fun _ => rfl) rfl wf_RX2_43 ?_
  refine ar_aload_n (pc := 13) (i := 0) (k0 := 0) (by decide +kernel) rfl rfl ?_
  refine ar_aload_n (pc := 14) (i := 1) (k0 := 1) (by decide +kernel) rfl rfl ?_
  refine ar_iconst (pc := 15) (z := 0) (by decide +kernel) (by unfold am_i32; omega) ?_
  refine ar_iconst (pc := 16) (z := 0) (by decide +kernel) (by unfold am_i32; omega) ?_
  refine ar_aload_n (pc := 17) (i := 2) (k0 := 2) (by decide +kernel) rfl rfl ?_
  refine ar_getNV (pc := 18) (a := a2) (v := .inl ((am_up (am_up h 218 7 (a2 + 1)) 218 8 0) a2 3)) 0 3 (by decide +kernel) g1 rfl (by decide) wg_RX2_47 rfl ?_
  refine ar_iload_n (pc := 21) (i := 3) (k0 := 3) (by decide +kernel) rfl rfl ?_
  refine ar_callV (pc := 22) (M2 := M_X2_readFormat) (a := 218) (ci := 2) (as := [.inr (.inr a1), .inl 0, .inl 0, .inl ((am_up (am_up h 218 7 (a2 + 1)) 218 8 0) a2 3), .inl v3]) (n2 := 321) (st := []) (by decide +kernel) rfl wm_RX2_50 wi_yX2_readFormat wl_yX2_readFormat k_218 rfl wz_RX2 wc_yX2_readFormat ⟨by decide, by decide, rfl⟩ (by decide) (Nat.le_of_ble_eq_true rfl) (Nat.le_refl _) (Nat.le_refl _) (am_Cl_mono H (fun r2 h3 H => ?_))
  show am_Wp true (d + 1) M_X2_readFile 321 321 h0 Q 25 [some (.inr (.inr 218)), some (.inr (.inr a1)), some (.inr (.inr a2)), some (.inl v3)] [.inr (.inr r2)] 321 h3
  exact ar_aret (pc := 25) (x := r2) (by decide +kernel) rfl rfl H

/-! ByteIntervals$Reader.readValues(LByteIntervals$Text;LByteIntervals$Moment;I)LByteIntervals$Reading; -/
theorem B_X2_readValues_0 {d : Nat} {Q : Int → am_H → Prop} {h : am_H} {a1 a2 v3 : Int} (H : (am_kd 321 a2 = 10) ∧ (cf d M_X2_readFormat [.inr (.inr 218), .inr (.inr a1), .inl 0, .inl 0, .inl ((am_up (am_up h 218 7 (a2 + 1)) 218 9 1) a2 3), .inl v3] (am_up (am_up h 218 7 (a2 + 1)) 218 9 1) (fun r2 h3 => Q r2 (am_up h3 218 9 0)))) : wf (d + 1) M_X2_readValues Q 0 [some (.inr (.inr 218)), some (.inr (.inr a1)), some (.inr (.inr a2)), some (.inl v3), none] [] h := by
  intro h0
  refine ar_aload_n (pc := 0) (i := 0) (k0 := 0) (by decide +kernel) rfl rfl ?_
  refine ar_aload_n (pc := 1) (i := 2) (k0 := 2) (by decide +kernel) rfl rfl ?_
  obtain ⟨g1, H⟩ := H
  refine ar_getFNV (pc := 2) (a := a2) (b := (a2 + 1)) 0 0 (by decide +kernel) g1 rfl (by decide) wg_RX2_40 rfl (fun _ => rfl) rfl ?_
  refine ar_putA (pc := 5) (a := 218) (z := (a2 + 1)) 2 7 (by decide +kernel) k_218 rfl (by decide) (Or.inr ⟨_, rfl⟩) (fun _ => rfl) rfl wf_RX2_37 ?_
  refine ar_aload_n (pc := 8) (i := 0) (k0 := 0) (by decide +kernel) rfl rfl ?_
  refine ar_iconst (pc := 9) (z := 1) (by decide +kernel) (by unfold am_i32; omega) ?_
  refine ar_putZ (pc := 10) (a := 218) (z := 1) 2 9 (by decide +kernel) k_218 rfl (by decide) rfl (fun _ => rfl) rfl (by decide) wf_RX2_54 ?_
  refine ar_aload_n (pc := 13) (i := 0) (k0 := 0) (by decide +kernel) rfl rfl ?_
  refine ar_aload_n (pc := 14) (i := 1) (k0 := 1) (by decide +kernel) rfl rfl ?_
  refine ar_iconst (pc := 15) (z := 0) (by decide +kernel) (by unfold am_i32; omega) ?_
  refine ar_iconst (pc := 16) (z := 0) (by decide +kernel) (by unfold am_i32; omega) ?_
  refine ar_aload_n (pc := 17) (i := 2) (k0 := 2) (by decide +kernel) rfl rfl ?_
  refine ar_getNV (pc := 18) (a := a2) (v := .inl ((am_up (am_up h 218 7 (a2 + 1)) 218 9 1) a2 3)) 0 3 (by decide +kernel) g1 rfl (by decide) wg_RX2_47 rfl ?_
  refine ar_iload_n (pc := 21) (i := 3) (k0 := 3) (by decide +kernel) rfl rfl ?_
  refine ar_callV (pc := 22) (M2 := M_X2_readFormat) (a := 218) (ci := 2) (as := [.inr (.inr a1), .inl 0, .inl 0, .inl ((am_up (am_up h 218 7 (a2 + 1)) 218 9 1) a2 3), .inl v3]) (n2 := 321) (st := []) (by decide +kernel) rfl wm_RX2_50 wi_yX2_readFormat wl_yX2_readFormat k_218 rfl wz_RX2 wc_yX2_readFormat ⟨by decide, by decide, rfl⟩ (by decide) (Nat.le_of_ble_eq_true rfl) (Nat.le_refl _) (Nat.le_refl _) (am_Cl_mono H (fun r2 h3 H => ?_))
  show am_Wp true (d + 1) M_X2_readValues 321 321 h0 Q 25 [some (.inr (.inr 218)), some (.inr (.inr a1)), some (.inr (.inr a2)), some (.inl v3), none] [.inr (.inr r2)] 321 h3
  refine ar_astore (pc := 25) (i := 4) (ls2 := [some (.inr (.inr 218)), some (.inr (.inr a1)), some (.inr (.inr a2)), some (.inl v3), some (.inr (.inr r2))]) (by decide +kernel) (by decide) rfl ?_
  refine ar_aload_n (pc := 27) (i := 0) (k0 := 0) (by decide +kernel) rfl rfl ?_
  refine ar_iconst (pc := 28) (z := 0) (by decide +kernel) (by unfold am_i32; omega) ?_
  refine ar_putZ (pc := 29) (a := 218) (z := 0) 2 9 (by decide +kernel) k_218 rfl (by decide) rfl (fun _ => rfl) rfl (by decide) wf_RX2_54 ?_
  refine ar_aload (pc := 32) (i := 4) (by decide +kernel) rfl ?_
  exact ar_aret (pc := 34) (x := r2) (by decide +kernel) rfl rfl H

/-! ByteIntervals$Reader.readInside(LByteIntervals$Text;II)LByteIntervals$Reading; -/
theorem B_X2_readInside_0 {d : Nat} {Q : Int → am_H → Prop} {h : am_H} {a1 v2 v3 : Int} (H : cf d M_X2_readFormat [.inr (.inr 218), .inr (.inr a1), .inl 1, .inl v2, .inl (am_w32 (v3 - v2)), .inl 255] h (fun r1 h2 => Q r1 h2)) : wf (d + 1) M_X2_readInside Q 0 [some (.inr (.inr 218)), some (.inr (.inr a1)), some (.inl v2), some (.inl v3)] [] h := by
  intro h0
  refine ar_aload_n (pc := 0) (i := 0) (k0 := 0) (by decide +kernel) rfl rfl ?_
  refine ar_aload_n (pc := 1) (i := 1) (k0 := 1) (by decide +kernel) rfl rfl ?_
  refine ar_iconst (pc := 2) (z := 1) (by decide +kernel) (by unfold am_i32; omega) ?_
  refine ar_iload_n (pc := 3) (i := 2) (k0 := 2) (by decide +kernel) rfl rfl ?_
  refine ar_iload_n (pc := 4) (i := 3) (k0 := 3) (by decide +kernel) rfl rfl ?_
  refine ar_iload_n (pc := 5) (i := 2) (k0 := 2) (by decide +kernel) rfl rfl ?_
  refine ar_isub (pc := 6) (x := v3) (y := v2) (by decide +kernel) ?_
  refine ar_sipush (pc := 7) (z := 255) (by decide +kernel) (by omega) ?_
  refine ar_callV (pc := 10) (M2 := M_X2_readFormat) (a := 218) (ci := 2) (as := [.inr (.inr a1), .inl 1, .inl v2, .inl (am_w32 (v3 - v2)), .inl 255]) (n2 := 321) (st := []) (by decide +kernel) rfl wm_RX2_50 wi_yX2_readFormat wl_yX2_readFormat k_218 rfl wz_RX2 wc_yX2_readFormat ⟨by decide, by decide, rfl⟩ (by decide) (Nat.le_of_ble_eq_true rfl) (Nat.le_refl _) (Nat.le_refl _) (am_Cl_mono H (fun r1 h2 H => ?_))
  show am_Wp true (d + 1) M_X2_readInside 321 321 h0 Q 13 [some (.inr (.inr 218)), some (.inr (.inr a1)), some (.inl v2), some (.inl v3)] [.inr (.inr r1)] 321 h2
  exact ar_aret (pc := 13) (x := r1) (by decide +kernel) rfl rfl H

/-! ByteIntervals$Reader.isValid(LByteIntervals$Text;[II)Z -/
theorem B_X2_isValid_0 {d : Nat} {Q : Int → am_H → Prop} {h : am_H} {a1 a2 v3 : Int} (H : (am_kd 321 a1 = 15) ∧ (((h a1 15) = 0 → cf d M_X2_readFormat [.inr (.inr 218), .inr (.inr a1), .inl 0, .inl 0, .inl v3, .inl 255] (am_up h 218 7 a2) (fun r3 h4 => (am_kd 321 r3 = 13) ∧ (cf d M_X3_isSound [.inr (.inr r3)] h4 (fun r5 h6 => (r5 = 0 ∨ r5 = 1) ∧ (Q r5 h6))))) ∧ (¬ (h a1 15) = 0 → Q 0 h))) : wf (d + 1) M_X2_isValid Q 0 [some (.inr (.inr 218)), some (.inr (.inr a1)), some (.inr (.inr a2)), some (.inl v3), none] [] h := by
  intro h0
  refine ar_aload_n (pc := 0) (i := 1) (k0 := 1) (by decide +kernel) rfl rfl ?_
  obtain ⟨g1, H⟩ := H
  refine ar_getNV (pc := 1) (a := a1) (v := .inl (h a1 15)) 5 15 (by decide +kernel) g1 rfl (by decide) wg_RX2_58 rfl ?_
  refine ar_if_eq (pc := 4) (x := (h a1 15)) (tgt := 9) (off := 5) (by decide +kernel) (by decide) (fun c2 => ?_) (fun c2 => ?_)
  · replace H := H.1 c2
    refine ar_aload_n (pc := 9) (i := 0) (k0 := 0) (by decide +kernel) rfl rfl ?_
    refine ar_aload_n (pc := 10) (i := 2) (k0 := 2) (by decide +kernel) rfl rfl ?_
    refine ar_putA (pc := 11) (a := 218) (z := a2) 2 7 (by decide +kernel) k_218 rfl (by decide) (Or.inr ⟨_, rfl⟩) (fun _ => rfl) rfl wf_RX2_37 ?_
    refine ar_aload_n (pc := 14) (i := 0) (k0 := 0) (by decide +kernel) rfl rfl ?_
    refine ar_aload_n (pc := 15) (i := 1) (k0 := 1) (by decide +kernel) rfl rfl ?_
    refine ar_iconst (pc := 16) (z := 0) (by decide +kernel) (by unfold am_i32; omega) ?_
    refine ar_iconst (pc := 17) (z := 0) (by decide +kernel) (by unfold am_i32; omega) ?_
    refine ar_iload_n (pc := 18) (i := 3) (k0 := 3) (by decide +kernel) rfl rfl ?_
    refine ar_sipush (pc := 19) (z := 255) (by decide +kernel) (by omega) ?_
    refine ar_callV (pc := 22) (M2 := M_X2_readFormat) (a := 218) (ci := 2) (as := [.inr (.inr a1), .inl 0, .inl 0, .inl v3, .inl 255]) (n2 := 321) (st := []) (by decide +kernel) rfl wm_RX2_50 wi_yX2_readFormat wl_yX2_readFormat k_218 rfl wz_RX2 wc_yX2_readFormat ⟨by decide, by decide, rfl⟩ (by decide) (Nat.le_of_ble_eq_true rfl) (Nat.le_refl _) (Nat.le_refl _) (am_Cl_mono H (fun r3 h4 H => ?_))
    show am_Wp true (d + 1) M_X2_isValid 321 321 h0 Q 25 [some (.inr (.inr 218)), some (.inr (.inr a1)), some (.inr (.inr a2)), some (.inl v3), none] [.inr (.inr r3)] 321 h4
    refine ar_astore (pc := 25) (i := 4) (ls2 := [some (.inr (.inr 218)), some (.inr (.inr a1)), some (.inr (.inr a2)), some (.inl v3), some (.inr (.inr r3))]) (by decide +kernel) (by decide) rfl ?_
    refine ar_aload (pc := 27) (i := 4) (by decide +kernel) rfl ?_
    obtain ⟨g7, H⟩ := H
    refine ar_callVN (pc := 29) (M2 := M_X3_isSound) (a := r3) (ci := 3) (as := []) (n2 := 321) (st := []) (by decide +kernel) rfl wn_RX2_63 wi_yX3_isSound wl_yX3_isSound g7 rfl wz_RX3 wc_yX3_isSound ⟨by decide, by decide, rfl⟩ (by decide) (Nat.le_of_ble_eq_true rfl) (Nat.le_refl _) (Nat.le_refl _) (am_Cl_mono H (fun r5 h6 H => ?_))
    show am_Wp true (d + 1) M_X2_isValid 321 321 h0 Q 32 [some (.inr (.inr 218)), some (.inr (.inr a1)), some (.inr (.inr a2)), some (.inl v3), some (.inr (.inr r3))] [.inl r5] 321 h6
    obtain ⟨g8, H⟩ := H
    exact ar_zret (pc := 32) (x := r5) (by decide +kernel) rfl rfl g8 H
  · replace H := H.2 c2
    refine ar_iconst (pc := 7) (z := 0) (by decide +kernel) (by unfold am_i32; omega) ?_
    exact ar_zret (pc := 8) (x := 0) (by decide +kernel) rfl rfl (by decide) H

/-! ByteIntervals$Reader.readFormat(LByteIntervals$Text;IIII)LByteIntervals$Reading; -/
theorem B_X2_readFormat_0 {d : Nat} {Q : Int → am_H → Prop} {h : am_H} {a1 v2 v3 v4 v5 : Int} (H : cf d M_X2_readingAt [.inr (.inr 218), .inl v2] h (fun r1 h2 => (am_kd 321 a1 = 15) ∧ ((am_kd 321 r1 = 13) ∧ (cf d M_X3_begin [.inr (.inr r1), .inl (h2 a1 6), .inl v2, .inl v3, .inl v4] h2 (fun _ h5 => wf (d + 1) M_X2_readFormat Q 23 [some (.inr (.inr 218)), some (.inr (.inr a1)), none, none, none, some (.inl v5), some (.inr (.inr r1)), some (.inl 0), none] [] h5))))) : wf (d + 1) M_X2_readFormat Q 0 [some (.inr (.inr 218)), some (.inr (.inr a1)), some (.inl v2), some (.inl v3), some (.inl v4), some (.inl v5), none, none, none] [] h := by
  intro h0
  refine ar_aload_n (pc := 0) (i := 0) (k0 := 0) (by decide +kernel) rfl rfl ?_
  refine ar_iload_n (pc := 1) (i := 2) (k0 := 2) (by decide +kernel) rfl rfl ?_
  refine ar_callV (pc := 2) (M2 := M_X2_readingAt) (a := 218) (ci := 2) (as := [.inl v2]) (n2 := 321) (st := []) (by decide +kernel) rfl wm_RX2_67 wi_yX2_readingAt wl_yX2_readingAt k_218 rfl wz_RX2 wc_yX2_readingAt ⟨by decide, by decide, rfl⟩ (by decide) (Nat.le_of_ble_eq_true rfl) (Nat.le_refl _) (Nat.le_refl _) (am_Cl_mono H (fun r1 h2 H => ?_))
  show am_Wp true (d + 1) M_X2_readFormat 321 321 h0 Q 5 [some (.inr (.inr 218)), some (.inr (.inr a1)), some (.inl v2), some (.inl v3), some (.inl v4), some (.inl v5), none, none, none] [.inr (.inr r1)] 321 h2
  refine ar_astore (pc := 5) (i := 6) (ls2 := [some (.inr (.inr 218)), some (.inr (.inr a1)), some (.inl v2), some (.inl v3), some (.inl v4), some (.inl v5), some (.inr (.inr r1)), none, none]) (by decide +kernel) (by decide) rfl ?_
  refine ar_aload (pc := 7) (i := 6) (by decide +kernel) rfl ?_
  refine ar_aload_n (pc := 9) (i := 1) (k0 := 1) (by decide +kernel) rfl rfl ?_
  obtain ⟨g3, H⟩ := H
  refine ar_getNV (pc := 10) (a := a1) (v := .inl (h2 a1 6)) 5 6 (by decide +kernel) g3 rfl (by decide) wg_RX2_71 rfl ?_
  refine ar_iload_n (pc := 13) (i := 2) (k0 := 2) (by decide +kernel) rfl rfl ?_
  refine ar_iload_n (pc := 14) (i := 3) (k0 := 3) (by decide +kernel) rfl rfl ?_
  refine ar_iload (pc := 15) (i := 4) (by decide +kernel) rfl ?_
  obtain ⟨g6, H⟩ := H
  refine ar_callVN (pc := 17) (M2 := M_X3_begin) (a := r1) (ci := 3) (as := [.inl (h2 a1 6), .inl v2, .inl v3, .inl v4]) (n2 := 321) (st := []) (by decide +kernel) rfl wn_RX2_74 wi_yX3_begin wl_yX3_begin g6 rfl wz_RX3 wc_yX3_begin ⟨by decide, by decide, rfl⟩ (by decide) (Nat.le_of_ble_eq_true rfl) (Nat.le_refl _) (Nat.le_refl _) (am_Cl_mono H (fun r4 h5 H => ?_))
  show am_Wp true (d + 1) M_X2_readFormat 321 321 h0 Q 20 [some (.inr (.inr 218)), some (.inr (.inr a1)), some (.inl v2), some (.inl v3), some (.inl v4), some (.inl v5), some (.inr (.inr r1)), none, none] [] 321 h5
  refine ar_iconst (pc := 20) (z := 0) (by decide +kernel) (by unfold am_i32; omega) ?_
  refine ar_istore (pc := 21) (i := 7) (ls2 := [some (.inr (.inr 218)), some (.inr (.inr a1)), some (.inl v2), some (.inl v3), some (.inl v4), some (.inl v5), some (.inr (.inr r1)), some (.inl 0), none]) (by decide +kernel) (by decide) rfl ?_
  refine ar_forget [true, true, false, false, false, true, true, true, true] rfl ?_
  exact H h0
theorem B_X2_readFormat_23 {d : Nat} {Q : Int → am_H → Prop} {h : am_H} {a1 v5 v6 v7 : Int} (H : (am_kd 321 a1 = 15) ∧ (((h a1 14) ≤ v7 → wf (d + 1) M_X2_readFormat Q 81 [some (.inr (.inr 218)), some (.inr (.inr a1)), none, none, none, some (.inl v5), some (.inr (.inr v6)), none, none] [] h) ∧ (v7 < (h a1 14) → (8 ≤ v7 → wf (d + 1) M_X2_readFormat Q 81 [some (.inr (.inr 218)), some (.inr (.inr a1)), none, none, none, some (.inl v5), some (.inr (.inr v6)), none, none] [] h) ∧ (v7 < 8 → (0 ≤ v7) ∧ (cf d M_X6_isField [.inl (h (a1 + 11) v7)] h (fun r5 h6 => (r5 = 0 → wf (d + 1) M_X2_readFormat Q 75 [some (.inr (.inr 218)), some (.inr (.inr a1)), none, none, none, some (.inl v5), some (.inr (.inr v6)), some (.inl v7), none] [] h6) ∧ (¬ r5 = 0 → cf d M_X6_hasBit [.inl v5, .inl (h (a1 + 11) v7)] h6 (fun r8 h9 => (r8 = 0 → wf (d + 1) M_X2_readFormat Q 75 [some (.inr (.inr 218)), some (.inr (.inr a1)), none, none, none, some (.inl v5), some (.inr (.inr v6)), some (.inl v7), none] [] h9) ∧ (¬ r8 = 0 → cf d M_X2_readField [.inr (.inr 218), .inr (.inr a1), .inr (.inr v6), .inl (h (a1 + 11) v7)] h9 (fun _ h12 => wf (d + 1) M_X2_readFormat Q 75 [some (.inr (.inr 218)), some (.inr (.inr a1)), none, none, none, some (.inl v5), some (.inr (.inr v6)), some (.inl v7), none] [] h12)))))))))) : wf (d + 1) M_X2_readFormat Q 23 [some (.inr (.inr 218)), some (.inr (.inr a1)), none, none, none, some (.inl v5), some (.inr (.inr v6)), some (.inl v7), none] [] h := by
  intro h0
  refine ar_iload (pc := 23) (i := 7) (by decide +kernel) rfl ?_
  refine ar_aload_n (pc := 25) (i := 1) (k0 := 1) (by decide +kernel) rfl rfl ?_
  obtain ⟨g1, H⟩ := H
  refine ar_getNV (pc := 26) (a := a1) (v := .inl (h a1 14)) 5 14 (by decide +kernel) g1 rfl (by decide) wg_RX2_78 rfl ?_
  refine ar_icmp_ge (pc := 29) (x := v7) (y := (h a1 14)) (tgt := 81) (off := 52) (by decide +kernel) (by decide) (fun c2 => ?_) (fun c2 => ?_)
  · replace H := H.1 c2
    refine ar_forget [true, true, true, true, true, true, true, false, true] rfl ?_
    exact H h0
  · replace H := H.2 c2
    refine ar_iload (pc := 32) (i := 7) (by decide +kernel) rfl ?_
    refine ar_bipush (pc := 34) (z := 8) (by decide +kernel) (by omega) ?_
    refine ar_icmp_ge (pc := 36) (x := v7) (y := 8) (tgt := 81) (off := 45) (by decide +kernel) (by decide) (fun c3 => ?_) (fun c3 => ?_)
    · replace H := H.1 c3
      refine ar_forget [true, true, true, true, true, true, true, false, true] rfl ?_
      exact H h0
    · replace H := H.2 c3
      refine ar_aload_n (pc := 39) (i := 1) (k0 := 1) (by decide +kernel) rfl rfl ?_
      refine ar_getFNV (pc := 40) (a := a1) (b := (a1 + 11)) 5 13 (by decide +kernel) g1 rfl (by decide) wg_RX2_81 rfl (fun _ => rfl) rfl ?_
      refine ar_iload (pc := 43) (i := 7) (by decide +kernel) rfl ?_
      obtain ⟨g4, H⟩ := H
      refine ar_iald (pc := 45) (a := (a1 + 11)) (i := v7) (by decide +kernel) (kX5_13 g1).1 g4 (am_lt_eq c3 ((kX5_13 g1).2).symm) ?_
      refine ar_istore (pc := 46) (i := 8) (ls2 := [some (.inr (.inr 218)), some (.inr (.inr a1)), none, none, none, some (.inl v5), some (.inr (.inr v6)), some (.inl v7), some (.inl (h (a1 + 11) v7))]) (by decide +kernel) (by decide) rfl ?_
      refine ar_iload (pc := 48) (i := 8) (by decide +kernel) rfl ?_
      refine ar_callSN (pc := 50) (M2 := M_X6_isField) (as := [.inl (h (a1 + 11) v7)]) (n2 := 321) (st := []) (by decide +kernel) rfl wn_RX2_84 ws_yX6_isField wz_RX6 wc_yX6_isField ⟨by decide, by decide, rfl⟩ (by decide) (Nat.le_of_ble_eq_true rfl) (Nat.le_refl _) (Nat.le_refl _) (am_Cl_mono H (fun r5 h6 H => ?_))
      show am_Wp true (d + 1) M_X2_readFormat 321 321 h0 Q 53 [some (.inr (.inr 218)), some (.inr (.inr a1)), none, none, none, some (.inl v5), some (.inr (.inr v6)), some (.inl v7), some (.inl (h (a1 + 11) v7))] [.inl r5] 321 h6
      refine ar_if_eq (pc := 53) (x := r5) (tgt := 75) (off := 22) (by decide +kernel) (by decide) (fun c7 => ?_) (fun c7 => ?_)
      · replace H := H.1 c7
        refine ar_forget [true, true, true, true, true, true, true, true, false] rfl ?_
        exact H h0
      · replace H := H.2 c7
        refine ar_iload (pc := 56) (i := 5) (by decide +kernel) rfl ?_
        refine ar_iload (pc := 58) (i := 8) (by decide +kernel) rfl ?_
        refine ar_callSN (pc := 60) (M2 := M_X6_hasBit) (as := [.inl v5, .inl (h (a1 + 11) v7)]) (n2 := 321) (st := []) (by decide +kernel) rfl wn_RX2_88 ws_yX6_hasBit wz_RX6 wc_yX6_hasBit ⟨by decide, by decide, rfl⟩ (by decide) (Nat.le_of_ble_eq_true rfl) (Nat.le_refl _) (Nat.le_refl _) (am_Cl_mono H (fun r8 h9 H => ?_))
        show am_Wp true (d + 1) M_X2_readFormat 321 321 h0 Q 63 [some (.inr (.inr 218)), some (.inr (.inr a1)), none, none, none, some (.inl v5), some (.inr (.inr v6)), some (.inl v7), some (.inl (h (a1 + 11) v7))] [.inl r8] 321 h9
        refine ar_if_eq (pc := 63) (x := r8) (tgt := 75) (off := 12) (by decide +kernel) (by decide) (fun c10 => ?_) (fun c10 => ?_)
        · replace H := H.1 c10
          refine ar_forget [true, true, true, true, true, true, true, true, false] rfl ?_
          exact H h0
        · replace H := H.2 c10
          refine ar_aload_n (pc := 66) (i := 0) (k0 := 0) (by decide +kernel) rfl rfl ?_
          refine ar_aload_n (pc := 67) (i := 1) (k0 := 1) (by decide +kernel) rfl rfl ?_
          refine ar_aload (pc := 68) (i := 6) (by decide +kernel) rfl ?_
          refine ar_iload (pc := 70) (i := 8) (by decide +kernel) rfl ?_
          refine ar_callV (pc := 72) (M2 := M_X2_readField) (a := 218) (ci := 2) (as := [.inr (.inr a1), .inr (.inr v6), .inl (h (a1 + 11) v7)]) (n2 := 321) (st := []) (by decide +kernel) rfl wm_RX2_92 wi_yX2_readField wl_yX2_readField k_218 rfl wz_RX2 wc_yX2_readField ⟨by decide, by decide, rfl⟩ (by decide) (Nat.le_of_ble_eq_true rfl) (Nat.le_refl _) (Nat.le_refl _) (am_Cl_mono H (fun r11 h12 H => ?_))
          show am_Wp true (d + 1) M_X2_readFormat 321 321 h0 Q 75 [some (.inr (.inr 218)), some (.inr (.inr a1)), none, none, none, some (.inl v5), some (.inr (.inr v6)), some (.inl v7), some (.inl (h (a1 + 11) v7))] [] 321 h12
          refine ar_forget [true, true, true, true, true, true, true, true, false] rfl ?_
          exact H h0
theorem B_X2_readFormat_75 {d : Nat} {Q : Int → am_H → Prop} {h : am_H} {a1 v5 v6 v7 : Int} (H : wf (d + 1) M_X2_readFormat Q 23 [some (.inr (.inr 218)), some (.inr (.inr a1)), none, none, none, some (.inl v5), some (.inr (.inr v6)), some (.inl (am_w32 (v7 + 1))), none] [] h) : wf (d + 1) M_X2_readFormat Q 75 [some (.inr (.inr 218)), some (.inr (.inr a1)), none, none, none, some (.inl v5), some (.inr (.inr v6)), some (.inl v7), none] [] h := by
  intro h0
  refine ar_iinc (pc := 75) (i := 7) (z := 1) (x := v7) (ls2 := [some (.inr (.inr 218)), some (.inr (.inr a1)), none, none, none, some (.inl v5), some (.inr (.inr v6)), some (.inl (am_w32 (v7 + 1))), none]) (by decide +kernel) rfl (by decide) rfl ?_
  refine ar_goto (pc := 78) (tgt := 23) (off := -55) (by decide +kernel) (by decide) ?_
  exact H h0
theorem B_X2_readFormat_81 {d : Nat} {Q : Int → am_H → Prop} {h : am_H} {a1 v5 v6 : Int} (H : (¬ v5 = 255 → Q v6 h) ∧ (v5 = 255 → cf d M_X2_askMusts [.inr (.inr 218), .inr (.inr a1), .inr (.inr v6)] h (fun _ h3 => Q v6 h3))) : wf (d + 1) M_X2_readFormat Q 81 [some (.inr (.inr 218)), some (.inr (.inr a1)), none, none, none, some (.inl v5), some (.inr (.inr v6)), none, none] [] h := by
  intro h0
  refine ar_iload (pc := 81) (i := 5) (by decide +kernel) rfl ?_
  refine ar_sipush (pc := 83) (z := 255) (by decide +kernel) (by omega) ?_
  refine ar_icmp_ne (pc := 86) (x := v5) (y := 255) (tgt := 96) (off := 10) (by decide +kernel) (by decide) (fun c1 => ?_) (fun c1 => ?_)
  · replace H := H.1 c1
    refine ar_aload (pc := 96) (i := 6) (by decide +kernel) rfl ?_
    exact ar_aret (pc := 98) (x := v6) (by decide +kernel) rfl rfl H
  · replace H := H.2 c1
    refine ar_aload_n (pc := 89) (i := 0) (k0 := 0) (by decide +kernel) rfl rfl ?_
    refine ar_aload_n (pc := 90) (i := 1) (k0 := 1) (by decide +kernel) rfl rfl ?_
    refine ar_aload (pc := 91) (i := 6) (by decide +kernel) rfl ?_
    refine ar_callV (pc := 93) (M2 := M_X2_askMusts) (a := 218) (ci := 2) (as := [.inr (.inr a1), .inr (.inr v6)]) (n2 := 321) (st := []) (by decide +kernel) rfl wm_RX2_96 wi_yX2_askMusts wl_yX2_askMusts k_218 rfl wz_RX2 wc_yX2_askMusts ⟨by decide, by decide, rfl⟩ (by decide) (Nat.le_of_ble_eq_true rfl) (Nat.le_refl _) (Nat.le_refl _) (am_Cl_mono H (fun r2 h3 H => ?_))
    show am_Wp true (d + 1) M_X2_readFormat 321 321 h0 Q 96 [some (.inr (.inr 218)), some (.inr (.inr a1)), none, none, none, some (.inl v5), some (.inr (.inr v6)), none, none] [] 321 h3
    refine ar_aload (pc := 96) (i := 6) (by decide +kernel) rfl ?_
    exact ar_aret (pc := 98) (x := v6) (by decide +kernel) rfl rfl H

/-! ByteIntervals$Reader.readField(LByteIntervals$Text;LByteIntervals$Reading;I)V -/
theorem B_X2_readField_0 {d : Nat} {Q : Int → am_H → Prop} {h : am_H} {a1 a2 v3 : Int} (H : cf d M_X6_isField [.inl v3] h (fun r1 h2 => (r1 = 0 → Q 0 h2) ∧ (¬ r1 = 0 → (am_kd 321 a1 = 15) ∧ ((0 ≤ v3) ∧ ((v3 < 8) ∧ ((am_kd 321 a2 = 13) ∧ (((am_iand (h2 (a1 + 9) v3) (h2 a2 4)) = 0 → cf d M_X2_answer [.inr (.inr 218), .inr (.inr a1), .inl ((am_up h2 218 10 0) (a1 + 6) v3), .inr (.inr a2)] (am_up h2 218 10 0) (fun r9 h10 => (¬ (h2 (a1 + 5) v3) = 1 → wf (d + 1) M_X2_readField Q 72 [some (.inr (.inr 218)), some (.inr (.inr a1)), some (.inr (.inr a2)), some (.inl v3), some (.inl (h2 (a1 + 5) v3)), some (.inl r9), none, none, none] [.inl r9] h10) ∧ ((h2 (a1 + 5) v3) = 1 → cf d M_X2_answer [.inr (.inr 218), .inr (.inr a1), .inl (h10 (a1 + 7) v3), .inr (.inr a2)] h10 (fun r12 h13 => wf (d + 1) M_X2_readField Q 72 [some (.inr (.inr 218)), some (.inr (.inr a1)), some (.inr (.inr a2)), some (.inl v3), some (.inl (h2 (a1 + 5) v3)), some (.inl r9), none, none, none] [.inl r12] h13)))) ∧ (¬ (am_iand (h2 (a1 + 9) v3) (h2 a2 4)) = 0 → Q 0 h2)))))))) : wf (d + 1) M_X2_readField Q 0 [some (.inr (.inr 218)), some (.inr (.inr a1)), some (.inr (.inr a2)), some (.inl v3), none, none, none, none, none] [] h := by
  intro h0
  refine ar_iload_n (pc := 0) (i := 3) (k0 := 3) (by decide +kernel) rfl rfl ?_
  refine ar_callSN (pc := 1) (M2 := M_X6_isField) (as := [.inl v3]) (n2 := 321) (st := []) (by decide +kernel) rfl wn_RX2_84 ws_yX6_isField wz_RX6 wc_yX6_isField ⟨by decide, by decide, rfl⟩ (by decide) (Nat.le_of_ble_eq_true rfl) (Nat.le_refl _) (Nat.le_refl _) (am_Cl_mono H (fun r1 h2 H => ?_))
  show am_Wp true (d + 1) M_X2_readField 321 321 h0 Q 4 [some (.inr (.inr 218)), some (.inr (.inr a1)), some (.inr (.inr a2)), some (.inl v3), none, none, none, none, none] [.inl r1] 321 h2
  refine ar_if_eq (pc := 4) (x := r1) (tgt := 21) (off := 17) (by decide +kernel) (by decide) (fun c3 => ?_) (fun c3 => ?_)
  · replace H := H.1 c3
    exact ar_vret (pc := 21) (by decide +kernel) rfl rfl H
  · replace H := H.2 c3
    refine ar_aload_n (pc := 7) (i := 1) (k0 := 1) (by decide +kernel) rfl rfl ?_
    obtain ⟨g4, H⟩ := H
    refine ar_getFNV (pc := 8) (a := a1) (b := (a1 + 9)) 5 11 (by decide +kernel) g4 rfl (by decide) wg_RX2_100 rfl (fun _ => rfl) rfl ?_
    refine ar_iload_n (pc := 11) (i := 3) (k0 := 3) (by decide +kernel) rfl rfl ?_
    obtain ⟨g5, H⟩ := H
    obtain ⟨g6, H⟩ := H
    refine ar_iald (pc := 12) (a := (a1 + 9)) (i := v3) (by decide +kernel) (kX5_11 g4).1 g5 (am_lt_eq g6 ((kX5_11 g4).2).symm) ?_
    refine ar_aload_n (pc := 13) (i := 2) (k0 := 2) (by decide +kernel) rfl rfl ?_
    obtain ⟨g7, H⟩ := H
    refine ar_getNV (pc := 14) (a := a2) (v := .inl (h2 a2 4)) 3 4 (by decide +kernel) g7 rfl (by decide) wg_RX2_103 rfl ?_
    refine ar_iand (pc := 17) (x := (h2 (a1 + 9) v3)) (y := (h2 a2 4)) (by decide +kernel) ?_
    refine ar_if_eq (pc := 18) (x := (am_iand (h2 (a1 + 9) v3) (h2 a2 4))) (tgt := 22) (off := 4) (by decide +kernel) (by decide) (fun c8 => ?_) (fun c8 => ?_)
    · replace H := H.1 c8
      refine ar_aload_n (pc := 22) (i := 1) (k0 := 1) (by decide +kernel) rfl rfl ?_
      refine ar_getFNV (pc := 23) (a := a1) (b := (a1 + 5)) 5 7 (by decide +kernel) g4 rfl (by decide) wg_RX2_106 rfl (fun _ => rfl) rfl ?_
      refine ar_iload_n (pc := 26) (i := 3) (k0 := 3) (by decide +kernel) rfl rfl ?_
      refine ar_iald (pc := 27) (a := (a1 + 5)) (i := v3) (by decide +kernel) (kX5_7 g4).1 g5 (am_lt_eq g6 ((kX5_7 g4).2).symm) ?_
      refine ar_istore (pc := 28) (i := 4) (ls2 := [some (.inr (.inr 218)), some (.inr (.inr a1)), some (.inr (.inr a2)), some (.inl v3), some (.inl (h2 (a1 + 5) v3)), none, none, none, none]) (by decide +kernel) (by decide) rfl ?_
      refine ar_aload_n (pc := 30) (i := 0) (k0 := 0) (by decide +kernel) rfl rfl ?_
      refine ar_lconst (pc := 31) (i := 0) (z := 0) (by decide +kernel) rfl ?_
      refine ar_putL (pc := 32) (a := 218) (z := 0) 2 10 (by decide +kernel) k_218 rfl (by decide) rfl (fun _ => rfl) rfl wf_RX2_109 ?_
      refine ar_aload_n (pc := 35) (i := 0) (k0 := 0) (by decide +kernel) rfl rfl ?_
      refine ar_aload_n (pc := 36) (i := 1) (k0 := 1) (by decide +kernel) rfl rfl ?_
      refine ar_aload_n (pc := 37) (i := 1) (k0 := 1) (by decide +kernel) rfl rfl ?_
      refine ar_getFNV (pc := 38) (a := a1) (b := (a1 + 6)) 5 8 (by decide +kernel) g4 rfl (by decide) wg_RX2_113 rfl (fun _ => rfl) rfl ?_
      refine ar_iload_n (pc := 41) (i := 3) (k0 := 3) (by decide +kernel) rfl rfl ?_
      refine ar_iald (pc := 42) (a := (a1 + 6)) (i := v3) (by decide +kernel) (kX5_8 g4).1 g5 (am_lt_eq g6 ((kX5_8 g4).2).symm) ?_
      refine ar_aload_n (pc := 43) (i := 2) (k0 := 2) (by decide +kernel) rfl rfl ?_
      refine ar_callV (pc := 44) (M2 := M_X2_answer) (a := 218) (ci := 2) (as := [.inr (.inr a1), .inl ((am_up h2 218 10 0) (a1 + 6) v3), .inr (.inr a2)]) (n2 := 321) (st := []) (by decide +kernel) rfl wm_RX2_116 wi_yX2_answer wl_yX2_answer k_218 rfl wz_RX2 wc_yX2_answer ⟨by decide, by decide, rfl⟩ (by decide) (Nat.le_of_ble_eq_true rfl) (Nat.le_refl _) (Nat.le_refl _) (am_Cl_mono H (fun r9 h10 H => ?_))
      show am_Wp true (d + 1) M_X2_readField 321 321 h0 Q 47 [some (.inr (.inr 218)), some (.inr (.inr a1)), some (.inr (.inr a2)), some (.inl v3), some (.inl (h2 (a1 + 5) v3)), none, none, none, none] [.inl r9] 321 h10
      refine ar_istore (pc := 47) (i := 5) (ls2 := [some (.inr (.inr 218)), some (.inr (.inr a1)), some (.inr (.inr a2)), some (.inl v3), some (.inl (h2 (a1 + 5) v3)), some (.inl r9), none, none, none]) (by decide +kernel) (by decide) rfl ?_
      refine ar_iload (pc := 49) (i := 4) (by decide +kernel) rfl ?_
      refine ar_iconst (pc := 51) (z := 1) (by decide +kernel) (by unfold am_i32; omega) ?_
      refine ar_icmp_ne (pc := 52) (x := (h2 (a1 + 5) v3)) (y := 1) (tgt := 70) (off := 18) (by decide +kernel) (by decide) (fun c11 => ?_) (fun c11 => ?_)
      · replace H := H.1 c11
        refine ar_iload (pc := 70) (i := 5) (by decide +kernel) rfl ?_
        exact H h0
      · replace H := H.2 c11
        refine ar_aload_n (pc := 55) (i := 0) (k0 := 0) (by decide +kernel) rfl rfl ?_
        refine ar_aload_n (pc := 56) (i := 1) (k0 := 1) (by decide +kernel) rfl rfl ?_
        refine ar_aload_n (pc := 57) (i := 1) (k0 := 1) (by decide +kernel) rfl rfl ?_
        refine ar_getFNV (pc := 58) (a := a1) (b := (a1 + 7)) 5 9 (by decide +kernel) g4 rfl (by decide) wg_RX2_120 rfl (fun _ => rfl) rfl ?_
        refine ar_iload_n (pc := 61) (i := 3) (k0 := 3) (by decide +kernel) rfl rfl ?_
        refine ar_iald (pc := 62) (a := (a1 + 7)) (i := v3) (by decide +kernel) (kX5_9 g4).1 g5 (am_lt_eq g6 ((kX5_9 g4).2).symm) ?_
        refine ar_aload_n (pc := 63) (i := 2) (k0 := 2) (by decide +kernel) rfl rfl ?_
        refine ar_callV (pc := 64) (M2 := M_X2_answer) (a := 218) (ci := 2) (as := [.inr (.inr a1), .inl (h10 (a1 + 7) v3), .inr (.inr a2)]) (n2 := 321) (st := []) (by decide +kernel) rfl wm_RX2_116 wi_yX2_answer wl_yX2_answer k_218 rfl wz_RX2 wc_yX2_answer ⟨by decide, by decide, rfl⟩ (by decide) (Nat.le_of_ble_eq_true rfl) (Nat.le_refl _) (Nat.le_refl _) (am_Cl_mono H (fun r12 h13 H => ?_))
        show am_Wp true (d + 1) M_X2_readField 321 321 h0 Q 67 [some (.inr (.inr 218)), some (.inr (.inr a1)), some (.inr (.inr a2)), some (.inl v3), some (.inl (h2 (a1 + 5) v3)), some (.inl r9), none, none, none] [.inl r12] 321 h13
        refine ar_goto (pc := 67) (tgt := 72) (off := 5) (by decide +kernel) (by decide) ?_
        exact H h0
    · replace H := H.2 c8
      exact ar_vret (pc := 21) (by decide +kernel) rfl rfl H
theorem B_X2_readField_72 {d : Nat} {Q : Int → am_H → Prop} {h : am_H} {a1 a2 v3 v4 v5 s0 : Int} (H : (am_kd 321 a1 = 15) ∧ ((0 ≤ v3) ∧ ((v3 < 8) ∧ (cf d M_X2_answer [.inr (.inr 218), .inr (.inr a1), .inl (h (a1 + 8) v3), .inr (.inr a2)] h (fun r4 h5 => (am_kd 321 a2 = 13) ∧ ((s0 < 0 → wf (d + 1) M_X2_readField Q 139 [some (.inr (.inr 218)), some (.inr (.inr a1)), some (.inr (.inr a2)), some (.inl v3), some (.inl v4), some (.inl v5), some (.inl s0), some (.inl r4), none] [] (am_up h5 (a2 + 4) v3 (h5 218 10))) ∧ (0 ≤ s0 → (r4 < s0 → wf (d + 1) M_X2_readField Q 139 [some (.inr (.inr 218)), some (.inr (.inr a1)), some (.inr (.inr a2)), some (.inl v3), some (.inl v4), some (.inl v5), some (.inl s0), some (.inl r4), none] [] (am_up h5 (a2 + 4) v3 (h5 218 10))) ∧ (s0 ≤ r4 → ((h5 a2 1) < r4 → wf (d + 1) M_X2_readField Q 139 [some (.inr (.inr 218)), some (.inr (.inr a1)), some (.inr (.inr a2)), some (.inl v3), some (.inl v4), some (.inl v5), some (.inl s0), some (.inl r4), none] [] (am_up h5 (a2 + 4) v3 (h5 218 10))) ∧ (r4 ≤ (h5 a2 1) → (v5 < 0 → wf (d + 1) M_X2_readField Q 139 [some (.inr (.inr 218)), some (.inr (.inr a1)), some (.inr (.inr a2)), some (.inl v3), some (.inl v4), some (.inl v5), some (.inl s0), some (.inl r4), none] [] (am_up h5 (a2 + 4) v3 (h5 218 10))) ∧ (0 ≤ v5 → ((h5 a2 1) < v5 → wf (d + 1) M_X2_readField Q 139 [some (.inr (.inr 218)), some (.inr (.inr a1)), some (.inr (.inr a2)), some (.inl v3), some (.inl v4), some (.inl v5), some (.inl s0), some (.inl r4), none] [] (am_up h5 (a2 + 4) v3 (h5 218 10))) ∧ (v5 ≤ (h5 a2 1) → wf (d + 1) M_X2_readField Q 140 [some (.inr (.inr 218)), some (.inr (.inr a1)), some (.inr (.inr a2)), some (.inl v3), some (.inl v4), some (.inl v5), some (.inl s0), some (.inl r4), none] [.inl 1] (am_up h5 (a2 + 4) v3 (h5 218 10))))))))))))) : wf (d + 1) M_X2_readField Q 72 [some (.inr (.inr 218)), some (.inr (.inr a1)), some (.inr (.inr a2)), some (.inl v3), some (.inl v4), some (.inl v5), none, none, none] [.inl s0] h := by
  intro h0
  refine ar_istore (pc := 72) (i := 6) (ls2 := [some (.inr (.inr 218)), some (.inr (.inr a1)), some (.inr (.inr a2)), some (.inl v3), some (.inl v4), some (.inl v5), some (.inl s0), none, none]) (by decide +kernel) (by decide) rfl ?_
  refine ar_aload_n (pc := 74) (i := 0) (k0 := 0) (by decide +kernel) rfl rfl ?_
  refine ar_aload_n (pc := 75) (i := 1) (k0 := 1) (by decide +kernel) rfl rfl ?_
  refine ar_aload_n (pc := 76) (i := 1) (k0 := 1) (by decide +kernel) rfl rfl ?_
  obtain ⟨g1, H⟩ := H
  refine ar_getFNV (pc := 77) (a := a1) (b := (a1 + 8)) 5 10 (by decide +kernel) g1 rfl (by decide) wg_RX2_123 rfl (fun _ => rfl) rfl ?_
  refine ar_iload_n (pc := 80) (i := 3) (k0 := 3) (by decide +kernel) rfl rfl ?_
  obtain ⟨g2, H⟩ := H
  obtain ⟨g3, H⟩ := H
  refine ar_iald (pc := 81) (a := (a1 + 8)) (i := v3) (by decide +kernel) (kX5_10 g1).1 g2 (am_lt_eq g3 ((kX5_10 g1).2).symm) ?_
  refine ar_aload_n (pc := 82) (i := 2) (k0 := 2) (by decide +kernel) rfl rfl ?_
  refine ar_callV (pc := 83) (M2 := M_X2_answer) (a := 218) (ci := 2) (as := [.inr (.inr a1), .inl (h (a1 + 8) v3), .inr (.inr a2)]) (n2 := 321) (st := []) (by decide +kernel) rfl wm_RX2_116 wi_yX2_answer wl_yX2_answer k_218 rfl wz_RX2 wc_yX2_answer ⟨by decide, by decide, rfl⟩ (by decide) (Nat.le_of_ble_eq_true rfl) (Nat.le_refl _) (Nat.le_refl _) (am_Cl_mono H (fun r4 h5 H => ?_))
  show am_Wp true (d + 1) M_X2_readField 321 321 h0 Q 86 [some (.inr (.inr 218)), some (.inr (.inr a1)), some (.inr (.inr a2)), some (.inl v3), some (.inl v4), some (.inl v5), some (.inl s0), none, none] [.inl r4] 321 h5
  refine ar_istore (pc := 86) (i := 7) (ls2 := [some (.inr (.inr 218)), some (.inr (.inr a1)), some (.inr (.inr a2)), some (.inl v3), some (.inl v4), some (.inl v5), some (.inl s0), some (.inl r4), none]) (by decide +kernel) (by decide) rfl ?_
  refine ar_aload_n (pc := 88) (i := 2) (k0 := 2) (by decide +kernel) rfl rfl ?_
  obtain ⟨g6, H⟩ := H
  refine ar_getFNV (pc := 89) (a := a2) (b := (a2 + 4)) 3 9 (by decide +kernel) g6 rfl (by decide) wg_RX2_126 rfl (fun _ => rfl) rfl ?_
  refine ar_iload_n (pc := 92) (i := 3) (k0 := 3) (by decide +kernel) rfl rfl ?_
  refine ar_aload_n (pc := 93) (i := 0) (k0 := 0) (by decide +kernel) rfl rfl ?_
  refine ar_getV (pc := 94) (a := 218) (v := .inr (.inl (h5 218 10))) 2 10 (by decide +kernel) k_218 rfl (by decide) wf_RX2_109 rfl ?_
  refine ar_last (pc := 97) (a := (a2 + 4)) (i := v3) (z := (h5 218 10)) (by decide +kernel) (kX3_9 g6).1 g2 (am_lt_eq g3 ((kX3_9 g6).2).symm) ?_
  refine ar_iconst (pc := 98) (z := 0) (by decide +kernel) (by unfold am_i32; omega) ?_
  refine ar_iload (pc := 99) (i := 6) (by decide +kernel) rfl ?_
  refine ar_icmp_gt (pc := 101) (x := 0) (y := s0) (tgt := 139) (off := 38) (by decide +kernel) (by decide) (fun c7 => ?_) (fun c7 => ?_)
  · replace H := H.1 c7
    exact H h0
  · replace H := H.2 c7
    refine ar_iload (pc := 104) (i := 6) (by decide +kernel) rfl ?_
    refine ar_iload (pc := 106) (i := 7) (by decide +kernel) rfl ?_
    refine ar_icmp_gt (pc := 108) (x := s0) (y := r4) (tgt := 139) (off := 31) (by decide +kernel) (by decide) (fun c8 => ?_) (fun c8 => ?_)
    · replace H := H.1 c8
      exact H h0
    · replace H := H.2 c8
      refine ar_iload (pc := 111) (i := 7) (by decide +kernel) rfl ?_
      refine ar_aload_n (pc := 113) (i := 2) (k0 := 2) (by decide +kernel) rfl rfl ?_
      refine ar_getNV (pc := 114) (a := a2) (v := .inl (h5 a2 1)) 3 1 (by decide +kernel) g6 rfl (by decide) wg_RX2_130 (by first | rfl | (simp [am_tv, am_ty, tyX3, am_up, am_cp]; done) | (simp [am_tv, am_ty, tyX3, am_up, am_cp] <;> intros <;> omega)) ?_
      refine ar_icmp_gt (pc := 117) (x := r4) (y := (h5 a2 1)) (tgt := 139) (off := 22) (by decide +kernel) (by decide) (fun c9 => ?_) (fun c9 => ?_)
      · replace H := H.1 c9
        exact H h0
      · replace H := H.2 c9
        refine ar_iconst (pc := 120) (z := 0) (by decide +kernel) (by unfold am_i32; omega) ?_
        refine ar_iload (pc := 121) (i := 5) (by decide +kernel) rfl ?_
        refine ar_icmp_gt (pc := 123) (x := 0) (y := v5) (tgt := 139) (off := 16) (by decide +kernel) (by decide) (fun c10 => ?_) (fun c10 => ?_)
        · replace H := H.1 c10
          exact H h0
        · replace H := H.2 c10
          refine ar_iload (pc := 126) (i := 5) (by decide +kernel) rfl ?_
          refine ar_aload_n (pc := 128) (i := 2) (k0 := 2) (by decide +kernel) rfl rfl ?_
          refine ar_getNV (pc := 129) (a := a2) (v := .inl (h5 a2 1)) 3 1 (by decide +kernel) g6 rfl (by decide) wg_RX2_130 (by first | rfl | (simp [am_tv, am_ty, tyX3, am_up, am_cp]; done) | (simp [am_tv, am_ty, tyX3, am_up, am_cp] <;> intros <;> omega)) ?_
          refine ar_icmp_gt (pc := 132) (x := v5) (y := (h5 a2 1)) (tgt := 139) (off := 7) (by decide +kernel) (by decide) (fun c11 => ?_) (fun c11 => ?_)
          · replace H := H.1 c11
            exact H h0
          · replace H := H.2 c11
            refine ar_iconst (pc := 135) (z := 1) (by decide +kernel) (by unfold am_i32; omega) ?_
            refine ar_goto (pc := 136) (tgt := 140) (off := 4) (by decide +kernel) (by decide) ?_
            exact H h0
theorem B_X2_readField_139 {d : Nat} {Q : Int → am_H → Prop} {h : am_H} {a1 a2 v3 v4 v5 v6 v7 : Int} (H : wf (d + 1) M_X2_readField Q 140 [some (.inr (.inr 218)), some (.inr (.inr a1)), some (.inr (.inr a2)), some (.inl v3), some (.inl v4), some (.inl v5), some (.inl v6), some (.inl v7), none] [.inl 0] h) : wf (d + 1) M_X2_readField Q 139 [some (.inr (.inr 218)), some (.inr (.inr a1)), some (.inr (.inr a2)), some (.inl v3), some (.inl v4), some (.inl v5), some (.inl v6), some (.inl v7), none] [] h := by
  intro h0
  refine ar_iconst (pc := 139) (z := 0) (by decide +kernel) (by unfold am_i32; omega) ?_
  exact H h0
theorem B_X2_readField_140 {d : Nat} {Q : Int → am_H → Prop} {h : am_H} {a1 a2 v3 v4 v5 v6 v7 s0 : Int} (H : (¬ s0 = 0 → (¬ v4 = 0 → wf (d + 1) M_X2_readField Q 221 [some (.inr (.inr 218)), some (.inr (.inr a1)), some (.inr (.inr a2)), some (.inl v3), some (.inl v4), some (.inl v5), some (.inl v6), some (.inl v7), none] [] h) ∧ (v4 = 0 → (3 < (am_w32 (v7 - v5)) → wf (d + 1) M_X2_readField Q 221 [some (.inr (.inr 218)), some (.inr (.inr a1)), some (.inr (.inr a2)), some (.inl v3), some (.inl v4), some (.inl v5), some (.inl v6), some (.inl v7), none] [] h) ∧ ((am_w32 (v7 - v5)) ≤ 3 → (am_kd 321 a2 = 13) ∧ ((0 ≤ v3) ∧ ((v3 < 8) ∧ (cf d M_X6_span [.inl (am_w32 ((h a2 0) + v5)), .inl (am_w32 ((h a2 0) + v7))] h (fun r7 h8 => cf d M_X6_asNumber [.inr (.inr ((am_up h8 (a2 + 4) v3 (am_lor (h (a2 + 4) v3) r7)) 218 7)), .inl (am_w32 ((h8 a2 0) + v5)), .inl (am_w32 ((h8 a2 0) + v7))] (am_up h8 (a2 + 4) v3 (am_lor (h (a2 + 4) v3) r7)) (fun r9 h10 => cf d M_X2_know [.inr (.inr a2), .inl v3, .inl v5, .inl v7, .inl r9] h10 (fun _ h12 => Q 0 h12))))))))) ∧ (s0 = 0 → Q 0 h)) : wf (d + 1) M_X2_readField Q 140 [some (.inr (.inr 218)), some (.inr (.inr a1)), some (.inr (.inr a2)), some (.inl v3), some (.inl v4), some (.inl v5), some (.inl v6), some (.inl v7), none] [.inl s0] h := by
  intro h0
  refine ar_istore (pc := 140) (i := 8) (ls2 := [some (.inr (.inr 218)), some (.inr (.inr a1)), some (.inr (.inr a2)), some (.inl v3), some (.inl v4), some (.inl v5), some (.inl v6), some (.inl v7), some (.inl s0)]) (by decide +kernel) (by decide) rfl ?_
  refine ar_iload (pc := 142) (i := 8) (by decide +kernel) rfl ?_
  refine ar_if_ne (pc := 144) (x := s0) (tgt := 148) (off := 4) (by decide +kernel) (by decide) (fun c1 => ?_) (fun c1 => ?_)
  · replace H := H.1 c1
    refine ar_iload (pc := 148) (i := 4) (by decide +kernel) rfl ?_
    refine ar_if_ne (pc := 150) (x := v4) (tgt := 221) (off := 71) (by decide +kernel) (by decide) (fun c2 => ?_) (fun c2 => ?_)
    · replace H := H.1 c2
      refine ar_forget [true, true, true, true, true, true, true, true, false] rfl ?_
      exact H h0
    · replace H := H.2 c2
      refine ar_iload (pc := 153) (i := 7) (by decide +kernel) rfl ?_
      refine ar_iload (pc := 155) (i := 5) (by decide +kernel) rfl ?_
      refine ar_isub (pc := 157) (x := v7) (y := v5) (by decide +kernel) ?_
      refine ar_iconst (pc := 158) (z := 3) (by decide +kernel) (by unfold am_i32; omega) ?_
      refine ar_icmp_gt (pc := 159) (x := (am_w32 (v7 - v5))) (y := 3) (tgt := 221) (off := 62) (by decide +kernel) (by decide) (fun c3 => ?_) (fun c3 => ?_)
      · replace H := H.1 c3
        refine ar_forget [true, true, true, true, true, true, true, true, false] rfl ?_
        exact H h0
      · replace H := H.2 c3
        refine ar_aload_n (pc := 162) (i := 2) (k0 := 2) (by decide +kernel) rfl rfl ?_
        obtain ⟨g4, H⟩ := H
        refine ar_getFNV (pc := 163) (a := a2) (b := (a2 + 4)) 3 9 (by decide +kernel) g4 rfl (by decide) wg_RX2_126 rfl (fun _ => rfl) rfl ?_
        refine ar_iload_n (pc := 166) (i := 3) (k0 := 3) (by decide +kernel) rfl rfl ?_
        refine ar_dup2 (pc := 167) (by decide +kernel) trivial trivial ?_
        obtain ⟨g5, H⟩ := H
        obtain ⟨g6, H⟩ := H
        refine ar_lald (pc := 168) (a := (a2 + 4)) (i := v3) (by decide +kernel) (kX3_9 g4).1 g5 (am_lt_eq g6 ((kX3_9 g4).2).symm) ?_
        refine ar_aload_n (pc := 169) (i := 2) (k0 := 2) (by decide +kernel) rfl rfl ?_
        refine ar_getNV (pc := 170) (a := a2) (v := .inl (h a2 0)) 3 0 (by decide +kernel) g4 rfl (by decide) wg_RX2_131 rfl ?_
        refine ar_iload (pc := 173) (i := 5) (by decide +kernel) rfl ?_
        refine ar_iadd (pc := 175) (x := (h a2 0)) (y := v5) (by decide +kernel) ?_
        refine ar_aload_n (pc := 176) (i := 2) (k0 := 2) (by decide +kernel) rfl rfl ?_
        refine ar_getNV (pc := 177) (a := a2) (v := .inl (h a2 0)) 3 0 (by decide +kernel) g4 rfl (by decide) wg_RX2_131 rfl ?_
        refine ar_iload (pc := 180) (i := 7) (by decide +kernel) rfl ?_
        refine ar_iadd (pc := 182) (x := (h a2 0)) (y := v7) (by decide +kernel) ?_
        refine ar_callSN (pc := 183) (M2 := M_X6_span) (as := [.inl (am_w32 ((h a2 0) + v5)), .inl (am_w32 ((h a2 0) + v7))]) (n2 := 321) (st := [.inr (.inl (h (a2 + 4) v3)), .inl v3, .inr (.inr (a2 + 4))]) (by decide +kernel) rfl wn_RX2_134 ws_yX6_span wz_RX6 wc_yX6_span ⟨by decide, by decide, rfl⟩ (by decide) (Nat.le_of_ble_eq_true rfl) (Nat.le_refl _) (Nat.le_refl _) (am_Cl_mono H (fun r7 h8 H => ?_))
        show am_Wp true (d + 1) M_X2_readField 321 321 h0 Q 186 [some (.inr (.inr 218)), some (.inr (.inr a1)), some (.inr (.inr a2)), some (.inl v3), some (.inl v4), some (.inl v5), some (.inl v6), some (.inl v7), some (.inl s0)] [.inr (.inl r7), .inr (.inl (h (a2 + 4) v3)), .inl v3, .inr (.inr (a2 + 4))] 321 h8
        refine ar_lor (pc := 186) (x := (h (a2 + 4) v3)) (y := r7) (by decide +kernel) ?_
        refine ar_last (pc := 187) (a := (a2 + 4)) (i := v3) (z := (am_lor (h (a2 + 4) v3) r7)) (by decide +kernel) (kX3_9 g4).1 g5 (am_lt_eq g6 ((kX3_9 g4).2).symm) ?_
        refine ar_aload_n (pc := 188) (i := 2) (k0 := 2) (by decide +kernel) rfl rfl ?_
        refine ar_iload_n (pc := 189) (i := 3) (k0 := 3) (by decide +kernel) rfl rfl ?_
        refine ar_iload (pc := 190) (i := 5) (by decide +kernel) rfl ?_
        refine ar_iload (pc := 192) (i := 7) (by decide +kernel) rfl ?_
        refine ar_aload_n (pc := 194) (i := 0) (k0 := 0) (by decide +kernel) rfl rfl ?_
        refine ar_getV (pc := 195) (a := 218) (v := .inr (.inr ((am_up h8 (a2 + 4) v3 (am_lor (h (a2 + 4) v3) r7)) 218 7))) 2 7 (by decide +kernel) k_218 rfl (by decide) wf_RX2_37 rfl ?_
        refine ar_aload_n (pc := 198) (i := 2) (k0 := 2) (by decide +kernel) rfl rfl ?_
        refine ar_getNV (pc := 199) (a := a2) (v := .inl (h8 a2 0)) 3 0 (by decide +kernel) g4 rfl (by decide) wg_RX2_131 (by first | rfl | (simp [am_tv, am_ty, tyX3, am_up, am_cp]; done) | (simp [am_tv, am_ty, tyX3, am_up, am_cp] <;> intros <;> omega)) ?_
        refine ar_iload (pc := 202) (i := 5) (by decide +kernel) rfl ?_
        refine ar_iadd (pc := 204) (x := (h8 a2 0)) (y := v5) (by decide +kernel) ?_
        refine ar_aload_n (pc := 205) (i := 2) (k0 := 2) (by decide +kernel) rfl rfl ?_
        refine ar_getNV (pc := 206) (a := a2) (v := .inl (h8 a2 0)) 3 0 (by decide +kernel) g4 rfl (by decide) wg_RX2_131 (by first | rfl | (simp [am_tv, am_ty, tyX3, am_up, am_cp]; done) | (simp [am_tv, am_ty, tyX3, am_up, am_cp] <;> intros <;> omega)) ?_
        refine ar_iload (pc := 209) (i := 7) (by decide +kernel) rfl ?_
        refine ar_iadd (pc := 211) (x := (h8 a2 0)) (y := v7) (by decide +kernel) ?_
        refine ar_callSN (pc := 212) (M2 := M_X6_asNumber) (as := [.inr (.inr ((am_up h8 (a2 + 4) v3 (am_lor (h (a2 + 4) v3) r7)) 218 7)), .inl (am_w32 ((h8 a2 0) + v5)), .inl (am_w32 ((h8 a2 0) + v7))]) (n2 := 321) (st := [.inl v7, .inl v5, .inl v3, .inr (.inr a2)]) (by decide +kernel) rfl wn_RX2_138 ws_yX6_asNumber wz_RX6 wc_yX6_asNumber ⟨by decide, by decide, rfl⟩ (by decide) (Nat.le_of_ble_eq_true rfl) (Nat.le_refl _) (Nat.le_refl _) (am_Cl_mono H (fun r9 h10 H => ?_))
        show am_Wp true (d + 1) M_X2_readField 321 321 h0 Q 215 [some (.inr (.inr 218)), some (.inr (.inr a1)), some (.inr (.inr a2)), some (.inl v3), some (.inl v4), some (.inl v5), some (.inl v6), some (.inl v7), some (.inl s0)] [.inl r9, .inl v7, .inl v5, .inl v3, .inr (.inr a2)] 321 h10
        refine ar_callS (pc := 215) (M2 := M_X2_know) (as := [.inr (.inr a2), .inl v3, .inl v5, .inl v7, .inl r9]) (n2 := 321) (st := []) (by decide +kernel) rfl wm_RX2_142 ws_yX2_know wz_RX2 wc_yX2_know ⟨by decide, by decide, rfl⟩ (by decide) (Nat.le_of_ble_eq_true rfl) (Nat.le_refl _) (Nat.le_refl _) (am_Cl_mono H (fun r11 h12 H => ?_))
        show am_Wp true (d + 1) M_X2_readField 321 321 h0 Q 218 [some (.inr (.inr 218)), some (.inr (.inr a1)), some (.inr (.inr a2)), some (.inl v3), some (.inl v4), some (.inl v5), some (.inl v6), some (.inl v7), some (.inl s0)] [] 321 h12
        refine ar_goto (pc := 218) (tgt := 288) (off := 70) (by decide +kernel) (by decide) ?_
        exact ar_vret (pc := 288) (by decide +kernel) rfl rfl H
  · replace H := H.2 c1
    exact ar_vret (pc := 147) (by decide +kernel) rfl rfl H
theorem B_X2_readField_221 {d : Nat} {Q : Int → am_H → Prop} {h : am_H} {a1 a2 v3 v4 v5 v6 v7 : Int} (H : (¬ v4 = 1 → wf (d + 1) M_X2_readField Q 251 [some (.inr (.inr 218)), some (.inr (.inr a1)), some (.inr (.inr a2)), some (.inl v3), some (.inl v4), some (.inl v5), none, some (.inl v7), none] [] h) ∧ (v4 = 1 → (am_kd 321 a2 = 13) ∧ (((h a2 1) ≤ v5 → wf (d + 1) M_X2_readField Q 251 [some (.inr (.inr 218)), some (.inr (.inr a1)), some (.inr (.inr a2)), some (.inl v3), some (.inl v4), some (.inl v5), none, some (.inl v7), none] [] h) ∧ (v5 < (h a2 1) → cf d M_X2_readSummed [.inr (.inr 218), .inr (.inr a2), .inl v3, .inl v5, .inl v6, .inl v7] h (fun _ h5 => Q 0 h5))))) : wf (d + 1) M_X2_readField Q 221 [some (.inr (.inr 218)), some (.inr (.inr a1)), some (.inr (.inr a2)), some (.inl v3), some (.inl v4), some (.inl v5), some (.inl v6), some (.inl v7), none] [] h := by
  intro h0
  refine ar_iload (pc := 221) (i := 4) (by decide +kernel) rfl ?_
  refine ar_iconst (pc := 223) (z := 1) (by decide +kernel) (by unfold am_i32; omega) ?_
  refine ar_icmp_ne (pc := 224) (x := v4) (y := 1) (tgt := 251) (off := 27) (by decide +kernel) (by decide) (fun c1 => ?_) (fun c1 => ?_)
  · replace H := H.1 c1
    refine ar_forget [true, true, true, true, true, true, false, true, true] rfl ?_
    exact H h0
  · replace H := H.2 c1
    refine ar_iload (pc := 227) (i := 5) (by decide +kernel) rfl ?_
    refine ar_aload_n (pc := 229) (i := 2) (k0 := 2) (by decide +kernel) rfl rfl ?_
    obtain ⟨g2, H⟩ := H
    refine ar_getNV (pc := 230) (a := a2) (v := .inl (h a2 1)) 3 1 (by decide +kernel) g2 rfl (by decide) wg_RX2_130 rfl ?_
    refine ar_icmp_ge (pc := 233) (x := v5) (y := (h a2 1)) (tgt := 251) (off := 18) (by decide +kernel) (by decide) (fun c3 => ?_) (fun c3 => ?_)
    · replace H := H.1 c3
      refine ar_forget [true, true, true, true, true, true, false, true, true] rfl ?_
      exact H h0
    · replace H := H.2 c3
      refine ar_aload_n (pc := 236) (i := 0) (k0 := 0) (by decide +kernel) rfl rfl ?_
      refine ar_aload_n (pc := 237) (i := 2) (k0 := 2) (by decide +kernel) rfl rfl ?_
      refine ar_iload_n (pc := 238) (i := 3) (k0 := 3) (by decide +kernel) rfl rfl ?_
      refine ar_iload (pc := 239) (i := 5) (by decide +kernel) rfl ?_
      refine ar_iload (pc := 241) (i := 6) (by decide +kernel) rfl ?_
      refine ar_iload (pc := 243) (i := 7) (by decide +kernel) rfl ?_
      refine ar_callV (pc := 245) (M2 := M_X2_readSummed) (a := 218) (ci := 2) (as := [.inr (.inr a2), .inl v3, .inl v5, .inl v6, .inl v7]) (n2 := 321) (st := []) (by decide +kernel) rfl wm_RX2_146 wi_yX2_readSummed wl_yX2_readSummed k_218 rfl wz_RX2 wc_yX2_readSummed ⟨by decide, by decide, rfl⟩ (by decide) (Nat.le_of_ble_eq_true rfl) (Nat.le_refl _) (Nat.le_refl _) (am_Cl_mono H (fun r4 h5 H => ?_))
      show am_Wp true (d + 1) M_X2_readField 321 321 h0 Q 248 [some (.inr (.inr 218)), some (.inr (.inr a1)), some (.inr (.inr a2)), some (.inl v3), some (.inl v4), some (.inl v5), some (.inl v6), some (.inl v7), none] [] 321 h5
      refine ar_goto (pc := 248) (tgt := 288) (off := 40) (by decide +kernel) (by decide) ?_
      exact ar_vret (pc := 288) (by decide +kernel) rfl rfl H
theorem B_X2_readField_251 {d : Nat} {Q : Int → am_H → Prop} {h : am_H} {a1 a2 v3 v4 v5 v7 : Int} (H : (¬ v4 = 2 → Q 0 h) ∧ (v4 = 2 → (am_kd 321 a2 = 13) ∧ (((h a2 1) ≤ (am_w32 (v7 - v5)) → Q 0 h) ∧ ((am_w32 (v7 - v5)) < (h a2 1) → (2 ≤ (h a2 2) → Q 0 h) ∧ ((h a2 2) < 2 → cf d M_X2_readNest [.inr (.inr 218), .inr (.inr a1), .inr (.inr a2), .inl v3, .inl v5, .inl v7] h (fun _ h6 => Q 0 h6)))))) : wf (d + 1) M_X2_readField Q 251 [some (.inr (.inr 218)), some (.inr (.inr a1)), some (.inr (.inr a2)), some (.inl v3), some (.inl v4), some (.inl v5), none, some (.inl v7), none] [] h := by
  intro h0
  refine ar_iload (pc := 251) (i := 4) (by decide +kernel) rfl ?_
  refine ar_iconst (pc := 253) (z := 2) (by decide +kernel) (by unfold am_i32; omega) ?_
  refine ar_icmp_ne (pc := 254) (x := v4) (y := 2) (tgt := 288) (off := 34) (by decide +kernel) (by decide) (fun c1 => ?_) (fun c1 => ?_)
  · replace H := H.1 c1
    exact ar_vret (pc := 288) (by decide +kernel) rfl rfl H
  · replace H := H.2 c1
    refine ar_iload (pc := 257) (i := 7) (by decide +kernel) rfl ?_
    refine ar_iload (pc := 259) (i := 5) (by decide +kernel) rfl ?_
    refine ar_isub (pc := 261) (x := v7) (y := v5) (by decide +kernel) ?_
    refine ar_aload_n (pc := 262) (i := 2) (k0 := 2) (by decide +kernel) rfl rfl ?_
    obtain ⟨g2, H⟩ := H
    refine ar_getNV (pc := 263) (a := a2) (v := .inl (h a2 1)) 3 1 (by decide +kernel) g2 rfl (by decide) wg_RX2_130 rfl ?_
    refine ar_icmp_ge (pc := 266) (x := (am_w32 (v7 - v5))) (y := (h a2 1)) (tgt := 288) (off := 22) (by decide +kernel) (by decide) (fun c3 => ?_) (fun c3 => ?_)
    · replace H := H.1 c3
      exact ar_vret (pc := 288) (by decide +kernel) rfl rfl H
    · replace H := H.2 c3
      refine ar_aload_n (pc := 269) (i := 2) (k0 := 2) (by decide +kernel) rfl rfl ?_
      refine ar_getNV (pc := 270) (a := a2) (v := .inl (h a2 2)) 3 2 (by decide +kernel) g2 rfl (by decide) wg_RX2_149 rfl ?_
      refine ar_iconst (pc := 273) (z := 2) (by decide +kernel) (by unfold am_i32; omega) ?_
      refine ar_icmp_ge (pc := 274) (x := (h a2 2)) (y := 2) (tgt := 288) (off := 14) (by decide +kernel) (by decide) (fun c4 => ?_) (fun c4 => ?_)
      · replace H := H.1 c4
        exact ar_vret (pc := 288) (by decide +kernel) rfl rfl H
      · replace H := H.2 c4
        refine ar_aload_n (pc := 277) (i := 0) (k0 := 0) (by decide +kernel) rfl rfl ?_
        refine ar_aload_n (pc := 278) (i := 1) (k0 := 1) (by decide +kernel) rfl rfl ?_
        refine ar_aload_n (pc := 279) (i := 2) (k0 := 2) (by decide +kernel) rfl rfl ?_
        refine ar_iload_n (pc := 280) (i := 3) (k0 := 3) (by decide +kernel) rfl rfl ?_
        refine ar_iload (pc := 281) (i := 5) (by decide +kernel) rfl ?_
        refine ar_iload (pc := 283) (i := 7) (by decide +kernel) rfl ?_
        refine ar_callV (pc := 285) (M2 := M_X2_readNest) (a := 218) (ci := 2) (as := [.inr (.inr a1), .inr (.inr a2), .inl v3, .inl v5, .inl v7]) (n2 := 321) (st := []) (by decide +kernel) rfl wm_RX2_152 wi_yX2_readNest wl_yX2_readNest k_218 rfl wz_RX2 wc_yX2_readNest ⟨by decide, by decide, rfl⟩ (by decide) (Nat.le_of_ble_eq_true rfl) (Nat.le_refl _) (Nat.le_refl _) (am_Cl_mono H (fun r5 h6 H => ?_))
        show am_Wp true (d + 1) M_X2_readField 321 321 h0 Q 288 [some (.inr (.inr 218)), some (.inr (.inr a1)), some (.inr (.inr a2)), some (.inl v3), some (.inl v4), some (.inl v5), none, some (.inl v7), none] [] 321 h6
        exact ar_vret (pc := 288) (by decide +kernel) rfl rfl H

/-! ByteIntervals$Reader.know(LByteIntervals$Reading;IIII)V -/
theorem B_X2_know_0 {d : Nat} {Q : Int → am_H → Prop} {h : am_H} {a0 v1 v2 v3 v4 : Int} (H : cf d M_X6_isField [.inl v1] h (fun r1 h2 => (r1 = 0 → Q 0 h2) ∧ (¬ r1 = 0 → (am_kd 321 a0 = 13) ∧ ((0 ≤ v1) ∧ ((v1 < 8) ∧ (Q 0 (am_up (am_up (am_up (am_up h2 a0 4 (am_iand (h2 a0 4) (am_ixor (am_ishl 1 v1) (-1)))) (a0 + 2) v1 v2) (a0 + 3) v1 v3) (a0 + 1) v1 v4))))))) : wf (d + 1) M_X2_know Q 0 [some (.inr (.inr a0)), some (.inl v1), some (.inl v2), some (.inl v3), some (.inl v4)] [] h := by
  intro h0
  refine ar_iload_n (pc := 0) (i := 1) (k0 := 1) (by decide +kernel) rfl rfl ?_
  refine ar_callSN (pc := 1) (M2 := M_X6_isField) (as := [.inl v1]) (n2 := 321) (st := []) (by decide +kernel) rfl wn_RX2_84 ws_yX6_isField wz_RX6 wc_yX6_isField ⟨by decide, by decide, rfl⟩ (by decide) (Nat.le_of_ble_eq_true rfl) (Nat.le_refl _) (Nat.le_refl _) (am_Cl_mono H (fun r1 h2 H => ?_))
  show am_Wp true (d + 1) M_X2_know 321 321 h0 Q 4 [some (.inr (.inr a0)), some (.inl v1), some (.inl v2), some (.inl v3), some (.inl v4)] [.inl r1] 321 h2
  refine ar_if_eq (pc := 4) (x := r1) (tgt := 43) (off := 39) (by decide +kernel) (by decide) (fun c3 => ?_) (fun c3 => ?_)
  · replace H := H.1 c3
    exact ar_vret (pc := 43) (by decide +kernel) rfl rfl H
  · replace H := H.2 c3
    refine ar_aload_n (pc := 7) (i := 0) (k0 := 0) (by decide +kernel) rfl rfl ?_
    refine ar_dup (pc := 8) (by decide +kernel) trivial ?_
    obtain ⟨g4, H⟩ := H
    refine ar_getNV (pc := 9) (a := a0) (v := .inl (h2 a0 4)) 3 4 (by decide +kernel) g4 rfl (by decide) wg_RX2_103 rfl ?_
    refine ar_iconst (pc := 12) (z := 1) (by decide +kernel) (by unfold am_i32; omega) ?_
    refine ar_iload_n (pc := 13) (i := 1) (k0 := 1) (by decide +kernel) rfl rfl ?_
    refine ar_ishl (pc := 14) (x := 1) (y := v1) (by decide +kernel) ?_
    refine ar_iconst (pc := 15) (z := (-1)) (by decide +kernel) (by unfold am_i32; omega) ?_
    refine ar_ixor (pc := 16) (x := (am_ishl 1 v1)) (y := (-1)) (by decide +kernel) ?_
    refine ar_iand (pc := 17) (x := (h2 a0 4)) (y := (am_ixor (am_ishl 1 v1) (-1))) (by decide +kernel) ?_
    refine ar_putIN (pc := 18) (a := a0) (z := (am_iand (h2 a0 4) (am_ixor (am_ishl 1 v1) (-1)))) 3 4 (by decide +kernel) g4 rfl (by decide) rfl (fun _ => rfl) rfl wg_RX2_103 ?_
    refine ar_aload_n (pc := 21) (i := 0) (k0 := 0) (by decide +kernel) rfl rfl ?_
    refine ar_getFNV (pc := 22) (a := a0) (b := (a0 + 2)) 3 7 (by decide +kernel) g4 rfl (by decide) wg_RX2_156 rfl (fun _ => rfl) rfl ?_
    refine ar_iload_n (pc := 25) (i := 1) (k0 := 1) (by decide +kernel) rfl rfl ?_
    refine ar_iload_n (pc := 26) (i := 2) (k0 := 2) (by decide +kernel) rfl rfl ?_
    obtain ⟨g5, H⟩ := H
    obtain ⟨g6, H⟩ := H
    refine ar_iast (pc := 27) (a := (a0 + 2)) (i := v1) (z := v2) (by decide +kernel) (kX3_7 g4).1 g5 (am_lt_eq g6 ((kX3_7 g4).2).symm) ?_
    refine ar_aload_n (pc := 28) (i := 0) (k0 := 0) (by decide +kernel) rfl rfl ?_
    refine ar_getFNV (pc := 29) (a := a0) (b := (a0 + 3)) 3 8 (by decide +kernel) g4 rfl (by decide) wg_RX2_159 rfl (fun _ => rfl) rfl ?_
    refine ar_iload_n (pc := 32) (i := 1) (k0 := 1) (by decide +kernel) rfl rfl ?_
    refine ar_iload_n (pc := 33) (i := 3) (k0 := 3) (by decide +kernel) rfl rfl ?_
    refine ar_iast (pc := 34) (a := (a0 + 3)) (i := v1) (z := v3) (by decide +kernel) (kX3_8 g4).1 g5 (am_lt_eq g6 ((kX3_8 g4).2).symm) ?_
    refine ar_aload_n (pc := 35) (i := 0) (k0 := 0) (by decide +kernel) rfl rfl ?_
    refine ar_getFNV (pc := 36) (a := a0) (b := (a0 + 1)) 3 6 (by decide +kernel) g4 rfl (by decide) wg_RX2_162 rfl (fun _ => rfl) rfl ?_
    refine ar_iload_n (pc := 39) (i := 1) (k0 := 1) (by decide +kernel) rfl rfl ?_
    refine ar_iload (pc := 40) (i := 4) (by decide +kernel) rfl ?_
    refine ar_iast (pc := 42) (a := (a0 + 1)) (i := v1) (z := v4) (by decide +kernel) (kX3_6 g4).1 g5 (am_lt_eq g6 ((kX3_6 g4).2).symm) ?_
    exact ar_vret (pc := 43) (by decide +kernel) rfl rfl H

/-! ByteIntervals$Reader.readSummed(LByteIntervals$Reading;IIII)V -/
theorem B_X2_readSummed_0 {d : Nat} {Q : Int → am_H → Prop} {h : am_H} {a1 v2 v3 v4 v5 : Int} (H : wf (d + 1) M_X2_readSummed Q 7 [some (.inr (.inr 218)), some (.inr (.inr a1)), some (.inl v2), some (.inl v3), some (.inl v4), some (.inl v5), some (.inl 0), some (.inl v4), none, none, none, none] [] h) : wf (d + 1) M_X2_readSummed Q 0 [some (.inr (.inr 218)), some (.inr (.inr a1)), some (.inl v2), some (.inl v3), some (.inl v4), some (.inl v5), none, none, none, none, none, none] [] h := by
  intro h0
  refine ar_iconst (pc := 0) (z := 0) (by decide +kernel) (by unfold am_i32; omega) ?_
  refine ar_istore (pc := 1) (i := 6) (ls2 := [some (.inr (.inr 218)), some (.inr (.inr a1)), some (.inl v2), some (.inl v3), some (.inl v4), some (.inl v5), some (.inl 0), none, none, none, none, none]) (by decide +kernel) (by decide) rfl ?_
  refine ar_iload (pc := 3) (i := 4) (by decide +kernel) rfl ?_
  refine ar_istore (pc := 5) (i := 7) (ls2 := [some (.inr (.inr 218)), some (.inr (.inr a1)), some (.inl v2), some (.inl v3), some (.inl v4), some (.inl v5), some (.inl 0), some (.inl v4), none, none, none, none]) (by decide +kernel) (by decide) rfl ?_
  exact H h0
theorem B_X2_readSummed_7 {d : Nat} {Q : Int → am_H → Prop} {h : am_H} {a1 v2 v3 v4 v5 v6 v7 : Int} (H : (v5 ≤ v7 → cf d M_X2_know [.inr (.inr a1), .inl v2, .inl v3, .inl (am_w32 (v3 + 1)), .inl (am_w32 (v6.tmod 256))] h (fun _ h3 => cf d M_X6_isField [.inl v2] h3 (fun r4 h5 => (r4 = 0 → Q 0 h5) ∧ (¬ r4 = 0 → (am_kd 321 a1 = 13) ∧ (cf d M_X6_span [.inl (am_w32 ((h5 a1 0) + v3)), .inl (am_w32 ((am_w32 ((h5 a1 0) + v3)) + 1))] h5 (fun r8 h9 => cf d M_X6_span [.inl (am_w32 ((h9 a1 0) + v4)), .inl (am_w32 ((h9 a1 0) + v5))] h9 (fun r10 h11 => (0 ≤ v2) ∧ ((v2 < 8) ∧ (((h11 218 9) = 0 → wf (d + 1) M_X2_readSummed Q 137 [some (.inr (.inr 218)), some (.inr (.inr a1)), some (.inl v2), some (.inl v3), none, none, none, some (.inl (am_w32 (v6.tmod 256))), none, none, none, none] [.inr (.inl (am_lor (am_land r10 (am_lxor r8 (-1))) r8)), .inr (.inl (h11 (a1 + 4) v2)), .inl v2, .inr (.inr (a1 + 4))] h11) ∧ (¬ (h11 218 9) = 0 → wf (d + 1) M_X2_readSummed Q 137 [some (.inr (.inr 218)), some (.inr (.inr a1)), some (.inl v2), some (.inl v3), none, none, none, some (.inl (am_w32 (v6.tmod 256))), none, none, none, none] [.inr (.inl (am_land r10 (am_lxor r8 (-1)))), .inr (.inl (h11 (a1 + 4) v2)), .inl v2, .inr (.inr (a1 + 4))] h11)))))))))) ∧ (v7 < v5 → (¬ v7 = v3 → cf d M_X2_byteIn [.inr (.inr 218), .inr (.inr a1), .inl v7] h (fun r16 h17 => wf (d + 1) M_X2_readSummed Q 33 [some (.inr (.inr 218)), some (.inr (.inr a1)), some (.inl v2), some (.inl v3), some (.inl v4), some (.inl v5), none, some (.inl v7), none, none, none, none] [.inl r16, .inl v6] h17)) ∧ (v7 = v3 → wf (d + 1) M_X2_readSummed Q 33 [some (.inr (.inr 218)), some (.inr (.inr a1)), some (.inl v2), some (.inl v3), some (.inl v4), some (.inl v5), none, some (.inl v7), none, none, none, none] [.inl 0, .inl v6] h))) : wf (d + 1) M_X2_readSummed Q 7 [some (.inr (.inr 218)), some (.inr (.inr a1)), some (.inl v2), some (.inl v3), some (.inl v4), some (.inl v5), some (.inl v6), some (.inl v7), none, none, none, none] [] h := by
  intro h0
  refine ar_iload (pc := 7) (i := 7) (by decide +kernel) rfl ?_
  refine ar_iload (pc := 9) (i := 5) (by decide +kernel) rfl ?_
  refine ar_icmp_ge (pc := 11) (x := v7) (y := v5) (tgt := 42) (off := 31) (by decide +kernel) (by decide) (fun c1 => ?_) (fun c1 => ?_)
  · replace H := H.1 c1
    refine ar_iload (pc := 42) (i := 6) (by decide +kernel) rfl ?_
    refine ar_sipush (pc := 44) (z := 256) (by decide +kernel) (by omega) ?_
    refine ar_irem (pc := 47) (x := v6) (y := 256) (by decide +kernel) (by decide) ?_
    refine ar_istore (pc := 48) (i := 7) (ls2 := [some (.inr (.inr 218)), some (.inr (.inr a1)), some (.inl v2), some (.inl v3), some (.inl v4), some (.inl v5), some (.inl v6), some (.inl (am_w32 (v6.tmod 256))), none, none, none, none]) (by decide +kernel) (by decide) rfl ?_
    refine ar_aload_n (pc := 50) (i := 1) (k0 := 1) (by decide +kernel) rfl rfl ?_
    refine ar_iload_n (pc := 51) (i := 2) (k0 := 2) (by decide +kernel) rfl rfl ?_
    refine ar_iload_n (pc := 52) (i := 3) (k0 := 3) (by decide +kernel) rfl rfl ?_
    refine ar_iload_n (pc := 53) (i := 3) (k0 := 3) (by decide +kernel) rfl rfl ?_
    refine ar_iconst (pc := 54) (z := 1) (by decide +kernel) (by unfold am_i32; omega) ?_
    refine ar_iadd (pc := 55) (x := v3) (y := 1) (by decide +kernel) ?_
    refine ar_iload (pc := 56) (i := 7) (by decide +kernel) rfl ?_
    refine ar_callS (pc := 58) (M2 := M_X2_know) (as := [.inr (.inr a1), .inl v2, .inl v3, .inl (am_w32 (v3 + 1)), .inl (am_w32 (v6.tmod 256))]) (n2 := 321) (st := []) (by decide +kernel) rfl wm_RX2_142 ws_yX2_know wz_RX2 wc_yX2_know ⟨by decide, by decide, rfl⟩ (by decide) (Nat.le_of_ble_eq_true rfl) (Nat.le_refl _) (Nat.le_refl _) (am_Cl_mono H (fun r2 h3 H => ?_))
    show am_Wp true (d + 1) M_X2_readSummed 321 321 h0 Q 61 [some (.inr (.inr 218)), some (.inr (.inr a1)), some (.inl v2), some (.inl v3), some (.inl v4), some (.inl v5), some (.inl v6), some (.inl (am_w32 (v6.tmod 256))), none, none, none, none] [] 321 h3
    refine ar_iload_n (pc := 61) (i := 2) (k0 := 2) (by decide +kernel) rfl rfl ?_
    refine ar_callSN (pc := 62) (M2 := M_X6_isField) (as := [.inl v2]) (n2 := 321) (st := []) (by decide +kernel) rfl wn_RX2_84 ws_yX6_isField wz_RX6 wc_yX6_isField ⟨by decide, by decide, rfl⟩ (by decide) (Nat.le_of_ble_eq_true rfl) (Nat.le_refl _) (Nat.le_refl _) (am_Cl_mono H (fun r4 h5 H => ?_))
    show am_Wp true (d + 1) M_X2_readSummed 321 321 h0 Q 65 [some (.inr (.inr 218)), some (.inr (.inr a1)), some (.inl v2), some (.inl v3), some (.inl v4), some (.inl v5), some (.inl v6), some (.inl (am_w32 (v6.tmod 256))), none, none, none, none] [.inl r4] 321 h5
    refine ar_if_eq (pc := 65) (x := r4) (tgt := 166) (off := 101) (by decide +kernel) (by decide) (fun c6 => ?_) (fun c6 => ?_)
    · replace H := H.1 c6
      exact ar_vret (pc := 166) (by decide +kernel) rfl rfl H
    · replace H := H.2 c6
      refine ar_aload_n (pc := 68) (i := 1) (k0 := 1) (by decide +kernel) rfl rfl ?_
      obtain ⟨g7, H⟩ := H
      refine ar_getNV (pc := 69) (a := a1) (v := .inl (h5 a1 0)) 3 0 (by decide +kernel) g7 rfl (by decide) wg_RX2_131 rfl ?_
      refine ar_iload_n (pc := 72) (i := 3) (k0 := 3) (by decide +kernel) rfl rfl ?_
      refine ar_iadd (pc := 73) (x := (h5 a1 0)) (y := v3) (by decide +kernel) ?_
      refine ar_aload_n (pc := 74) (i := 1) (k0 := 1) (by decide +kernel) rfl rfl ?_
      refine ar_getNV (pc := 75) (a := a1) (v := .inl (h5 a1 0)) 3 0 (by decide +kernel) g7 rfl (by decide) wg_RX2_131 rfl ?_
      refine ar_iload_n (pc := 78) (i := 3) (k0 := 3) (by decide +kernel) rfl rfl ?_
      refine ar_iadd (pc := 79) (x := (h5 a1 0)) (y := v3) (by decide +kernel) ?_
      refine ar_iconst (pc := 80) (z := 1) (by decide +kernel) (by unfold am_i32; omega) ?_
      refine ar_iadd (pc := 81) (x := (am_w32 ((h5 a1 0) + v3))) (y := 1) (by decide +kernel) ?_
      refine ar_callSN (pc := 82) (M2 := M_X6_span) (as := [.inl (am_w32 ((h5 a1 0) + v3)), .inl (am_w32 ((am_w32 ((h5 a1 0) + v3)) + 1))]) (n2 := 321) (st := []) (by decide +kernel) rfl wn_RX2_134 ws_yX6_span wz_RX6 wc_yX6_span ⟨by decide, by decide, rfl⟩ (by decide) (Nat.le_of_ble_eq_true rfl) (Nat.le_refl _) (Nat.le_refl _) (am_Cl_mono H (fun r8 h9 H => ?_))
      show am_Wp true (d + 1) M_X2_readSummed 321 321 h0 Q 85 [some (.inr (.inr 218)), some (.inr (.inr a1)), some (.inl v2), some (.inl v3), some (.inl v4), some (.inl v5), some (.inl v6), some (.inl (am_w32 (v6.tmod 256))), none, none, none, none] [.inr (.inl r8)] 321 h9
      refine ar_lstore (pc := 85) (i := 8) (ls2 := [some (.inr (.inr 218)), some (.inr (.inr a1)), some (.inl v2), some (.inl v3), some (.inl v4), some (.inl v5), some (.inl v6), some (.inl (am_w32 (v6.tmod 256))), some (.inr (.inl r8)), none, none, none]) (by decide +kernel) (by decide) rfl ?_
      refine ar_aload_n (pc := 87) (i := 1) (k0 := 1) (by decide +kernel) rfl rfl ?_
      refine ar_getNV (pc := 88) (a := a1) (v := .inl (h9 a1 0)) 3 0 (by decide +kernel) g7 rfl (by decide) wg_RX2_131 rfl ?_
      refine ar_iload (pc := 91) (i := 4) (by decide +kernel) rfl ?_
      refine ar_iadd (pc := 93) (x := (h9 a1 0)) (y := v4) (by decide +kernel) ?_
      refine ar_aload_n (pc := 94) (i := 1) (k0 := 1) (by decide +kernel) rfl rfl ?_
      refine ar_getNV (pc := 95) (a := a1) (v := .inl (h9 a1 0)) 3 0 (by decide +kernel) g7 rfl (by decide) wg_RX2_131 rfl ?_
      refine ar_iload (pc := 98) (i := 5) (by decide +kernel) rfl ?_
      refine ar_iadd (pc := 100) (x := (h9 a1 0)) (y := v5) (by decide +kernel) ?_
      refine ar_callSN (pc := 101) (M2 := M_X6_span) (as := [.inl (am_w32 ((h9 a1 0) + v4)), .inl (am_w32 ((h9 a1 0) + v5))]) (n2 := 321) (st := []) (by decide +kernel) rfl wn_RX2_134 ws_yX6_span wz_RX6 wc_yX6_span ⟨by decide, by decide, rfl⟩ (by decide) (Nat.le_of_ble_eq_true rfl) (Nat.le_refl _) (Nat.le_refl _) (am_Cl_mono H (fun r10 h11 H => ?_))
      show am_Wp true (d + 1) M_X2_readSummed 321 321 h0 Q 104 [some (.inr (.inr 218)), some (.inr (.inr a1)), some (.inl v2), some (.inl v3), some (.inl v4), some (.inl v5), some (.inl v6), some (.inl (am_w32 (v6.tmod 256))), some (.inr (.inl r8)), none, none, none] [.inr (.inl r10)] 321 h11
      refine ar_lload (pc := 104) (i := 8) (by decide +kernel) rfl ?_
      refine ar_ldc2 (pc := 106) (z := (-1)) (by decide +kernel) wk_RX2_169 (by unfold am_i64; omega) ?_
      refine ar_lxor (pc := 109) (x := r8) (y := (-1)) (by decide +kernel) ?_
      refine ar_land (pc := 110) (x := r10) (y := (am_lxor r8 (-1))) (by decide +kernel) ?_
      refine ar_lstore (pc := 111) (i := 10) (ls2 := [some (.inr (.inr 218)), some (.inr (.inr a1)), some (.inl v2), some (.inl v3), some (.inl v4), some (.inl v5), some (.inl v6), some (.inl (am_w32 (v6.tmod 256))), some (.inr (.inl r8)), none, some (.inr (.inl (am_land r10 (am_lxor r8 (-1))))), none]) (by decide +kernel) (by decide) rfl ?_
      refine ar_aload_n (pc := 113) (i := 1) (k0 := 1) (by decide +kernel) rfl rfl ?_
      refine ar_getFNV (pc := 114) (a := a1) (b := (a1 + 4)) 3 9 (by decide +kernel) g7 rfl (by decide) wg_RX2_126 rfl (fun _ => rfl) rfl ?_
      refine ar_iload_n (pc := 117) (i := 2) (k0 := 2) (by decide +kernel) rfl rfl ?_
      refine ar_dup2 (pc := 118) (by decide +kernel) trivial trivial ?_
      obtain ⟨g12, H⟩ := H
      obtain ⟨g13, H⟩ := H
      refine ar_lald (pc := 119) (a := (a1 + 4)) (i := v2) (by decide +kernel) (kX3_9 g7).1 g12 (am_lt_eq g13 ((kX3_9 g7).2).symm) ?_
      refine ar_aload_n (pc := 120) (i := 0) (k0 := 0) (by decide +kernel) rfl rfl ?_
      refine ar_getV (pc := 121) (a := 218) (v := .inl (h11 218 9)) 2 9 (by decide +kernel) k_218 rfl (by decide) wf_RX2_54 rfl ?_
      refine ar_if_eq (pc := 124) (x := (h11 218 9)) (tgt := 132) (off := 8) (by decide +kernel) (by decide) (fun c14 => ?_) (fun c14 => ?_)
      · replace H := H.1 c14
        refine ar_lload (pc := 132) (i := 10) (by decide +kernel) rfl ?_
        refine ar_lload (pc := 134) (i := 8) (by decide +kernel) rfl ?_
        refine ar_lor (pc := 136) (x := (am_land r10 (am_lxor r8 (-1)))) (y := r8) (by decide +kernel) ?_
        refine ar_forget [true, true, true, true, false, false, false, true, false, true, false, true] rfl ?_
        exact H h0
      · replace H := H.2 c14
        refine ar_lload (pc := 127) (i := 10) (by decide +kernel) rfl ?_
        refine ar_goto (pc := 129) (tgt := 137) (off := 8) (by decide +kernel) (by decide) ?_
        refine ar_forget [true, true, true, true, false, false, false, true, false, true, false, true] rfl ?_
        exact H h0
  · replace H := H.2 c1
    refine ar_iload (pc := 14) (i := 6) (by decide +kernel) rfl ?_
    refine ar_iload (pc := 16) (i := 7) (by decide +kernel) rfl ?_
    refine ar_iload_n (pc := 18) (i := 3) (k0 := 3) (by decide +kernel) rfl rfl ?_
    refine ar_icmp_ne (pc := 19) (x := v7) (y := v3) (tgt := 26) (off := 7) (by decide +kernel) (by decide) (fun c15 => ?_) (fun c15 => ?_)
    · replace H := H.1 c15
      refine ar_aload_n (pc := 26) (i := 0) (k0 := 0) (by decide +kernel) rfl rfl ?_
      refine ar_aload_n (pc := 27) (i := 1) (k0 := 1) (by decide +kernel) rfl rfl ?_
      refine ar_iload (pc := 28) (i := 7) (by decide +kernel) rfl ?_
      refine ar_callV (pc := 30) (M2 := M_X2_byteIn) (a := 218) (ci := 2) (as := [.inr (.inr a1), .inl v7]) (n2 := 321) (st := [.inl v6]) (by decide +kernel) rfl wm_RX2_165 wi_yX2_byteIn wl_yX2_byteIn k_218 rfl wz_RX2 wc_yX2_byteIn ⟨by decide, by decide, rfl⟩ (by decide) (Nat.le_of_ble_eq_true rfl) (Nat.le_refl _) (Nat.le_refl _) (am_Cl_mono H (fun r16 h17 H => ?_))
      show am_Wp true (d + 1) M_X2_readSummed 321 321 h0 Q 33 [some (.inr (.inr 218)), some (.inr (.inr a1)), some (.inl v2), some (.inl v3), some (.inl v4), some (.inl v5), some (.inl v6), some (.inl v7), none, none, none, none] [.inl r16, .inl v6] 321 h17
      refine ar_forget [true, true, true, true, true, true, false, true, true, true, true, true] rfl ?_
      exact H h0
    · replace H := H.2 c15
      refine ar_iconst (pc := 22) (z := 0) (by decide +kernel) (by unfold am_i32; omega) ?_
      refine ar_goto (pc := 23) (tgt := 33) (off := 10) (by decide +kernel) (by decide) ?_
      refine ar_forget [true, true, true, true, true, true, false, true, true, true, true, true] rfl ?_
      exact H h0
theorem B_X2_readSummed_33 {d : Nat} {Q : Int → am_H → Prop} {h : am_H} {a1 v2 v3 v4 v5 v7 s0 s1 : Int} (H : wf (d + 1) M_X2_readSummed Q 7 [some (.inr (.inr 218)), some (.inr (.inr a1)), some (.inl v2), some (.inl v3), some (.inl v4), some (.inl v5), some (.inl (am_w32 (s0 + s1))), some (.inl (am_w32 (v7 + 1))), none, none, none, none] [] h) : wf (d + 1) M_X2_readSummed Q 33 [some (.inr (.inr 218)), some (.inr (.inr a1)), some (.inl v2), some (.inl v3), some (.inl v4), some (.inl v5), none, some (.inl v7), none, none, none, none] [.inl s1, .inl s0] h := by
  intro h0
  refine ar_iadd (pc := 33) (x := s0) (y := s1) (by decide +kernel) ?_
  refine ar_istore (pc := 34) (i := 6) (ls2 := [some (.inr (.inr 218)), some (.inr (.inr a1)), some (.inl v2), some (.inl v3), some (.inl v4), some (.inl v5), some (.inl (am_w32 (s0 + s1))), some (.inl v7), none, none, none, none]) (by decide +kernel) (by decide) rfl ?_
  refine ar_iinc (pc := 36) (i := 7) (z := 1) (x := v7) (ls2 := [some (.inr (.inr 218)), some (.inr (.inr a1)), some (.inl v2), some (.inl v3), some (.inl v4), some (.inl v5), some (.inl (am_w32 (s0 + s1))), some (.inl (am_w32 (v7 + 1))), none, none, none, none]) (by decide +kernel) rfl (by decide) rfl ?_
  refine ar_goto (pc := 39) (tgt := 7) (off := -32) (by decide +kernel) (by decide) ?_
  exact H h0
theorem B_X2_readSummed_137 {d : Nat} {Q : Int → am_H → Prop} {h : am_H} {a1 v2 v3 v7 s1 s2 s3 : Int} (H : (am_kd 321 (a1 + 4) = 1) ∧ ((0 ≤ s1) ∧ ((s1 < am_ln (a1 + 4)) ∧ ((am_kd 321 a1 = 13) ∧ (cf d M_X2_byteIn [.inr (.inr 218), .inr (.inr a1), .inl v3] (am_up h (a1 + 4) s1 (am_lor s2 s3)) (fun r5 h6 => (¬ r5 = v7 → wf (d + 1) M_X2_readSummed Q 162 [none, none, none, none, none, none, none, none, none, none, none, none] [.inl (am_ishl 1 v2), .inl (h a1 5), .inr (.inr a1)] h6) ∧ (r5 = v7 → wf (d + 1) M_X2_readSummed Q 162 [none, none, none, none, none, none, none, none, none, none, none, none] [.inl 0, .inl (h a1 5), .inr (.inr a1)] h6))))))) : wf (d + 1) M_X2_readSummed Q 137 [some (.inr (.inr 218)), some (.inr (.inr a1)), some (.inl v2), some (.inl v3), none, none, none, some (.inl v7), none, none, none, none] [.inr (.inl s3), .inr (.inl s2), .inl s1, .inr (.inr (a1 + 4))] h := by
  intro h0
  refine ar_lor (pc := 137) (x := s2) (y := s3) (by decide +kernel) ?_
  obtain ⟨g1, H⟩ := H
  obtain ⟨g2, H⟩ := H
  obtain ⟨g3, H⟩ := H
  refine ar_last (pc := 138) (a := (a1 + 4)) (i := s1) (z := (am_lor s2 s3)) (by decide +kernel) g1 g2 g3 ?_
  refine ar_aload_n (pc := 139) (i := 1) (k0 := 1) (by decide +kernel) rfl rfl ?_
  refine ar_dup (pc := 140) (by decide +kernel) trivial ?_
  obtain ⟨g4, H⟩ := H
  refine ar_getNV (pc := 141) (a := a1) (v := .inl (h a1 5)) 3 5 (by decide +kernel) g4 rfl (by decide) wg_RX2_171 (by first | rfl | (simp [am_tv, am_ty, tyX3, am_up, am_cp]; done) | (simp [am_tv, am_ty, tyX3, am_up, am_cp] <;> intros <;> omega)) ?_
  refine ar_aload_n (pc := 144) (i := 0) (k0 := 0) (by decide +kernel) rfl rfl ?_
  refine ar_aload_n (pc := 145) (i := 1) (k0 := 1) (by decide +kernel) rfl rfl ?_
  refine ar_iload_n (pc := 146) (i := 3) (k0 := 3) (by decide +kernel) rfl rfl ?_
  refine ar_callV (pc := 147) (M2 := M_X2_byteIn) (a := 218) (ci := 2) (as := [.inr (.inr a1), .inl v3]) (n2 := 321) (st := [.inl (h a1 5), .inr (.inr a1)]) (by decide +kernel) rfl wm_RX2_165 wi_yX2_byteIn wl_yX2_byteIn k_218 rfl wz_RX2 wc_yX2_byteIn ⟨by decide, by decide, rfl⟩ (by decide) (Nat.le_of_ble_eq_true rfl) (Nat.le_refl _) (Nat.le_refl _) (am_Cl_mono H (fun r5 h6 H => ?_))
  show am_Wp true (d + 1) M_X2_readSummed 321 321 h0 Q 150 [some (.inr (.inr 218)), some (.inr (.inr a1)), some (.inl v2), some (.inl v3), none, none, none, some (.inl v7), none, none, none, none] [.inl r5, .inl (h a1 5), .inr (.inr a1)] 321 h6
  refine ar_iload (pc := 150) (i := 7) (by decide +kernel) rfl ?_
  refine ar_icmp_ne (pc := 152) (x := r5) (y := v7) (tgt := 159) (off := 7) (by decide +kernel) (by decide) (fun c7 => ?_) (fun c7 => ?_)
  · replace H := H.1 c7
    refine ar_iconst (pc := 159) (z := 1) (by decide +kernel) (by unfold am_i32; omega) ?_
    refine ar_iload_n (pc := 160) (i := 2) (k0 := 2) (by decide +kernel) rfl rfl ?_
    refine ar_ishl (pc := 161) (x := 1) (y := v2) (by decide +kernel) ?_
    refine ar_forget [false, false, false, false, true, true, true, false, true, true, true, true] rfl ?_
    exact H h0
  · replace H := H.2 c7
    refine ar_iconst (pc := 155) (z := 0) (by decide +kernel) (by unfold am_i32; omega) ?_
    refine ar_goto (pc := 156) (tgt := 162) (off := 6) (by decide +kernel) (by decide) ?_
    refine ar_forget [false, false, false, false, true, true, true, false, true, true, true, true] rfl ?_
    exact H h0
theorem B_X2_readSummed_162 {d : Nat} {Q : Int → am_H → Prop} {h : am_H} {a1 s1 s2 : Int} (H : (am_kd 321 a1 = 13) ∧ (Q 0 (am_up h a1 5 (am_ior s1 s2)))) : wf (d + 1) M_X2_readSummed Q 162 [none, none, none, none, none, none, none, none, none, none, none, none] [.inl s2, .inl s1, .inr (.inr a1)] h := by
  intro h0
  refine ar_ior (pc := 162) (x := s1) (y := s2) (by decide +kernel) ?_
  obtain ⟨g1, H⟩ := H
  refine ar_putIN (pc := 163) (a := a1) (z := (am_ior s1 s2)) 3 5 (by decide +kernel) g1 rfl (by decide) rfl (fun _ => rfl) rfl wg_RX2_171 ?_
  exact ar_vret (pc := 166) (by decide +kernel) rfl rfl H

/-! ByteIntervals$Reader.readNest(LByteIntervals$Text;LByteIntervals$Reading;III)V -/
theorem B_X2_readNest_0 {d : Nat} {Q : Int → am_H → Prop} {h : am_H} {a1 a2 v3 v4 v5 : Int} (H : (am_kd 321 a2 = 13) ∧ (cf d M_X6_isField [.inl v3] h (fun r2 h3 => (r2 = 0 → Q 0 h3) ∧ (¬ r2 = 0 → ((am_w32 ((h a2 2) + 1)) ≤ 2 → cf d M_J9_max_7cf53 [.inl (h3 218 8), .inl (am_w32 ((h a2 2) + 1))] h3 (fun r6 h7 => (2 ≤ (am_w32 ((h a2 2) + 1)) → wf (d + 1) M_X2_readNest Q 49 [some (.inr (.inr 218)), some (.inr (.inr a1)), some (.inr (.inr a2)), some (.inl v3), some (.inl v4), some (.inl v5), some (.inl (am_w32 ((h a2 2) + 1))), none, none, none, none] [.inl 0] (am_up h7 218 8 r6)) ∧ ((am_w32 ((h a2 2) + 1)) < 2 → (am_kd 321 a1 = 15) ∧ (wf (d + 1) M_X2_readNest Q 49 [some (.inr (.inr 218)), some (.inr (.inr a1)), some (.inr (.inr a2)), some (.inl v3), some (.inl v4), some (.inl v5), some (.inl (am_w32 ((h a2 2) + 1))), none, none, none, none] [.inl ((am_up h7 218 8 r6) a1 19)] (am_up h7 218 8 r6))))) ∧ (2 < (am_w32 ((h a2 2) + 1)) → Q 0 h3))))) : wf (d + 1) M_X2_readNest Q 0 [some (.inr (.inr 218)), some (.inr (.inr a1)), some (.inr (.inr a2)), some (.inl v3), some (.inl v4), some (.inl v5), none, none, none, none, none] [] h := by
  intro h0
  refine ar_aload_n (pc := 0) (i := 2) (k0 := 2) (by decide +kernel) rfl rfl ?_
  obtain ⟨g1, H⟩ := H
  refine ar_getNV (pc := 1) (a := a2) (v := .inl (h a2 2)) 3 2 (by decide +kernel) g1 rfl (by decide) wg_RX2_149 rfl ?_
  refine ar_iconst (pc := 4) (z := 1) (by decide +kernel) (by unfold am_i32; omega) ?_
  refine ar_iadd (pc := 5) (x := (h a2 2)) (y := 1) (by decide +kernel) ?_
  refine ar_istore (pc := 6) (i := 6) (ls2 := [some (.inr (.inr 218)), some (.inr (.inr a1)), some (.inr (.inr a2)), some (.inl v3), some (.inl v4), some (.inl v5), some (.inl (am_w32 ((h a2 2) + 1))), none, none, none, none]) (by decide +kernel) (by decide) rfl ?_
  refine ar_iload_n (pc := 8) (i := 3) (k0 := 3) (by decide +kernel) rfl rfl ?_
  refine ar_callSN (pc := 9) (M2 := M_X6_isField) (as := [.inl v3]) (n2 := 321) (st := []) (by decide +kernel) rfl wn_RX2_84 ws_yX6_isField wz_RX6 wc_yX6_isField ⟨by decide, by decide, rfl⟩ (by decide) (Nat.le_of_ble_eq_true rfl) (Nat.le_refl _) (Nat.le_refl _) (am_Cl_mono H (fun r2 h3 H => ?_))
  show am_Wp true (d + 1) M_X2_readNest 321 321 h0 Q 12 [some (.inr (.inr 218)), some (.inr (.inr a1)), some (.inr (.inr a2)), some (.inl v3), some (.inl v4), some (.inl v5), some (.inl (am_w32 ((h a2 2) + 1))), none, none, none, none] [.inl r2] 321 h3
  refine ar_if_eq (pc := 12) (x := r2) (tgt := 21) (off := 9) (by decide +kernel) (by decide) (fun c4 => ?_) (fun c4 => ?_)
  · replace H := H.1 c4
    exact ar_vret (pc := 21) (by decide +kernel) rfl rfl H
  · replace H := H.2 c4
    refine ar_iload (pc := 15) (i := 6) (by decide +kernel) rfl ?_
    refine ar_iconst (pc := 17) (z := 2) (by decide +kernel) (by unfold am_i32; omega) ?_
    refine ar_icmp_le (pc := 18) (x := (am_w32 ((h a2 2) + 1))) (y := 2) (tgt := 22) (off := 4) (by decide +kernel) (by decide) (fun c5 => ?_) (fun c5 => ?_)
    · replace H := H.1 c5
      refine ar_aload_n (pc := 22) (i := 0) (k0 := 0) (by decide +kernel) rfl rfl ?_
      refine ar_aload_n (pc := 23) (i := 0) (k0 := 0) (by decide +kernel) rfl rfl ?_
      refine ar_getV (pc := 24) (a := 218) (v := .inl (h3 218 8)) 2 8 (by decide +kernel) k_218 rfl (by decide) wf_RX2_43 rfl ?_
      refine ar_iload (pc := 27) (i := 6) (by decide +kernel) rfl ?_
      refine ar_callS (pc := 29) (M2 := M_J9_max_7cf53) (as := [.inl (h3 218 8), .inl (am_w32 ((h a2 2) + 1))]) (n2 := 321) (st := [.inr (.inr 218)]) (by decide +kernel) rfl wm_RX2_174 ws_yJ9_max_7cf53 wz_RJ9 wc_yJ9_max_7cf53 ⟨by decide, by decide, rfl⟩ (by decide) (Nat.le_of_ble_eq_true rfl) (Nat.le_refl _) (Nat.le_refl _) (am_Cl_mono H (fun r6 h7 H => ?_))
      show am_Wp true (d + 1) M_X2_readNest 321 321 h0 Q 32 [some (.inr (.inr 218)), some (.inr (.inr a1)), some (.inr (.inr a2)), some (.inl v3), some (.inl v4), some (.inl v5), some (.inl (am_w32 ((h a2 2) + 1))), none, none, none, none] [.inl r6, .inr (.inr 218)] 321 h7
      refine ar_putI (pc := 32) (a := 218) (z := r6) 2 8 (by decide +kernel) k_218 rfl (by decide) rfl (fun _ => rfl) rfl wf_RX2_43 ?_
      refine ar_iload (pc := 35) (i := 6) (by decide +kernel) rfl ?_
      refine ar_iconst (pc := 37) (z := 2) (by decide +kernel) (by unfold am_i32; omega) ?_
      refine ar_icmp_ge (pc := 38) (x := (am_w32 ((h a2 2) + 1))) (y := 2) (tgt := 48) (off := 10) (by decide +kernel) (by decide) (fun c8 => ?_) (fun c8 => ?_)
      · replace H := H.1 c8
        refine ar_iconst (pc := 48) (z := 0) (by decide +kernel) (by unfold am_i32; omega) ?_
        exact H h0
      · replace H := H.2 c8
        refine ar_aload_n (pc := 41) (i := 1) (k0 := 1) (by decide +kernel) rfl rfl ?_
        obtain ⟨g9, H⟩ := H
        refine ar_getNV (pc := 42) (a := a1) (v := .inl ((am_up h7 218 8 r6) a1 19)) 5 19 (by decide +kernel) g9 rfl (by decide) wg_RX2_180 rfl ?_
        refine ar_goto (pc := 45) (tgt := 49) (off := 4) (by decide +kernel) (by decide) ?_
        exact H h0
    · replace H := H.2 c5
      exact ar_vret (pc := 21) (by decide +kernel) rfl rfl H
theorem B_X2_readNest_49 {d : Nat} {Q : Int → am_H → Prop} {h : am_H} {a1 a2 v3 v4 v5 v6 s0 : Int} (H : (am_kd 321 a2 = 13) ∧ (((h 218 9) = 0 → wf (d + 1) M_X2_readNest Q 82 [none, some (.inr (.inr a1)), some (.inr (.inr a2)), some (.inl v3), some (.inl v4), some (.inl v5), none, none, none, none, none] [.inl 255, .inl (am_w32 (v5 - v4)), .inl (am_w32 ((h a2 0) + v4)), .inl v6, .inr (.inr a1), .inr (.inr 218)] h) ∧ (¬ (h 218 9) = 0 → wf (d + 1) M_X2_readNest Q 82 [none, some (.inr (.inr a1)), some (.inr (.inr a2)), some (.inl v3), some (.inl v4), some (.inl v5), none, none, none, none, none] [.inl s0, .inl (am_w32 (v5 - v4)), .inl (am_w32 ((h a2 0) + v4)), .inl v6, .inr (.inr a1), .inr (.inr 218)] h))) : wf (d + 1) M_X2_readNest Q 49 [some (.inr (.inr 218)), some (.inr (.inr a1)), some (.inr (.inr a2)), some (.inl v3), some (.inl v4), some (.inl v5), some (.inl v6), none, none, none, none] [.inl s0] h := by
  intro h0
  refine ar_istore (pc := 49) (i := 7) (ls2 := [some (.inr (.inr 218)), some (.inr (.inr a1)), some (.inr (.inr a2)), some (.inl v3), some (.inl v4), some (.inl v5), some (.inl v6), some (.inl s0), none, none, none]) (by decide +kernel) (by decide) rfl ?_
  refine ar_aload_n (pc := 51) (i := 0) (k0 := 0) (by decide +kernel) rfl rfl ?_
  refine ar_aload_n (pc := 52) (i := 1) (k0 := 1) (by decide +kernel) rfl rfl ?_
  refine ar_iload (pc := 53) (i := 6) (by decide +kernel) rfl ?_
  refine ar_aload_n (pc := 55) (i := 2) (k0 := 2) (by decide +kernel) rfl rfl ?_
  obtain ⟨g1, H⟩ := H
  refine ar_getNV (pc := 56) (a := a2) (v := .inl (h a2 0)) 3 0 (by decide +kernel) g1 rfl (by decide) wg_RX2_131 rfl ?_
  refine ar_iload (pc := 59) (i := 4) (by decide +kernel) rfl ?_
  refine ar_iadd (pc := 61) (x := (h a2 0)) (y := v4) (by decide +kernel) ?_
  refine ar_iload (pc := 62) (i := 5) (by decide +kernel) rfl ?_
  refine ar_iload (pc := 64) (i := 4) (by decide +kernel) rfl ?_
  refine ar_isub (pc := 66) (x := v5) (y := v4) (by decide +kernel) ?_
  refine ar_aload_n (pc := 67) (i := 0) (k0 := 0) (by decide +kernel) rfl rfl ?_
  refine ar_getV (pc := 68) (a := 218) (v := .inl (h 218 9)) 2 9 (by decide +kernel) k_218 rfl (by decide) wf_RX2_54 rfl ?_
  refine ar_if_eq (pc := 71) (x := (h 218 9)) (tgt := 79) (off := 8) (by decide +kernel) (by decide) (fun c2 => ?_) (fun c2 => ?_)
  · replace H := H.1 c2
    refine ar_sipush (pc := 79) (z := 255) (by decide +kernel) (by omega) ?_
    refine ar_forget [false, true, true, true, true, true, false, false, true, true, true] rfl ?_
    exact H h0
  · replace H := H.2 c2
    refine ar_iload (pc := 74) (i := 7) (by decide +kernel) rfl ?_
    refine ar_goto (pc := 76) (tgt := 82) (off := 6) (by decide +kernel) (by decide) ?_
    refine ar_forget [false, true, true, true, true, true, false, false, true, true, true] rfl ?_
    exact H h0
theorem B_X2_readNest_82 {d : Nat} {Q : Int → am_H → Prop} {h : am_H} {a1 a2 v3 v4 v5 s2 s3 s4 s5 : Int} (H : cf d M_X2_readFormat [.inr (.inr 218), .inr (.inr a1), .inl s2, .inl s3, .inl s4, .inl s5] h (fun r1 h2 => wf (d + 1) M_X2_readNest Q 93 [none, some (.inr (.inr a1)), some (.inr (.inr a2)), some (.inl v3), some (.inl v4), some (.inl v5), none, none, some (.inr (.inr r1)), some (.inl 1), some (.inl 0)] [] h2)) : wf (d + 1) M_X2_readNest Q 82 [none, some (.inr (.inr a1)), some (.inr (.inr a2)), some (.inl v3), some (.inl v4), some (.inl v5), none, none, none, none, none] [.inl s5, .inl s4, .inl s3, .inl s2, .inr (.inr a1), .inr (.inr 218)] h := by
  intro h0
  refine ar_callV (pc := 82) (M2 := M_X2_readFormat) (a := 218) (ci := 2) (as := [.inr (.inr a1), .inl s2, .inl s3, .inl s4, .inl s5]) (n2 := 321) (st := []) (by decide +kernel) rfl wm_RX2_50 wi_yX2_readFormat wl_yX2_readFormat k_218 rfl wz_RX2 wc_yX2_readFormat ⟨by decide, by decide, rfl⟩ (by decide) (Nat.le_of_ble_eq_true rfl) (Nat.le_refl _) (Nat.le_refl _) (am_Cl_mono H (fun r1 h2 H => ?_))
  show am_Wp true (d + 1) M_X2_readNest 321 321 h0 Q 85 [none, some (.inr (.inr a1)), some (.inr (.inr a2)), some (.inl v3), some (.inl v4), some (.inl v5), none, none, none, none, none] [.inr (.inr r1)] 321 h2
  refine ar_astore (pc := 85) (i := 8) (ls2 := [none, some (.inr (.inr a1)), some (.inr (.inr a2)), some (.inl v3), some (.inl v4), some (.inl v5), none, none, some (.inr (.inr r1)), none, none]) (by decide +kernel) (by decide) rfl ?_
  refine ar_iconst (pc := 87) (z := 1) (by decide +kernel) (by unfold am_i32; omega) ?_
  refine ar_istore (pc := 88) (i := 9) (ls2 := [none, some (.inr (.inr a1)), some (.inr (.inr a2)), some (.inl v3), some (.inl v4), some (.inl v5), none, none, some (.inr (.inr r1)), some (.inl 1), none]) (by decide +kernel) (by decide) rfl ?_
  refine ar_iconst (pc := 90) (z := 0) (by decide +kernel) (by unfold am_i32; omega) ?_
  refine ar_istore (pc := 91) (i := 10) (ls2 := [none, some (.inr (.inr a1)), some (.inr (.inr a2)), some (.inl v3), some (.inl v4), some (.inl v5), none, none, some (.inr (.inr r1)), some (.inl 1), some (.inl 0)]) (by decide +kernel) (by decide) rfl ?_
  exact H h0
theorem B_X2_readNest_93 {d : Nat} {Q : Int → am_H → Prop} {h : am_H} {a1 a2 v3 v4 v5 v8 v9 v10 : Int} (H : (8 ≤ v10 → cf d M_X2_know [.inr (.inr a2), .inl v3, .inl v4, .inl v5, .inl v9] h (fun _ h3 => (am_kd 321 a2 = 13) ∧ ((0 ≤ v3) ∧ ((v3 < 8) ∧ ((am_kd 321 v8 = 13) ∧ (cf d M_X3_looksOf [.inr (.inr v8), .inl 255] h3 (fun r7 h8 => cf d M_X3_isSound [.inr (.inr v8)] (am_up h8 (a2 + 4) v3 (am_lor (h3 (a2 + 4) v3) (am_lor r7 (h8 v8 11)))) (fun r10 h11 => (r10 = 0 → wf (d + 1) M_X2_readNest Q 198 [none, none, none, none, none, none, none, none, none, none, none] [.inl (am_ishl 1 v3), .inl (h8 a2 5), .inr (.inr a2)] h11) ∧ (¬ r10 = 0 → wf (d + 1) M_X2_readNest Q 198 [none, none, none, none, none, none, none, none, none, none, none] [.inl 0, .inl (h8 a2 5), .inr (.inr a2)] h11))))))))) ∧ (v10 < 8 → (am_kd 321 a1 = 15) ∧ ((0 ≤ v10) ∧ ((¬ (h (a1 + 5) v10) = 2 → wf (d + 1) M_X2_readNest Q 134 [none, some (.inr (.inr a1)), some (.inr (.inr a2)), some (.inl v3), some (.inl v4), some (.inl v5), none, none, some (.inr (.inr v8)), none, some (.inl v10)] [.inl v9] h) ∧ ((h (a1 + 5) v10) = 2 → (am_kd 321 v8 = 13) ∧ (cf d M_X3_isKnown [.inr (.inr v8), .inl v10] h (fun r16 h17 => (r16 = 0 → wf (d + 1) M_X2_readNest Q 134 [none, some (.inr (.inr a1)), some (.inr (.inr a2)), some (.inl v3), some (.inl v4), some (.inl v5), none, none, some (.inr (.inr v8)), none, some (.inl v10)] [.inl v9] h17) ∧ (¬ r16 = 0 → wf (d + 1) M_X2_readNest Q 135 [none, some (.inr (.inr a1)), some (.inr (.inr a2)), some (.inl v3), some (.inl v4), some (.inl v5), none, none, some (.inr (.inr v8)), none, some (.inl v10)] [.inl (h17 (v8 + 1) v10), .inl v9] h17)))))))) : wf (d + 1) M_X2_readNest Q 93 [none, some (.inr (.inr a1)), some (.inr (.inr a2)), some (.inl v3), some (.inl v4), some (.inl v5), none, none, some (.inr (.inr v8)), some (.inl v9), some (.inl v10)] [] h := by
  intro h0
  refine ar_iload (pc := 93) (i := 10) (by decide +kernel) rfl ?_
  refine ar_bipush (pc := 95) (z := 8) (by decide +kernel) (by omega) ?_
  refine ar_icmp_ge (pc := 97) (x := v10) (y := 8) (tgt := 144) (off := 47) (by decide +kernel) (by decide) (fun c1 => ?_) (fun c1 => ?_)
  · replace H := H.1 c1
    refine ar_aload_n (pc := 144) (i := 2) (k0 := 2) (by decide +kernel) rfl rfl ?_
    refine ar_iload_n (pc := 145) (i := 3) (k0 := 3) (by decide +kernel) rfl rfl ?_
    refine ar_iload (pc := 146) (i := 4) (by decide +kernel) rfl ?_
    refine ar_iload (pc := 148) (i := 5) (by decide +kernel) rfl ?_
    refine ar_iload (pc := 150) (i := 9) (by decide +kernel) rfl ?_
    refine ar_callS (pc := 152) (M2 := M_X2_know) (as := [.inr (.inr a2), .inl v3, .inl v4, .inl v5, .inl v9]) (n2 := 321) (st := []) (by decide +kernel) rfl wm_RX2_142 ws_yX2_know wz_RX2 wc_yX2_know ⟨by decide, by decide, rfl⟩ (by decide) (Nat.le_of_ble_eq_true rfl) (Nat.le_refl _) (Nat.le_refl _) (am_Cl_mono H (fun r2 h3 H => ?_))
    show am_Wp true (d + 1) M_X2_readNest 321 321 h0 Q 155 [none, some (.inr (.inr a1)), some (.inr (.inr a2)), some (.inl v3), some (.inl v4), some (.inl v5), none, none, some (.inr (.inr v8)), some (.inl v9), some (.inl v10)] [] 321 h3
    refine ar_aload_n (pc := 155) (i := 2) (k0 := 2) (by decide +kernel) rfl rfl ?_
    obtain ⟨g4, H⟩ := H
    refine ar_getFNV (pc := 156) (a := a2) (b := (a2 + 4)) 3 9 (by decide +kernel) g4 rfl (by decide) wg_RX2_126 rfl (fun _ => rfl) rfl ?_
    refine ar_iload_n (pc := 159) (i := 3) (k0 := 3) (by decide +kernel) rfl rfl ?_
    refine ar_dup2 (pc := 160) (by decide +kernel) trivial trivial ?_
    obtain ⟨g5, H⟩ := H
    obtain ⟨g6, H⟩ := H
    refine ar_lald (pc := 161) (a := (a2 + 4)) (i := v3) (by decide +kernel) (kX3_9 g4).1 g5 (am_lt_eq g6 ((kX3_9 g4).2).symm) ?_
    refine ar_aload (pc := 162) (i := 8) (by decide +kernel) rfl ?_
    refine ar_sipush (pc := 164) (z := 255) (by decide +kernel) (by omega) ?_
    obtain ⟨g9, H⟩ := H
    refine ar_callVN (pc := 167) (M2 := M_X3_looksOf) (a := v8) (ci := 3) (as := [.inl 255]) (n2 := 321) (st := [.inr (.inl (h3 (a2 + 4) v3)), .inl v3, .inr (.inr (a2 + 4))]) (by decide +kernel) rfl wn_RX2_186 wi_yX3_looksOf wl_yX3_looksOf g9 rfl wz_RX3 wc_yX3_looksOf ⟨by decide, by decide, rfl⟩ (by decide) (Nat.le_of_ble_eq_true rfl) (Nat.le_refl _) (Nat.le_refl _) (am_Cl_mono H (fun r7 h8 H => ?_))
    show am_Wp true (d + 1) M_X2_readNest 321 321 h0 Q 170 [none, some (.inr (.inr a1)), some (.inr (.inr a2)), some (.inl v3), some (.inl v4), some (.inl v5), none, none, some (.inr (.inr v8)), some (.inl v9), some (.inl v10)] [.inr (.inl r7), .inr (.inl (h3 (a2 + 4) v3)), .inl v3, .inr (.inr (a2 + 4))] 321 h8
    refine ar_aload (pc := 170) (i := 8) (by decide +kernel) rfl ?_
    refine ar_getNV (pc := 172) (a := v8) (v := .inr (.inl (h8 v8 11))) 3 11 (by decide +kernel) g9 rfl (by decide) wg_RX2_190 rfl ?_
    refine ar_lor (pc := 175) (x := r7) (y := (h8 v8 11)) (by decide +kernel) ?_
    refine ar_lor (pc := 176) (x := (h3 (a2 + 4) v3)) (y := (am_lor r7 (h8 v8 11))) (by decide +kernel) ?_
    refine ar_last (pc := 177) (a := (a2 + 4)) (i := v3) (z := (am_lor (h3 (a2 + 4) v3) (am_lor r7 (h8 v8 11)))) (by decide +kernel) (kX3_9 g4).1 g5 (am_lt_eq g6 ((kX3_9 g4).2).symm) ?_
    refine ar_aload_n (pc := 178) (i := 2) (k0 := 2) (by decide +kernel) rfl rfl ?_
    refine ar_dup (pc := 179) (by decide +kernel) trivial ?_
    refine ar_getNV (pc := 180) (a := a2) (v := .inl (h8 a2 5)) 3 5 (by decide +kernel) g4 rfl (by decide) wg_RX2_171 (by first | rfl | (simp [am_tv, am_ty, tyX3, am_up, am_cp]; done) | (simp [am_tv, am_ty, tyX3, am_up, am_cp] <;> intros <;> omega)) ?_
    refine ar_aload (pc := 183) (i := 8) (by decide +kernel) rfl ?_
    refine ar_callVN (pc := 185) (M2 := M_X3_isSound) (a := v8) (ci := 3) (as := []) (n2 := 321) (st := [.inl (h8 a2 5), .inr (.inr a2)]) (by decide +kernel) rfl wn_RX2_63 wi_yX3_isSound wl_yX3_isSound g9 rfl wz_RX3 wc_yX3_isSound ⟨by decide, by decide, rfl⟩ (by decide) (Nat.le_of_ble_eq_true rfl) (Nat.le_refl _) (Nat.le_refl _) (am_Cl_mono H (fun r10 h11 H => ?_))
    show am_Wp true (d + 1) M_X2_readNest 321 321 h0 Q 188 [none, some (.inr (.inr a1)), some (.inr (.inr a2)), some (.inl v3), some (.inl v4), some (.inl v5), none, none, some (.inr (.inr v8)), some (.inl v9), some (.inl v10)] [.inl r10, .inl (h8 a2 5), .inr (.inr a2)] 321 h11
    refine ar_if_eq (pc := 188) (x := r10) (tgt := 195) (off := 7) (by decide +kernel) (by decide) (fun c12 => ?_) (fun c12 => ?_)
    · replace H := H.1 c12
      refine ar_iconst (pc := 195) (z := 1) (by decide +kernel) (by unfold am_i32; omega) ?_
      refine ar_iload_n (pc := 196) (i := 3) (k0 := 3) (by decide +kernel) rfl rfl ?_
      refine ar_ishl (pc := 197) (x := 1) (y := v3) (by decide +kernel) ?_
      refine ar_forget [true, false, false, false, false, false, true, true, false, false, false] rfl ?_
      exact H h0
    · replace H := H.2 c12
      refine ar_iconst (pc := 191) (z := 0) (by decide +kernel) (by unfold am_i32; omega) ?_
      refine ar_goto (pc := 192) (tgt := 198) (off := 6) (by decide +kernel) (by decide) ?_
      refine ar_forget [true, false, false, false, false, false, true, true, false, false, false] rfl ?_
      exact H h0
  · replace H := H.2 c1
    refine ar_iload (pc := 100) (i := 9) (by decide +kernel) rfl ?_
    refine ar_aload_n (pc := 102) (i := 1) (k0 := 1) (by decide +kernel) rfl rfl ?_
    obtain ⟨g13, H⟩ := H
    refine ar_getFNV (pc := 103) (a := a1) (b := (a1 + 5)) 5 7 (by decide +kernel) g13 rfl (by decide) wg_RX2_106 rfl (fun _ => rfl) rfl ?_
    refine ar_iload (pc := 106) (i := 10) (by decide +kernel) rfl ?_
    obtain ⟨g14, H⟩ := H
    refine ar_iald (pc := 108) (a := (a1 + 5)) (i := v10) (by decide +kernel) (kX5_7 g13).1 g14 (am_lt_eq c1 ((kX5_7 g13).2).symm) ?_
    refine ar_iconst (pc := 109) (z := 2) (by decide +kernel) (by unfold am_i32; omega) ?_
    refine ar_icmp_ne (pc := 110) (x := (h (a1 + 5) v10)) (y := 2) (tgt := 134) (off := 24) (by decide +kernel) (by decide) (fun c15 => ?_) (fun c15 => ?_)
    · replace H := H.1 c15
      refine ar_forget [true, true, true, true, true, true, true, true, true, false, true] rfl ?_
      exact H h0
    · replace H := H.2 c15
      refine ar_aload (pc := 113) (i := 8) (by decide +kernel) rfl ?_
      refine ar_iload (pc := 115) (i := 10) (by decide +kernel) rfl ?_
      obtain ⟨g18, H⟩ := H
      refine ar_callVN (pc := 117) (M2 := M_X3_isKnown) (a := v8) (ci := 3) (as := [.inl v10]) (n2 := 321) (st := [.inl v9]) (by decide +kernel) rfl wn_RX2_183 wi_yX3_isKnown wl_yX3_isKnown g18 rfl wz_RX3 wc_yX3_isKnown ⟨by decide, by decide, rfl⟩ (by decide) (Nat.le_of_ble_eq_true rfl) (Nat.le_refl _) (Nat.le_refl _) (am_Cl_mono H (fun r16 h17 H => ?_))
      show am_Wp true (d + 1) M_X2_readNest 321 321 h0 Q 120 [none, some (.inr (.inr a1)), some (.inr (.inr a2)), some (.inl v3), some (.inl v4), some (.inl v5), none, none, some (.inr (.inr v8)), some (.inl v9), some (.inl v10)] [.inl r16, .inl v9] 321 h17
      refine ar_if_eq (pc := 120) (x := r16) (tgt := 134) (off := 14) (by decide +kernel) (by decide) (fun c19 => ?_) (fun c19 => ?_)
      · replace H := H.1 c19
        refine ar_forget [true, true, true, true, true, true, true, true, true, false, true] rfl ?_
        exact H h0
      · replace H := H.2 c19
        refine ar_aload (pc := 123) (i := 8) (by decide +kernel) rfl ?_
        refine ar_getFNV (pc := 125) (a := v8) (b := (v8 + 1)) 3 6 (by decide +kernel) g18 rfl (by decide) wg_RX2_162 rfl (fun _ => rfl) rfl ?_
        refine ar_iload (pc := 128) (i := 10) (by decide +kernel) rfl ?_
        refine ar_iald (pc := 130) (a := (v8 + 1)) (i := v10) (by decide +kernel) (kX3_6 g18).1 g14 (am_lt_eq c1 ((kX3_6 g18).2).symm) ?_
        refine ar_goto (pc := 131) (tgt := 135) (off := 4) (by decide +kernel) (by decide) ?_
        refine ar_forget [true, true, true, true, true, true, true, true, true, false, true] rfl ?_
        exact H h0
theorem B_X2_readNest_134 {d : Nat} {Q : Int → am_H → Prop} {h : am_H} {a1 a2 v3 v4 v5 v8 v10 s0 : Int} (H : wf (d + 1) M_X2_readNest Q 135 [none, some (.inr (.inr a1)), some (.inr (.inr a2)), some (.inl v3), some (.inl v4), some (.inl v5), none, none, some (.inr (.inr v8)), none, some (.inl v10)] [.inl 0, .inl s0] h) : wf (d + 1) M_X2_readNest Q 134 [none, some (.inr (.inr a1)), some (.inr (.inr a2)), some (.inl v3), some (.inl v4), some (.inl v5), none, none, some (.inr (.inr v8)), none, some (.inl v10)] [.inl s0] h := by
  intro h0
  refine ar_iconst (pc := 134) (z := 0) (by decide +kernel) (by unfold am_i32; omega) ?_
  exact H h0
theorem B_X2_readNest_135 {d : Nat} {Q : Int → am_H → Prop} {h : am_H} {a1 a2 v3 v4 v5 v8 v10 s0 s1 : Int} (H : wf (d + 1) M_X2_readNest Q 93 [none, some (.inr (.inr a1)), some (.inr (.inr a2)), some (.inl v3), some (.inl v4), some (.inl v5), none, none, some (.inr (.inr v8)), some (.inl (am_w32 (s0 + s1))), some (.inl (am_w32 (v10 + 1)))] [] h) : wf (d + 1) M_X2_readNest Q 135 [none, some (.inr (.inr a1)), some (.inr (.inr a2)), some (.inl v3), some (.inl v4), some (.inl v5), none, none, some (.inr (.inr v8)), none, some (.inl v10)] [.inl s1, .inl s0] h := by
  intro h0
  refine ar_iadd (pc := 135) (x := s0) (y := s1) (by decide +kernel) ?_
  refine ar_istore (pc := 136) (i := 9) (ls2 := [none, some (.inr (.inr a1)), some (.inr (.inr a2)), some (.inl v3), some (.inl v4), some (.inl v5), none, none, some (.inr (.inr v8)), some (.inl (am_w32 (s0 + s1))), some (.inl v10)]) (by decide +kernel) (by decide) rfl ?_
  refine ar_iinc (pc := 138) (i := 10) (z := 1) (x := v10) (ls2 := [none, some (.inr (.inr a1)), some (.inr (.inr a2)), some (.inl v3), some (.inl v4), some (.inl v5), none, none, some (.inr (.inr v8)), some (.inl (am_w32 (s0 + s1))), some (.inl (am_w32 (v10 + 1)))]) (by decide +kernel) rfl (by decide) rfl ?_
  refine ar_goto (pc := 141) (tgt := 93) (off := -48) (by decide +kernel) (by decide) ?_
  exact H h0
theorem B_X2_readNest_198 {d : Nat} {Q : Int → am_H → Prop} {h : am_H} {a2 s1 s2 : Int} (H : (am_kd 321 a2 = 13) ∧ (Q 0 (am_up h a2 5 (am_ior s1 s2)))) : wf (d + 1) M_X2_readNest Q 198 [none, none, none, none, none, none, none, none, none, none, none] [.inl s2, .inl s1, .inr (.inr a2)] h := by
  intro h0
  refine ar_ior (pc := 198) (x := s1) (y := s2) (by decide +kernel) ?_
  obtain ⟨g1, H⟩ := H
  refine ar_putIN (pc := 199) (a := a2) (z := (am_ior s1 s2)) 3 5 (by decide +kernel) g1 rfl (by decide) rfl (fun _ => rfl) rfl wg_RX2_171 ?_
  exact ar_vret (pc := 202) (by decide +kernel) rfl rfl H

/-! ByteIntervals$Reader.askMusts(LByteIntervals$Text;LByteIntervals$Reading;)V -/
theorem B_X2_askMusts_0 {d : Nat} {Q : Int → am_H → Prop} {h : am_H} {a1 a2 : Int} (H : wf (d + 1) M_X2_askMusts Q 2 [some (.inr (.inr 218)), some (.inr (.inr a1)), some (.inr (.inr a2)), some (.inl 0), none] [] h) : wf (d + 1) M_X2_askMusts Q 0 [some (.inr (.inr 218)), some (.inr (.inr a1)), some (.inr (.inr a2)), none, none] [] h := by
  intro h0
  refine ar_iconst (pc := 0) (z := 0) (by decide +kernel) (by unfold am_i32; omega) ?_
  refine ar_istore_n (pc := 1) (i := 3) (k0 := 3) (ls2 := [some (.inr (.inr 218)), some (.inr (.inr a1)), some (.inr (.inr a2)), some (.inl 0), none]) (by decide +kernel) rfl (by decide) rfl ?_
  exact H h0
theorem B_X2_askMusts_2 {d : Nat} {Q : Int → am_H → Prop} {h : am_H} {a1 a2 v3 : Int} (H : (am_kd 321 a1 = 15) ∧ (((h a1 0) ≤ v3 → Q 0 h) ∧ (v3 < (h a1 0) → (24 ≤ v3 → Q 0 h) ∧ (v3 < 24 → (0 ≤ v3) ∧ ((¬ (h (a1 + 1) v3) = 3 → wf (d + 1) M_X2_askMusts Q 108 [some (.inr (.inr 218)), some (.inr (.inr a1)), some (.inr (.inr a2)), some (.inl v3), none] [] h) ∧ ((h (a1 + 1) v3) = 3 → (am_kd 321 a2 = 13) ∧ ((¬ (am_iand (h (a1 + 3) v3) (h a2 4)) = 0 → wf (d + 1) M_X2_askMusts Q 83 [some (.inr (.inr 218)), some (.inr (.inr a1)), some (.inr (.inr a2)), some (.inl v3), some (.inl 0)] [] h) ∧ ((am_iand (h (a1 + 3) v3) (h a2 4)) = 0 → cf d M_X2_answer [.inr (.inr 218), .inr (.inr a1), .inl ((am_up h 218 10 0) (a1 + 2) v3), .inr (.inr a2)] (am_up h 218 10 0) (fun r8 h9 => (r8 = 0 → wf (d + 1) M_X2_askMusts Q 68 [some (.inr (.inr 218)), some (.inr (.inr a1)), some (.inr (.inr a2)), some (.inl v3), none] [.inl 0] h9) ∧ (¬ r8 = 0 → wf (d + 1) M_X2_askMusts Q 68 [some (.inr (.inr 218)), some (.inr (.inr a1)), some (.inr (.inr a2)), some (.inl v3), none] [.inl 1] h9)))))))))) : wf (d + 1) M_X2_askMusts Q 2 [some (.inr (.inr 218)), some (.inr (.inr a1)), some (.inr (.inr a2)), some (.inl v3), none] [] h := by
  intro h0
  refine ar_iload_n (pc := 2) (i := 3) (k0 := 3) (by decide +kernel) rfl rfl ?_
  refine ar_aload_n (pc := 3) (i := 1) (k0 := 1) (by decide +kernel) rfl rfl ?_
  obtain ⟨g1, H⟩ := H
  refine ar_getNV (pc := 4) (a := a1) (v := .inl (h a1 0)) 5 0 (by decide +kernel) g1 rfl (by decide) wg_RX2_193 rfl ?_
  refine ar_icmp_ge (pc := 7) (x := v3) (y := (h a1 0)) (tgt := 114) (off := 107) (by decide +kernel) (by decide) (fun c2 => ?_) (fun c2 => ?_)
  · replace H := H.1 c2
    exact ar_vret (pc := 114) (by decide +kernel) rfl rfl H
  · replace H := H.2 c2
    refine ar_iload_n (pc := 10) (i := 3) (k0 := 3) (by decide +kernel) rfl rfl ?_
    refine ar_bipush (pc := 11) (z := 24) (by decide +kernel) (by omega) ?_
    refine ar_icmp_ge (pc := 13) (x := v3) (y := 24) (tgt := 114) (off := 101) (by decide +kernel) (by decide) (fun c3 => ?_) (fun c3 => ?_)
    · replace H := H.1 c3
      exact ar_vret (pc := 114) (by decide +kernel) rfl rfl H
    · replace H := H.2 c3
      refine ar_aload_n (pc := 16) (i := 1) (k0 := 1) (by decide +kernel) rfl rfl ?_
      refine ar_getFNV (pc := 17) (a := a1) (b := (a1 + 1)) 5 1 (by decide +kernel) g1 rfl (by decide) wg_RX2_196 rfl (fun _ => rfl) rfl ?_
      refine ar_iload_n (pc := 20) (i := 3) (k0 := 3) (by decide +kernel) rfl rfl ?_
      obtain ⟨g4, H⟩ := H
      refine ar_iald (pc := 21) (a := (a1 + 1)) (i := v3) (by decide +kernel) (kX5_1 g1).1 g4 (am_lt_eq c3 ((kX5_1 g1).2).symm) ?_
      refine ar_iconst (pc := 22) (z := 3) (by decide +kernel) (by unfold am_i32; omega) ?_
      refine ar_icmp_ne (pc := 23) (x := (h (a1 + 1) v3)) (y := 3) (tgt := 108) (off := 85) (by decide +kernel) (by decide) (fun c5 => ?_) (fun c5 => ?_)
      · replace H := H.1 c5
        exact H h0
      · replace H := H.2 c5
        refine ar_iconst (pc := 26) (z := 0) (by decide +kernel) (by unfold am_i32; omega) ?_
        refine ar_istore (pc := 27) (i := 4) (ls2 := [some (.inr (.inr 218)), some (.inr (.inr a1)), some (.inr (.inr a2)), some (.inl v3), some (.inl 0)]) (by decide +kernel) (by decide) rfl ?_
        refine ar_aload_n (pc := 29) (i := 1) (k0 := 1) (by decide +kernel) rfl rfl ?_
        refine ar_getFNV (pc := 30) (a := a1) (b := (a1 + 3)) 5 3 (by decide +kernel) g1 rfl (by decide) wg_RX2_199 rfl (fun _ => rfl) rfl ?_
        refine ar_iload_n (pc := 33) (i := 3) (k0 := 3) (by decide +kernel) rfl rfl ?_
        refine ar_iald (pc := 34) (a := (a1 + 3)) (i := v3) (by decide +kernel) (kX5_3 g1).1 g4 (am_lt_eq c3 ((kX5_3 g1).2).symm) ?_
        refine ar_aload_n (pc := 35) (i := 2) (k0 := 2) (by decide +kernel) rfl rfl ?_
        obtain ⟨g6, H⟩ := H
        refine ar_getNV (pc := 36) (a := a2) (v := .inl (h a2 4)) 3 4 (by decide +kernel) g6 rfl (by decide) wg_RX2_103 rfl ?_
        refine ar_iand (pc := 39) (x := (h (a1 + 3) v3)) (y := (h a2 4)) (by decide +kernel) ?_
        refine ar_if_ne (pc := 40) (x := (am_iand (h (a1 + 3) v3) (h a2 4))) (tgt := 83) (off := 43) (by decide +kernel) (by decide) (fun c7 => ?_) (fun c7 => ?_)
        · replace H := H.1 c7
          exact H h0
        · replace H := H.2 c7
          refine ar_aload_n (pc := 43) (i := 0) (k0 := 0) (by decide +kernel) rfl rfl ?_
          refine ar_lconst (pc := 44) (i := 0) (z := 0) (by decide +kernel) rfl ?_
          refine ar_putL (pc := 45) (a := 218) (z := 0) 2 10 (by decide +kernel) k_218 rfl (by decide) rfl (fun _ => rfl) rfl wf_RX2_109 ?_
          refine ar_aload_n (pc := 48) (i := 0) (k0 := 0) (by decide +kernel) rfl rfl ?_
          refine ar_aload_n (pc := 49) (i := 1) (k0 := 1) (by decide +kernel) rfl rfl ?_
          refine ar_aload_n (pc := 50) (i := 1) (k0 := 1) (by decide +kernel) rfl rfl ?_
          refine ar_getFNV (pc := 51) (a := a1) (b := (a1 + 2)) 5 2 (by decide +kernel) g1 rfl (by decide) wg_RX2_202 rfl (fun _ => rfl) rfl ?_
          refine ar_iload_n (pc := 54) (i := 3) (k0 := 3) (by decide +kernel) rfl rfl ?_
          refine ar_iald (pc := 55) (a := (a1 + 2)) (i := v3) (by decide +kernel) (kX5_2 g1).1 g4 (am_lt_eq c3 ((kX5_2 g1).2).symm) ?_
          refine ar_aload_n (pc := 56) (i := 2) (k0 := 2) (by decide +kernel) rfl rfl ?_
          refine ar_callV (pc := 57) (M2 := M_X2_answer) (a := 218) (ci := 2) (as := [.inr (.inr a1), .inl ((am_up h 218 10 0) (a1 + 2) v3), .inr (.inr a2)]) (n2 := 321) (st := []) (by decide +kernel) rfl wm_RX2_116 wi_yX2_answer wl_yX2_answer k_218 rfl wz_RX2 wc_yX2_answer ⟨by decide, by decide, rfl⟩ (by decide) (Nat.le_of_ble_eq_true rfl) (Nat.le_refl _) (Nat.le_refl _) (am_Cl_mono H (fun r8 h9 H => ?_))
          show am_Wp true (d + 1) M_X2_askMusts 321 321 h0 Q 60 [some (.inr (.inr 218)), some (.inr (.inr a1)), some (.inr (.inr a2)), some (.inl v3), some (.inl 0)] [.inl r8] 321 h9
          refine ar_if_eq (pc := 60) (x := r8) (tgt := 67) (off := 7) (by decide +kernel) (by decide) (fun c10 => ?_) (fun c10 => ?_)
          · replace H := H.1 c10
            refine ar_iconst (pc := 67) (z := 0) (by decide +kernel) (by unfold am_i32; omega) ?_
            refine ar_forget [true, true, true, true, false] rfl ?_
            exact H h0
          · replace H := H.2 c10
            refine ar_iconst (pc := 63) (z := 1) (by decide +kernel) (by unfold am_i32; omega) ?_
            refine ar_goto (pc := 64) (tgt := 68) (off := 4) (by decide +kernel) (by decide) ?_
            refine ar_forget [true, true, true, true, false] rfl ?_
            exact H h0
theorem B_X2_askMusts_68 {d : Nat} {Q : Int → am_H → Prop} {h : am_H} {a1 a2 v3 s0 : Int} (H : (am_kd 321 a2 = 13) ∧ (wf (d + 1) M_X2_askMusts Q 83 [some (.inr (.inr 218)), some (.inr (.inr a1)), some (.inr (.inr a2)), some (.inl v3), some (.inl s0)] [] (am_up h a2 11 (am_lor (h a2 11) (h 218 10))))) : wf (d + 1) M_X2_askMusts Q 68 [some (.inr (.inr 218)), some (.inr (.inr a1)), some (.inr (.inr a2)), some (.inl v3), none] [.inl s0] h := by
  intro h0
  refine ar_istore (pc := 68) (i := 4) (ls2 := [some (.inr (.inr 218)), some (.inr (.inr a1)), some (.inr (.inr a2)), some (.inl v3), some (.inl s0)]) (by decide +kernel) (by decide) rfl ?_
  refine ar_aload_n (pc := 70) (i := 2) (k0 := 2) (by decide +kernel) rfl rfl ?_
  refine ar_dup (pc := 71) (by decide +kernel) trivial ?_
  obtain ⟨g1, H⟩ := H
  refine ar_getNV (pc := 72) (a := a2) (v := .inr (.inl (h a2 11))) 3 11 (by decide +kernel) g1 rfl (by decide) wg_RX2_190 rfl ?_
  refine ar_aload_n (pc := 75) (i := 0) (k0 := 0) (by decide +kernel) rfl rfl ?_
  refine ar_getV (pc := 76) (a := 218) (v := .inr (.inl (h 218 10))) 2 10 (by decide +kernel) k_218 rfl (by decide) wf_RX2_109 rfl ?_
  refine ar_lor (pc := 79) (x := (h a2 11)) (y := (h 218 10)) (by decide +kernel) ?_
  refine ar_putLN (pc := 80) (a := a2) (z := (am_lor (h a2 11) (h 218 10))) 3 11 (by decide +kernel) g1 rfl (by decide) rfl (fun _ => rfl) rfl wg_RX2_190 ?_
  exact H h0
theorem B_X2_askMusts_83 {d : Nat} {Q : Int → am_H → Prop} {h : am_H} {a1 a2 v3 v4 : Int} (H : (¬ v4 = 0 → wf (d + 1) M_X2_askMusts Q 101 [some (.inr (.inr 218)), some (.inr (.inr a1)), some (.inr (.inr a2)), some (.inl v3), none] [.inr (.inr a2)] h) ∧ (v4 = 0 → (am_kd 321 a2 = 13) ∧ ((¬ (h a2 10) = (-1) → wf (d + 1) M_X2_askMusts Q 101 [some (.inr (.inr 218)), some (.inr (.inr a1)), some (.inr (.inr a2)), some (.inl v3), none] [.inr (.inr a2)] h) ∧ ((h a2 10) = (-1) → wf (d + 1) M_X2_askMusts Q 105 [some (.inr (.inr 218)), some (.inr (.inr a1)), some (.inr (.inr a2)), some (.inl v3), none] [.inl v3, .inr (.inr a2)] h)))) : wf (d + 1) M_X2_askMusts Q 83 [some (.inr (.inr 218)), some (.inr (.inr a1)), some (.inr (.inr a2)), some (.inl v3), some (.inl v4)] [] h := by
  intro h0
  refine ar_aload_n (pc := 83) (i := 2) (k0 := 2) (by decide +kernel) rfl rfl ?_
  refine ar_iload (pc := 84) (i := 4) (by decide +kernel) rfl ?_
  refine ar_if_ne (pc := 86) (x := v4) (tgt := 101) (off := 15) (by decide +kernel) (by decide) (fun c1 => ?_) (fun c1 => ?_)
  · replace H := H.1 c1
    refine ar_forget [true, true, true, true, false] rfl ?_
    exact H h0
  · replace H := H.2 c1
    refine ar_aload_n (pc := 89) (i := 2) (k0 := 2) (by decide +kernel) rfl rfl ?_
    obtain ⟨g2, H⟩ := H
    refine ar_getNV (pc := 90) (a := a2) (v := .inl (h a2 10)) 3 10 (by decide +kernel) g2 rfl (by decide) wg_RX2_205 rfl ?_
    refine ar_iconst (pc := 93) (z := (-1)) (by decide +kernel) (by unfold am_i32; omega) ?_
    refine ar_icmp_ne (pc := 94) (x := (h a2 10)) (y := (-1)) (tgt := 101) (off := 7) (by decide +kernel) (by decide) (fun c3 => ?_) (fun c3 => ?_)
    · replace H := H.1 c3
      refine ar_forget [true, true, true, true, false] rfl ?_
      exact H h0
    · replace H := H.2 c3
      refine ar_iload_n (pc := 97) (i := 3) (k0 := 3) (by decide +kernel) rfl rfl ?_
      refine ar_goto (pc := 98) (tgt := 105) (off := 7) (by decide +kernel) (by decide) ?_
      refine ar_forget [true, true, true, true, false] rfl ?_
      exact H h0
theorem B_X2_askMusts_101 {d : Nat} {Q : Int → am_H → Prop} {h : am_H} {a1 a2 v3 : Int} (H : (am_kd 321 a2 = 13) ∧ (wf (d + 1) M_X2_askMusts Q 105 [some (.inr (.inr 218)), some (.inr (.inr a1)), some (.inr (.inr a2)), some (.inl v3), none] [.inl (h a2 10), .inr (.inr a2)] h)) : wf (d + 1) M_X2_askMusts Q 101 [some (.inr (.inr 218)), some (.inr (.inr a1)), some (.inr (.inr a2)), some (.inl v3), none] [.inr (.inr a2)] h := by
  intro h0
  refine ar_aload_n (pc := 101) (i := 2) (k0 := 2) (by decide +kernel) rfl rfl ?_
  obtain ⟨g1, H⟩ := H
  refine ar_getNV (pc := 102) (a := a2) (v := .inl (h a2 10)) 3 10 (by decide +kernel) g1 rfl (by decide) wg_RX2_205 rfl ?_
  exact H h0
theorem B_X2_askMusts_105 {d : Nat} {Q : Int → am_H → Prop} {h : am_H} {a1 a2 v3 s1 : Int} (H : (am_kd 321 a2 = 13) ∧ (wf (d + 1) M_X2_askMusts Q 108 [some (.inr (.inr 218)), some (.inr (.inr a1)), some (.inr (.inr a2)), some (.inl v3), none] [] (am_up h a2 10 s1))) : wf (d + 1) M_X2_askMusts Q 105 [some (.inr (.inr 218)), some (.inr (.inr a1)), some (.inr (.inr a2)), some (.inl v3), none] [.inl s1, .inr (.inr a2)] h := by
  intro h0
  obtain ⟨g1, H⟩ := H
  refine ar_putIN (pc := 105) (a := a2) (z := s1) 3 10 (by decide +kernel) g1 rfl (by decide) rfl (fun _ => rfl) rfl wg_RX2_205 ?_
  exact H h0
theorem B_X2_askMusts_108 {d : Nat} {Q : Int → am_H → Prop} {h : am_H} {a1 a2 v3 : Int} (H : wf (d + 1) M_X2_askMusts Q 2 [some (.inr (.inr 218)), some (.inr (.inr a1)), some (.inr (.inr a2)), some (.inl (am_w32 (v3 + 1))), none] [] h) : wf (d + 1) M_X2_askMusts Q 108 [some (.inr (.inr 218)), some (.inr (.inr a1)), some (.inr (.inr a2)), some (.inl v3), none] [] h := by
  intro h0
  refine ar_iinc (pc := 108) (i := 3) (z := 1) (x := v3) (ls2 := [some (.inr (.inr 218)), some (.inr (.inr a1)), some (.inr (.inr a2)), some (.inl (am_w32 (v3 + 1))), none]) (by decide +kernel) rfl (by decide) rfl ?_
  refine ar_goto (pc := 111) (tgt := 2) (off := -109) (by decide +kernel) (by decide) ?_
  exact H h0

/-! ByteIntervals$Reader.isShorter(LByteIntervals$Text;II)Z -/
theorem B_X2_isShorter_0 {d : Nat} {Q : Int → am_H → Prop} {h : am_H} {a1 v2 v3 : Int} (H : cf d M_X6_isField [.inl v2] h (fun r1 h2 => (¬ r1 = 0 → (am_kd 321 a1 = 15) ∧ (cf d M_X3_begin [.inr (.inr 220), .inl (h2 a1 6), .inl 0, .inl 0, .inl v3] h2 (fun _ h6 => (0 ≤ v2) ∧ ((v2 < 8) ∧ (cf d M_X2_answer [.inr (.inr 218), .inr (.inr a1), .inl (h6 (a1 + 6) v2), .inr (.inr 220)] h6 (fun r9 h10 => cf d M_X2_answer [.inr (.inr 218), .inr (.inr a1), .inl (h10 (a1 + 8) v2), .inr (.inr 220)] h10 (fun r11 h12 => (r9 < 0 → wf (d + 1) M_X2_isShorter Q 80 [none, none, none, some (.inl v3), some (.inl r9), some (.inl r11), none] [] h12) ∧ (0 ≤ r9 → (r11 < r9 → wf (d + 1) M_X2_isShorter Q 80 [none, none, none, some (.inl v3), some (.inl r9), some (.inl r11), none] [] h12) ∧ (r9 ≤ r11 → (v3 < r11 → wf (d + 1) M_X2_isShorter Q 80 [none, none, none, some (.inl v3), some (.inl r9), some (.inl r11), none] [] h12) ∧ (r11 ≤ v3 → wf (d + 1) M_X2_isShorter Q 81 [none, none, none, some (.inl v3), some (.inl r9), some (.inl r11), none] [.inl 1] h12)))))))))) ∧ (r1 = 0 → Q 0 h2))) : wf (d + 1) M_X2_isShorter Q 0 [some (.inr (.inr 218)), some (.inr (.inr a1)), some (.inl v2), some (.inl v3), none, none, none] [] h := by
  intro h0
  refine ar_iload_n (pc := 0) (i := 2) (k0 := 2) (by decide +kernel) rfl rfl ?_
  refine ar_callSN (pc := 1) (M2 := M_X6_isField) (as := [.inl v2]) (n2 := 321) (st := []) (by decide +kernel) rfl wn_RX2_84 ws_yX6_isField wz_RX6 wc_yX6_isField ⟨by decide, by decide, rfl⟩ (by decide) (Nat.le_of_ble_eq_true rfl) (Nat.le_refl _) (Nat.le_refl _) (am_Cl_mono H (fun r1 h2 H => ?_))
  show am_Wp true (d + 1) M_X2_isShorter 321 321 h0 Q 4 [some (.inr (.inr 218)), some (.inr (.inr a1)), some (.inl v2), some (.inl v3), none, none, none] [.inl r1] 321 h2
  refine ar_if_ne (pc := 4) (x := r1) (tgt := 9) (off := 5) (by decide +kernel) (by decide) (fun c3 => ?_) (fun c3 => ?_)
  · replace H := H.1 c3
    refine ar_aload_n (pc := 9) (i := 0) (k0 := 0) (by decide +kernel) rfl rfl ?_
    refine ar_getFV (pc := 10) (a := 218) (b := 220) 2 1 (by decide +kernel) k_218 rfl (by decide) wf_RX2_18 rfl (fun _ => rfl) rfl ?_
    refine ar_aload_n (pc := 13) (i := 1) (k0 := 1) (by decide +kernel) rfl rfl ?_
    obtain ⟨g4, H⟩ := H
    refine ar_getNV (pc := 14) (a := a1) (v := .inl (h2 a1 6)) 5 6 (by decide +kernel) g4 rfl (by decide) wg_RX2_71 rfl ?_
    refine ar_iconst (pc := 17) (z := 0) (by decide +kernel) (by unfold am_i32; omega) ?_
    refine ar_iconst (pc := 18) (z := 0) (by decide +kernel) (by unfold am_i32; omega) ?_
    refine ar_iload_n (pc := 19) (i := 3) (k0 := 3) (by decide +kernel) rfl rfl ?_
    refine ar_callVN (pc := 20) (M2 := M_X3_begin) (a := 220) (ci := 3) (as := [.inl (h2 a1 6), .inl 0, .inl 0, .inl v3]) (n2 := 321) (st := []) (by decide +kernel) rfl wn_RX2_74 wi_yX3_begin wl_yX3_begin k_220 rfl wz_RX3 wc_yX3_begin ⟨by decide, by decide, rfl⟩ (by decide) (Nat.le_of_ble_eq_true rfl) (Nat.le_refl _) (Nat.le_refl _) (am_Cl_mono H (fun r5 h6 H => ?_))
    show am_Wp true (d + 1) M_X2_isShorter 321 321 h0 Q 23 [some (.inr (.inr 218)), some (.inr (.inr a1)), some (.inl v2), some (.inl v3), none, none, none] [] 321 h6
    refine ar_aload_n (pc := 23) (i := 0) (k0 := 0) (by decide +kernel) rfl rfl ?_
    refine ar_aload_n (pc := 24) (i := 1) (k0 := 1) (by decide +kernel) rfl rfl ?_
    refine ar_aload_n (pc := 25) (i := 1) (k0 := 1) (by decide +kernel) rfl rfl ?_
    refine ar_getFNV (pc := 26) (a := a1) (b := (a1 + 6)) 5 8 (by decide +kernel) g4 rfl (by decide) wg_RX2_113 rfl (fun _ => rfl) rfl ?_
    refine ar_iload_n (pc := 29) (i := 2) (k0 := 2) (by decide +kernel) rfl rfl ?_
    obtain ⟨g7, H⟩ := H
    obtain ⟨g8, H⟩ := H
    refine ar_iald (pc := 30) (a := (a1 + 6)) (i := v2) (by decide +kernel) (kX5_8 g4).1 g7 (am_lt_eq g8 ((kX5_8 g4).2).symm) ?_
    refine ar_aload_n (pc := 31) (i := 0) (k0 := 0) (by decide +kernel) rfl rfl ?_
    refine ar_getFV (pc := 32) (a := 218) (b := 220) 2 1 (by decide +kernel) k_218 rfl (by decide) wf_RX2_18 rfl (fun _ => rfl) rfl ?_
    refine ar_callV (pc := 35) (M2 := M_X2_answer) (a := 218) (ci := 2) (as := [.inr (.inr a1), .inl (h6 (a1 + 6) v2), .inr (.inr 220)]) (n2 := 321) (st := []) (by decide +kernel) rfl wm_RX2_116 wi_yX2_answer wl_yX2_answer k_218 rfl wz_RX2 wc_yX2_answer ⟨by decide, by decide, rfl⟩ (by decide) (Nat.le_of_ble_eq_true rfl) (Nat.le_refl _) (Nat.le_refl _) (am_Cl_mono H (fun r9 h10 H => ?_))
    show am_Wp true (d + 1) M_X2_isShorter 321 321 h0 Q 38 [some (.inr (.inr 218)), some (.inr (.inr a1)), some (.inl v2), some (.inl v3), none, none, none] [.inl r9] 321 h10
    refine ar_istore (pc := 38) (i := 4) (ls2 := [some (.inr (.inr 218)), some (.inr (.inr a1)), some (.inl v2), some (.inl v3), some (.inl r9), none, none]) (by decide +kernel) (by decide) rfl ?_
    refine ar_aload_n (pc := 40) (i := 0) (k0 := 0) (by decide +kernel) rfl rfl ?_
    refine ar_aload_n (pc := 41) (i := 1) (k0 := 1) (by decide +kernel) rfl rfl ?_
    refine ar_aload_n (pc := 42) (i := 1) (k0 := 1) (by decide +kernel) rfl rfl ?_
    refine ar_getFNV (pc := 43) (a := a1) (b := (a1 + 8)) 5 10 (by decide +kernel) g4 rfl (by decide) wg_RX2_123 rfl (fun _ => rfl) rfl ?_
    refine ar_iload_n (pc := 46) (i := 2) (k0 := 2) (by decide +kernel) rfl rfl ?_
    refine ar_iald (pc := 47) (a := (a1 + 8)) (i := v2) (by decide +kernel) (kX5_10 g4).1 g7 (am_lt_eq g8 ((kX5_10 g4).2).symm) ?_
    refine ar_aload_n (pc := 48) (i := 0) (k0 := 0) (by decide +kernel) rfl rfl ?_
    refine ar_getFV (pc := 49) (a := 218) (b := 220) 2 1 (by decide +kernel) k_218 rfl (by decide) wf_RX2_18 rfl (fun _ => rfl) rfl ?_
    refine ar_callV (pc := 52) (M2 := M_X2_answer) (a := 218) (ci := 2) (as := [.inr (.inr a1), .inl (h10 (a1 + 8) v2), .inr (.inr 220)]) (n2 := 321) (st := []) (by decide +kernel) rfl wm_RX2_116 wi_yX2_answer wl_yX2_answer k_218 rfl wz_RX2 wc_yX2_answer ⟨by decide, by decide, rfl⟩ (by decide) (Nat.le_of_ble_eq_true rfl) (Nat.le_refl _) (Nat.le_refl _) (am_Cl_mono H (fun r11 h12 H => ?_))
    show am_Wp true (d + 1) M_X2_isShorter 321 321 h0 Q 55 [some (.inr (.inr 218)), some (.inr (.inr a1)), some (.inl v2), some (.inl v3), some (.inl r9), none, none] [.inl r11] 321 h12
    refine ar_istore (pc := 55) (i := 5) (ls2 := [some (.inr (.inr 218)), some (.inr (.inr a1)), some (.inl v2), some (.inl v3), some (.inl r9), some (.inl r11), none]) (by decide +kernel) (by decide) rfl ?_
    refine ar_iconst (pc := 57) (z := 0) (by decide +kernel) (by unfold am_i32; omega) ?_
    refine ar_iload (pc := 58) (i := 4) (by decide +kernel) rfl ?_
    refine ar_icmp_gt (pc := 60) (x := 0) (y := r9) (tgt := 80) (off := 20) (by decide +kernel) (by decide) (fun c13 => ?_) (fun c13 => ?_)
    · replace H := H.1 c13
      refine ar_forget [false, false, false, true, true, true, true] rfl ?_
      exact H h0
    · replace H := H.2 c13
      refine ar_iload (pc := 63) (i := 4) (by decide +kernel) rfl ?_
      refine ar_iload (pc := 65) (i := 5) (by decide +kernel) rfl ?_
      refine ar_icmp_gt (pc := 67) (x := r9) (y := r11) (tgt := 80) (off := 13) (by decide +kernel) (by decide) (fun c14 => ?_) (fun c14 => ?_)
      · replace H := H.1 c14
        refine ar_forget [false, false, false, true, true, true, true] rfl ?_
        exact H h0
      · replace H := H.2 c14
        refine ar_iload (pc := 70) (i := 5) (by decide +kernel) rfl ?_
        refine ar_iload_n (pc := 72) (i := 3) (k0 := 3) (by decide +kernel) rfl rfl ?_
        refine ar_icmp_gt (pc := 73) (x := r11) (y := v3) (tgt := 80) (off := 7) (by decide +kernel) (by decide) (fun c15 => ?_) (fun c15 => ?_)
        · replace H := H.1 c15
          refine ar_forget [false, false, false, true, true, true, true] rfl ?_
          exact H h0
        · replace H := H.2 c15
          refine ar_iconst (pc := 76) (z := 1) (by decide +kernel) (by unfold am_i32; omega) ?_
          refine ar_goto (pc := 77) (tgt := 81) (off := 4) (by decide +kernel) (by decide) ?_
          refine ar_forget [false, false, false, true, true, true, true] rfl ?_
          exact H h0
  · replace H := H.2 c3
    refine ar_iconst (pc := 7) (z := 0) (by decide +kernel) (by unfold am_i32; omega) ?_
    exact ar_zret (pc := 8) (x := 0) (by decide +kernel) rfl rfl (by decide) H
theorem B_X2_isShorter_80 {d : Nat} {Q : Int → am_H → Prop} {h : am_H} {v3 v4 v5 : Int} (H : wf (d + 1) M_X2_isShorter Q 81 [none, none, none, some (.inl v3), some (.inl v4), some (.inl v5), none] [.inl 0] h) : wf (d + 1) M_X2_isShorter Q 80 [none, none, none, some (.inl v3), some (.inl v4), some (.inl v5), none] [] h := by
  intro h0
  refine ar_iconst (pc := 80) (z := 0) (by decide +kernel) (by unfold am_i32; omega) ?_
  exact H h0
theorem B_X2_isShorter_81 {d : Nat} {Q : Int → am_H → Prop} {h : am_H} {v3 v4 v5 s0 : Int} (H : (s0 = 0 → wf (d + 1) M_X2_isShorter Q 97 [none, none, none, none, none, none, none] [] h) ∧ (¬ s0 = 0 → (v3 ≤ (am_w32 (v5 - v4)) → Q 0 h) ∧ ((am_w32 (v5 - v4)) < v3 → wf (d + 1) M_X2_isShorter Q 97 [none, none, none, none, none, none, none] [] h))) : wf (d + 1) M_X2_isShorter Q 81 [none, none, none, some (.inl v3), some (.inl v4), some (.inl v5), none] [.inl s0] h := by
  intro h0
  refine ar_istore (pc := 81) (i := 6) (ls2 := [none, none, none, some (.inl v3), some (.inl v4), some (.inl v5), some (.inl s0)]) (by decide +kernel) (by decide) rfl ?_
  refine ar_iload (pc := 83) (i := 6) (by decide +kernel) rfl ?_
  refine ar_if_eq (pc := 85) (x := s0) (tgt := 97) (off := 12) (by decide +kernel) (by decide) (fun c1 => ?_) (fun c1 => ?_)
  · replace H := H.1 c1
    refine ar_forget [true, true, true, false, false, false, false] rfl ?_
    exact H h0
  · replace H := H.2 c1
    refine ar_iload (pc := 88) (i := 5) (by decide +kernel) rfl ?_
    refine ar_iload (pc := 90) (i := 4) (by decide +kernel) rfl ?_
    refine ar_isub (pc := 92) (x := v5) (y := v4) (by decide +kernel) ?_
    refine ar_iload_n (pc := 93) (i := 3) (k0 := 3) (by decide +kernel) rfl rfl ?_
    refine ar_icmp_ge (pc := 94) (x := (am_w32 (v5 - v4))) (y := v3) (tgt := 101) (off := 7) (by decide +kernel) (by decide) (fun c2 => ?_) (fun c2 => ?_)
    · replace H := H.1 c2
      refine ar_iconst (pc := 101) (z := 0) (by decide +kernel) (by unfold am_i32; omega) ?_
      exact ar_zret (pc := 102) (x := 0) (by decide +kernel) rfl rfl (by decide) H
    · replace H := H.2 c2
      refine ar_forget [true, true, true, false, false, false, false] rfl ?_
      exact H h0
theorem B_X2_isShorter_97 {d : Nat} {Q : Int → am_H → Prop} {h : am_H} (H : Q 1 h) : wf (d + 1) M_X2_isShorter Q 97 [none, none, none, none, none, none, none] [] h := by
  intro h0
  refine ar_iconst (pc := 97) (z := 1) (by decide +kernel) (by unfold am_i32; omega) ?_
  refine ar_goto (pc := 98) (tgt := 102) (off := 4) (by decide +kernel) (by decide) ?_
  exact ar_zret (pc := 102) (x := 1) (by decide +kernel) rfl rfl (by decide) H

