/-! ByteIntervals$Parser.readPart(I[II)Z -/
theorem B_X1_readPart_0 {d : Nat} {Q : Int → am_H → Prop} {h : am_H} {v1 a2 v3 : Int} (H : (v3 < 0 → wf (d + 1) M_X1_readPart Q 17 [some (.inr (.inr 201)), some (.inl v1), none, none] [] h) ∧ (0 ≤ v3 → (am_kd 321 a2 = 0) ∧ (((am_ln a2) ≤ v3 → wf (d + 1) M_X1_readPart Q 17 [some (.inr (.inr 201)), some (.inl v1), none, none] [] h) ∧ (v3 < (am_ln a2) → (v3 < am_ln a2) ∧ (wf (d + 1) M_X1_readPart Q 17 [some (.inr (.inr 201)), some (.inl v1), none, none] [] (am_up h a2 v3 (h 201 7))))))) : wf (d + 1) M_X1_readPart Q 0 [some (.inr (.inr 201)), some (.inl v1), some (.inr (.inr a2)), some (.inl v3)] [] h := by
  intro h0
  refine ar_iload_n (pc := 0) (i := 3) (k0 := 3) (by decide +kernel) rfl rfl ?_
  refine ar_if_lt (pc := 1) (x := v3) (tgt := 17) (off := 16) (by decide +kernel) (by decide) (fun c1 => ?_) (fun c1 => ?_)
  · replace H := H.1 c1
    refine ar_forget [true, true, false, false] rfl ?_
    exact H h0
  · replace H := H.2 c1
    refine ar_iload_n (pc := 4) (i := 3) (k0 := 3) (by decide +kernel) rfl rfl ?_
    refine ar_aload_n (pc := 5) (i := 2) (k0 := 2) (by decide +kernel) rfl rfl ?_
    obtain ⟨g2, H⟩ := H
    refine ar_alen (pc := 6) (a := a2) (by decide +kernel) (by rw [g2]; decide) ?_
    refine ar_icmp_ge (pc := 7) (x := v3) (y := (am_ln a2)) (tgt := 17) (off := 10) (by decide +kernel) (by decide) (fun c3 => ?_) (fun c3 => ?_)
    · replace H := H.1 c3
      refine ar_forget [true, true, false, false] rfl ?_
      exact H h0
    · replace H := H.2 c3
      refine ar_aload_n (pc := 10) (i := 2) (k0 := 2) (by decide +kernel) rfl rfl ?_
      refine ar_iload_n (pc := 11) (i := 3) (k0 := 3) (by decide +kernel) rfl rfl ?_
      refine ar_aload_n (pc := 12) (i := 0) (k0 := 0) (by decide +kernel) rfl rfl ?_
      refine ar_getV (pc := 13) (a := 201) (v := .inl (h 201 7)) 1 7 (by decide +kernel) k_201 rfl (by decide) wf_RX1_48 rfl ?_
      obtain ⟨g4, H⟩ := H
      refine ar_iast (pc := 16) (a := a2) (i := v3) (z := (h 201 7)) (by decide +kernel) g2 c1 g4 ?_
      refine ar_forget [true, true, false, false] rfl ?_
      exact H h0
theorem B_X1_readPart_17 {d : Nat} {Q : Int → am_H → Prop} {h : am_H} {v1 : Int} (H : cf d M_X1_take [.inr (.inr 201), .inl v1] h (fun r1 h2 => (r1 = 0 → Q 0 h2) ∧ (¬ r1 = 0 → cf d M_X1_readSum [.inr (.inr 201)] h2 (fun r4 h5 => (r4 = 0 → Q 0 h5) ∧ (¬ r4 = 0 → cf d M_X1_emit [.inr (.inr 201), .inl 24, .inl 0] h5 (fun r7 h8 => (r7 < 0 → Q 0 h8) ∧ (0 ≤ r7 → Q 1 h8))))))) : wf (d + 1) M_X1_readPart Q 17 [some (.inr (.inr 201)), some (.inl v1), none, none] [] h := by
  intro h0
  refine ar_aload_n (pc := 17) (i := 0) (k0 := 0) (by decide +kernel) rfl rfl ?_
  refine ar_iload_n (pc := 18) (i := 1) (k0 := 1) (by decide +kernel) rfl rfl ?_
  refine ar_callV (pc := 19) (M2 := M_X1_take) (a := 201) (ci := 1) (as := [.inl v1]) (n2 := 321) (st := []) (by decide +kernel) rfl wm_RX1_74 wi_yX1_take wl_yX1_take k_201 rfl wz_RX1 wc_yX1_take ⟨by decide, by decide, rfl⟩ (by decide) (Nat.le_of_ble_eq_true rfl) (Nat.le_refl _) (Nat.le_refl _) (am_Cl_mono H (fun r1 h2 H => ?_))
  show am_Wp true (d + 1) M_X1_readPart 321 321 h0 Q 22 [some (.inr (.inr 201)), some (.inl v1), none, none] [.inl r1] 321 h2
  refine ar_if_eq (pc := 22) (x := r1) (tgt := 46) (off := 24) (by decide +kernel) (by decide) (fun c3 => ?_) (fun c3 => ?_)
  · replace H := H.1 c3
    refine ar_iconst (pc := 46) (z := 0) (by decide +kernel) (by unfold am_i32; omega) ?_
    exact ar_zret (pc := 47) (x := 0) (by decide +kernel) rfl rfl (by decide) H
  · replace H := H.2 c3
    refine ar_aload_n (pc := 25) (i := 0) (k0 := 0) (by decide +kernel) rfl rfl ?_
    refine ar_callV (pc := 26) (M2 := M_X1_readSum) (a := 201) (ci := 1) (as := []) (n2 := 321) (st := []) (by decide +kernel) rfl wm_RX1_157 wi_yX1_readSum wl_yX1_readSum k_201 rfl wz_RX1 wc_yX1_readSum ⟨by decide, by decide, rfl⟩ (by decide) (Nat.le_of_ble_eq_true rfl) (Nat.le_refl _) (Nat.le_refl _) (am_Cl_mono H (fun r4 h5 H => ?_))
    show am_Wp true (d + 1) M_X1_readPart 321 321 h0 Q 29 [some (.inr (.inr 201)), some (.inl v1), none, none] [.inl r4] 321 h5
    refine ar_if_eq (pc := 29) (x := r4) (tgt := 46) (off := 17) (by decide +kernel) (by decide) (fun c6 => ?_) (fun c6 => ?_)
    · replace H := H.1 c6
      refine ar_iconst (pc := 46) (z := 0) (by decide +kernel) (by unfold am_i32; omega) ?_
      exact ar_zret (pc := 47) (x := 0) (by decide +kernel) rfl rfl (by decide) H
    · replace H := H.2 c6
      refine ar_aload_n (pc := 32) (i := 0) (k0 := 0) (by decide +kernel) rfl rfl ?_
      refine ar_bipush (pc := 33) (z := 24) (by decide +kernel) (by omega) ?_
      refine ar_iconst (pc := 35) (z := 0) (by decide +kernel) (by unfold am_i32; omega) ?_
      refine ar_callV (pc := 36) (M2 := M_X1_emit) (a := 201) (ci := 1) (as := [.inl 24, .inl 0]) (n2 := 321) (st := []) (by decide +kernel) rfl wm_RX1_154 wi_yX1_emit wl_yX1_emit k_201 rfl wz_RX1 wc_yX1_emit ⟨by decide, by decide, rfl⟩ (by decide) (Nat.le_of_ble_eq_true rfl) (Nat.le_refl _) (Nat.le_refl _) (am_Cl_mono H (fun r7 h8 H => ?_))
      show am_Wp true (d + 1) M_X1_readPart 321 321 h0 Q 39 [some (.inr (.inr 201)), some (.inl v1), none, none] [.inl r7] 321 h8
      refine ar_if_lt (pc := 39) (x := r7) (tgt := 46) (off := 7) (by decide +kernel) (by decide) (fun c9 => ?_) (fun c9 => ?_)
      · replace H := H.1 c9
        refine ar_iconst (pc := 46) (z := 0) (by decide +kernel) (by unfold am_i32; omega) ?_
        exact ar_zret (pc := 47) (x := 0) (by decide +kernel) rfl rfl (by decide) H
      · replace H := H.2 c9
        refine ar_iconst (pc := 42) (z := 1) (by decide +kernel) (by unfold am_i32; omega) ?_
        refine ar_goto (pc := 43) (tgt := 47) (off := 4) (by decide +kernel) (by decide) ?_
        exact ar_zret (pc := 47) (x := 1) (by decide +kernel) rfl rfl (by decide) H

/-! ByteIntervals$Parser.opens()Z -/
theorem B_X1_opens_0 {d : Nat} {Q : Int → am_H → Prop} {h : am_H} (H : ((h 201 9) < 8 → cf d M_X1_advance [.inr (.inr 201)] (am_up h 201 9 (am_w32 ((h 201 9) + 1))) (fun r2 h3 => (r2 = 0 ∨ r2 = 1) ∧ (Q r2 h3))) ∧ (8 ≤ (h 201 9) → cf d M_X1_fail [.inr (.inr 201), .inl 3] h (fun r5 h6 => (r5 = 0 ∨ r5 = 1) ∧ (Q r5 h6)))) : wf (d + 1) M_X1_opens Q 0 [some (.inr (.inr 201))] [] h := by
  intro h0
  refine ar_aload_n (pc := 0) (i := 0) (k0 := 0) (by decide +kernel) rfl rfl ?_
  refine ar_getV (pc := 1) (a := 201) (v := .inl (h 201 9)) 1 9 (by decide +kernel) k_201 rfl (by decide) wf_RX1_51 rfl ?_
  refine ar_bipush (pc := 4) (z := 8) (by decide +kernel) (by omega) ?_
  refine ar_icmp_lt (pc := 6) (x := (h 201 9)) (y := 8) (tgt := 15) (off := 9) (by decide +kernel) (by decide) (fun c1 => ?_) (fun c1 => ?_)
  · replace H := H.1 c1
    refine ar_aload_n (pc := 15) (i := 0) (k0 := 0) (by decide +kernel) rfl rfl ?_
    refine ar_dup (pc := 16) (by decide +kernel) trivial ?_
    refine ar_getV (pc := 17) (a := 201) (v := .inl (h 201 9)) 1 9 (by decide +kernel) k_201 rfl (by decide) wf_RX1_51 rfl ?_
    refine ar_iconst (pc := 20) (z := 1) (by decide +kernel) (by unfold am_i32; omega) ?_
    refine ar_iadd (pc := 21) (x := (h 201 9)) (y := 1) (by decide +kernel) ?_
    refine ar_putI (pc := 22) (a := 201) (z := (am_w32 ((h 201 9) + 1))) 1 9 (by decide +kernel) k_201 rfl (by decide) rfl (fun _ => rfl) rfl wf_RX1_51 ?_
    refine ar_aload_n (pc := 25) (i := 0) (k0 := 0) (by decide +kernel) rfl rfl ?_
    refine ar_callV (pc := 26) (M2 := M_X1_advance) (a := 201) (ci := 1) (as := []) (n2 := 321) (st := []) (by decide +kernel) rfl wm_RX1_121 wi_yX1_advance wl_yX1_advance k_201 rfl wz_RX1 wc_yX1_advance ⟨by decide, by decide, rfl⟩ (by decide) (Nat.le_of_ble_eq_true rfl) (Nat.le_refl _) (Nat.le_refl _) (am_Cl_mono H (fun r2 h3 H => ?_))
    show am_Wp true (d + 1) M_X1_opens 321 321 h0 Q 29 [some (.inr (.inr 201))] [.inl r2] 321 h3
    obtain ⟨g4, H⟩ := H
    exact ar_zret (pc := 29) (x := r2) (by decide +kernel) rfl rfl g4 H
  · replace H := H.2 c1
    refine ar_aload_n (pc := 9) (i := 0) (k0 := 0) (by decide +kernel) rfl rfl ?_
    refine ar_iconst (pc := 10) (z := 3) (by decide +kernel) (by unfold am_i32; omega) ?_
    refine ar_callV (pc := 11) (M2 := M_X1_fail) (a := 201) (ci := 1) (as := [.inl 3]) (n2 := 321) (st := []) (by decide +kernel) rfl wm_RX1_124 wi_yX1_fail wl_yX1_fail k_201 rfl wz_RX1 wc_yX1_fail ⟨by decide, by decide, rfl⟩ (by decide) (Nat.le_of_ble_eq_true rfl) (Nat.le_refl _) (Nat.le_refl _) (am_Cl_mono H (fun r5 h6 H => ?_))
    show am_Wp true (d + 1) M_X1_opens 321 321 h0 Q 14 [some (.inr (.inr 201))] [.inl r5] 321 h6
    obtain ⟨g7, H⟩ := H
    exact ar_zret (pc := 14) (x := r5) (by decide +kernel) rfl rfl g7 H

/-! ByteIntervals$Parser.closes()Z -/
theorem B_X1_closes_0 {d : Nat} {Q : Int → am_H → Prop} {h : am_H} (H : Q 1 (am_up h 201 9 (am_w32 ((h 201 9) - 1)))) : wf d M_X1_closes Q 0 [some (.inr (.inr 201))] [] h := by
  intro h0
  refine ar_aload_n (pc := 0) (i := 0) (k0 := 0) (by decide +kernel) rfl rfl ?_
  refine ar_dup (pc := 1) (by decide +kernel) trivial ?_
  refine ar_getV (pc := 2) (a := 201) (v := .inl (h 201 9)) 1 9 (by decide +kernel) k_201 rfl (by decide) wf_RX1_51 rfl ?_
  refine ar_iconst (pc := 5) (z := 1) (by decide +kernel) (by unfold am_i32; omega) ?_
  refine ar_isub (pc := 6) (x := (h 201 9)) (y := 1) (by decide +kernel) ?_
  refine ar_putI (pc := 7) (a := 201) (z := (am_w32 ((h 201 9) - 1))) 1 9 (by decide +kernel) k_201 rfl (by decide) rfl (fun _ => rfl) rfl wf_RX1_51 ?_
  refine ar_iconst (pc := 10) (z := 1) (by decide +kernel) (by unfold am_i32; omega) ?_
  exact ar_zret (pc := 11) (x := 1) (by decide +kernel) rfl rfl (by decide) H

/-! ByteIntervals$Parser.readSum()Z -/
theorem B_X1_readSum_0 {d : Nat} {Q : Int → am_H → Prop} {h : am_H} (H : cf d M_X1_readProduct [.inr (.inr 201)] h (fun r1 h2 => wf (d + 1) M_X1_readSum Q 7 [some (.inr (.inr 201)), some (.inl r1), some (.inl 0), none] [] h2)) : wf (d + 1) M_X1_readSum Q 0 [some (.inr (.inr 201)), none, none, none] [] h := by
  intro h0
  refine ar_aload_n (pc := 0) (i := 0) (k0 := 0) (by decide +kernel) rfl rfl ?_
  refine ar_callV (pc := 1) (M2 := M_X1_readProduct) (a := 201) (ci := 1) (as := []) (n2 := 321) (st := []) (by decide +kernel) rfl wm_RX1_197 wi_yX1_readProduct wl_yX1_readProduct k_201 rfl wz_RX1 wc_yX1_readProduct ⟨by decide, by decide, rfl⟩ (by decide) (Nat.le_of_ble_eq_true rfl) (Nat.le_refl _) (Nat.le_refl _) (am_Cl_mono H (fun r1 h2 H => ?_))
  show am_Wp true (d + 1) M_X1_readSum 321 321 h0 Q 4 [some (.inr (.inr 201)), none, none, none] [.inl r1] 321 h2
  refine ar_istore_n (pc := 4) (i := 1) (k0 := 1) (ls2 := [some (.inr (.inr 201)), some (.inl r1), none, none]) (by decide +kernel) rfl (by decide) rfl ?_
  refine ar_iconst (pc := 5) (z := 0) (by decide +kernel) (by unfold am_i32; omega) ?_
  refine ar_istore_n (pc := 6) (i := 2) (k0 := 2) (ls2 := [some (.inr (.inr 201)), some (.inl r1), some (.inl 0), none]) (by decide +kernel) rfl (by decide) rfl ?_
  exact H h0
theorem B_X1_readSum_7 {d : Nat} {Q : Int → am_H → Prop} {h : am_H} {v1 v2 : Int} (H : (300 ≤ v2 → (v1 = 0 ∨ v1 = 1) ∧ (Q v1 h)) ∧ (v2 < 300 → (v1 = 0 → (v1 = 0 ∨ v1 = 1) ∧ (Q v1 h)) ∧ (¬ v1 = 0 → ((h 201 4) = 171 → wf (d + 1) M_X1_readSum Q 38 [some (.inr (.inr 201)), none, some (.inl v2), none] [] h) ∧ (¬ (h 201 4) = 171 → (¬ (h 201 4) = 173 → (v1 = 0 ∨ v1 = 1) ∧ (Q v1 h)) ∧ ((h 201 4) = 173 → wf (d + 1) M_X1_readSum Q 38 [some (.inr (.inr 201)), none, some (.inl v2), none] [] h))))) : wf (d + 1) M_X1_readSum Q 7 [some (.inr (.inr 201)), some (.inl v1), some (.inl v2), none] [] h := by
  intro h0
  refine ar_iload_n (pc := 7) (i := 2) (k0 := 2) (by decide +kernel) rfl rfl ?_
  refine ar_sipush (pc := 8) (z := 300) (by decide +kernel) (by omega) ?_
  refine ar_icmp_ge (pc := 11) (x := v2) (y := 300) (tgt := 91) (off := 80) (by decide +kernel) (by decide) (fun c1 => ?_) (fun c1 => ?_)
  · replace H := H.1 c1
    refine ar_iload_n (pc := 91) (i := 1) (k0 := 1) (by decide +kernel) rfl rfl ?_
    obtain ⟨g2, H⟩ := H
    exact ar_zret (pc := 92) (x := v1) (by decide +kernel) rfl rfl g2 H
  · replace H := H.2 c1
    refine ar_iload_n (pc := 14) (i := 1) (k0 := 1) (by decide +kernel) rfl rfl ?_
    refine ar_if_eq (pc := 15) (x := v1) (tgt := 91) (off := 76) (by decide +kernel) (by decide) (fun c3 => ?_) (fun c3 => ?_)
    · replace H := H.1 c3
      refine ar_iload_n (pc := 91) (i := 1) (k0 := 1) (by decide +kernel) rfl rfl ?_
      obtain ⟨g4, H⟩ := H
      exact ar_zret (pc := 92) (x := v1) (by decide +kernel) rfl rfl g4 H
    · replace H := H.2 c3
      refine ar_aload_n (pc := 18) (i := 0) (k0 := 0) (by decide +kernel) rfl rfl ?_
      refine ar_getV (pc := 19) (a := 201) (v := .inl (h 201 4)) 1 4 (by decide +kernel) k_201 rfl (by decide) wf_RX1_45 rfl ?_
      refine ar_sipush (pc := 22) (z := 171) (by decide +kernel) (by omega) ?_
      refine ar_icmp_eq (pc := 25) (x := (h 201 4)) (y := 171) (tgt := 38) (off := 13) (by decide +kernel) (by decide) (fun c5 => ?_) (fun c5 => ?_)
      · replace H := H.1 c5
        refine ar_forget [true, false, true, true] rfl ?_
        exact H h0
      · replace H := H.2 c5
        refine ar_aload_n (pc := 28) (i := 0) (k0 := 0) (by decide +kernel) rfl rfl ?_
        refine ar_getV (pc := 29) (a := 201) (v := .inl (h 201 4)) 1 4 (by decide +kernel) k_201 rfl (by decide) wf_RX1_45 rfl ?_
        refine ar_sipush (pc := 32) (z := 173) (by decide +kernel) (by omega) ?_
        refine ar_icmp_ne (pc := 35) (x := (h 201 4)) (y := 173) (tgt := 91) (off := 56) (by decide +kernel) (by decide) (fun c6 => ?_) (fun c6 => ?_)
        · replace H := H.1 c6
          refine ar_iload_n (pc := 91) (i := 1) (k0 := 1) (by decide +kernel) rfl rfl ?_
          obtain ⟨g7, H⟩ := H
          exact ar_zret (pc := 92) (x := v1) (by decide +kernel) rfl rfl g7 H
        · replace H := H.2 c6
          refine ar_forget [true, false, true, true] rfl ?_
          exact H h0
theorem B_X1_readSum_38 {d : Nat} {Q : Int → am_H → Prop} {h : am_H} {v2 : Int} (H : (¬ (h 201 4) = 171 → wf (d + 1) M_X1_readSum Q 55 [some (.inr (.inr 201)), none, some (.inl v2), none] [.inl 11] h) ∧ ((h 201 4) = 171 → wf (d + 1) M_X1_readSum Q 55 [some (.inr (.inr 201)), none, some (.inl v2), none] [.inl 10] h)) : wf (d + 1) M_X1_readSum Q 38 [some (.inr (.inr 201)), none, some (.inl v2), none] [] h := by
  intro h0
  refine ar_aload_n (pc := 38) (i := 0) (k0 := 0) (by decide +kernel) rfl rfl ?_
  refine ar_getV (pc := 39) (a := 201) (v := .inl (h 201 4)) 1 4 (by decide +kernel) k_201 rfl (by decide) wf_RX1_45 rfl ?_
  refine ar_sipush (pc := 42) (z := 171) (by decide +kernel) (by omega) ?_
  refine ar_icmp_ne (pc := 45) (x := (h 201 4)) (y := 171) (tgt := 53) (off := 8) (by decide +kernel) (by decide) (fun c1 => ?_) (fun c1 => ?_)
  · replace H := H.1 c1
    refine ar_bipush (pc := 53) (z := 11) (by decide +kernel) (by omega) ?_
    exact H h0
  · replace H := H.2 c1
    refine ar_bipush (pc := 48) (z := 10) (by decide +kernel) (by omega) ?_
    refine ar_goto (pc := 50) (tgt := 55) (off := 5) (by decide +kernel) (by decide) ?_
    exact H h0
theorem B_X1_readSum_55 {d : Nat} {Q : Int → am_H → Prop} {h : am_H} {v2 s0 : Int} (H : cf d M_X1_advance [.inr (.inr 201)] h (fun r1 h2 => (r1 = 0 → wf (d + 1) M_X1_readSum Q 83 [some (.inr (.inr 201)), none, some (.inl v2), none] [] h2) ∧ (¬ r1 = 0 → cf d M_X1_readProduct [.inr (.inr 201)] h2 (fun r4 h5 => (r4 = 0 → wf (d + 1) M_X1_readSum Q 83 [some (.inr (.inr 201)), none, some (.inl v2), none] [] h5) ∧ (¬ r4 = 0 → cf d M_X1_emit [.inr (.inr 201), .inl s0, .inl 0] h5 (fun r7 h8 => (r7 < 0 → wf (d + 1) M_X1_readSum Q 83 [some (.inr (.inr 201)), none, some (.inl v2), none] [] h8) ∧ (0 ≤ r7 → wf (d + 1) M_X1_readSum Q 84 [some (.inr (.inr 201)), none, some (.inl v2), none] [.inl 1] h8))))))) : wf (d + 1) M_X1_readSum Q 55 [some (.inr (.inr 201)), none, some (.inl v2), none] [.inl s0] h := by
  intro h0
  refine ar_istore_n (pc := 55) (i := 3) (k0 := 3) (ls2 := [some (.inr (.inr 201)), none, some (.inl v2), some (.inl s0)]) (by decide +kernel) rfl (by decide) rfl ?_
  refine ar_aload_n (pc := 56) (i := 0) (k0 := 0) (by decide +kernel) rfl rfl ?_
  refine ar_callV (pc := 57) (M2 := M_X1_advance) (a := 201) (ci := 1) (as := []) (n2 := 321) (st := []) (by decide +kernel) rfl wm_RX1_121 wi_yX1_advance wl_yX1_advance k_201 rfl wz_RX1 wc_yX1_advance ⟨by decide, by decide, rfl⟩ (by decide) (Nat.le_of_ble_eq_true rfl) (Nat.le_refl _) (Nat.le_refl _) (am_Cl_mono H (fun r1 h2 H => ?_))
  show am_Wp true (d + 1) M_X1_readSum 321 321 h0 Q 60 [some (.inr (.inr 201)), none, some (.inl v2), some (.inl s0)] [.inl r1] 321 h2
  refine ar_if_eq (pc := 60) (x := r1) (tgt := 83) (off := 23) (by decide +kernel) (by decide) (fun c3 => ?_) (fun c3 => ?_)
  · replace H := H.1 c3
    refine ar_forget [true, true, true, false] rfl ?_
    exact H h0
  · replace H := H.2 c3
    refine ar_aload_n (pc := 63) (i := 0) (k0 := 0) (by decide +kernel) rfl rfl ?_
    refine ar_callV (pc := 64) (M2 := M_X1_readProduct) (a := 201) (ci := 1) (as := []) (n2 := 321) (st := []) (by decide +kernel) rfl wm_RX1_197 wi_yX1_readProduct wl_yX1_readProduct k_201 rfl wz_RX1 wc_yX1_readProduct ⟨by decide, by decide, rfl⟩ (by decide) (Nat.le_of_ble_eq_true rfl) (Nat.le_refl _) (Nat.le_refl _) (am_Cl_mono H (fun r4 h5 H => ?_))
    show am_Wp true (d + 1) M_X1_readSum 321 321 h0 Q 67 [some (.inr (.inr 201)), none, some (.inl v2), some (.inl s0)] [.inl r4] 321 h5
    refine ar_if_eq (pc := 67) (x := r4) (tgt := 83) (off := 16) (by decide +kernel) (by decide) (fun c6 => ?_) (fun c6 => ?_)
    · replace H := H.1 c6
      refine ar_forget [true, true, true, false] rfl ?_
      exact H h0
    · replace H := H.2 c6
      refine ar_aload_n (pc := 70) (i := 0) (k0 := 0) (by decide +kernel) rfl rfl ?_
      refine ar_iload_n (pc := 71) (i := 3) (k0 := 3) (by decide +kernel) rfl rfl ?_
      refine ar_iconst (pc := 72) (z := 0) (by decide +kernel) (by unfold am_i32; omega) ?_
      refine ar_callV (pc := 73) (M2 := M_X1_emit) (a := 201) (ci := 1) (as := [.inl s0, .inl 0]) (n2 := 321) (st := []) (by decide +kernel) rfl wm_RX1_154 wi_yX1_emit wl_yX1_emit k_201 rfl wz_RX1 wc_yX1_emit ⟨by decide, by decide, rfl⟩ (by decide) (Nat.le_of_ble_eq_true rfl) (Nat.le_refl _) (Nat.le_refl _) (am_Cl_mono H (fun r7 h8 H => ?_))
      show am_Wp true (d + 1) M_X1_readSum 321 321 h0 Q 76 [some (.inr (.inr 201)), none, some (.inl v2), some (.inl s0)] [.inl r7] 321 h8
      refine ar_if_lt (pc := 76) (x := r7) (tgt := 83) (off := 7) (by decide +kernel) (by decide) (fun c9 => ?_) (fun c9 => ?_)
      · replace H := H.1 c9
        refine ar_forget [true, true, true, false] rfl ?_
        exact H h0
      · replace H := H.2 c9
        refine ar_iconst (pc := 79) (z := 1) (by decide +kernel) (by unfold am_i32; omega) ?_
        refine ar_goto (pc := 80) (tgt := 84) (off := 4) (by decide +kernel) (by decide) ?_
        refine ar_forget [true, true, true, false] rfl ?_
        exact H h0
theorem B_X1_readSum_83 {d : Nat} {Q : Int → am_H → Prop} {h : am_H} {v2 : Int} (H : wf (d + 1) M_X1_readSum Q 84 [some (.inr (.inr 201)), none, some (.inl v2), none] [.inl 0] h) : wf (d + 1) M_X1_readSum Q 83 [some (.inr (.inr 201)), none, some (.inl v2), none] [] h := by
  intro h0
  refine ar_iconst (pc := 83) (z := 0) (by decide +kernel) (by unfold am_i32; omega) ?_
  exact H h0
theorem B_X1_readSum_84 {d : Nat} {Q : Int → am_H → Prop} {h : am_H} {v2 s0 : Int} (H : wf (d + 1) M_X1_readSum Q 7 [some (.inr (.inr 201)), some (.inl s0), some (.inl (am_w32 (v2 + 1))), none] [] h) : wf (d + 1) M_X1_readSum Q 84 [some (.inr (.inr 201)), none, some (.inl v2), none] [.inl s0] h := by
  intro h0
  refine ar_istore_n (pc := 84) (i := 1) (k0 := 1) (ls2 := [some (.inr (.inr 201)), some (.inl s0), some (.inl v2), none]) (by decide +kernel) rfl (by decide) rfl ?_
  refine ar_iinc (pc := 85) (i := 2) (z := 1) (x := v2) (ls2 := [some (.inr (.inr 201)), some (.inl s0), some (.inl (am_w32 (v2 + 1))), none]) (by decide +kernel) rfl (by decide) rfl ?_
  refine ar_goto (pc := 88) (tgt := 7) (off := -81) (by decide +kernel) (by decide) ?_
  exact H h0

/-! ByteIntervals$Parser.readProduct()Z -/
theorem B_X1_readProduct_0 {d : Nat} {Q : Int → am_H → Prop} {h : am_H} (H : cf d M_X1_readOne [.inr (.inr 201)] h (fun r1 h2 => wf (d + 1) M_X1_readProduct Q 7 [some (.inr (.inr 201)), some (.inl r1), some (.inl 0), none] [] h2)) : wf (d + 1) M_X1_readProduct Q 0 [some (.inr (.inr 201)), none, none, none] [] h := by
  intro h0
  refine ar_aload_n (pc := 0) (i := 0) (k0 := 0) (by decide +kernel) rfl rfl ?_
  refine ar_callV (pc := 1) (M2 := M_X1_readOne) (a := 201) (ci := 1) (as := []) (n2 := 321) (st := []) (by decide +kernel) rfl wm_RX1_200 wi_yX1_readOne wl_yX1_readOne k_201 rfl wz_RX1 wc_yX1_readOne ⟨by decide, by decide, rfl⟩ (by decide) (Nat.le_of_ble_eq_true rfl) (Nat.le_refl _) (Nat.le_refl _) (am_Cl_mono H (fun r1 h2 H => ?_))
  show am_Wp true (d + 1) M_X1_readProduct 321 321 h0 Q 4 [some (.inr (.inr 201)), none, none, none] [.inl r1] 321 h2
  refine ar_istore_n (pc := 4) (i := 1) (k0 := 1) (ls2 := [some (.inr (.inr 201)), some (.inl r1), none, none]) (by decide +kernel) rfl (by decide) rfl ?_
  refine ar_iconst (pc := 5) (z := 0) (by decide +kernel) (by unfold am_i32; omega) ?_
  refine ar_istore_n (pc := 6) (i := 2) (k0 := 2) (ls2 := [some (.inr (.inr 201)), some (.inl r1), some (.inl 0), none]) (by decide +kernel) rfl (by decide) rfl ?_
  exact H h0
theorem B_X1_readProduct_7 {d : Nat} {Q : Int → am_H → Prop} {h : am_H} {v1 v2 : Int} (H : (300 ≤ v2 → (v1 = 0 ∨ v1 = 1) ∧ (Q v1 h)) ∧ (v2 < 300 → (v1 = 0 → (v1 = 0 ∨ v1 = 1) ∧ (Q v1 h)) ∧ (¬ v1 = 0 → ((h 201 4) = 170 → wf (d + 1) M_X1_readProduct Q 38 [some (.inr (.inr 201)), none, some (.inl v2), none] [] h) ∧ (¬ (h 201 4) = 170 → (¬ (h 201 4) = 175 → (v1 = 0 ∨ v1 = 1) ∧ (Q v1 h)) ∧ ((h 201 4) = 175 → wf (d + 1) M_X1_readProduct Q 38 [some (.inr (.inr 201)), none, some (.inl v2), none] [] h))))) : wf (d + 1) M_X1_readProduct Q 7 [some (.inr (.inr 201)), some (.inl v1), some (.inl v2), none] [] h := by
  intro h0
  refine ar_iload_n (pc := 7) (i := 2) (k0 := 2) (by decide +kernel) rfl rfl ?_
  refine ar_sipush (pc := 8) (z := 300) (by decide +kernel) (by omega) ?_
  refine ar_icmp_ge (pc := 11) (x := v2) (y := 300) (tgt := 91) (off := 80) (by decide +kernel) (by decide) (fun c1 => ?_) (fun c1 => ?_)
  · replace H := H.1 c1
    refine ar_iload_n (pc := 91) (i := 1) (k0 := 1) (by decide +kernel) rfl rfl ?_
    obtain ⟨g2, H⟩ := H
    exact ar_zret (pc := 92) (x := v1) (by decide +kernel) rfl rfl g2 H
  · replace H := H.2 c1
    refine ar_iload_n (pc := 14) (i := 1) (k0 := 1) (by decide +kernel) rfl rfl ?_
    refine ar_if_eq (pc := 15) (x := v1) (tgt := 91) (off := 76) (by decide +kernel) (by decide) (fun c3 => ?_) (fun c3 => ?_)
    · replace H := H.1 c3
      refine ar_iload_n (pc := 91) (i := 1) (k0 := 1) (by decide +kernel) rfl rfl ?_
      obtain ⟨g4, H⟩ := H
      exact ar_zret (pc := 92) (x := v1) (by decide +kernel) rfl rfl g4 H
    · replace H := H.2 c3
      refine ar_aload_n (pc := 18) (i := 0) (k0 := 0) (by decide +kernel) rfl rfl ?_
      refine ar_getV (pc := 19) (a := 201) (v := .inl (h 201 4)) 1 4 (by decide +kernel) k_201 rfl (by decide) wf_RX1_45 rfl ?_
      refine ar_sipush (pc := 22) (z := 170) (by decide +kernel) (by omega) ?_
      refine ar_icmp_eq (pc := 25) (x := (h 201 4)) (y := 170) (tgt := 38) (off := 13) (by decide +kernel) (by decide) (fun c5 => ?_) (fun c5 => ?_)
      · replace H := H.1 c5
        refine ar_forget [true, false, true, true] rfl ?_
        exact H h0
      · replace H := H.2 c5
        refine ar_aload_n (pc := 28) (i := 0) (k0 := 0) (by decide +kernel) rfl rfl ?_
        refine ar_getV (pc := 29) (a := 201) (v := .inl (h 201 4)) 1 4 (by decide +kernel) k_201 rfl (by decide) wf_RX1_45 rfl ?_
        refine ar_sipush (pc := 32) (z := 175) (by decide +kernel) (by omega) ?_
        refine ar_icmp_ne (pc := 35) (x := (h 201 4)) (y := 175) (tgt := 91) (off := 56) (by decide +kernel) (by decide) (fun c6 => ?_) (fun c6 => ?_)
        · replace H := H.1 c6
          refine ar_iload_n (pc := 91) (i := 1) (k0 := 1) (by decide +kernel) rfl rfl ?_
          obtain ⟨g7, H⟩ := H
          exact ar_zret (pc := 92) (x := v1) (by decide +kernel) rfl rfl g7 H
        · replace H := H.2 c6
          refine ar_forget [true, false, true, true] rfl ?_
          exact H h0
theorem B_X1_readProduct_38 {d : Nat} {Q : Int → am_H → Prop} {h : am_H} {v2 : Int} (H : (¬ (h 201 4) = 170 → wf (d + 1) M_X1_readProduct Q 55 [some (.inr (.inr 201)), none, some (.inl v2), none] [.inl 13] h) ∧ ((h 201 4) = 170 → wf (d + 1) M_X1_readProduct Q 55 [some (.inr (.inr 201)), none, some (.inl v2), none] [.inl 12] h)) : wf (d + 1) M_X1_readProduct Q 38 [some (.inr (.inr 201)), none, some (.inl v2), none] [] h := by
  intro h0
  refine ar_aload_n (pc := 38) (i := 0) (k0 := 0) (by decide +kernel) rfl rfl ?_
  refine ar_getV (pc := 39) (a := 201) (v := .inl (h 201 4)) 1 4 (by decide +kernel) k_201 rfl (by decide) wf_RX1_45 rfl ?_
  refine ar_sipush (pc := 42) (z := 170) (by decide +kernel) (by omega) ?_
  refine ar_icmp_ne (pc := 45) (x := (h 201 4)) (y := 170) (tgt := 53) (off := 8) (by decide +kernel) (by decide) (fun c1 => ?_) (fun c1 => ?_)
  · replace H := H.1 c1
    refine ar_bipush (pc := 53) (z := 13) (by decide +kernel) (by omega) ?_
    exact H h0
  · replace H := H.2 c1
    refine ar_bipush (pc := 48) (z := 12) (by decide +kernel) (by omega) ?_
    refine ar_goto (pc := 50) (tgt := 55) (off := 5) (by decide +kernel) (by decide) ?_
    exact H h0
theorem B_X1_readProduct_55 {d : Nat} {Q : Int → am_H → Prop} {h : am_H} {v2 s0 : Int} (H : cf d M_X1_advance [.inr (.inr 201)] h (fun r1 h2 => (r1 = 0 → wf (d + 1) M_X1_readProduct Q 83 [some (.inr (.inr 201)), none, some (.inl v2), none] [] h2) ∧ (¬ r1 = 0 → cf d M_X1_readOne [.inr (.inr 201)] h2 (fun r4 h5 => (r4 = 0 → wf (d + 1) M_X1_readProduct Q 83 [some (.inr (.inr 201)), none, some (.inl v2), none] [] h5) ∧ (¬ r4 = 0 → cf d M_X1_emit [.inr (.inr 201), .inl s0, .inl 0] h5 (fun r7 h8 => (r7 < 0 → wf (d + 1) M_X1_readProduct Q 83 [some (.inr (.inr 201)), none, some (.inl v2), none] [] h8) ∧ (0 ≤ r7 → wf (d + 1) M_X1_readProduct Q 84 [some (.inr (.inr 201)), none, some (.inl v2), none] [.inl 1] h8))))))) : wf (d + 1) M_X1_readProduct Q 55 [some (.inr (.inr 201)), none, some (.inl v2), none] [.inl s0] h := by
  intro h0
  refine ar_istore_n (pc := 55) (i := 3) (k0 := 3) (ls2 := [some (.inr (.inr 201)), none, some (.inl v2), some (.inl s0)]) (by decide +kernel) rfl (by decide) rfl ?_
  refine ar_aload_n (pc := 56) (i := 0) (k0 := 0) (by decide +kernel) rfl rfl ?_
  refine ar_callV (pc := 57) (M2 := M_X1_advance) (a := 201) (ci := 1) (as := []) (n2 := 321) (st := []) (by decide +kernel) rfl wm_RX1_121 wi_yX1_advance wl_yX1_advance k_201 rfl wz_RX1 wc_yX1_advance ⟨by decide, by decide, rfl⟩ (by decide) (Nat.le_of_ble_eq_true rfl) (Nat.le_refl _) (Nat.le_refl _) (am_Cl_mono H (fun r1 h2 H => ?_))
  show am_Wp true (d + 1) M_X1_readProduct 321 321 h0 Q 60 [some (.inr (.inr 201)), none, some (.inl v2), some (.inl s0)] [.inl r1] 321 h2
  refine ar_if_eq (pc := 60) (x := r1) (tgt := 83) (off := 23) (by decide +kernel) (by decide) (fun c3 => ?_) (fun c3 => ?_)
  · replace H := H.1 c3
    refine ar_forget [true, true, true, false] rfl ?_
    exact H h0
  · replace H := H.2 c3
    refine ar_aload_n (pc := 63) (i := 0) (k0 := 0) (by decide +kernel) rfl rfl ?_
    refine ar_callV (pc := 64) (M2 := M_X1_readOne) (a := 201) (ci := 1) (as := []) (n2 := 321) (st := []) (by decide +kernel) rfl wm_RX1_200 wi_yX1_readOne wl_yX1_readOne k_201 rfl wz_RX1 wc_yX1_readOne ⟨by decide, by decide, rfl⟩ (by decide) (Nat.le_of_ble_eq_true rfl) (Nat.le_refl _) (Nat.le_refl _) (am_Cl_mono H (fun r4 h5 H => ?_))
    show am_Wp true (d + 1) M_X1_readProduct 321 321 h0 Q 67 [some (.inr (.inr 201)), none, some (.inl v2), some (.inl s0)] [.inl r4] 321 h5
    refine ar_if_eq (pc := 67) (x := r4) (tgt := 83) (off := 16) (by decide +kernel) (by decide) (fun c6 => ?_) (fun c6 => ?_)
    · replace H := H.1 c6
      refine ar_forget [true, true, true, false] rfl ?_
      exact H h0
    · replace H := H.2 c6
      refine ar_aload_n (pc := 70) (i := 0) (k0 := 0) (by decide +kernel) rfl rfl ?_
      refine ar_iload_n (pc := 71) (i := 3) (k0 := 3) (by decide +kernel) rfl rfl ?_
      refine ar_iconst (pc := 72) (z := 0) (by decide +kernel) (by unfold am_i32; omega) ?_
      refine ar_callV (pc := 73) (M2 := M_X1_emit) (a := 201) (ci := 1) (as := [.inl s0, .inl 0]) (n2 := 321) (st := []) (by decide +kernel) rfl wm_RX1_154 wi_yX1_emit wl_yX1_emit k_201 rfl wz_RX1 wc_yX1_emit ⟨by decide, by decide, rfl⟩ (by decide) (Nat.le_of_ble_eq_true rfl) (Nat.le_refl _) (Nat.le_refl _) (am_Cl_mono H (fun r7 h8 H => ?_))
      show am_Wp true (d + 1) M_X1_readProduct 321 321 h0 Q 76 [some (.inr (.inr 201)), none, some (.inl v2), some (.inl s0)] [.inl r7] 321 h8
      refine ar_if_lt (pc := 76) (x := r7) (tgt := 83) (off := 7) (by decide +kernel) (by decide) (fun c9 => ?_) (fun c9 => ?_)
      · replace H := H.1 c9
        refine ar_forget [true, true, true, false] rfl ?_
        exact H h0
      · replace H := H.2 c9
        refine ar_iconst (pc := 79) (z := 1) (by decide +kernel) (by unfold am_i32; omega) ?_
        refine ar_goto (pc := 80) (tgt := 84) (off := 4) (by decide +kernel) (by decide) ?_
        refine ar_forget [true, true, true, false] rfl ?_
        exact H h0
theorem B_X1_readProduct_83 {d : Nat} {Q : Int → am_H → Prop} {h : am_H} {v2 : Int} (H : wf (d + 1) M_X1_readProduct Q 84 [some (.inr (.inr 201)), none, some (.inl v2), none] [.inl 0] h) : wf (d + 1) M_X1_readProduct Q 83 [some (.inr (.inr 201)), none, some (.inl v2), none] [] h := by
  intro h0
  refine ar_iconst (pc := 83) (z := 0) (by decide +kernel) (by unfold am_i32; omega) ?_
  exact H h0
theorem B_X1_readProduct_84 {d : Nat} {Q : Int → am_H → Prop} {h : am_H} {v2 s0 : Int} (H : wf (d + 1) M_X1_readProduct Q 7 [some (.inr (.inr 201)), some (.inl s0), some (.inl (am_w32 (v2 + 1))), none] [] h) : wf (d + 1) M_X1_readProduct Q 84 [some (.inr (.inr 201)), none, some (.inl v2), none] [.inl s0] h := by
  intro h0
  refine ar_istore_n (pc := 84) (i := 1) (k0 := 1) (ls2 := [some (.inr (.inr 201)), some (.inl s0), some (.inl v2), none]) (by decide +kernel) rfl (by decide) rfl ?_
  refine ar_iinc (pc := 85) (i := 2) (z := 1) (x := v2) (ls2 := [some (.inr (.inr 201)), some (.inl s0), some (.inl (am_w32 (v2 + 1))), none]) (by decide +kernel) rfl (by decide) rfl ?_
  refine ar_goto (pc := 88) (tgt := 7) (off := -81) (by decide +kernel) (by decide) ?_
  exact H h0

/-! ByteIntervals$Parser.readOne()Z -/
theorem B_X1_readOne_0 {d : Nat} {Q : Int → am_H → Prop} {h : am_H} (H : ((h 201 4) = 12 → cf d M_X1_opens [.inr (.inr 201)] (am_up h 201 11 1) (fun r2 h3 => (r2 = 0 → Q 0 h3) ∧ (¬ r2 = 0 → cf d M_X1_readOne [.inr (.inr 201)] h3 (fun r5 h6 => (r5 = 0 → Q 0 h6) ∧ (¬ r5 = 0 → cf d M_X1_closes [.inr (.inr 201)] h6 (fun r8 h9 => (r8 = 0 → Q 0 h9) ∧ (¬ r8 = 0 → cf d M_X1_emit [.inr (.inr 201), .inl 9, .inl 0] h9 (fun r11 h12 => (r11 < 0 → Q 0 h12) ∧ (0 ≤ r11 → Q 1 h12))))))))) ∧ (¬ (h 201 4) = 12 → ((h 201 4) = 13 → cf d M_X1_readIf [.inr (.inr 201)] h (fun r15 h16 => (r15 = 0 ∨ r15 = 1) ∧ (Q r15 h16))) ∧ (¬ (h 201 4) = 13 → ((h 201 4) = 168 → cf d M_X1_opens [.inr (.inr 201)] h (fun r19 h20 => (r19 = 0 → Q 0 h20) ∧ (¬ r19 = 0 → cf d M_X1_readSum [.inr (.inr 201)] h20 (fun r22 h23 => (r22 = 0 → Q 0 h23) ∧ (¬ r22 = 0 → cf d M_X1_take [.inr (.inr 201), .inl 169] h23 (fun r25 h26 => (r25 = 0 → Q 0 h26) ∧ (¬ r25 = 0 → cf d M_X1_closes [.inr (.inr 201)] h26 (fun r28 h29 => (r28 = 0 → Q 0 h29) ∧ (¬ r28 = 0 → Q 1 h29))))))))) ∧ (¬ (h 201 4) = 168 → ((h 201 4) = 173 → cf d M_X1_opens [.inr (.inr 201)] h (fun r32 h33 => (r32 = 0 → Q 0 h33) ∧ (¬ r32 = 0 → cf d M_X1_readOne [.inr (.inr 201)] h33 (fun r35 h36 => (r35 = 0 → Q 0 h36) ∧ (¬ r35 = 0 → cf d M_X1_closes [.inr (.inr 201)] h36 (fun r38 h39 => (r38 = 0 → Q 0 h39) ∧ (¬ r38 = 0 → cf d M_X1_emit [.inr (.inr 201), .inl 7, .inl 0] h39 (fun r41 h42 => (r41 < 0 → Q 0 h42) ∧ (0 ≤ r41 → Q 1 h42))))))))) ∧ (¬ (h 201 4) = 173 → cf d M_X1_readName [.inr (.inr 201)] h (fun r44 h45 => (r44 = 0 ∨ r44 = 1) ∧ (Q r44 h45))))))) : wf (d + 1) M_X1_readOne Q 0 [some (.inr (.inr 201))] [] h := by
  intro h0
  refine ar_aload_n (pc := 0) (i := 0) (k0 := 0) (by decide +kernel) rfl rfl ?_
  refine ar_getV (pc := 1) (a := 201) (v := .inl (h 201 4)) 1 4 (by decide +kernel) k_201 rfl (by decide) wf_RX1_45 rfl ?_
  refine ar_look (pc := 4) (dflt := 165) (ps := #[(12, 118), (13, 160), (168, 44), (173, 81)]) (len := 44) (x := (h 201 4)) (dt := 169) [(12, 122), (13, 164), (168, 48), (173, 85)] (by decide +kernel) (by decide) (by decide) (by decide) ?_
  refine And.intro (fun c1 => ?_) (fun c1 => ?_)
  · replace H := H.1 c1
    refine ar_aload_n (pc := 122) (i := 0) (k0 := 0) (by decide +kernel) rfl rfl ?_
    refine ar_iconst (pc := 123) (z := 1) (by decide +kernel) (by unfold am_i32; omega) ?_
    refine ar_putI (pc := 124) (a := 201) (z := 1) 1 11 (by decide +kernel) k_201 rfl (by decide) rfl (fun _ => rfl) rfl wf_RX1_148 ?_
    refine ar_aload_n (pc := 127) (i := 0) (k0 := 0) (by decide +kernel) rfl rfl ?_
    refine ar_callV (pc := 128) (M2 := M_X1_opens) (a := 201) (ci := 1) (as := []) (n2 := 321) (st := []) (by decide +kernel) rfl wm_RX1_203 wi_yX1_opens wl_yX1_opens k_201 rfl wz_RX1 wc_yX1_opens ⟨by decide, by decide, rfl⟩ (by decide) (Nat.le_of_ble_eq_true rfl) (Nat.le_refl _) (Nat.le_refl _) (am_Cl_mono H (fun r2 h3 H => ?_))
    show am_Wp true (d + 1) M_X1_readOne 321 321 h0 Q 131 [some (.inr (.inr 201))] [.inl r2] 321 h3
    refine ar_if_eq (pc := 131) (x := r2) (tgt := 162) (off := 31) (by decide +kernel) (by decide) (fun c4 => ?_) (fun c4 => ?_)
    · replace H := H.1 c4
      refine ar_iconst (pc := 162) (z := 0) (by decide +kernel) (by unfold am_i32; omega) ?_
      exact ar_zret (pc := 163) (x := 0) (by decide +kernel) rfl rfl (by decide) H
    · replace H := H.2 c4
      refine ar_aload_n (pc := 134) (i := 0) (k0 := 0) (by decide +kernel) rfl rfl ?_
      refine ar_callV (pc := 135) (M2 := M_X1_readOne) (a := 201) (ci := 1) (as := []) (n2 := 321) (st := []) (by decide +kernel) rfl wm_RX1_200 wi_yX1_readOne wl_yX1_readOne k_201 rfl wz_RX1 wc_yX1_readOne ⟨by decide, by decide, rfl⟩ (by decide) (Nat.le_of_ble_eq_true rfl) (Nat.le_refl _) (Nat.le_refl _) (am_Cl_mono H (fun r5 h6 H => ?_))
      show am_Wp true (d + 1) M_X1_readOne 321 321 h0 Q 138 [some (.inr (.inr 201))] [.inl r5] 321 h6
      refine ar_if_eq (pc := 138) (x := r5) (tgt := 162) (off := 24) (by decide +kernel) (by decide) (fun c7 => ?_) (fun c7 => ?_)
      · replace H := H.1 c7
        refine ar_iconst (pc := 162) (z := 0) (by decide +kernel) (by unfold am_i32; omega) ?_
        exact ar_zret (pc := 163) (x := 0) (by decide +kernel) rfl rfl (by decide) H
      · replace H := H.2 c7
        refine ar_aload_n (pc := 141) (i := 0) (k0 := 0) (by decide +kernel) rfl rfl ?_
        refine ar_callV (pc := 142) (M2 := M_X1_closes) (a := 201) (ci := 1) (as := []) (n2 := 321) (st := []) (by decide +kernel) rfl wm_RX1_206 wi_yX1_closes wl_yX1_closes k_201 rfl wz_RX1 wc_yX1_closes ⟨by decide, by decide, rfl⟩ (by decide) (Nat.le_of_ble_eq_true rfl) (Nat.le_refl _) (Nat.le_refl _) (am_Cl_mono H (fun r8 h9 H => ?_))
        show am_Wp true (d + 1) M_X1_readOne 321 321 h0 Q 145 [some (.inr (.inr 201))] [.inl r8] 321 h9
        refine ar_if_eq (pc := 145) (x := r8) (tgt := 162) (off := 17) (by decide +kernel) (by decide) (fun c10 => ?_) (fun c10 => ?_)
        · replace H := H.1 c10
          refine ar_iconst (pc := 162) (z := 0) (by decide +kernel) (by unfold am_i32; omega) ?_
          exact ar_zret (pc := 163) (x := 0) (by decide +kernel) rfl rfl (by decide) H
        · replace H := H.2 c10
          refine ar_aload_n (pc := 148) (i := 0) (k0 := 0) (by decide +kernel) rfl rfl ?_
          refine ar_bipush (pc := 149) (z := 9) (by decide +kernel) (by omega) ?_
          refine ar_iconst (pc := 151) (z := 0) (by decide +kernel) (by unfold am_i32; omega) ?_
          refine ar_callV (pc := 152) (M2 := M_X1_emit) (a := 201) (ci := 1) (as := [.inl 9, .inl 0]) (n2 := 321) (st := []) (by decide +kernel) rfl wm_RX1_154 wi_yX1_emit wl_yX1_emit k_201 rfl wz_RX1 wc_yX1_emit ⟨by decide, by decide, rfl⟩ (by decide) (Nat.le_of_ble_eq_true rfl) (Nat.le_refl _) (Nat.le_refl _) (am_Cl_mono H (fun r11 h12 H => ?_))
          show am_Wp true (d + 1) M_X1_readOne 321 321 h0 Q 155 [some (.inr (.inr 201))] [.inl r11] 321 h12
          refine ar_if_lt (pc := 155) (x := r11) (tgt := 162) (off := 7) (by decide +kernel) (by decide) (fun c13 => ?_) (fun c13 => ?_)
          · replace H := H.1 c13
            refine ar_iconst (pc := 162) (z := 0) (by decide +kernel) (by unfold am_i32; omega) ?_
            exact ar_zret (pc := 163) (x := 0) (by decide +kernel) rfl rfl (by decide) H
          · replace H := H.2 c13
            refine ar_iconst (pc := 158) (z := 1) (by decide +kernel) (by unfold am_i32; omega) ?_
            refine ar_goto (pc := 159) (tgt := 163) (off := 4) (by decide +kernel) (by decide) ?_
            exact ar_zret (pc := 163) (x := 1) (by decide +kernel) rfl rfl (by decide) H
  · replace H := H.2 c1
    refine And.intro (fun c14 => ?_) (fun c14 => ?_)
    · replace H := H.1 c14
      refine ar_aload_n (pc := 164) (i := 0) (k0 := 0) (by decide +kernel) rfl rfl ?_
      refine ar_callV (pc := 165) (M2 := M_X1_readIf) (a := 201) (ci := 1) (as := []) (n2 := 321) (st := []) (by decide +kernel) rfl wm_RX1_209 wi_yX1_readIf wl_yX1_readIf k_201 rfl wz_RX1 wc_yX1_readIf ⟨by decide, by decide, rfl⟩ (by decide) (Nat.le_of_ble_eq_true rfl) (Nat.le_refl _) (Nat.le_refl _) (am_Cl_mono H (fun r15 h16 H => ?_))
      show am_Wp true (d + 1) M_X1_readOne 321 321 h0 Q 168 [some (.inr (.inr 201))] [.inl r15] 321 h16
      obtain ⟨g17, H⟩ := H
      exact ar_zret (pc := 168) (x := r15) (by decide +kernel) rfl rfl g17 H
    · replace H := H.2 c14
      refine And.intro (fun c18 => ?_) (fun c18 => ?_)
      · replace H := H.1 c18
        refine ar_aload_n (pc := 48) (i := 0) (k0 := 0) (by decide +kernel) rfl rfl ?_
        refine ar_callV (pc := 49) (M2 := M_X1_opens) (a := 201) (ci := 1) (as := []) (n2 := 321) (st := []) (by decide +kernel) rfl wm_RX1_203 wi_yX1_opens wl_yX1_opens k_201 rfl wz_RX1 wc_yX1_opens ⟨by decide, by decide, rfl⟩ (by decide) (Nat.le_of_ble_eq_true rfl) (Nat.le_refl _) (Nat.le_refl _) (am_Cl_mono H (fun r19 h20 H => ?_))
        show am_Wp true (d + 1) M_X1_readOne 321 321 h0 Q 52 [some (.inr (.inr 201))] [.inl r19] 321 h20
        refine ar_if_eq (pc := 52) (x := r19) (tgt := 83) (off := 31) (by decide +kernel) (by decide) (fun c21 => ?_) (fun c21 => ?_)
        · replace H := H.1 c21
          refine ar_iconst (pc := 83) (z := 0) (by decide +kernel) (by unfold am_i32; omega) ?_
          exact ar_zret (pc := 84) (x := 0) (by decide +kernel) rfl rfl (by decide) H
        · replace H := H.2 c21
          refine ar_aload_n (pc := 55) (i := 0) (k0 := 0) (by decide +kernel) rfl rfl ?_
          refine ar_callV (pc := 56) (M2 := M_X1_readSum) (a := 201) (ci := 1) (as := []) (n2 := 321) (st := []) (by decide +kernel) rfl wm_RX1_157 wi_yX1_readSum wl_yX1_readSum k_201 rfl wz_RX1 wc_yX1_readSum ⟨by decide, by decide, rfl⟩ (by decide) (Nat.le_of_ble_eq_true rfl) (Nat.le_refl _) (Nat.le_refl _) (am_Cl_mono H (fun r22 h23 H => ?_))
          show am_Wp true (d + 1) M_X1_readOne 321 321 h0 Q 59 [some (.inr (.inr 201))] [.inl r22] 321 h23
          refine ar_if_eq (pc := 59) (x := r22) (tgt := 83) (off := 24) (by decide +kernel) (by decide) (fun c24 => ?_) (fun c24 => ?_)
          · replace H := H.1 c24
            refine ar_iconst (pc := 83) (z := 0) (by decide +kernel) (by unfold am_i32; omega) ?_
            exact ar_zret (pc := 84) (x := 0) (by decide +kernel) rfl rfl (by decide) H
          · replace H := H.2 c24
            refine ar_aload_n (pc := 62) (i := 0) (k0 := 0) (by decide +kernel) rfl rfl ?_
            refine ar_sipush (pc := 63) (z := 169) (by decide +kernel) (by omega) ?_
            refine ar_callV (pc := 66) (M2 := M_X1_take) (a := 201) (ci := 1) (as := [.inl 169]) (n2 := 321) (st := []) (by decide +kernel) rfl wm_RX1_74 wi_yX1_take wl_yX1_take k_201 rfl wz_RX1 wc_yX1_take ⟨by decide, by decide, rfl⟩ (by decide) (Nat.le_of_ble_eq_true rfl) (Nat.le_refl _) (Nat.le_refl _) (am_Cl_mono H (fun r25 h26 H => ?_))
            show am_Wp true (d + 1) M_X1_readOne 321 321 h0 Q 69 [some (.inr (.inr 201))] [.inl r25] 321 h26
            refine ar_if_eq (pc := 69) (x := r25) (tgt := 83) (off := 14) (by decide +kernel) (by decide) (fun c27 => ?_) (fun c27 => ?_)
            · replace H := H.1 c27
              refine ar_iconst (pc := 83) (z := 0) (by decide +kernel) (by unfold am_i32; omega) ?_
              exact ar_zret (pc := 84) (x := 0) (by decide +kernel) rfl rfl (by decide) H
            · replace H := H.2 c27
              refine ar_aload_n (pc := 72) (i := 0) (k0 := 0) (by decide +kernel) rfl rfl ?_
              refine ar_callV (pc := 73) (M2 := M_X1_closes) (a := 201) (ci := 1) (as := []) (n2 := 321) (st := []) (by decide +kernel) rfl wm_RX1_206 wi_yX1_closes wl_yX1_closes k_201 rfl wz_RX1 wc_yX1_closes ⟨by decide, by decide, rfl⟩ (by decide) (Nat.le_of_ble_eq_true rfl) (Nat.le_refl _) (Nat.le_refl _) (am_Cl_mono H (fun r28 h29 H => ?_))
              show am_Wp true (d + 1) M_X1_readOne 321 321 h0 Q 76 [some (.inr (.inr 201))] [.inl r28] 321 h29
              refine ar_if_eq (pc := 76) (x := r28) (tgt := 83) (off := 7) (by decide +kernel) (by decide) (fun c30 => ?_) (fun c30 => ?_)
              · replace H := H.1 c30
                refine ar_iconst (pc := 83) (z := 0) (by decide +kernel) (by unfold am_i32; omega) ?_
                exact ar_zret (pc := 84) (x := 0) (by decide +kernel) rfl rfl (by decide) H
              · replace H := H.2 c30
                refine ar_iconst (pc := 79) (z := 1) (by decide +kernel) (by unfold am_i32; omega) ?_
                refine ar_goto (pc := 80) (tgt := 84) (off := 4) (by decide +kernel) (by decide) ?_
                exact ar_zret (pc := 84) (x := 1) (by decide +kernel) rfl rfl (by decide) H
      · replace H := H.2 c18
        refine And.intro (fun c31 => ?_) (fun c31 => ?_)
        · replace H := H.1 c31
          refine ar_aload_n (pc := 85) (i := 0) (k0 := 0) (by decide +kernel) rfl rfl ?_
          refine ar_callV (pc := 86) (M2 := M_X1_opens) (a := 201) (ci := 1) (as := []) (n2 := 321) (st := []) (by decide +kernel) rfl wm_RX1_203 wi_yX1_opens wl_yX1_opens k_201 rfl wz_RX1 wc_yX1_opens ⟨by decide, by decide, rfl⟩ (by decide) (Nat.le_of_ble_eq_true rfl) (Nat.le_refl _) (Nat.le_refl _) (am_Cl_mono H (fun r32 h33 H => ?_))
          show am_Wp true (d + 1) M_X1_readOne 321 321 h0 Q 89 [some (.inr (.inr 201))] [.inl r32] 321 h33
          refine ar_if_eq (pc := 89) (x := r32) (tgt := 120) (off := 31) (by decide +kernel) (by decide) (fun c34 => ?_) (fun c34 => ?_)
          · replace H := H.1 c34
            refine ar_iconst (pc := 120) (z := 0) (by decide +kernel) (by unfold am_i32; omega) ?_
            exact ar_zret (pc := 121) (x := 0) (by decide +kernel) rfl rfl (by decide) H
          · replace H := H.2 c34
            refine ar_aload_n (pc := 92) (i := 0) (k0 := 0) (by decide +kernel) rfl rfl ?_
            refine ar_callV (pc := 93) (M2 := M_X1_readOne) (a := 201) (ci := 1) (as := []) (n2 := 321) (st := []) (by decide +kernel) rfl wm_RX1_200 wi_yX1_readOne wl_yX1_readOne k_201 rfl wz_RX1 wc_yX1_readOne ⟨by decide, by decide, rfl⟩ (by decide) (Nat.le_of_ble_eq_true rfl) (Nat.le_refl _) (Nat.le_refl _) (am_Cl_mono H (fun r35 h36 H => ?_))
            show am_Wp true (d + 1) M_X1_readOne 321 321 h0 Q 96 [some (.inr (.inr 201))] [.inl r35] 321 h36
            refine ar_if_eq (pc := 96) (x := r35) (tgt := 120) (off := 24) (by decide +kernel) (by decide) (fun c37 => ?_) (fun c37 => ?_)
            · replace H := H.1 c37
              refine ar_iconst (pc := 120) (z := 0) (by decide +kernel) (by unfold am_i32; omega) ?_
              exact ar_zret (pc := 121) (x := 0) (by decide +kernel) rfl rfl (by decide) H
            · replace H := H.2 c37
              refine ar_aload_n (pc := 99) (i := 0) (k0 := 0) (by decide +kernel) rfl rfl ?_
              refine ar_callV (pc := 100) (M2 := M_X1_closes) (a := 201) (ci := 1) (as := []) (n2 := 321) (st := []) (by decide +kernel) rfl wm_RX1_206 wi_yX1_closes wl_yX1_closes k_201 rfl wz_RX1 wc_yX1_closes ⟨by decide, by decide, rfl⟩ (by decide) (Nat.le_of_ble_eq_true rfl) (Nat.le_refl _) (Nat.le_refl _) (am_Cl_mono H (fun r38 h39 H => ?_))
              show am_Wp true (d + 1) M_X1_readOne 321 321 h0 Q 103 [some (.inr (.inr 201))] [.inl r38] 321 h39
              refine ar_if_eq (pc := 103) (x := r38) (tgt := 120) (off := 17) (by decide +kernel) (by decide) (fun c40 => ?_) (fun c40 => ?_)
              · replace H := H.1 c40
                refine ar_iconst (pc := 120) (z := 0) (by decide +kernel) (by unfold am_i32; omega) ?_
                exact ar_zret (pc := 121) (x := 0) (by decide +kernel) rfl rfl (by decide) H
              · replace H := H.2 c40
                refine ar_aload_n (pc := 106) (i := 0) (k0 := 0) (by decide +kernel) rfl rfl ?_
                refine ar_bipush (pc := 107) (z := 7) (by decide +kernel) (by omega) ?_
                refine ar_iconst (pc := 109) (z := 0) (by decide +kernel) (by unfold am_i32; omega) ?_
                refine ar_callV (pc := 110) (M2 := M_X1_emit) (a := 201) (ci := 1) (as := [.inl 7, .inl 0]) (n2 := 321) (st := []) (by decide +kernel) rfl wm_RX1_154 wi_yX1_emit wl_yX1_emit k_201 rfl wz_RX1 wc_yX1_emit ⟨by decide, by decide, rfl⟩ (by decide) (Nat.le_of_ble_eq_true rfl) (Nat.le_refl _) (Nat.le_refl _) (am_Cl_mono H (fun r41 h42 H => ?_))
                show am_Wp true (d + 1) M_X1_readOne 321 321 h0 Q 113 [some (.inr (.inr 201))] [.inl r41] 321 h42
                refine ar_if_lt (pc := 113) (x := r41) (tgt := 120) (off := 7) (by decide +kernel) (by decide) (fun c43 => ?_) (fun c43 => ?_)
                · replace H := H.1 c43
                  refine ar_iconst (pc := 120) (z := 0) (by decide +kernel) (by unfold am_i32; omega) ?_
                  exact ar_zret (pc := 121) (x := 0) (by decide +kernel) rfl rfl (by decide) H
                · replace H := H.2 c43
                  refine ar_iconst (pc := 116) (z := 1) (by decide +kernel) (by unfold am_i32; omega) ?_
                  refine ar_goto (pc := 117) (tgt := 121) (off := 4) (by decide +kernel) (by decide) ?_
                  exact ar_zret (pc := 121) (x := 1) (by decide +kernel) rfl rfl (by decide) H
        · replace H := H.2 c31
          refine ar_aload_n (pc := 169) (i := 0) (k0 := 0) (by decide +kernel) rfl rfl ?_
          refine ar_callV (pc := 170) (M2 := M_X1_readName) (a := 201) (ci := 1) (as := []) (n2 := 321) (st := []) (by decide +kernel) rfl wm_RX1_212 wi_yX1_readName wl_yX1_readName k_201 rfl wz_RX1 wc_yX1_readName ⟨by decide, by decide, rfl⟩ (by decide) (Nat.le_of_ble_eq_true rfl) (Nat.le_refl _) (Nat.le_refl _) (am_Cl_mono H (fun r44 h45 H => ?_))
          show am_Wp true (d + 1) M_X1_readOne 321 321 h0 Q 173 [some (.inr (.inr 201))] [.inl r44] 321 h45
          obtain ⟨g46, H⟩ := H
          exact ar_zret (pc := 173) (x := r44) (by decide +kernel) rfl rfl g46 H

/-! ByteIntervals$Parser.readIf()Z -/
theorem B_X1_readIf_0 {d : Nat} {Q : Int → am_H → Prop} {h : am_H} (H : cf d M_X1_opens [.inr (.inr 201)] h (fun r1 h2 => (r1 = 0 → Q 0 h2) ∧ (¬ r1 = 0 → cf d M_X1_readEither [.inr (.inr 201)] h2 (fun r4 h5 => (¬ r4 = 0 → cf d M_X1_emit [.inr (.inr 201), .inl 22, .inl 0] h5 (fun r7 h8 => cf d M_X1_take [.inr (.inr 201), .inl 14] h8 (fun r9 h10 => (r9 = 0 → Q 0 h10) ∧ (¬ r9 = 0 → cf d M_X1_readSum [.inr (.inr 201)] h10 (fun r12 h13 => (¬ r12 = 0 → cf d M_X1_emit [.inr (.inr 201), .inl 23, .inl 0] h13 (fun r15 h16 => cf d M_X1_aim [.inr (.inr 201), .inl r7] h16 (fun _ h18 => cf d M_X1_take [.inr (.inr 201), .inl 15] h18 (fun r19 h20 => (r19 = 0 → Q 0 h20) ∧ (¬ r19 = 0 → cf d M_X1_readSum [.inr (.inr 201)] h20 (fun r22 h23 => (¬ r22 = 0 → cf d M_X1_aim [.inr (.inr 201), .inl r15] h23 (fun _ h26 => cf d M_X1_take [.inr (.inr 201), .inl 16] h26 (fun r27 h28 => (r27 = 0 → Q 0 h28) ∧ (¬ r27 = 0 → cf d M_X1_closes [.inr (.inr 201)] h28 (fun r30 h31 => (r30 = 0 → Q 0 h31) ∧ (¬ r30 = 0 → Q 1 h31)))))) ∧ (r22 = 0 → Q 0 h23))))))) ∧ (r12 = 0 → Q 0 h13)))))) ∧ (r4 = 0 → Q 0 h5))))) : wf (d + 1) M_X1_readIf Q 0 [some (.inr (.inr 201)), none, none] [] h := by
  intro h0
  refine ar_aload_n (pc := 0) (i := 0) (k0 := 0) (by decide +kernel) rfl rfl ?_
  refine ar_callV (pc := 1) (M2 := M_X1_opens) (a := 201) (ci := 1) (as := []) (n2 := 321) (st := []) (by decide +kernel) rfl wm_RX1_203 wi_yX1_opens wl_yX1_opens k_201 rfl wz_RX1 wc_yX1_opens ⟨by decide, by decide, rfl⟩ (by decide) (Nat.le_of_ble_eq_true rfl) (Nat.le_refl _) (Nat.le_refl _) (am_Cl_mono H (fun r1 h2 H => ?_))
  show am_Wp true (d + 1) M_X1_readIf 321 321 h0 Q 4 [some (.inr (.inr 201)), none, none] [.inl r1] 321 h2
  refine ar_if_eq (pc := 4) (x := r1) (tgt := 14) (off := 10) (by decide +kernel) (by decide) (fun c3 => ?_) (fun c3 => ?_)
  · replace H := H.1 c3
    refine ar_iconst (pc := 14) (z := 0) (by decide +kernel) (by unfold am_i32; omega) ?_
    exact ar_zret (pc := 15) (x := 0) (by decide +kernel) rfl rfl (by decide) H
  · replace H := H.2 c3
    refine ar_aload_n (pc := 7) (i := 0) (k0 := 0) (by decide +kernel) rfl rfl ?_
    refine ar_callV (pc := 8) (M2 := M_X1_readEither) (a := 201) (ci := 1) (as := []) (n2 := 321) (st := []) (by decide +kernel) rfl wm_RX1_151 wi_yX1_readEither wl_yX1_readEither k_201 rfl wz_RX1 wc_yX1_readEither ⟨by decide, by decide, rfl⟩ (by decide) (Nat.le_of_ble_eq_true rfl) (Nat.le_refl _) (Nat.le_refl _) (am_Cl_mono H (fun r4 h5 H => ?_))
    show am_Wp true (d + 1) M_X1_readIf 321 321 h0 Q 11 [some (.inr (.inr 201)), none, none] [.inl r4] 321 h5
    refine ar_if_ne (pc := 11) (x := r4) (tgt := 16) (off := 5) (by decide +kernel) (by decide) (fun c6 => ?_) (fun c6 => ?_)
    · replace H := H.1 c6
      refine ar_aload_n (pc := 16) (i := 0) (k0 := 0) (by decide +kernel) rfl rfl ?_
      refine ar_bipush (pc := 17) (z := 22) (by decide +kernel) (by omega) ?_
      refine ar_iconst (pc := 19) (z := 0) (by decide +kernel) (by unfold am_i32; omega) ?_
      refine ar_callV (pc := 20) (M2 := M_X1_emit) (a := 201) (ci := 1) (as := [.inl 22, .inl 0]) (n2 := 321) (st := []) (by decide +kernel) rfl wm_RX1_154 wi_yX1_emit wl_yX1_emit k_201 rfl wz_RX1 wc_yX1_emit ⟨by decide, by decide, rfl⟩ (by decide) (Nat.le_of_ble_eq_true rfl) (Nat.le_refl _) (Nat.le_refl _) (am_Cl_mono H (fun r7 h8 H => ?_))
      show am_Wp true (d + 1) M_X1_readIf 321 321 h0 Q 23 [some (.inr (.inr 201)), none, none] [.inl r7] 321 h8
      refine ar_istore_n (pc := 23) (i := 1) (k0 := 1) (ls2 := [some (.inr (.inr 201)), some (.inl r7), none]) (by decide +kernel) rfl (by decide) rfl ?_
      refine ar_aload_n (pc := 24) (i := 0) (k0 := 0) (by decide +kernel) rfl rfl ?_
      refine ar_bipush (pc := 25) (z := 14) (by decide +kernel) (by omega) ?_
      refine ar_callV (pc := 27) (M2 := M_X1_take) (a := 201) (ci := 1) (as := [.inl 14]) (n2 := 321) (st := []) (by decide +kernel) rfl wm_RX1_74 wi_yX1_take wl_yX1_take k_201 rfl wz_RX1 wc_yX1_take ⟨by decide, by decide, rfl⟩ (by decide) (Nat.le_of_ble_eq_true rfl) (Nat.le_refl _) (Nat.le_refl _) (am_Cl_mono H (fun r9 h10 H => ?_))
      show am_Wp true (d + 1) M_X1_readIf 321 321 h0 Q 30 [some (.inr (.inr 201)), some (.inl r7), none] [.inl r9] 321 h10
      refine ar_if_eq (pc := 30) (x := r9) (tgt := 40) (off := 10) (by decide +kernel) (by decide) (fun c11 => ?_) (fun c11 => ?_)
      · replace H := H.1 c11
        refine ar_iconst (pc := 40) (z := 0) (by decide +kernel) (by unfold am_i32; omega) ?_
        exact ar_zret (pc := 41) (x := 0) (by decide +kernel) rfl rfl (by decide) H
      · replace H := H.2 c11
        refine ar_aload_n (pc := 33) (i := 0) (k0 := 0) (by decide +kernel) rfl rfl ?_
        refine ar_callV (pc := 34) (M2 := M_X1_readSum) (a := 201) (ci := 1) (as := []) (n2 := 321) (st := []) (by decide +kernel) rfl wm_RX1_157 wi_yX1_readSum wl_yX1_readSum k_201 rfl wz_RX1 wc_yX1_readSum ⟨by decide, by decide, rfl⟩ (by decide) (Nat.le_of_ble_eq_true rfl) (Nat.le_refl _) (Nat.le_refl _) (am_Cl_mono H (fun r12 h13 H => ?_))
        show am_Wp true (d + 1) M_X1_readIf 321 321 h0 Q 37 [some (.inr (.inr 201)), some (.inl r7), none] [.inl r12] 321 h13
        refine ar_if_ne (pc := 37) (x := r12) (tgt := 42) (off := 5) (by decide +kernel) (by decide) (fun c14 => ?_) (fun c14 => ?_)
        · replace H := H.1 c14
          refine ar_aload_n (pc := 42) (i := 0) (k0 := 0) (by decide +kernel) rfl rfl ?_
          refine ar_bipush (pc := 43) (z := 23) (by decide +kernel) (by omega) ?_
          refine ar_iconst (pc := 45) (z := 0) (by decide +kernel) (by unfold am_i32; omega) ?_
          refine ar_callV (pc := 46) (M2 := M_X1_emit) (a := 201) (ci := 1) (as := [.inl 23, .inl 0]) (n2 := 321) (st := []) (by decide +kernel) rfl wm_RX1_154 wi_yX1_emit wl_yX1_emit k_201 rfl wz_RX1 wc_yX1_emit ⟨by decide, by decide, rfl⟩ (by decide) (Nat.le_of_ble_eq_true rfl) (Nat.le_refl _) (Nat.le_refl _) (am_Cl_mono H (fun r15 h16 H => ?_))
          show am_Wp true (d + 1) M_X1_readIf 321 321 h0 Q 49 [some (.inr (.inr 201)), some (.inl r7), none] [.inl r15] 321 h16
          refine ar_istore_n (pc := 49) (i := 2) (k0 := 2) (ls2 := [some (.inr (.inr 201)), some (.inl r7), some (.inl r15)]) (by decide +kernel) rfl (by decide) rfl ?_
          refine ar_aload_n (pc := 50) (i := 0) (k0 := 0) (by decide +kernel) rfl rfl ?_
          refine ar_iload_n (pc := 51) (i := 1) (k0 := 1) (by decide +kernel) rfl rfl ?_
          refine ar_callV (pc := 52) (M2 := M_X1_aim) (a := 201) (ci := 1) (as := [.inl r7]) (n2 := 321) (st := []) (by decide +kernel) rfl wm_RX1_215 wi_yX1_aim wl_yX1_aim k_201 rfl wz_RX1 wc_yX1_aim ⟨by decide, by decide, rfl⟩ (by decide) (Nat.le_of_ble_eq_true rfl) (Nat.le_refl _) (Nat.le_refl _) (am_Cl_mono H (fun r17 h18 H => ?_))
          show am_Wp true (d + 1) M_X1_readIf 321 321 h0 Q 55 [some (.inr (.inr 201)), some (.inl r7), some (.inl r15)] [] 321 h18
          refine ar_aload_n (pc := 55) (i := 0) (k0 := 0) (by decide +kernel) rfl rfl ?_
          refine ar_bipush (pc := 56) (z := 15) (by decide +kernel) (by omega) ?_
          refine ar_callV (pc := 58) (M2 := M_X1_take) (a := 201) (ci := 1) (as := [.inl 15]) (n2 := 321) (st := []) (by decide +kernel) rfl wm_RX1_74 wi_yX1_take wl_yX1_take k_201 rfl wz_RX1 wc_yX1_take ⟨by decide, by decide, rfl⟩ (by decide) (Nat.le_of_ble_eq_true rfl) (Nat.le_refl _) (Nat.le_refl _) (am_Cl_mono H (fun r19 h20 H => ?_))
          show am_Wp true (d + 1) M_X1_readIf 321 321 h0 Q 61 [some (.inr (.inr 201)), some (.inl r7), some (.inl r15)] [.inl r19] 321 h20
          refine ar_if_eq (pc := 61) (x := r19) (tgt := 71) (off := 10) (by decide +kernel) (by decide) (fun c21 => ?_) (fun c21 => ?_)
          · replace H := H.1 c21
            refine ar_iconst (pc := 71) (z := 0) (by decide +kernel) (by unfold am_i32; omega) ?_
            exact ar_zret (pc := 72) (x := 0) (by decide +kernel) rfl rfl (by decide) H
          · replace H := H.2 c21
            refine ar_aload_n (pc := 64) (i := 0) (k0 := 0) (by decide +kernel) rfl rfl ?_
            refine ar_callV (pc := 65) (M2 := M_X1_readSum) (a := 201) (ci := 1) (as := []) (n2 := 321) (st := []) (by decide +kernel) rfl wm_RX1_157 wi_yX1_readSum wl_yX1_readSum k_201 rfl wz_RX1 wc_yX1_readSum ⟨by decide, by decide, rfl⟩ (by decide) (Nat.le_of_ble_eq_true rfl) (Nat.le_refl _) (Nat.le_refl _) (am_Cl_mono H (fun r22 h23 H => ?_))
            show am_Wp true (d + 1) M_X1_readIf 321 321 h0 Q 68 [some (.inr (.inr 201)), some (.inl r7), some (.inl r15)] [.inl r22] 321 h23
            refine ar_if_ne (pc := 68) (x := r22) (tgt := 73) (off := 5) (by decide +kernel) (by decide) (fun c24 => ?_) (fun c24 => ?_)
            · replace H := H.1 c24
              refine ar_aload_n (pc := 73) (i := 0) (k0 := 0) (by decide +kernel) rfl rfl ?_
              refine ar_iload_n (pc := 74) (i := 2) (k0 := 2) (by decide +kernel) rfl rfl ?_
              refine ar_callV (pc := 75) (M2 := M_X1_aim) (a := 201) (ci := 1) (as := [.inl r15]) (n2 := 321) (st := []) (by decide +kernel) rfl wm_RX1_215 wi_yX1_aim wl_yX1_aim k_201 rfl wz_RX1 wc_yX1_aim ⟨by decide, by decide, rfl⟩ (by decide) (Nat.le_of_ble_eq_true rfl) (Nat.le_refl _) (Nat.le_refl _) (am_Cl_mono H (fun r25 h26 H => ?_))
              show am_Wp true (d + 1) M_X1_readIf 321 321 h0 Q 78 [some (.inr (.inr 201)), some (.inl r7), some (.inl r15)] [] 321 h26
              refine ar_aload_n (pc := 78) (i := 0) (k0 := 0) (by decide +kernel) rfl rfl ?_
              refine ar_bipush (pc := 79) (z := 16) (by decide +kernel) (by omega) ?_
              refine ar_callV (pc := 81) (M2 := M_X1_take) (a := 201) (ci := 1) (as := [.inl 16]) (n2 := 321) (st := []) (by decide +kernel) rfl wm_RX1_74 wi_yX1_take wl_yX1_take k_201 rfl wz_RX1 wc_yX1_take ⟨by decide, by decide, rfl⟩ (by decide) (Nat.le_of_ble_eq_true rfl) (Nat.le_refl _) (Nat.le_refl _) (am_Cl_mono H (fun r27 h28 H => ?_))
              show am_Wp true (d + 1) M_X1_readIf 321 321 h0 Q 84 [some (.inr (.inr 201)), some (.inl r7), some (.inl r15)] [.inl r27] 321 h28
              refine ar_if_eq (pc := 84) (x := r27) (tgt := 98) (off := 14) (by decide +kernel) (by decide) (fun c29 => ?_) (fun c29 => ?_)
              · replace H := H.1 c29
                refine ar_iconst (pc := 98) (z := 0) (by decide +kernel) (by unfold am_i32; omega) ?_
                exact ar_zret (pc := 99) (x := 0) (by decide +kernel) rfl rfl (by decide) H
              · replace H := H.2 c29
                refine ar_aload_n (pc := 87) (i := 0) (k0 := 0) (by decide +kernel) rfl rfl ?_
                refine ar_callV (pc := 88) (M2 := M_X1_closes) (a := 201) (ci := 1) (as := []) (n2 := 321) (st := []) (by decide +kernel) rfl wm_RX1_206 wi_yX1_closes wl_yX1_closes k_201 rfl wz_RX1 wc_yX1_closes ⟨by decide, by decide, rfl⟩ (by decide) (Nat.le_of_ble_eq_true rfl) (Nat.le_refl _) (Nat.le_refl _) (am_Cl_mono H (fun r30 h31 H => ?_))
                show am_Wp true (d + 1) M_X1_readIf 321 321 h0 Q 91 [some (.inr (.inr 201)), some (.inl r7), some (.inl r15)] [.inl r30] 321 h31
                refine ar_if_eq (pc := 91) (x := r30) (tgt := 98) (off := 7) (by decide +kernel) (by decide) (fun c32 => ?_) (fun c32 => ?_)
                · replace H := H.1 c32
                  refine ar_iconst (pc := 98) (z := 0) (by decide +kernel) (by unfold am_i32; omega) ?_
                  exact ar_zret (pc := 99) (x := 0) (by decide +kernel) rfl rfl (by decide) H
                · replace H := H.2 c32
                  refine ar_iconst (pc := 94) (z := 1) (by decide +kernel) (by unfold am_i32; omega) ?_
                  refine ar_goto (pc := 95) (tgt := 99) (off := 4) (by decide +kernel) (by decide) ?_
                  exact ar_zret (pc := 99) (x := 1) (by decide +kernel) rfl rfl (by decide) H
            · replace H := H.2 c24
              refine ar_iconst (pc := 71) (z := 0) (by decide +kernel) (by unfold am_i32; omega) ?_
              exact ar_zret (pc := 72) (x := 0) (by decide +kernel) rfl rfl (by decide) H
        · replace H := H.2 c14
          refine ar_iconst (pc := 40) (z := 0) (by decide +kernel) (by unfold am_i32; omega) ?_
          exact ar_zret (pc := 41) (x := 0) (by decide +kernel) rfl rfl (by decide) H
    · replace H := H.2 c6
      refine ar_iconst (pc := 14) (z := 0) (by decide +kernel) (by unfold am_i32; omega) ?_
      exact ar_zret (pc := 15) (x := 0) (by decide +kernel) rfl rfl (by decide) H

/-! ByteIntervals$Parser.aim(I)V -/
theorem B_X1_aim_0 {d : Nat} {Q : Int → am_H → Prop} {h : am_H} {v1 : Int} (H : (v1 < 0 → Q 0 h) ∧ (0 ≤ v1 → (300 ≤ v1 → Q 0 h) ∧ (v1 < 300 → (am_kd 321 (h 201 6) = 15) ∧ ((am_kd 321 ((h 201 6) + 4) = 0) ∧ ((v1 < am_ln ((h 201 6) + 4)) ∧ (Q 0 (am_up h ((h 201 6) + 4) v1 (am_ior (h ((h 201 6) + 4) v1) (am_ishl (h 201 7) 5))))))))) : wf d M_X1_aim Q 0 [some (.inr (.inr 201)), some (.inl v1)] [] h := by
  intro h0
  refine ar_iload_n (pc := 0) (i := 1) (k0 := 1) (by decide +kernel) rfl rfl ?_
  refine ar_if_lt (pc := 1) (x := v1) (tgt := 29) (off := 28) (by decide +kernel) (by decide) (fun c1 => ?_) (fun c1 => ?_)
  · replace H := H.1 c1
    exact ar_vret (pc := 29) (by decide +kernel) rfl rfl H
  · replace H := H.2 c1
    refine ar_iload_n (pc := 4) (i := 1) (k0 := 1) (by decide +kernel) rfl rfl ?_
    refine ar_sipush (pc := 5) (z := 300) (by decide +kernel) (by omega) ?_
    refine ar_icmp_ge (pc := 8) (x := v1) (y := 300) (tgt := 29) (off := 21) (by decide +kernel) (by decide) (fun c2 => ?_) (fun c2 => ?_)
    · replace H := H.1 c2
      exact ar_vret (pc := 29) (by decide +kernel) rfl rfl H
    · replace H := H.2 c2
      refine ar_aload_n (pc := 11) (i := 0) (k0 := 0) (by decide +kernel) rfl rfl ?_
      refine ar_getV (pc := 12) (a := 201) (v := .inr (.inr (h 201 6))) 1 6 (by decide +kernel) k_201 rfl (by decide) wf_RX1_24 rfl ?_
      obtain ⟨g3, H⟩ := H
      refine ar_getFNV (pc := 15) (a := (h 201 6)) (b := ((h 201 6) + 4)) 5 4 (by decide +kernel) g3 rfl (by decide) wg_RX1_127 rfl (fun _ => rfl) rfl ?_
      refine ar_iload_n (pc := 18) (i := 1) (k0 := 1) (by decide +kernel) rfl rfl ?_
      refine ar_dup2 (pc := 19) (by decide +kernel) trivial trivial ?_
      obtain ⟨g4, H⟩ := H
      obtain ⟨g5, H⟩ := H
      refine ar_iald (pc := 20) (a := ((h 201 6) + 4)) (i := v1) (by decide +kernel) g4 c1 g5 ?_
      refine ar_aload_n (pc := 21) (i := 0) (k0 := 0) (by decide +kernel) rfl rfl ?_
      refine ar_getV (pc := 22) (a := 201) (v := .inl (h 201 7)) 1 7 (by decide +kernel) k_201 rfl (by decide) wf_RX1_48 rfl ?_
      refine ar_iconst (pc := 25) (z := 5) (by decide +kernel) (by unfold am_i32; omega) ?_
      refine ar_ishl (pc := 26) (x := (h 201 7)) (y := 5) (by decide +kernel) ?_
      refine ar_ior (pc := 27) (x := (h ((h 201 6) + 4) v1)) (y := (am_ishl (h 201 7) 5)) (by decide +kernel) ?_
      refine ar_iast (pc := 28) (a := ((h 201 6) + 4)) (i := v1) (z := (am_ior (h ((h 201 6) + 4) v1) (am_ishl (h 201 7) 5))) (by decide +kernel) g4 c1 g5 ?_
      exact ar_vret (pc := 29) (by decide +kernel) rfl rfl H

/-! ByteIntervals$Parser.readName()Z -/
theorem B_X1_readName_0 {d : Nat} {Q : Int → am_H → Prop} {h : am_H} (H : (¬ (h 201 8) = 4 → wf (d + 1) M_X1_readName Q 21 [some (.inr (.inr 201)), some (.inl (am_w32 ((h 201 4) - 32))), none, none] [.inl 0] h) ∧ ((h 201 8) = 4 → wf (d + 1) M_X1_readName Q 21 [some (.inr (.inr 201)), some (.inl (am_w32 ((h 201 4) - 32))), none, none] [.inl 1] h)) : wf (d + 1) M_X1_readName Q 0 [some (.inr (.inr 201)), none, none, none] [] h := by
  intro h0
  refine ar_aload_n (pc := 0) (i := 0) (k0 := 0) (by decide +kernel) rfl rfl ?_
  refine ar_getV (pc := 1) (a := 201) (v := .inl (h 201 4)) 1 4 (by decide +kernel) k_201 rfl (by decide) wf_RX1_45 rfl ?_
  refine ar_bipush (pc := 4) (z := 32) (by decide +kernel) (by omega) ?_
  refine ar_isub (pc := 6) (x := (h 201 4)) (y := 32) (by decide +kernel) ?_
  refine ar_istore_n (pc := 7) (i := 1) (k0 := 1) (ls2 := [some (.inr (.inr 201)), some (.inl (am_w32 ((h 201 4) - 32))), none, none]) (by decide +kernel) rfl (by decide) rfl ?_
  refine ar_aload_n (pc := 8) (i := 0) (k0 := 0) (by decide +kernel) rfl rfl ?_
  refine ar_getV (pc := 9) (a := 201) (v := .inl (h 201 8)) 1 8 (by decide +kernel) k_201 rfl (by decide) wf_RX1_133 rfl ?_
  refine ar_iconst (pc := 12) (z := 4) (by decide +kernel) (by unfold am_i32; omega) ?_
  refine ar_icmp_ne (pc := 13) (x := (h 201 8)) (y := 4) (tgt := 20) (off := 7) (by decide +kernel) (by decide) (fun c1 => ?_) (fun c1 => ?_)
  · replace H := H.1 c1
    refine ar_iconst (pc := 20) (z := 0) (by decide +kernel) (by unfold am_i32; omega) ?_
    exact H h0
  · replace H := H.2 c1
    refine ar_iconst (pc := 16) (z := 1) (by decide +kernel) (by unfold am_i32; omega) ?_
    refine ar_goto (pc := 17) (tgt := 21) (off := 4) (by decide +kernel) (by decide) ?_
    exact H h0
theorem B_X1_readName_21 {d : Nat} {Q : Int → am_H → Prop} {h : am_H} {v1 s0 : Int} (H : (¬ (h 201 4) = 64 → (¬ (h 201 4) = 6 → cf d M_X6_isField [.inl v1] h (fun r3 h4 => (¬ r3 = 0 → wf (d + 1) M_X1_readName Q 154 [some (.inr (.inr 201)), some (.inl v1), some (.inl s0), none] [] h4) ∧ (r3 = 0 → ((h4 201 4) = 20 → wf (d + 1) M_X1_readName Q 154 [some (.inr (.inr 201)), some (.inl v1), some (.inl s0), none] [] h4) ∧ (¬ (h4 201 4) = 20 → ((h4 201 4) = 8 → wf (d + 1) M_X1_readName Q 154 [some (.inr (.inr 201)), some (.inl v1), some (.inl s0), none] [] h4) ∧ (¬ (h4 201 4) = 8 → ((h4 201 4) = 21 → wf (d + 1) M_X1_readName Q 154 [some (.inr (.inr 201)), some (.inl v1), some (.inl s0), none] [] h4) ∧ (¬ (h4 201 4) = 21 → ((h4 201 4) = 22 → wf (d + 1) M_X1_readName Q 154 [some (.inr (.inr 201)), some (.inl v1), some (.inl s0), none] [] h4) ∧ (¬ (h4 201 4) = 22 → cf d M_X1_fail [.inr (.inr 201), .inl 1] h4 (fun r10 h11 => (r10 = 0 ∨ r10 = 1) ∧ (Q r10 h11))))))))) ∧ ((h 201 4) = 6 → cf d M_X1_emit [.inr (.inr 201), .inl 2, .inl 0] h (fun r13 h14 => (r13 < 0 → Q 0 h14) ∧ (0 ≤ r13 → cf d M_X1_advance [.inr (.inr 201)] h14 (fun r16 h17 => (r16 = 0 → Q 0 h17) ∧ (¬ r16 = 0 → Q 1 h17)))))) ∧ ((h 201 4) = 64 → cf d M_X1_numberHere [.inr (.inr 201)] h (fun r19 h20 => (r19 ≤ 9999 → cf d M_X1_numberHere [.inr (.inr 201)] h20 (fun r22 h23 => cf d M_X1_emit [.inr (.inr 201), .inl 0, .inl r22] h23 (fun r24 h25 => (r24 < 0 → Q 0 h25) ∧ (0 ≤ r24 → cf d M_X1_advance [.inr (.inr 201)] h25 (fun r27 h28 => (r27 = 0 → Q 0 h28) ∧ (¬ r27 = 0 → Q 1 h28)))))) ∧ (9999 < r19 → cf d M_X1_fail [.inr (.inr 201), .inl 2] h20 (fun r30 h31 => (r30 = 0 ∨ r30 = 1) ∧ (Q r30 h31)))))) : wf (d + 1) M_X1_readName Q 21 [some (.inr (.inr 201)), some (.inl v1), none, none] [.inl s0] h := by
  intro h0
  refine ar_istore_n (pc := 21) (i := 2) (k0 := 2) (ls2 := [some (.inr (.inr 201)), some (.inl v1), some (.inl s0), none]) (by decide +kernel) rfl (by decide) rfl ?_
  refine ar_aload_n (pc := 22) (i := 0) (k0 := 0) (by decide +kernel) rfl rfl ?_
  refine ar_getV (pc := 23) (a := 201) (v := .inl (h 201 4)) 1 4 (by decide +kernel) k_201 rfl (by decide) wf_RX1_45 rfl ?_
  refine ar_bipush (pc := 26) (z := 64) (by decide +kernel) (by omega) ?_
  refine ar_icmp_ne (pc := 28) (x := (h 201 4)) (y := 64) (tgt := 74) (off := 46) (by decide +kernel) (by decide) (fun c1 => ?_) (fun c1 => ?_)
  · replace H := H.1 c1
    refine ar_aload_n (pc := 74) (i := 0) (k0 := 0) (by decide +kernel) rfl rfl ?_
    refine ar_getV (pc := 75) (a := 201) (v := .inl (h 201 4)) 1 4 (by decide +kernel) k_201 rfl (by decide) wf_RX1_45 rfl ?_
    refine ar_bipush (pc := 78) (z := 6) (by decide +kernel) (by omega) ?_
    refine ar_icmp_ne (pc := 80) (x := (h 201 4)) (y := 6) (tgt := 105) (off := 25) (by decide +kernel) (by decide) (fun c2 => ?_) (fun c2 => ?_)
    · replace H := H.1 c2
      refine ar_iload_n (pc := 105) (i := 1) (k0 := 1) (by decide +kernel) rfl rfl ?_
      refine ar_callSN (pc := 106) (M2 := M_X6_isField) (as := [.inl v1]) (n2 := 321) (st := []) (by decide +kernel) rfl wn_RX1_108 ws_yX6_isField wz_RX6 wc_yX6_isField ⟨by decide, by decide, rfl⟩ (by decide) (Nat.le_of_ble_eq_true rfl) (Nat.le_refl _) (Nat.le_refl _) (am_Cl_mono H (fun r3 h4 H => ?_))
      show am_Wp true (d + 1) M_X1_readName 321 321 h0 Q 109 [some (.inr (.inr 201)), some (.inl v1), some (.inl s0), none] [.inl r3] 321 h4
      refine ar_if_ne (pc := 109) (x := r3) (tgt := 154) (off := 45) (by decide +kernel) (by decide) (fun c5 => ?_) (fun c5 => ?_)
      · replace H := H.1 c5
        exact H h0
      · replace H := H.2 c5
        refine ar_aload_n (pc := 112) (i := 0) (k0 := 0) (by decide +kernel) rfl rfl ?_
        refine ar_getV (pc := 113) (a := 201) (v := .inl (h4 201 4)) 1 4 (by decide +kernel) k_201 rfl (by decide) wf_RX1_45 rfl ?_
        refine ar_bipush (pc := 116) (z := 20) (by decide +kernel) (by omega) ?_
        refine ar_icmp_eq (pc := 118) (x := (h4 201 4)) (y := 20) (tgt := 154) (off := 36) (by decide +kernel) (by decide) (fun c6 => ?_) (fun c6 => ?_)
        · replace H := H.1 c6
          exact H h0
        · replace H := H.2 c6
          refine ar_aload_n (pc := 121) (i := 0) (k0 := 0) (by decide +kernel) rfl rfl ?_
          refine ar_getV (pc := 122) (a := 201) (v := .inl (h4 201 4)) 1 4 (by decide +kernel) k_201 rfl (by decide) wf_RX1_45 rfl ?_
          refine ar_bipush (pc := 125) (z := 8) (by decide +kernel) (by omega) ?_
          refine ar_icmp_eq (pc := 127) (x := (h4 201 4)) (y := 8) (tgt := 154) (off := 27) (by decide +kernel) (by decide) (fun c7 => ?_) (fun c7 => ?_)
          · replace H := H.1 c7
            exact H h0
          · replace H := H.2 c7
            refine ar_aload_n (pc := 130) (i := 0) (k0 := 0) (by decide +kernel) rfl rfl ?_
            refine ar_getV (pc := 131) (a := 201) (v := .inl (h4 201 4)) 1 4 (by decide +kernel) k_201 rfl (by decide) wf_RX1_45 rfl ?_
            refine ar_bipush (pc := 134) (z := 21) (by decide +kernel) (by omega) ?_
            refine ar_icmp_eq (pc := 136) (x := (h4 201 4)) (y := 21) (tgt := 154) (off := 18) (by decide +kernel) (by decide) (fun c8 => ?_) (fun c8 => ?_)
            · replace H := H.1 c8
              exact H h0
            · replace H := H.2 c8
              refine ar_aload_n (pc := 139) (i := 0) (k0 := 0) (by decide +kernel) rfl rfl ?_
              refine ar_getV (pc := 140) (a := 201) (v := .inl (h4 201 4)) 1 4 (by decide +kernel) k_201 rfl (by decide) wf_RX1_45 rfl ?_
              refine ar_bipush (pc := 143) (z := 22) (by decide +kernel) (by omega) ?_
              refine ar_icmp_eq (pc := 145) (x := (h4 201 4)) (y := 22) (tgt := 154) (off := 9) (by decide +kernel) (by decide) (fun c9 => ?_) (fun c9 => ?_)
              · replace H := H.1 c9
                exact H h0
              · replace H := H.2 c9
                refine ar_aload_n (pc := 148) (i := 0) (k0 := 0) (by decide +kernel) rfl rfl ?_
                refine ar_iconst (pc := 149) (z := 1) (by decide +kernel) (by unfold am_i32; omega) ?_
                refine ar_callV (pc := 150) (M2 := M_X1_fail) (a := 201) (ci := 1) (as := [.inl 1]) (n2 := 321) (st := []) (by decide +kernel) rfl wm_RX1_124 wi_yX1_fail wl_yX1_fail k_201 rfl wz_RX1 wc_yX1_fail ⟨by decide, by decide, rfl⟩ (by decide) (Nat.le_of_ble_eq_true rfl) (Nat.le_refl _) (Nat.le_refl _) (am_Cl_mono H (fun r10 h11 H => ?_))
                show am_Wp true (d + 1) M_X1_readName 321 321 h0 Q 153 [some (.inr (.inr 201)), some (.inl v1), some (.inl s0), none] [.inl r10] 321 h11
                obtain ⟨g12, H⟩ := H
                exact ar_zret (pc := 153) (x := r10) (by decide +kernel) rfl rfl g12 H
    · replace H := H.2 c2
      refine ar_aload_n (pc := 83) (i := 0) (k0 := 0) (by decide +kernel) rfl rfl ?_
      refine ar_iconst (pc := 84) (z := 2) (by decide +kernel) (by unfold am_i32; omega) ?_
      refine ar_iconst (pc := 85) (z := 0) (by decide +kernel) (by unfold am_i32; omega) ?_
      refine ar_callV (pc := 86) (M2 := M_X1_emit) (a := 201) (ci := 1) (as := [.inl 2, .inl 0]) (n2 := 321) (st := []) (by decide +kernel) rfl wm_RX1_154 wi_yX1_emit wl_yX1_emit k_201 rfl wz_RX1 wc_yX1_emit ⟨by decide, by decide, rfl⟩ (by decide) (Nat.le_of_ble_eq_true rfl) (Nat.le_refl _) (Nat.le_refl _) (am_Cl_mono H (fun r13 h14 H => ?_))
      show am_Wp true (d + 1) M_X1_readName 321 321 h0 Q 89 [some (.inr (.inr 201)), some (.inl v1), some (.inl s0), none] [.inl r13] 321 h14
      refine ar_if_lt (pc := 89) (x := r13) (tgt := 103) (off := 14) (by decide +kernel) (by decide) (fun c15 => ?_) (fun c15 => ?_)
      · replace H := H.1 c15
        refine ar_iconst (pc := 103) (z := 0) (by decide +kernel) (by unfold am_i32; omega) ?_
        exact ar_zret (pc := 104) (x := 0) (by decide +kernel) rfl rfl (by decide) H
      · replace H := H.2 c15
        refine ar_aload_n (pc := 92) (i := 0) (k0 := 0) (by decide +kernel) rfl rfl ?_
        refine ar_callV (pc := 93) (M2 := M_X1_advance) (a := 201) (ci := 1) (as := []) (n2 := 321) (st := []) (by decide +kernel) rfl wm_RX1_121 wi_yX1_advance wl_yX1_advance k_201 rfl wz_RX1 wc_yX1_advance ⟨by decide, by decide, rfl⟩ (by decide) (Nat.le_of_ble_eq_true rfl) (Nat.le_refl _) (Nat.le_refl _) (am_Cl_mono H (fun r16 h17 H => ?_))
        show am_Wp true (d + 1) M_X1_readName 321 321 h0 Q 96 [some (.inr (.inr 201)), some (.inl v1), some (.inl s0), none] [.inl r16] 321 h17
        refine ar_if_eq (pc := 96) (x := r16) (tgt := 103) (off := 7) (by decide +kernel) (by decide) (fun c18 => ?_) (fun c18 => ?_)
        · replace H := H.1 c18
          refine ar_iconst (pc := 103) (z := 0) (by decide +kernel) (by unfold am_i32; omega) ?_
          exact ar_zret (pc := 104) (x := 0) (by decide +kernel) rfl rfl (by decide) H
        · replace H := H.2 c18
          refine ar_iconst (pc := 99) (z := 1) (by decide +kernel) (by unfold am_i32; omega) ?_
          refine ar_goto (pc := 100) (tgt := 104) (off := 4) (by decide +kernel) (by decide) ?_
          exact ar_zret (pc := 104) (x := 1) (by decide +kernel) rfl rfl (by decide) H
  · replace H := H.2 c1
    refine ar_aload_n (pc := 31) (i := 0) (k0 := 0) (by decide +kernel) rfl rfl ?_
    refine ar_callV (pc := 32) (M2 := M_X1_numberHere) (a := 201) (ci := 1) (as := []) (n2 := 321) (st := []) (by decide +kernel) rfl wm_RX1_167 wi_yX1_numberHere wl_yX1_numberHere k_201 rfl wz_RX1 wc_yX1_numberHere ⟨by decide, by decide, rfl⟩ (by decide) (Nat.le_of_ble_eq_true rfl) (Nat.le_refl _) (Nat.le_refl _) (am_Cl_mono H (fun r19 h20 H => ?_))
    show am_Wp true (d + 1) M_X1_readName 321 321 h0 Q 35 [some (.inr (.inr 201)), some (.inl v1), some (.inl s0), none] [.inl r19] 321 h20
    refine ar_sipush (pc := 35) (z := 9999) (by decide +kernel) (by omega) ?_
    refine ar_icmp_le (pc := 38) (x := r19) (y := 9999) (tgt := 49) (off := 11) (by decide +kernel) (by decide) (fun c21 => ?_) (fun c21 => ?_)
    · replace H := H.1 c21
      refine ar_aload_n (pc := 49) (i := 0) (k0 := 0) (by decide +kernel) rfl rfl ?_
      refine ar_iconst (pc := 50) (z := 0) (by decide +kernel) (by unfold am_i32; omega) ?_
      refine ar_aload_n (pc := 51) (i := 0) (k0 := 0) (by decide +kernel) rfl rfl ?_
      refine ar_callV (pc := 52) (M2 := M_X1_numberHere) (a := 201) (ci := 1) (as := []) (n2 := 321) (st := [.inl 0, .inr (.inr 201)]) (by decide +kernel) rfl wm_RX1_167 wi_yX1_numberHere wl_yX1_numberHere k_201 rfl wz_RX1 wc_yX1_numberHere ⟨by decide, by decide, rfl⟩ (by decide) (Nat.le_of_ble_eq_true rfl) (Nat.le_refl _) (Nat.le_refl _) (am_Cl_mono H (fun r22 h23 H => ?_))
      show am_Wp true (d + 1) M_X1_readName 321 321 h0 Q 55 [some (.inr (.inr 201)), some (.inl v1), some (.inl s0), none] [.inl r22, .inl 0, .inr (.inr 201)] 321 h23
      refine ar_callV (pc := 55) (M2 := M_X1_emit) (a := 201) (ci := 1) (as := [.inl 0, .inl r22]) (n2 := 321) (st := []) (by decide +kernel) rfl wm_RX1_154 wi_yX1_emit wl_yX1_emit k_201 rfl wz_RX1 wc_yX1_emit ⟨by decide, by decide, rfl⟩ (by decide) (Nat.le_of_ble_eq_true rfl) (Nat.le_refl _) (Nat.le_refl _) (am_Cl_mono H (fun r24 h25 H => ?_))
      show am_Wp true (d + 1) M_X1_readName 321 321 h0 Q 58 [some (.inr (.inr 201)), some (.inl v1), some (.inl s0), none] [.inl r24] 321 h25
      refine ar_if_lt (pc := 58) (x := r24) (tgt := 72) (off := 14) (by decide +kernel) (by decide) (fun c26 => ?_) (fun c26 => ?_)
      · replace H := H.1 c26
        refine ar_iconst (pc := 72) (z := 0) (by decide +kernel) (by unfold am_i32; omega) ?_
        exact ar_zret (pc := 73) (x := 0) (by decide +kernel) rfl rfl (by decide) H
      · replace H := H.2 c26
        refine ar_aload_n (pc := 61) (i := 0) (k0 := 0) (by decide +kernel) rfl rfl ?_
        refine ar_callV (pc := 62) (M2 := M_X1_advance) (a := 201) (ci := 1) (as := []) (n2 := 321) (st := []) (by decide +kernel) rfl wm_RX1_121 wi_yX1_advance wl_yX1_advance k_201 rfl wz_RX1 wc_yX1_advance ⟨by decide, by decide, rfl⟩ (by decide) (Nat.le_of_ble_eq_true rfl) (Nat.le_refl _) (Nat.le_refl _) (am_Cl_mono H (fun r27 h28 H => ?_))
        show am_Wp true (d + 1) M_X1_readName 321 321 h0 Q 65 [some (.inr (.inr 201)), some (.inl v1), some (.inl s0), none] [.inl r27] 321 h28
        refine ar_if_eq (pc := 65) (x := r27) (tgt := 72) (off := 7) (by decide +kernel) (by decide) (fun c29 => ?_) (fun c29 => ?_)
        · replace H := H.1 c29
          refine ar_iconst (pc := 72) (z := 0) (by decide +kernel) (by unfold am_i32; omega) ?_
          exact ar_zret (pc := 73) (x := 0) (by decide +kernel) rfl rfl (by decide) H
        · replace H := H.2 c29
          refine ar_iconst (pc := 68) (z := 1) (by decide +kernel) (by unfold am_i32; omega) ?_
          refine ar_goto (pc := 69) (tgt := 73) (off := 4) (by decide +kernel) (by decide) ?_
          exact ar_zret (pc := 73) (x := 1) (by decide +kernel) rfl rfl (by decide) H
    · replace H := H.2 c21
      refine ar_aload_n (pc := 41) (i := 0) (k0 := 0) (by decide +kernel) rfl rfl ?_
      refine ar_iconst (pc := 42) (z := 2) (by decide +kernel) (by unfold am_i32; omega) ?_
      refine ar_callV (pc := 43) (M2 := M_X1_fail) (a := 201) (ci := 1) (as := [.inl 2]) (n2 := 321) (st := []) (by decide +kernel) rfl wm_RX1_124 wi_yX1_fail wl_yX1_fail k_201 rfl wz_RX1 wc_yX1_fail ⟨by decide, by decide, rfl⟩ (by decide) (Nat.le_of_ble_eq_true rfl) (Nat.le_refl _) (Nat.le_refl _) (am_Cl_mono H (fun r30 h31 H => ?_))
      show am_Wp true (d + 1) M_X1_readName 321 321 h0 Q 46 [some (.inr (.inr 201)), some (.inl v1), some (.inl s0), none] [.inl r30] 321 h31
      refine ar_goto (pc := 46) (tgt := 73) (off := 27) (by decide +kernel) (by decide) ?_
      obtain ⟨g32, H⟩ := H
      exact ar_zret (pc := 73) (x := r30) (by decide +kernel) rfl rfl g32 H
theorem B_X1_readName_154 {d : Nat} {Q : Int → am_H → Prop} {h : am_H} {v1 v2 : Int} (H : cf d M_X6_isField [.inl v1] h (fun r1 h2 => (¬ r1 = 0 → wf (d + 1) M_X1_readName Q 170 [some (.inr (.inr 201)), some (.inl v1), some (.inl v2), none] [] h2) ∧ (r1 = 0 → (¬ (h2 201 4) = 20 → wf (d + 1) M_X1_readName Q 175 [some (.inr (.inr 201)), some (.inl v1), some (.inl v2), none] [.inl 0] h2) ∧ ((h2 201 4) = 20 → wf (d + 1) M_X1_readName Q 170 [some (.inr (.inr 201)), some (.inl v1), some (.inl v2), none] [] h2)))) : wf (d + 1) M_X1_readName Q 154 [some (.inr (.inr 201)), some (.inl v1), some (.inl v2), none] [] h := by
  intro h0
  refine ar_iload_n (pc := 154) (i := 1) (k0 := 1) (by decide +kernel) rfl rfl ?_
  refine ar_callSN (pc := 155) (M2 := M_X6_isField) (as := [.inl v1]) (n2 := 321) (st := []) (by decide +kernel) rfl wn_RX1_108 ws_yX6_isField wz_RX6 wc_yX6_isField ⟨by decide, by decide, rfl⟩ (by decide) (Nat.le_of_ble_eq_true rfl) (Nat.le_refl _) (Nat.le_refl _) (am_Cl_mono H (fun r1 h2 H => ?_))
  show am_Wp true (d + 1) M_X1_readName 321 321 h0 Q 158 [some (.inr (.inr 201)), some (.inl v1), some (.inl v2), none] [.inl r1] 321 h2
  refine ar_if_ne (pc := 158) (x := r1) (tgt := 170) (off := 12) (by decide +kernel) (by decide) (fun c3 => ?_) (fun c3 => ?_)
  · replace H := H.1 c3
    exact H h0
  · replace H := H.2 c3
    refine ar_aload_n (pc := 161) (i := 0) (k0 := 0) (by decide +kernel) rfl rfl ?_
    refine ar_getV (pc := 162) (a := 201) (v := .inl (h2 201 4)) 1 4 (by decide +kernel) k_201 rfl (by decide) wf_RX1_45 rfl ?_
    refine ar_bipush (pc := 165) (z := 20) (by decide +kernel) (by omega) ?_
    refine ar_icmp_ne (pc := 167) (x := (h2 201 4)) (y := 20) (tgt := 174) (off := 7) (by decide +kernel) (by decide) (fun c4 => ?_) (fun c4 => ?_)
    · replace H := H.1 c4
      refine ar_iconst (pc := 174) (z := 0) (by decide +kernel) (by unfold am_i32; omega) ?_
      exact H h0
    · replace H := H.2 c4
      exact H h0
theorem B_X1_readName_170 {d : Nat} {Q : Int → am_H → Prop} {h : am_H} {v1 v2 : Int} (H : wf (d + 1) M_X1_readName Q 175 [some (.inr (.inr 201)), some (.inl v1), some (.inl v2), none] [.inl 1] h) : wf (d + 1) M_X1_readName Q 170 [some (.inr (.inr 201)), some (.inl v1), some (.inl v2), none] [] h := by
  intro h0
  refine ar_iconst (pc := 170) (z := 1) (by decide +kernel) (by unfold am_i32; omega) ?_
  refine ar_goto (pc := 171) (tgt := 175) (off := 4) (by decide +kernel) (by decide) ?_
  exact H h0
theorem B_X1_readName_175 {d : Nat} {Q : Int → am_H → Prop} {h : am_H} {v1 v2 s0 : Int} (H : (¬ v2 = s0 → cf d M_X6_isField [.inl v1] h (fun r2 h3 => (r2 = 0 → (¬ (h3 201 4) = 20 → (¬ (h3 201 4) = 8 → (¬ (h3 201 4) = 21 → wf (d + 1) M_X1_readName Q 275 [some (.inr (.inr 201)), none, none, none] [.inl 6, .inr (.inr 201)] h3) ∧ ((h3 201 4) = 21 → wf (d + 1) M_X1_readName Q 275 [some (.inr (.inr 201)), none, none, none] [.inl 5, .inr (.inr 201)] h3)) ∧ ((h3 201 4) = 8 → cf d M_X1_emit [.inr (.inr 201), .inl 4, .inl 0] h3 (fun _ h9 => wf (d + 1) M_X1_readName Q 280 [some (.inr (.inr 201)), none, none, none] [] h9))) ∧ ((h3 201 4) = 20 → cf d M_X1_emit [.inr (.inr 201), .inl 3, .inl 0] (am_up h3 201 11 1) (fun _ h11 => wf (d + 1) M_X1_readName Q 280 [some (.inr (.inr 201)), none, none, none] [] h11))) ∧ (¬ r2 = 0 → cf d M_X1_emit [.inr (.inr 201), .inl 1, .inl v1] (am_up h3 201 10 (am_ior (h3 201 10) (am_ishl 1 v1))) (fun _ h13 => wf (d + 1) M_X1_readName Q 280 [some (.inr (.inr 201)), none, none, none] [] h13)))) ∧ (v2 = s0 → cf d M_X1_fail [.inr (.inr 201), .inl 5] h (fun r14 h15 => (r14 = 0 ∨ r14 = 1) ∧ (Q r14 h15)))) : wf (d + 1) M_X1_readName Q 175 [some (.inr (.inr 201)), some (.inl v1), some (.inl v2), none] [.inl s0] h := by
  intro h0
  refine ar_istore_n (pc := 175) (i := 3) (k0 := 3) (ls2 := [some (.inr (.inr 201)), some (.inl v1), some (.inl v2), some (.inl s0)]) (by decide +kernel) rfl (by decide) rfl ?_
  refine ar_iload_n (pc := 176) (i := 2) (k0 := 2) (by decide +kernel) rfl rfl ?_
  refine ar_iload_n (pc := 177) (i := 3) (k0 := 3) (by decide +kernel) rfl rfl ?_
  refine ar_icmp_ne (pc := 178) (x := v2) (y := s0) (tgt := 187) (off := 9) (by decide +kernel) (by decide) (fun c1 => ?_) (fun c1 => ?_)
  · replace H := H.1 c1
    refine ar_iload_n (pc := 187) (i := 1) (k0 := 1) (by decide +kernel) rfl rfl ?_
    refine ar_callSN (pc := 188) (M2 := M_X6_isField) (as := [.inl v1]) (n2 := 321) (st := []) (by decide +kernel) rfl wn_RX1_108 ws_yX6_isField wz_RX6 wc_yX6_isField ⟨by decide, by decide, rfl⟩ (by decide) (Nat.le_of_ble_eq_true rfl) (Nat.le_refl _) (Nat.le_refl _) (am_Cl_mono H (fun r2 h3 H => ?_))
    show am_Wp true (d + 1) M_X1_readName 321 321 h0 Q 191 [some (.inr (.inr 201)), some (.inl v1), some (.inl v2), some (.inl s0)] [.inl r2] 321 h3
    refine ar_if_eq (pc := 191) (x := r2) (tgt := 216) (off := 25) (by decide +kernel) (by decide) (fun c4 => ?_) (fun c4 => ?_)
    · replace H := H.1 c4
      refine ar_aload_n (pc := 216) (i := 0) (k0 := 0) (by decide +kernel) rfl rfl ?_
      refine ar_getV (pc := 217) (a := 201) (v := .inl (h3 201 4)) 1 4 (by decide +kernel) k_201 rfl (by decide) wf_RX1_45 rfl ?_
      refine ar_bipush (pc := 220) (z := 20) (by decide +kernel) (by omega) ?_
      refine ar_icmp_ne (pc := 222) (x := (h3 201 4)) (y := 20) (tgt := 240) (off := 18) (by decide +kernel) (by decide) (fun c5 => ?_) (fun c5 => ?_)
      · replace H := H.1 c5
        refine ar_aload_n (pc := 240) (i := 0) (k0 := 0) (by decide +kernel) rfl rfl ?_
        refine ar_getV (pc := 241) (a := 201) (v := .inl (h3 201 4)) 1 4 (by decide +kernel) k_201 rfl (by decide) wf_RX1_45 rfl ?_
        refine ar_bipush (pc := 244) (z := 8) (by decide +kernel) (by omega) ?_
        refine ar_icmp_ne (pc := 246) (x := (h3 201 4)) (y := 8) (tgt := 259) (off := 13) (by decide +kernel) (by decide) (fun c6 => ?_) (fun c6 => ?_)
        · replace H := H.1 c6
          refine ar_aload_n (pc := 259) (i := 0) (k0 := 0) (by decide +kernel) rfl rfl ?_
          refine ar_aload_n (pc := 260) (i := 0) (k0 := 0) (by decide +kernel) rfl rfl ?_
          refine ar_getV (pc := 261) (a := 201) (v := .inl (h3 201 4)) 1 4 (by decide +kernel) k_201 rfl (by decide) wf_RX1_45 rfl ?_
          refine ar_bipush (pc := 264) (z := 21) (by decide +kernel) (by omega) ?_
          refine ar_icmp_ne (pc := 266) (x := (h3 201 4)) (y := 21) (tgt := 273) (off := 7) (by decide +kernel) (by decide) (fun c7 => ?_) (fun c7 => ?_)
          · replace H := H.1 c7
            refine ar_bipush (pc := 273) (z := 6) (by decide +kernel) (by omega) ?_
            refine ar_forget [true, false, false, false] rfl ?_
            exact H h0
          · replace H := H.2 c7
            refine ar_iconst (pc := 269) (z := 5) (by decide +kernel) (by unfold am_i32; omega) ?_
            refine ar_goto (pc := 270) (tgt := 275) (off := 5) (by decide +kernel) (by decide) ?_
            refine ar_forget [true, false, false, false] rfl ?_
            exact H h0
        · replace H := H.2 c6
          refine ar_aload_n (pc := 249) (i := 0) (k0 := 0) (by decide +kernel) rfl rfl ?_
          refine ar_iconst (pc := 250) (z := 4) (by decide +kernel) (by unfold am_i32; omega) ?_
          refine ar_iconst (pc := 251) (z := 0) (by decide +kernel) (by unfold am_i32; omega) ?_
          refine ar_callV (pc := 252) (M2 := M_X1_emit) (a := 201) (ci := 1) (as := [.inl 4, .inl 0]) (n2 := 321) (st := []) (by decide +kernel) rfl wm_RX1_154 wi_yX1_emit wl_yX1_emit k_201 rfl wz_RX1 wc_yX1_emit ⟨by decide, by decide, rfl⟩ (by decide) (Nat.le_of_ble_eq_true rfl) (Nat.le_refl _) (Nat.le_refl _) (am_Cl_mono H (fun r8 h9 H => ?_))
          show am_Wp true (d + 1) M_X1_readName 321 321 h0 Q 255 [some (.inr (.inr 201)), some (.inl v1), some (.inl v2), some (.inl s0)] [.inl r8] 321 h9
          refine ar_pop (pc := 255) (by decide +kernel) trivial ?_
          refine ar_goto (pc := 256) (tgt := 280) (off := 24) (by decide +kernel) (by decide) ?_
          refine ar_forget [true, false, false, false] rfl ?_
          exact H h0
      · replace H := H.2 c5
        refine ar_aload_n (pc := 225) (i := 0) (k0 := 0) (by decide +kernel) rfl rfl ?_
        refine ar_iconst (pc := 226) (z := 1) (by decide +kernel) (by unfold am_i32; omega) ?_
        refine ar_putI (pc := 227) (a := 201) (z := 1) 1 11 (by decide +kernel) k_201 rfl (by decide) rfl (fun _ => rfl) rfl wf_RX1_148 ?_
        refine ar_aload_n (pc := 230) (i := 0) (k0 := 0) (by decide +kernel) rfl rfl ?_
        refine ar_iconst (pc := 231) (z := 3) (by decide +kernel) (by unfold am_i32; omega) ?_
        refine ar_iconst (pc := 232) (z := 0) (by decide +kernel) (by unfold am_i32; omega) ?_
        refine ar_callV (pc := 233) (M2 := M_X1_emit) (a := 201) (ci := 1) (as := [.inl 3, .inl 0]) (n2 := 321) (st := []) (by decide +kernel) rfl wm_RX1_154 wi_yX1_emit wl_yX1_emit k_201 rfl wz_RX1 wc_yX1_emit ⟨by decide, by decide, rfl⟩ (by decide) (Nat.le_of_ble_eq_true rfl) (Nat.le_refl _) (Nat.le_refl _) (am_Cl_mono H (fun r10 h11 H => ?_))
        show am_Wp true (d + 1) M_X1_readName 321 321 h0 Q 236 [some (.inr (.inr 201)), some (.inl v1), some (.inl v2), some (.inl s0)] [.inl r10] 321 h11
        refine ar_pop (pc := 236) (by decide +kernel) trivial ?_
        refine ar_goto (pc := 237) (tgt := 280) (off := 43) (by decide +kernel) (by decide) ?_
        refine ar_forget [true, false, false, false] rfl ?_
        exact H h0
    · replace H := H.2 c4
      refine ar_aload_n (pc := 194) (i := 0) (k0 := 0) (by decide +kernel) rfl rfl ?_
      refine ar_dup (pc := 195) (by decide +kernel) trivial ?_
      refine ar_getV (pc := 196) (a := 201) (v := .inl (h3 201 10)) 1 10 (by decide +kernel) k_201 rfl (by decide) wf_RX1_145 rfl ?_
      refine ar_iconst (pc := 199) (z := 1) (by decide +kernel) (by unfold am_i32; omega) ?_
      refine ar_iload_n (pc := 200) (i := 1) (k0 := 1) (by decide +kernel) rfl rfl ?_
      refine ar_ishl (pc := 201) (x := 1) (y := v1) (by decide +kernel) ?_
      refine ar_ior (pc := 202) (x := (h3 201 10)) (y := (am_ishl 1 v1)) (by decide +kernel) ?_
      refine ar_putI (pc := 203) (a := 201) (z := (am_ior (h3 201 10) (am_ishl 1 v1))) 1 10 (by decide +kernel) k_201 rfl (by decide) rfl (fun _ => rfl) rfl wf_RX1_145 ?_
      refine ar_aload_n (pc := 206) (i := 0) (k0 := 0) (by decide +kernel) rfl rfl ?_
      refine ar_iconst (pc := 207) (z := 1) (by decide +kernel) (by unfold am_i32; omega) ?_
      refine ar_iload_n (pc := 208) (i := 1) (k0 := 1) (by decide +kernel) rfl rfl ?_
      refine ar_callV (pc := 209) (M2 := M_X1_emit) (a := 201) (ci := 1) (as := [.inl 1, .inl v1]) (n2 := 321) (st := []) (by decide +kernel) rfl wm_RX1_154 wi_yX1_emit wl_yX1_emit k_201 rfl wz_RX1 wc_yX1_emit ⟨by decide, by decide, rfl⟩ (by decide) (Nat.le_of_ble_eq_true rfl) (Nat.le_refl _) (Nat.le_refl _) (am_Cl_mono H (fun r12 h13 H => ?_))
      show am_Wp true (d + 1) M_X1_readName 321 321 h0 Q 212 [some (.inr (.inr 201)), some (.inl v1), some (.inl v2), some (.inl s0)] [.inl r12] 321 h13
      refine ar_pop (pc := 212) (by decide +kernel) trivial ?_
      refine ar_goto (pc := 213) (tgt := 280) (off := 67) (by decide +kernel) (by decide) ?_
      refine ar_forget [true, false, false, false] rfl ?_
      exact H h0
  · replace H := H.2 c1
    refine ar_aload_n (pc := 181) (i := 0) (k0 := 0) (by decide +kernel) rfl rfl ?_
    refine ar_iconst (pc := 182) (z := 5) (by decide +kernel) (by unfold am_i32; omega) ?_
    refine ar_callV (pc := 183) (M2 := M_X1_fail) (a := 201) (ci := 1) (as := [.inl 5]) (n2 := 321) (st := []) (by decide +kernel) rfl wm_RX1_124 wi_yX1_fail wl_yX1_fail k_201 rfl wz_RX1 wc_yX1_fail ⟨by decide, by decide, rfl⟩ (by decide) (Nat.le_of_ble_eq_true rfl) (Nat.le_refl _) (Nat.le_refl _) (am_Cl_mono H (fun r14 h15 H => ?_))
    show am_Wp true (d + 1) M_X1_readName 321 321 h0 Q 186 [some (.inr (.inr 201)), some (.inl v1), some (.inl v2), some (.inl s0)] [.inl r14] 321 h15
    obtain ⟨g16, H⟩ := H
    exact ar_zret (pc := 186) (x := r14) (by decide +kernel) rfl rfl g16 H
theorem B_X1_readName_275 {d : Nat} {Q : Int → am_H → Prop} {h : am_H} {s1 : Int} (H : cf d M_X1_emit [.inr (.inr 201), .inl s1, .inl 0] h (fun _ h2 => wf (d + 1) M_X1_readName Q 280 [some (.inr (.inr 201)), none, none, none] [] h2)) : wf (d + 1) M_X1_readName Q 275 [some (.inr (.inr 201)), none, none, none] [.inl s1, .inr (.inr 201)] h := by
  intro h0
  refine ar_iconst (pc := 275) (z := 0) (by decide +kernel) (by unfold am_i32; omega) ?_
  refine ar_callV (pc := 276) (M2 := M_X1_emit) (a := 201) (ci := 1) (as := [.inl s1, .inl 0]) (n2 := 321) (st := []) (by decide +kernel) rfl wm_RX1_154 wi_yX1_emit wl_yX1_emit k_201 rfl wz_RX1 wc_yX1_emit ⟨by decide, by decide, rfl⟩ (by decide) (Nat.le_of_ble_eq_true rfl) (Nat.le_refl _) (Nat.le_refl _) (am_Cl_mono H (fun r1 h2 H => ?_))
  show am_Wp true (d + 1) M_X1_readName 321 321 h0 Q 279 [some (.inr (.inr 201)), none, none, none] [.inl r1] 321 h2
  refine ar_pop (pc := 279) (by decide +kernel) trivial ?_
  exact H h0
theorem B_X1_readName_280 {d : Nat} {Q : Int → am_H → Prop} {h : am_H} (H : cf d M_X1_advance [.inr (.inr 201)] h (fun r1 h2 => (r1 = 0 ∨ r1 = 1) ∧ (Q r1 h2))) : wf (d + 1) M_X1_readName Q 280 [some (.inr (.inr 201)), none, none, none] [] h := by
  intro h0
  refine ar_aload_n (pc := 280) (i := 0) (k0 := 0) (by decide +kernel) rfl rfl ?_
  refine ar_callV (pc := 281) (M2 := M_X1_advance) (a := 201) (ci := 1) (as := []) (n2 := 321) (st := []) (by decide +kernel) rfl wm_RX1_121 wi_yX1_advance wl_yX1_advance k_201 rfl wz_RX1 wc_yX1_advance ⟨by decide, by decide, rfl⟩ (by decide) (Nat.le_of_ble_eq_true rfl) (Nat.le_refl _) (Nat.le_refl _) (am_Cl_mono H (fun r1 h2 H => ?_))
  show am_Wp true (d + 1) M_X1_readName 321 321 h0 Q 284 [some (.inr (.inr 201)), none, none, none] [.inl r1] 321 h2
  obtain ⟨g3, H⟩ := H
  exact ar_zret (pc := 284) (x := r1) (by decide +kernel) rfl rfl g3 H

/-! ByteIntervals$Parser.readEither()Z -/
theorem B_X1_readEither_0 {d : Nat} {Q : Int → am_H → Prop} {h : am_H} (H : cf d M_X1_readBoth [.inr (.inr 201)] h (fun r1 h2 => wf (d + 1) M_X1_readEither Q 7 [some (.inr (.inr 201)), some (.inl r1), some (.inl 0)] [] h2)) : wf (d + 1) M_X1_readEither Q 0 [some (.inr (.inr 201)), none, none] [] h := by
  intro h0
  refine ar_aload_n (pc := 0) (i := 0) (k0 := 0) (by decide +kernel) rfl rfl ?_
  refine ar_callV (pc := 1) (M2 := M_X1_readBoth) (a := 201) (ci := 1) (as := []) (n2 := 321) (st := []) (by decide +kernel) rfl wm_RX1_219 wi_yX1_readBoth wl_yX1_readBoth k_201 rfl wz_RX1 wc_yX1_readBoth ⟨by decide, by decide, rfl⟩ (by decide) (Nat.le_of_ble_eq_true rfl) (Nat.le_refl _) (Nat.le_refl _) (am_Cl_mono H (fun r1 h2 H => ?_))
  show am_Wp true (d + 1) M_X1_readEither 321 321 h0 Q 4 [some (.inr (.inr 201)), none, none] [.inl r1] 321 h2
  refine ar_istore_n (pc := 4) (i := 1) (k0 := 1) (ls2 := [some (.inr (.inr 201)), some (.inl r1), none]) (by decide +kernel) rfl (by decide) rfl ?_
  refine ar_iconst (pc := 5) (z := 0) (by decide +kernel) (by unfold am_i32; omega) ?_
  refine ar_istore_n (pc := 6) (i := 2) (k0 := 2) (ls2 := [some (.inr (.inr 201)), some (.inl r1), some (.inl 0)]) (by decide +kernel) rfl (by decide) rfl ?_
  exact H h0
theorem B_X1_readEither_7 {d : Nat} {Q : Int → am_H → Prop} {h : am_H} {v1 v2 : Int} (H : (300 ≤ v2 → (v1 = 0 ∨ v1 = 1) ∧ (Q v1 h)) ∧ (v2 < 300 → (v1 = 0 → (v1 = 0 ∨ v1 = 1) ∧ (Q v1 h)) ∧ (¬ v1 = 0 → (¬ (h 201 4) = 17 → (v1 = 0 ∨ v1 = 1) ∧ (Q v1 h)) ∧ ((h 201 4) = 17 → cf d M_X1_advance [.inr (.inr 201)] h (fun r7 h8 => (r7 = 0 → wf (d + 1) M_X1_readEither Q 55 [some (.inr (.inr 201)), none, some (.inl v2)] [] h8) ∧ (¬ r7 = 0 → cf d M_X1_readBoth [.inr (.inr 201)] h8 (fun r10 h11 => (r10 = 0 → wf (d + 1) M_X1_readEither Q 55 [some (.inr (.inr 201)), none, some (.inl v2)] [] h11) ∧ (¬ r10 = 0 → cf d M_X1_emit [.inr (.inr 201), .inl 21, .inl 0] h11 (fun r13 h14 => (r13 < 0 → wf (d + 1) M_X1_readEither Q 55 [some (.inr (.inr 201)), none, some (.inl v2)] [] h14) ∧ (0 ≤ r13 → wf (d + 1) M_X1_readEither Q 56 [some (.inr (.inr 201)), none, some (.inl v2)] [.inl 1] h14)))))))))) : wf (d + 1) M_X1_readEither Q 7 [some (.inr (.inr 201)), some (.inl v1), some (.inl v2)] [] h := by
  intro h0
  refine ar_iload_n (pc := 7) (i := 2) (k0 := 2) (by decide +kernel) rfl rfl ?_
  refine ar_sipush (pc := 8) (z := 300) (by decide +kernel) (by omega) ?_
  refine ar_icmp_ge (pc := 11) (x := v2) (y := 300) (tgt := 63) (off := 52) (by decide +kernel) (by decide) (fun c1 => ?_) (fun c1 => ?_)
  · replace H := H.1 c1
    refine ar_iload_n (pc := 63) (i := 1) (k0 := 1) (by decide +kernel) rfl rfl ?_
    obtain ⟨g2, H⟩ := H
    exact ar_zret (pc := 64) (x := v1) (by decide +kernel) rfl rfl g2 H
  · replace H := H.2 c1
    refine ar_iload_n (pc := 14) (i := 1) (k0 := 1) (by decide +kernel) rfl rfl ?_
    refine ar_if_eq (pc := 15) (x := v1) (tgt := 63) (off := 48) (by decide +kernel) (by decide) (fun c3 => ?_) (fun c3 => ?_)
    · replace H := H.1 c3
      refine ar_iload_n (pc := 63) (i := 1) (k0 := 1) (by decide +kernel) rfl rfl ?_
      obtain ⟨g4, H⟩ := H
      exact ar_zret (pc := 64) (x := v1) (by decide +kernel) rfl rfl g4 H
    · replace H := H.2 c3
      refine ar_aload_n (pc := 18) (i := 0) (k0 := 0) (by decide +kernel) rfl rfl ?_
      refine ar_getV (pc := 19) (a := 201) (v := .inl (h 201 4)) 1 4 (by decide +kernel) k_201 rfl (by decide) wf_RX1_45 rfl ?_
      refine ar_bipush (pc := 22) (z := 17) (by decide +kernel) (by omega) ?_
      refine ar_icmp_ne (pc := 24) (x := (h 201 4)) (y := 17) (tgt := 63) (off := 39) (by decide +kernel) (by decide) (fun c5 => ?_) (fun c5 => ?_)
      · replace H := H.1 c5
        refine ar_iload_n (pc := 63) (i := 1) (k0 := 1) (by decide +kernel) rfl rfl ?_
        obtain ⟨g6, H⟩ := H
        exact ar_zret (pc := 64) (x := v1) (by decide +kernel) rfl rfl g6 H
      · replace H := H.2 c5
        refine ar_aload_n (pc := 27) (i := 0) (k0 := 0) (by decide +kernel) rfl rfl ?_
        refine ar_callV (pc := 28) (M2 := M_X1_advance) (a := 201) (ci := 1) (as := []) (n2 := 321) (st := []) (by decide +kernel) rfl wm_RX1_121 wi_yX1_advance wl_yX1_advance k_201 rfl wz_RX1 wc_yX1_advance ⟨by decide, by decide, rfl⟩ (by decide) (Nat.le_of_ble_eq_true rfl) (Nat.le_refl _) (Nat.le_refl _) (am_Cl_mono H (fun r7 h8 H => ?_))
        show am_Wp true (d + 1) M_X1_readEither 321 321 h0 Q 31 [some (.inr (.inr 201)), some (.inl v1), some (.inl v2)] [.inl r7] 321 h8
        refine ar_if_eq (pc := 31) (x := r7) (tgt := 55) (off := 24) (by decide +kernel) (by decide) (fun c9 => ?_) (fun c9 => ?_)
        · replace H := H.1 c9
          refine ar_forget [true, false, true] rfl ?_
          exact H h0
        · replace H := H.2 c9
          refine ar_aload_n (pc := 34) (i := 0) (k0 := 0) (by decide +kernel) rfl rfl ?_
          refine ar_callV (pc := 35) (M2 := M_X1_readBoth) (a := 201) (ci := 1) (as := []) (n2 := 321) (st := []) (by decide +kernel) rfl wm_RX1_219 wi_yX1_readBoth wl_yX1_readBoth k_201 rfl wz_RX1 wc_yX1_readBoth ⟨by decide, by decide, rfl⟩ (by decide) (Nat.le_of_ble_eq_true rfl) (Nat.le_refl _) (Nat.le_refl _) (am_Cl_mono H (fun r10 h11 H => ?_))
          show am_Wp true (d + 1) M_X1_readEither 321 321 h0 Q 38 [some (.inr (.inr 201)), some (.inl v1), some (.inl v2)] [.inl r10] 321 h11
          refine ar_if_eq (pc := 38) (x := r10) (tgt := 55) (off := 17) (by decide +kernel) (by decide) (fun c12 => ?_) (fun c12 => ?_)
          · replace H := H.1 c12
            refine ar_forget [true, false, true] rfl ?_
            exact H h0
          · replace H := H.2 c12
            refine ar_aload_n (pc := 41) (i := 0) (k0 := 0) (by decide +kernel) rfl rfl ?_
            refine ar_bipush (pc := 42) (z := 21) (by decide +kernel) (by omega) ?_
            refine ar_iconst (pc := 44) (z := 0) (by decide +kernel) (by unfold am_i32; omega) ?_
            refine ar_callV (pc := 45) (M2 := M_X1_emit) (a := 201) (ci := 1) (as := [.inl 21, .inl 0]) (n2 := 321) (st := []) (by decide +kernel) rfl wm_RX1_154 wi_yX1_emit wl_yX1_emit k_201 rfl wz_RX1 wc_yX1_emit ⟨by decide, by decide, rfl⟩ (by decide) (Nat.le_of_ble_eq_true rfl) (Nat.le_refl _) (Nat.le_refl _) (am_Cl_mono H (fun r13 h14 H => ?_))
            show am_Wp true (d + 1) M_X1_readEither 321 321 h0 Q 48 [some (.inr (.inr 201)), some (.inl v1), some (.inl v2)] [.inl r13] 321 h14
            refine ar_if_lt (pc := 48) (x := r13) (tgt := 55) (off := 7) (by decide +kernel) (by decide) (fun c15 => ?_) (fun c15 => ?_)
            · replace H := H.1 c15
              refine ar_forget [true, false, true] rfl ?_
              exact H h0
            · replace H := H.2 c15
              refine ar_iconst (pc := 51) (z := 1) (by decide +kernel) (by unfold am_i32; omega) ?_
              refine ar_goto (pc := 52) (tgt := 56) (off := 4) (by decide +kernel) (by decide) ?_
              refine ar_forget [true, false, true] rfl ?_
              exact H h0
theorem B_X1_readEither_55 {d : Nat} {Q : Int → am_H → Prop} {h : am_H} {v2 : Int} (H : wf (d + 1) M_X1_readEither Q 56 [some (.inr (.inr 201)), none, some (.inl v2)] [.inl 0] h) : wf (d + 1) M_X1_readEither Q 55 [some (.inr (.inr 201)), none, some (.inl v2)] [] h := by
  intro h0
  refine ar_iconst (pc := 55) (z := 0) (by decide +kernel) (by unfold am_i32; omega) ?_
  exact H h0
theorem B_X1_readEither_56 {d : Nat} {Q : Int → am_H → Prop} {h : am_H} {v2 s0 : Int} (H : wf (d + 1) M_X1_readEither Q 7 [some (.inr (.inr 201)), some (.inl s0), some (.inl (am_w32 (v2 + 1)))] [] h) : wf (d + 1) M_X1_readEither Q 56 [some (.inr (.inr 201)), none, some (.inl v2)] [.inl s0] h := by
  intro h0
  refine ar_istore_n (pc := 56) (i := 1) (k0 := 1) (ls2 := [some (.inr (.inr 201)), some (.inl s0), some (.inl v2)]) (by decide +kernel) rfl (by decide) rfl ?_
  refine ar_iinc (pc := 57) (i := 2) (z := 1) (x := v2) (ls2 := [some (.inr (.inr 201)), some (.inl s0), some (.inl (am_w32 (v2 + 1)))]) (by decide +kernel) rfl (by decide) rfl ?_
  refine ar_goto (pc := 60) (tgt := 7) (off := -53) (by decide +kernel) (by decide) ?_
  exact H h0

/-! ByteIntervals$Parser.readBoth()Z -/
theorem B_X1_readBoth_0 {d : Nat} {Q : Int → am_H → Prop} {h : am_H} (H : cf d M_X1_readAsk [.inr (.inr 201)] h (fun r1 h2 => wf (d + 1) M_X1_readBoth Q 7 [some (.inr (.inr 201)), some (.inl r1), some (.inl 0)] [] h2)) : wf (d + 1) M_X1_readBoth Q 0 [some (.inr (.inr 201)), none, none] [] h := by
  intro h0
  refine ar_aload_n (pc := 0) (i := 0) (k0 := 0) (by decide +kernel) rfl rfl ?_
  refine ar_callV (pc := 1) (M2 := M_X1_readAsk) (a := 201) (ci := 1) (as := []) (n2 := 321) (st := []) (by decide +kernel) rfl wm_RX1_222 wi_yX1_readAsk wl_yX1_readAsk k_201 rfl wz_RX1 wc_yX1_readAsk ⟨by decide, by decide, rfl⟩ (by decide) (Nat.le_of_ble_eq_true rfl) (Nat.le_refl _) (Nat.le_refl _) (am_Cl_mono H (fun r1 h2 H => ?_))
  show am_Wp true (d + 1) M_X1_readBoth 321 321 h0 Q 4 [some (.inr (.inr 201)), none, none] [.inl r1] 321 h2
  refine ar_istore_n (pc := 4) (i := 1) (k0 := 1) (ls2 := [some (.inr (.inr 201)), some (.inl r1), none]) (by decide +kernel) rfl (by decide) rfl ?_
  refine ar_iconst (pc := 5) (z := 0) (by decide +kernel) (by unfold am_i32; omega) ?_
  refine ar_istore_n (pc := 6) (i := 2) (k0 := 2) (ls2 := [some (.inr (.inr 201)), some (.inl r1), some (.inl 0)]) (by decide +kernel) rfl (by decide) rfl ?_
  exact H h0
theorem B_X1_readBoth_7 {d : Nat} {Q : Int → am_H → Prop} {h : am_H} {v1 v2 : Int} (H : (300 ≤ v2 → (v1 = 0 ∨ v1 = 1) ∧ (Q v1 h)) ∧ (v2 < 300 → (v1 = 0 → (v1 = 0 ∨ v1 = 1) ∧ (Q v1 h)) ∧ (¬ v1 = 0 → (¬ (h 201 4) = 18 → (v1 = 0 ∨ v1 = 1) ∧ (Q v1 h)) ∧ ((h 201 4) = 18 → cf d M_X1_advance [.inr (.inr 201)] h (fun r7 h8 => (r7 = 0 → wf (d + 1) M_X1_readBoth Q 55 [some (.inr (.inr 201)), none, some (.inl v2)] [] h8) ∧ (¬ r7 = 0 → cf d M_X1_readAsk [.inr (.inr 201)] h8 (fun r10 h11 => (r10 = 0 → wf (d + 1) M_X1_readBoth Q 55 [some (.inr (.inr 201)), none, some (.inl v2)] [] h11) ∧ (¬ r10 = 0 → cf d M_X1_emit [.inr (.inr 201), .inl 20, .inl 0] h11 (fun r13 h14 => (r13 < 0 → wf (d + 1) M_X1_readBoth Q 55 [some (.inr (.inr 201)), none, some (.inl v2)] [] h14) ∧ (0 ≤ r13 → wf (d + 1) M_X1_readBoth Q 56 [some (.inr (.inr 201)), none, some (.inl v2)] [.inl 1] h14)))))))))) : wf (d + 1) M_X1_readBoth Q 7 [some (.inr (.inr 201)), some (.inl v1), some (.inl v2)] [] h := by
  intro h0
  refine ar_iload_n (pc := 7) (i := 2) (k0 := 2) (by decide +kernel) rfl rfl ?_
  refine ar_sipush (pc := 8) (z := 300) (by decide +kernel) (by omega) ?_
  refine ar_icmp_ge (pc := 11) (x := v2) (y := 300) (tgt := 63) (off := 52) (by decide +kernel) (by decide) (fun c1 => ?_) (fun c1 => ?_)
  · replace H := H.1 c1
    refine ar_iload_n (pc := 63) (i := 1) (k0 := 1) (by decide +kernel) rfl rfl ?_
    obtain ⟨g2, H⟩ := H
    exact ar_zret (pc := 64) (x := v1) (by decide +kernel) rfl rfl g2 H
  · replace H := H.2 c1
    refine ar_iload_n (pc := 14) (i := 1) (k0 := 1) (by decide +kernel) rfl rfl ?_
    refine ar_if_eq (pc := 15) (x := v1) (tgt := 63) (off := 48) (by decide +kernel) (by decide) (fun c3 => ?_) (fun c3 => ?_)
    · replace H := H.1 c3
      refine ar_iload_n (pc := 63) (i := 1) (k0 := 1) (by decide +kernel) rfl rfl ?_
      obtain ⟨g4, H⟩ := H
      exact ar_zret (pc := 64) (x := v1) (by decide +kernel) rfl rfl g4 H
    · replace H := H.2 c3
      refine ar_aload_n (pc := 18) (i := 0) (k0 := 0) (by decide +kernel) rfl rfl ?_
      refine ar_getV (pc := 19) (a := 201) (v := .inl (h 201 4)) 1 4 (by decide +kernel) k_201 rfl (by decide) wf_RX1_45 rfl ?_
      refine ar_bipush (pc := 22) (z := 18) (by decide +kernel) (by omega) ?_
      refine ar_icmp_ne (pc := 24) (x := (h 201 4)) (y := 18) (tgt := 63) (off := 39) (by decide +kernel) (by decide) (fun c5 => ?_) (fun c5 => ?_)
      · replace H := H.1 c5
        refine ar_iload_n (pc := 63) (i := 1) (k0 := 1) (by decide +kernel) rfl rfl ?_
        obtain ⟨g6, H⟩ := H
        exact ar_zret (pc := 64) (x := v1) (by decide +kernel) rfl rfl g6 H
      · replace H := H.2 c5
        refine ar_aload_n (pc := 27) (i := 0) (k0 := 0) (by decide +kernel) rfl rfl ?_
        refine ar_callV (pc := 28) (M2 := M_X1_advance) (a := 201) (ci := 1) (as := []) (n2 := 321) (st := []) (by decide +kernel) rfl wm_RX1_121 wi_yX1_advance wl_yX1_advance k_201 rfl wz_RX1 wc_yX1_advance ⟨by decide, by decide, rfl⟩ (by decide) (Nat.le_of_ble_eq_true rfl) (Nat.le_refl _) (Nat.le_refl _) (am_Cl_mono H (fun r7 h8 H => ?_))
        show am_Wp true (d + 1) M_X1_readBoth 321 321 h0 Q 31 [some (.inr (.inr 201)), some (.inl v1), some (.inl v2)] [.inl r7] 321 h8
        refine ar_if_eq (pc := 31) (x := r7) (tgt := 55) (off := 24) (by decide +kernel) (by decide) (fun c9 => ?_) (fun c9 => ?_)
        · replace H := H.1 c9
          refine ar_forget [true, false, true] rfl ?_
          exact H h0
        · replace H := H.2 c9
          refine ar_aload_n (pc := 34) (i := 0) (k0 := 0) (by decide +kernel) rfl rfl ?_
          refine ar_callV (pc := 35) (M2 := M_X1_readAsk) (a := 201) (ci := 1) (as := []) (n2 := 321) (st := []) (by decide +kernel) rfl wm_RX1_222 wi_yX1_readAsk wl_yX1_readAsk k_201 rfl wz_RX1 wc_yX1_readAsk ⟨by decide, by decide, rfl⟩ (by decide) (Nat.le_of_ble_eq_true rfl) (Nat.le_refl _) (Nat.le_refl _) (am_Cl_mono H (fun r10 h11 H => ?_))
          show am_Wp true (d + 1) M_X1_readBoth 321 321 h0 Q 38 [some (.inr (.inr 201)), some (.inl v1), some (.inl v2)] [.inl r10] 321 h11
          refine ar_if_eq (pc := 38) (x := r10) (tgt := 55) (off := 17) (by decide +kernel) (by decide) (fun c12 => ?_) (fun c12 => ?_)
          · replace H := H.1 c12
            refine ar_forget [true, false, true] rfl ?_
            exact H h0
          · replace H := H.2 c12
            refine ar_aload_n (pc := 41) (i := 0) (k0 := 0) (by decide +kernel) rfl rfl ?_
            refine ar_bipush (pc := 42) (z := 20) (by decide +kernel) (by omega) ?_
            refine ar_iconst (pc := 44) (z := 0) (by decide +kernel) (by unfold am_i32; omega) ?_
            refine ar_callV (pc := 45) (M2 := M_X1_emit) (a := 201) (ci := 1) (as := [.inl 20, .inl 0]) (n2 := 321) (st := []) (by decide +kernel) rfl wm_RX1_154 wi_yX1_emit wl_yX1_emit k_201 rfl wz_RX1 wc_yX1_emit ⟨by decide, by decide, rfl⟩ (by decide) (Nat.le_of_ble_eq_true rfl) (Nat.le_refl _) (Nat.le_refl _) (am_Cl_mono H (fun r13 h14 H => ?_))
            show am_Wp true (d + 1) M_X1_readBoth 321 321 h0 Q 48 [some (.inr (.inr 201)), some (.inl v1), some (.inl v2)] [.inl r13] 321 h14
            refine ar_if_lt (pc := 48) (x := r13) (tgt := 55) (off := 7) (by decide +kernel) (by decide) (fun c15 => ?_) (fun c15 => ?_)
            · replace H := H.1 c15
              refine ar_forget [true, false, true] rfl ?_
              exact H h0
            · replace H := H.2 c15
              refine ar_iconst (pc := 51) (z := 1) (by decide +kernel) (by unfold am_i32; omega) ?_
              refine ar_goto (pc := 52) (tgt := 56) (off := 4) (by decide +kernel) (by decide) ?_
              refine ar_forget [true, false, true] rfl ?_
              exact H h0
theorem B_X1_readBoth_55 {d : Nat} {Q : Int → am_H → Prop} {h : am_H} {v2 : Int} (H : wf (d + 1) M_X1_readBoth Q 56 [some (.inr (.inr 201)), none, some (.inl v2)] [.inl 0] h) : wf (d + 1) M_X1_readBoth Q 55 [some (.inr (.inr 201)), none, some (.inl v2)] [] h := by
  intro h0
  refine ar_iconst (pc := 55) (z := 0) (by decide +kernel) (by unfold am_i32; omega) ?_
  exact H h0
theorem B_X1_readBoth_56 {d : Nat} {Q : Int → am_H → Prop} {h : am_H} {v2 s0 : Int} (H : wf (d + 1) M_X1_readBoth Q 7 [some (.inr (.inr 201)), some (.inl s0), some (.inl (am_w32 (v2 + 1)))] [] h) : wf (d + 1) M_X1_readBoth Q 56 [some (.inr (.inr 201)), none, some (.inl v2)] [.inl s0] h := by
  intro h0
  refine ar_istore_n (pc := 56) (i := 1) (k0 := 1) (ls2 := [some (.inr (.inr 201)), some (.inl s0), some (.inl v2)]) (by decide +kernel) rfl (by decide) rfl ?_
  refine ar_iinc (pc := 57) (i := 2) (z := 1) (x := v2) (ls2 := [some (.inr (.inr 201)), some (.inl s0), some (.inl (am_w32 (v2 + 1)))]) (by decide +kernel) rfl (by decide) rfl ?_
  refine ar_goto (pc := 60) (tgt := 7) (off := -53) (by decide +kernel) (by decide) ?_
  exact H h0

/-! ByteIntervals$Parser.readAsk()Z -/
theorem B_X1_readAsk_0 {d : Nat} {Q : Int → am_H → Prop} {h : am_H} (H : (¬ (h 201 4) = 19 → cf d M_X1_readSum [.inr (.inr 201)] h (fun r2 h3 => (¬ r2 = 0 → cf d M_X1_comparisonHere [.inr (.inr 201)] h3 (fun r5 h6 => (¬ r5 = (-1) → cf d M_X1_advance [.inr (.inr 201)] h6 (fun r8 h9 => (r8 = 0 → Q 0 h9) ∧ (¬ r8 = 0 → cf d M_X1_readSum [.inr (.inr 201)] h9 (fun r11 h12 => (r11 = 0 → Q 0 h12) ∧ (¬ r11 = 0 → cf d M_X1_emit [.inr (.inr 201), .inl r5, .inl 0] h12 (fun r14 h15 => (r14 < 0 → Q 0 h15) ∧ (0 ≤ r14 → Q 1 h15))))))) ∧ (r5 = (-1) → cf d M_X1_fail [.inr (.inr 201), .inl 1] h6 (fun r17 h18 => (r17 = 0 ∨ r17 = 1) ∧ (Q r17 h18))))) ∧ (r2 = 0 → Q 0 h3))) ∧ ((h 201 4) = 19 → cf d M_X1_opens [.inr (.inr 201)] h (fun r20 h21 => (r20 = 0 → Q 0 h21) ∧ (¬ r20 = 0 → cf d M_X1_readAsk [.inr (.inr 201)] h21 (fun r23 h24 => (r23 = 0 → Q 0 h24) ∧ (¬ r23 = 0 → cf d M_X1_closes [.inr (.inr 201)] h24 (fun r26 h27 => (r26 = 0 → Q 0 h27) ∧ (¬ r26 = 0 → cf d M_X1_emit [.inr (.inr 201), .inl 8, .inl 0] h27 (fun r29 h30 => (r29 < 0 → Q 0 h30) ∧ (0 ≤ r29 → Q 1 h30)))))))))) : wf (d + 1) M_X1_readAsk Q 0 [some (.inr (.inr 201)), none] [] h := by
  intro h0
  refine ar_aload_n (pc := 0) (i := 0) (k0 := 0) (by decide +kernel) rfl rfl ?_
  refine ar_getV (pc := 1) (a := 201) (v := .inl (h 201 4)) 1 4 (by decide +kernel) k_201 rfl (by decide) wf_RX1_45 rfl ?_
  refine ar_bipush (pc := 4) (z := 19) (by decide +kernel) (by omega) ?_
  refine ar_icmp_ne (pc := 6) (x := (h 201 4)) (y := 19) (tgt := 46) (off := 40) (by decide +kernel) (by decide) (fun c1 => ?_) (fun c1 => ?_)
  · replace H := H.1 c1
    refine ar_aload_n (pc := 46) (i := 0) (k0 := 0) (by decide +kernel) rfl rfl ?_
    refine ar_callV (pc := 47) (M2 := M_X1_readSum) (a := 201) (ci := 1) (as := []) (n2 := 321) (st := []) (by decide +kernel) rfl wm_RX1_157 wi_yX1_readSum wl_yX1_readSum k_201 rfl wz_RX1 wc_yX1_readSum ⟨by decide, by decide, rfl⟩ (by decide) (Nat.le_of_ble_eq_true rfl) (Nat.le_refl _) (Nat.le_refl _) (am_Cl_mono H (fun r2 h3 H => ?_))
    show am_Wp true (d + 1) M_X1_readAsk 321 321 h0 Q 50 [some (.inr (.inr 201)), none] [.inl r2] 321 h3
    refine ar_if_ne (pc := 50) (x := r2) (tgt := 55) (off := 5) (by decide +kernel) (by decide) (fun c4 => ?_) (fun c4 => ?_)
    · replace H := H.1 c4
      refine ar_aload_n (pc := 55) (i := 0) (k0 := 0) (by decide +kernel) rfl rfl ?_
      refine ar_callV (pc := 56) (M2 := M_X1_comparisonHere) (a := 201) (ci := 1) (as := []) (n2 := 321) (st := []) (by decide +kernel) rfl wm_RX1_225 wi_yX1_comparisonHere wl_yX1_comparisonHere k_201 rfl wz_RX1 wc_yX1_comparisonHere ⟨by decide, by decide, rfl⟩ (by decide) (Nat.le_of_ble_eq_true rfl) (Nat.le_refl _) (Nat.le_refl _) (am_Cl_mono H (fun r5 h6 H => ?_))
      show am_Wp true (d + 1) M_X1_readAsk 321 321 h0 Q 59 [some (.inr (.inr 201)), none] [.inl r5] 321 h6
      refine ar_istore_n (pc := 59) (i := 1) (k0 := 1) (ls2 := [some (.inr (.inr 201)), some (.inl r5)]) (by decide +kernel) rfl (by decide) rfl ?_
      refine ar_iload_n (pc := 60) (i := 1) (k0 := 1) (by decide +kernel) rfl rfl ?_
      refine ar_iconst (pc := 61) (z := (-1)) (by decide +kernel) (by unfold am_i32; omega) ?_
      refine ar_icmp_ne (pc := 62) (x := r5) (y := (-1)) (tgt := 71) (off := 9) (by decide +kernel) (by decide) (fun c7 => ?_) (fun c7 => ?_)
      · replace H := H.1 c7
        refine ar_aload_n (pc := 71) (i := 0) (k0 := 0) (by decide +kernel) rfl rfl ?_
        refine ar_callV (pc := 72) (M2 := M_X1_advance) (a := 201) (ci := 1) (as := []) (n2 := 321) (st := []) (by decide +kernel) rfl wm_RX1_121 wi_yX1_advance wl_yX1_advance k_201 rfl wz_RX1 wc_yX1_advance ⟨by decide, by decide, rfl⟩ (by decide) (Nat.le_of_ble_eq_true rfl) (Nat.le_refl _) (Nat.le_refl _) (am_Cl_mono H (fun r8 h9 H => ?_))
        show am_Wp true (d + 1) M_X1_readAsk 321 321 h0 Q 75 [some (.inr (.inr 201)), some (.inl r5)] [.inl r8] 321 h9
        refine ar_if_eq (pc := 75) (x := r8) (tgt := 98) (off := 23) (by decide +kernel) (by decide) (fun c10 => ?_) (fun c10 => ?_)
        · replace H := H.1 c10
          refine ar_iconst (pc := 98) (z := 0) (by decide +kernel) (by unfold am_i32; omega) ?_
          exact ar_zret (pc := 99) (x := 0) (by decide +kernel) rfl rfl (by decide) H
        · replace H := H.2 c10
          refine ar_aload_n (pc := 78) (i := 0) (k0 := 0) (by decide +kernel) rfl rfl ?_
          refine ar_callV (pc := 79) (M2 := M_X1_readSum) (a := 201) (ci := 1) (as := []) (n2 := 321) (st := []) (by decide +kernel) rfl wm_RX1_157 wi_yX1_readSum wl_yX1_readSum k_201 rfl wz_RX1 wc_yX1_readSum ⟨by decide, by decide, rfl⟩ (by decide) (Nat.le_of_ble_eq_true rfl) (Nat.le_refl _) (Nat.le_refl _) (am_Cl_mono H (fun r11 h12 H => ?_))
          show am_Wp true (d + 1) M_X1_readAsk 321 321 h0 Q 82 [some (.inr (.inr 201)), some (.inl r5)] [.inl r11] 321 h12
          refine ar_if_eq (pc := 82) (x := r11) (tgt := 98) (off := 16) (by decide +kernel) (by decide) (fun c13 => ?_) (fun c13 => ?_)
          · replace H := H.1 c13
            refine ar_iconst (pc := 98) (z := 0) (by decide +kernel) (by unfold am_i32; omega) ?_
            exact ar_zret (pc := 99) (x := 0) (by decide +kernel) rfl rfl (by decide) H
          · replace H := H.2 c13
            refine ar_aload_n (pc := 85) (i := 0) (k0 := 0) (by decide +kernel) rfl rfl ?_
            refine ar_iload_n (pc := 86) (i := 1) (k0 := 1) (by decide +kernel) rfl rfl ?_
            refine ar_iconst (pc := 87) (z := 0) (by decide +kernel) (by unfold am_i32; omega) ?_
            refine ar_callV (pc := 88) (M2 := M_X1_emit) (a := 201) (ci := 1) (as := [.inl r5, .inl 0]) (n2 := 321) (st := []) (by decide +kernel) rfl wm_RX1_154 wi_yX1_emit wl_yX1_emit k_201 rfl wz_RX1 wc_yX1_emit ⟨by decide, by decide, rfl⟩ (by decide) (Nat.le_of_ble_eq_true rfl) (Nat.le_refl _) (Nat.le_refl _) (am_Cl_mono H (fun r14 h15 H => ?_))
            show am_Wp true (d + 1) M_X1_readAsk 321 321 h0 Q 91 [some (.inr (.inr 201)), some (.inl r5)] [.inl r14] 321 h15
            refine ar_if_lt (pc := 91) (x := r14) (tgt := 98) (off := 7) (by decide +kernel) (by decide) (fun c16 => ?_) (fun c16 => ?_)
            · replace H := H.1 c16
              refine ar_iconst (pc := 98) (z := 0) (by decide +kernel) (by unfold am_i32; omega) ?_
              exact ar_zret (pc := 99) (x := 0) (by decide +kernel) rfl rfl (by decide) H
            · replace H := H.2 c16
              refine ar_iconst (pc := 94) (z := 1) (by decide +kernel) (by unfold am_i32; omega) ?_
              refine ar_goto (pc := 95) (tgt := 99) (off := 4) (by decide +kernel) (by decide) ?_
              exact ar_zret (pc := 99) (x := 1) (by decide +kernel) rfl rfl (by decide) H
      · replace H := H.2 c7
        refine ar_aload_n (pc := 65) (i := 0) (k0 := 0) (by decide +kernel) rfl rfl ?_
        refine ar_iconst (pc := 66) (z := 1) (by decide +kernel) (by unfold am_i32; omega) ?_
        refine ar_callV (pc := 67) (M2 := M_X1_fail) (a := 201) (ci := 1) (as := [.inl 1]) (n2 := 321) (st := []) (by decide +kernel) rfl wm_RX1_124 wi_yX1_fail wl_yX1_fail k_201 rfl wz_RX1 wc_yX1_fail ⟨by decide, by decide, rfl⟩ (by decide) (Nat.le_of_ble_eq_true rfl) (Nat.le_refl _) (Nat.le_refl _) (am_Cl_mono H (fun r17 h18 H => ?_))
        show am_Wp true (d + 1) M_X1_readAsk 321 321 h0 Q 70 [some (.inr (.inr 201)), some (.inl r5)] [.inl r17] 321 h18
        obtain ⟨g19, H⟩ := H
        exact ar_zret (pc := 70) (x := r17) (by decide +kernel) rfl rfl g19 H
    · replace H := H.2 c4
      refine ar_iconst (pc := 53) (z := 0) (by decide +kernel) (by unfold am_i32; omega) ?_
      exact ar_zret (pc := 54) (x := 0) (by decide +kernel) rfl rfl (by decide) H
  · replace H := H.2 c1
    refine ar_aload_n (pc := 9) (i := 0) (k0 := 0) (by decide +kernel) rfl rfl ?_
    refine ar_callV (pc := 10) (M2 := M_X1_opens) (a := 201) (ci := 1) (as := []) (n2 := 321) (st := []) (by decide +kernel) rfl wm_RX1_203 wi_yX1_opens wl_yX1_opens k_201 rfl wz_RX1 wc_yX1_opens ⟨by decide, by decide, rfl⟩ (by decide) (Nat.le_of_ble_eq_true rfl) (Nat.le_refl _) (Nat.le_refl _) (am_Cl_mono H (fun r20 h21 H => ?_))
    show am_Wp true (d + 1) M_X1_readAsk 321 321 h0 Q 13 [some (.inr (.inr 201)), none] [.inl r20] 321 h21
    refine ar_if_eq (pc := 13) (x := r20) (tgt := 44) (off := 31) (by decide +kernel) (by decide) (fun c22 => ?_) (fun c22 => ?_)
    · replace H := H.1 c22
      refine ar_iconst (pc := 44) (z := 0) (by decide +kernel) (by unfold am_i32; omega) ?_
      exact ar_zret (pc := 45) (x := 0) (by decide +kernel) rfl rfl (by decide) H
    · replace H := H.2 c22
      refine ar_aload_n (pc := 16) (i := 0) (k0 := 0) (by decide +kernel) rfl rfl ?_
      refine ar_callV (pc := 17) (M2 := M_X1_readAsk) (a := 201) (ci := 1) (as := []) (n2 := 321) (st := []) (by decide +kernel) rfl wm_RX1_222 wi_yX1_readAsk wl_yX1_readAsk k_201 rfl wz_RX1 wc_yX1_readAsk ⟨by decide, by decide, rfl⟩ (by decide) (Nat.le_of_ble_eq_true rfl) (Nat.le_refl _) (Nat.le_refl _) (am_Cl_mono H (fun r23 h24 H => ?_))
      show am_Wp true (d + 1) M_X1_readAsk 321 321 h0 Q 20 [some (.inr (.inr 201)), none] [.inl r23] 321 h24
      refine ar_if_eq (pc := 20) (x := r23) (tgt := 44) (off := 24) (by decide +kernel) (by decide) (fun c25 => ?_) (fun c25 => ?_)
      · replace H := H.1 c25
        refine ar_iconst (pc := 44) (z := 0) (by decide +kernel) (by unfold am_i32; omega) ?_
        exact ar_zret (pc := 45) (x := 0) (by decide +kernel) rfl rfl (by decide) H
      · replace H := H.2 c25
        refine ar_aload_n (pc := 23) (i := 0) (k0 := 0) (by decide +kernel) rfl rfl ?_
        refine ar_callV (pc := 24) (M2 := M_X1_closes) (a := 201) (ci := 1) (as := []) (n2 := 321) (st := []) (by decide +kernel) rfl wm_RX1_206 wi_yX1_closes wl_yX1_closes k_201 rfl wz_RX1 wc_yX1_closes ⟨by decide, by decide, rfl⟩ (by decide) (Nat.le_of_ble_eq_true rfl) (Nat.le_refl _) (Nat.le_refl _) (am_Cl_mono H (fun r26 h27 H => ?_))
        show am_Wp true (d + 1) M_X1_readAsk 321 321 h0 Q 27 [some (.inr (.inr 201)), none] [.inl r26] 321 h27
        refine ar_if_eq (pc := 27) (x := r26) (tgt := 44) (off := 17) (by decide +kernel) (by decide) (fun c28 => ?_) (fun c28 => ?_)
        · replace H := H.1 c28
          refine ar_iconst (pc := 44) (z := 0) (by decide +kernel) (by unfold am_i32; omega) ?_
          exact ar_zret (pc := 45) (x := 0) (by decide +kernel) rfl rfl (by decide) H
        · replace H := H.2 c28
          refine ar_aload_n (pc := 30) (i := 0) (k0 := 0) (by decide +kernel) rfl rfl ?_
          refine ar_bipush (pc := 31) (z := 8) (by decide +kernel) (by omega) ?_
          refine ar_iconst (pc := 33) (z := 0) (by decide +kernel) (by unfold am_i32; omega) ?_
          refine ar_callV (pc := 34) (M2 := M_X1_emit) (a := 201) (ci := 1) (as := [.inl 8, .inl 0]) (n2 := 321) (st := []) (by decide +kernel) rfl wm_RX1_154 wi_yX1_emit wl_yX1_emit k_201 rfl wz_RX1 wc_yX1_emit ⟨by decide, by decide, rfl⟩ (by decide) (Nat.le_of_ble_eq_true rfl) (Nat.le_refl _) (Nat.le_refl _) (am_Cl_mono H (fun r29 h30 H => ?_))
          show am_Wp true (d + 1) M_X1_readAsk 321 321 h0 Q 37 [some (.inr (.inr 201)), none] [.inl r29] 321 h30
          refine ar_if_lt (pc := 37) (x := r29) (tgt := 44) (off := 7) (by decide +kernel) (by decide) (fun c31 => ?_) (fun c31 => ?_)
          · replace H := H.1 c31
            refine ar_iconst (pc := 44) (z := 0) (by decide +kernel) (by unfold am_i32; omega) ?_
            exact ar_zret (pc := 45) (x := 0) (by decide +kernel) rfl rfl (by decide) H
          · replace H := H.2 c31
            refine ar_iconst (pc := 40) (z := 1) (by decide +kernel) (by unfold am_i32; omega) ?_
            refine ar_goto (pc := 41) (tgt := 45) (off := 4) (by decide +kernel) (by decide) ?_
            exact ar_zret (pc := 45) (x := 1) (by decide +kernel) rfl rfl (by decide) H

/-! ByteIntervals$Parser.comparisonHere()I -/
theorem B_X1_comparisonHere_0 {d : Nat} {Q : Int → am_H → Prop} {h : am_H} (H : ((h 201 4) = 163 → Q 19 h) ∧ (¬ (h 201 4) = 163 → ((h 201 4) = 188 → Q 14 h) ∧ (¬ (h 201 4) = 188 → ((h 201 4) = 189 → Q 18 h) ∧ (¬ (h 201 4) = 189 → ((h 201 4) = 190 → Q 16 h) ∧ (¬ (h 201 4) = 190 → ((h 201 4) = 316 → Q 15 h) ∧ (¬ (h 201 4) = 316 → ((h 201 4) = 318 → Q 17 h) ∧ (¬ (h 201 4) = 318 → Q (-1) h))))))) : wf d M_X1_comparisonHere Q 0 [some (.inr (.inr 201))] [] h := by
  intro h0
  refine ar_aload_n (pc := 0) (i := 0) (k0 := 0) (by decide +kernel) rfl rfl ?_
  refine ar_getV (pc := 1) (a := 201) (v := .inl (h 201 4)) 1 4 (by decide +kernel) k_201 rfl (by decide) wf_RX1_45 rfl ?_
  refine ar_look (pc := 4) (dflt := 78) (ps := #[(163, 75), (188, 60), (189, 72), (190, 66), (316, 63), (318, 69)]) (len := 60) (x := (h 201 4)) (dt := 82) [(163, 79), (188, 64), (189, 76), (190, 70), (316, 67), (318, 73)] (by decide +kernel) (by decide) (by decide) (by decide) ?_
  refine And.intro (fun c1 => ?_) (fun c1 => ?_)
  · replace H := H.1 c1
    refine ar_bipush (pc := 79) (z := 19) (by decide +kernel) (by omega) ?_
    exact ar_iret (pc := 81) (x := 19) (by decide +kernel) rfl rfl H
  · replace H := H.2 c1
    refine And.intro (fun c2 => ?_) (fun c2 => ?_)
    · replace H := H.1 c2
      refine ar_bipush (pc := 64) (z := 14) (by decide +kernel) (by omega) ?_
      exact ar_iret (pc := 66) (x := 14) (by decide +kernel) rfl rfl H
    · replace H := H.2 c2
      refine And.intro (fun c3 => ?_) (fun c3 => ?_)
      · replace H := H.1 c3
        refine ar_bipush (pc := 76) (z := 18) (by decide +kernel) (by omega) ?_
        exact ar_iret (pc := 78) (x := 18) (by decide +kernel) rfl rfl H
      · replace H := H.2 c3
        refine And.intro (fun c4 => ?_) (fun c4 => ?_)
        · replace H := H.1 c4
          refine ar_bipush (pc := 70) (z := 16) (by decide +kernel) (by omega) ?_
          exact ar_iret (pc := 72) (x := 16) (by decide +kernel) rfl rfl H
        · replace H := H.2 c4
          refine And.intro (fun c5 => ?_) (fun c5 => ?_)
          · replace H := H.1 c5
            refine ar_bipush (pc := 67) (z := 15) (by decide +kernel) (by omega) ?_
            exact ar_iret (pc := 69) (x := 15) (by decide +kernel) rfl rfl H
          · replace H := H.2 c5
            refine And.intro (fun c6 => ?_) (fun c6 => ?_)
            · replace H := H.1 c6
              refine ar_bipush (pc := 73) (z := 17) (by decide +kernel) (by omega) ?_
              exact ar_iret (pc := 75) (x := 17) (by decide +kernel) rfl rfl H
            · replace H := H.2 c6
              refine ar_iconst (pc := 82) (z := (-1)) (by decide +kernel) (by unfold am_i32; omega) ?_
              exact ar_iret (pc := 83) (x := (-1)) (by decide +kernel) rfl rfl H

