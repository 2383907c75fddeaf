/-! ByteIntervalsModel.clause()I -/
theorem B_X7_clause_0 {d : Nat} {Q : Int → am_H → Prop} {h : am_H} (H : cf d M_X7_sortOf [.inr (.inr 294)] h (fun r1 h2 => (0 ≤ r1 → (¬ r1 = 4 → wf (d + 1) M_X7_clause Q 25 [some (.inr (.inr 294)), some (.inl r1), none, none, none] [] h2) ∧ (r1 = 4 → ((h2 294 19) = 0 → wf (d + 1) M_X7_clause Q 25 [some (.inr (.inr 294)), some (.inl r1), none, none, none] [] h2) ∧ (¬ (h2 294 19) = 0 → Q 4 h2))) ∧ (r1 < 0 → Q 1 h2))) : wf (d + 1) M_X7_clause Q 0 [some (.inr (.inr 294)), none, none, none, none] [] h := by
  intro h0
  refine ar_aload_n (pc := 0) (i := 0) (k0 := 0) (by decide +kernel) rfl rfl ?_
  refine ar_callV (pc := 1) (M2 := M_X7_sortOf) (a := 294) (ci := 7) (as := []) (n2 := 321) (st := []) (by decide +kernel) rfl wm_RX7_281 wi_yX7_sortOf wl_yX7_sortOf k_294 rfl wz_RX7 wc_yX7_sortOf ⟨by decide, by decide, rfl⟩ (by decide) (Nat.le_of_ble_eq_true rfl) (Nat.le_refl _) (Nat.le_refl _) (am_Cl_mono H (fun r1 h2 H => ?_))
  show am_Wp true (d + 1) M_X7_clause 321 321 h0 Q 4 [some (.inr (.inr 294)), none, none, none, none] [.inl r1] 321 h2
  refine ar_istore_n (pc := 4) (i := 1) (k0 := 1) (ls2 := [some (.inr (.inr 294)), some (.inl r1), none, none, none]) (by decide +kernel) rfl (by decide) rfl ?_
  refine ar_iload_n (pc := 5) (i := 1) (k0 := 1) (by decide +kernel) rfl rfl ?_
  refine ar_if_ge (pc := 6) (x := r1) (tgt := 11) (off := 5) (by decide +kernel) (by decide) (fun c3 => ?_) (fun c3 => ?_)
  · replace H := H.1 c3
    refine ar_iload_n (pc := 11) (i := 1) (k0 := 1) (by decide +kernel) rfl rfl ?_
    refine ar_iconst (pc := 12) (z := 4) (by decide +kernel) (by unfold am_i32; omega) ?_
    refine ar_icmp_ne (pc := 13) (x := r1) (y := 4) (tgt := 25) (off := 12) (by decide +kernel) (by decide) (fun c4 => ?_) (fun c4 => ?_)
    · replace H := H.1 c4
      exact H h0
    · replace H := H.2 c4
      refine ar_aload_n (pc := 16) (i := 0) (k0 := 0) (by decide +kernel) rfl rfl ?_
      refine ar_getV (pc := 17) (a := 294) (v := .inl (h2 294 19)) 7 19 (by decide +kernel) k_294 rfl (by decide) wf_RX7_284 rfl ?_
      refine ar_if_eq (pc := 20) (x := (h2 294 19)) (tgt := 25) (off := 5) (by decide +kernel) (by decide) (fun c5 => ?_) (fun c5 => ?_)
      · replace H := H.1 c5
        exact H h0
      · replace H := H.2 c5
        refine ar_iconst (pc := 23) (z := 4) (by decide +kernel) (by unfold am_i32; omega) ?_
        exact ar_iret (pc := 24) (x := 4) (by decide +kernel) rfl rfl H
  · replace H := H.2 c3
    refine ar_iconst (pc := 9) (z := 1) (by decide +kernel) (by unfold am_i32; omega) ?_
    exact ar_iret (pc := 10) (x := 1) (by decide +kernel) rfl rfl H
theorem B_X7_clause_25 {d : Nat} {Q : Int → am_H → Prop} {h : am_H} {v1 : Int} (H : (0 ≤ (h 294 12)) ∧ (((h 294 12) < 3300) ∧ ((¬ (h 297 (h 294 12)) = 24 → (¬ (h 294 19) = 0 → wf (d + 1) M_X7_clause Q 57 [some (.inr (.inr 294)), some (.inl v1), some (.inl (h 297 (h 294 12))), none, none] [.inr (.inr 294)] h) ∧ ((h 294 19) = 0 → (¬ v1 = 4 → wf (d + 1) M_X7_clause Q 62 [some (.inr (.inr 294)), some (.inl v1), some (.inl (h 297 (h 294 12))), none, none] [.inl 0, .inr (.inr 294)] h) ∧ (v1 = 4 → wf (d + 1) M_X7_clause Q 57 [some (.inr (.inr 294)), some (.inl v1), some (.inl (h 297 (h 294 12))), none, none] [.inr (.inr 294)] h))) ∧ ((h 297 (h 294 12)) = 24 → Q 6 h)))) : wf (d + 1) M_X7_clause Q 25 [some (.inr (.inr 294)), some (.inl v1), none, none, none] [] h := by
  intro h0
  refine ar_aload_n (pc := 25) (i := 0) (k0 := 0) (by decide +kernel) rfl rfl ?_
  refine ar_getFV (pc := 26) (a := 294) (b := 297) 7 2 (by decide +kernel) k_294 rfl (by decide) wf_RX7_16 rfl (fun _ => rfl) rfl ?_
  refine ar_aload_n (pc := 29) (i := 0) (k0 := 0) (by decide +kernel) rfl rfl ?_
  refine ar_getV (pc := 30) (a := 294) (v := .inl (h 294 12)) 7 12 (by decide +kernel) k_294 rfl (by decide) wf_RX7_168 rfl ?_
  obtain ⟨g1, H⟩ := H
  obtain ⟨g2, H⟩ := H
  refine ar_iald (pc := 33) (a := 297) (i := (h 294 12)) (by decide +kernel) k_297 g1 (am_lt_eq g2 (l_297).symm) ?_
  refine ar_istore_n (pc := 34) (i := 2) (k0 := 2) (ls2 := [some (.inr (.inr 294)), some (.inl v1), some (.inl (h 297 (h 294 12))), none, none]) (by decide +kernel) rfl (by decide) rfl ?_
  refine ar_iload_n (pc := 35) (i := 2) (k0 := 2) (by decide +kernel) rfl rfl ?_
  refine ar_bipush (pc := 36) (z := 24) (by decide +kernel) (by omega) ?_
  refine ar_icmp_ne (pc := 38) (x := (h 297 (h 294 12))) (y := 24) (tgt := 44) (off := 6) (by decide +kernel) (by decide) (fun c3 => ?_) (fun c3 => ?_)
  · replace H := H.1 c3
    refine ar_aload_n (pc := 44) (i := 0) (k0 := 0) (by decide +kernel) rfl rfl ?_
    refine ar_aload_n (pc := 45) (i := 0) (k0 := 0) (by decide +kernel) rfl rfl ?_
    refine ar_getV (pc := 46) (a := 294) (v := .inl (h 294 19)) 7 19 (by decide +kernel) k_294 rfl (by decide) wf_RX7_284 rfl ?_
    refine ar_if_ne (pc := 49) (x := (h 294 19)) (tgt := 57) (off := 8) (by decide +kernel) (by decide) (fun c4 => ?_) (fun c4 => ?_)
    · replace H := H.1 c4
      exact H h0
    · replace H := H.2 c4
      refine ar_iload_n (pc := 52) (i := 1) (k0 := 1) (by decide +kernel) rfl rfl ?_
      refine ar_iconst (pc := 53) (z := 4) (by decide +kernel) (by unfold am_i32; omega) ?_
      refine ar_icmp_ne (pc := 54) (x := v1) (y := 4) (tgt := 61) (off := 7) (by decide +kernel) (by decide) (fun c5 => ?_) (fun c5 => ?_)
      · replace H := H.1 c5
        refine ar_iconst (pc := 61) (z := 0) (by decide +kernel) (by unfold am_i32; omega) ?_
        exact H h0
      · replace H := H.2 c5
        exact H h0
  · replace H := H.2 c3
    refine ar_bipush (pc := 41) (z := 6) (by decide +kernel) (by omega) ?_
    exact ar_iret (pc := 43) (x := 6) (by decide +kernel) rfl rfl H
theorem B_X7_clause_57 {d : Nat} {Q : Int → am_H → Prop} {h : am_H} {v1 v2 : Int} (H : wf (d + 1) M_X7_clause Q 62 [some (.inr (.inr 294)), some (.inl v1), some (.inl v2), none, none] [.inl 1, .inr (.inr 294)] h) : wf (d + 1) M_X7_clause Q 57 [some (.inr (.inr 294)), some (.inl v1), some (.inl v2), none, none] [.inr (.inr 294)] h := by
  intro h0
  refine ar_iconst (pc := 57) (z := 1) (by decide +kernel) (by unfold am_i32; omega) ?_
  refine ar_goto (pc := 58) (tgt := 62) (off := 4) (by decide +kernel) (by decide) ?_
  exact H h0
theorem B_X7_clause_62 {d : Nat} {Q : Int → am_H → Prop} {h : am_H} {v1 v2 s1 : Int} (H : (s1 = 0 ∨ s1 = 1) ∧ (cf d M_X7_nextToken [.inr (.inr 294)] (am_up (am_up h 294 19 s1) 294 14 v1) (fun _ h3 => (0 ≤ (am_w32 ((am_w32 ((h3 294 12) + 1)) + (am_w32 (9 * v2))))) ∧ (((am_w32 ((am_w32 ((h3 294 12) + 1)) + (am_w32 (9 * v2)))) < 3300) ∧ (cf d M_X7_body [.inr (.inr 294), .inl v1, .inl (am_w32 ((am_w32 ((h3 294 12) + 1)) + (am_w32 (9 * v2))))] (am_up h3 297 (am_w32 ((am_w32 ((h3 294 12) + 1)) + (am_w32 (9 * v2)))) v1) (fun r6 h7 => (r6 = 0 → (0 ≤ (h7 294 12)) ∧ (((h7 294 12) < 3300) ∧ (((h7 294 9) = 59 → cf d M_X7_nextToken [.inr (.inr 294)] (am_up h7 297 (h7 294 12) (am_w32 ((h7 297 (h7 294 12)) + 1))) (fun _ h13 => Q 0 h13)) ∧ (¬ (h7 294 9) = 59 → Q 1 (am_up h7 297 (h7 294 12) (am_w32 ((h7 297 (h7 294 12)) + 1))))))) ∧ (¬ r6 = 0 → Q r6 h7))))))) : wf (d + 1) M_X7_clause Q 62 [some (.inr (.inr 294)), some (.inl v1), some (.inl v2), none, none] [.inl s1, .inr (.inr 294)] h := by
  intro h0
  obtain ⟨g1, H⟩ := H
  refine ar_putZ (pc := 62) (a := 294) (z := s1) 7 19 (by decide +kernel) k_294 rfl (by decide) rfl (fun _ => rfl) rfl g1 wf_RX7_284 ?_
  refine ar_aload_n (pc := 65) (i := 0) (k0 := 0) (by decide +kernel) rfl rfl ?_
  refine ar_iload_n (pc := 66) (i := 1) (k0 := 1) (by decide +kernel) rfl rfl ?_
  refine ar_putI (pc := 67) (a := 294) (z := v1) 7 14 (by decide +kernel) k_294 rfl (by decide) rfl (fun _ => rfl) rfl wf_RX7_178 ?_
  refine ar_aload_n (pc := 70) (i := 0) (k0 := 0) (by decide +kernel) rfl rfl ?_
  refine ar_callV (pc := 71) (M2 := M_X7_nextToken) (a := 294) (ci := 7) (as := []) (n2 := 321) (st := []) (by decide +kernel) rfl wm_RX7_203 wi_yX7_nextToken wl_yX7_nextToken k_294 rfl wz_RX7 wc_yX7_nextToken ⟨by decide, by decide, rfl⟩ (by decide) (Nat.le_of_ble_eq_true rfl) (Nat.le_refl _) (Nat.le_refl _) (am_Cl_mono H (fun r2 h3 H => ?_))
  show am_Wp true (d + 1) M_X7_clause 321 321 h0 Q 74 [some (.inr (.inr 294)), some (.inl v1), some (.inl v2), none, none] [] 321 h3
  refine ar_aload_n (pc := 74) (i := 0) (k0 := 0) (by decide +kernel) rfl rfl ?_
  refine ar_getV (pc := 75) (a := 294) (v := .inl (h3 294 12)) 7 12 (by decide +kernel) k_294 rfl (by decide) wf_RX7_168 rfl ?_
  refine ar_iconst (pc := 78) (z := 1) (by decide +kernel) (by unfold am_i32; omega) ?_
  refine ar_iadd (pc := 79) (x := (h3 294 12)) (y := 1) (by decide +kernel) ?_
  refine ar_bipush (pc := 80) (z := 9) (by decide +kernel) (by omega) ?_
  refine ar_iload_n (pc := 82) (i := 2) (k0 := 2) (by decide +kernel) rfl rfl ?_
  refine ar_imul (pc := 83) (x := 9) (y := v2) (by decide +kernel) ?_
  refine ar_iadd (pc := 84) (x := (am_w32 ((h3 294 12) + 1))) (y := (am_w32 (9 * v2))) (by decide +kernel) ?_
  refine ar_istore_n (pc := 85) (i := 3) (k0 := 3) (ls2 := [some (.inr (.inr 294)), some (.inl v1), some (.inl v2), some (.inl (am_w32 ((am_w32 ((h3 294 12) + 1)) + (am_w32 (9 * v2))))), none]) (by decide +kernel) rfl (by decide) rfl ?_
  refine ar_aload_n (pc := 86) (i := 0) (k0 := 0) (by decide +kernel) rfl rfl ?_
  refine ar_getFV (pc := 87) (a := 294) (b := 297) 7 2 (by decide +kernel) k_294 rfl (by decide) wf_RX7_16 rfl (fun _ => rfl) rfl ?_
  refine ar_iload_n (pc := 90) (i := 3) (k0 := 3) (by decide +kernel) rfl rfl ?_
  refine ar_iload_n (pc := 91) (i := 1) (k0 := 1) (by decide +kernel) rfl rfl ?_
  obtain ⟨g4, H⟩ := H
  obtain ⟨g5, H⟩ := H
  refine ar_iast (pc := 92) (a := 297) (i := (am_w32 ((am_w32 ((h3 294 12) + 1)) + (am_w32 (9 * v2))))) (z := v1) (by decide +kernel) k_297 g4 (am_lt_eq g5 (l_297).symm) ?_
  refine ar_aload_n (pc := 93) (i := 0) (k0 := 0) (by decide +kernel) rfl rfl ?_
  refine ar_iload_n (pc := 94) (i := 1) (k0 := 1) (by decide +kernel) rfl rfl ?_
  refine ar_iload_n (pc := 95) (i := 3) (k0 := 3) (by decide +kernel) rfl rfl ?_
  refine ar_callV (pc := 96) (M2 := M_X7_body) (a := 294) (ci := 7) (as := [.inl v1, .inl (am_w32 ((am_w32 ((h3 294 12) + 1)) + (am_w32 (9 * v2))))]) (n2 := 321) (st := []) (by decide +kernel) rfl wm_RX7_287 wi_yX7_body wl_yX7_body k_294 rfl wz_RX7 wc_yX7_body ⟨by decide, by decide, rfl⟩ (by decide) (Nat.le_of_ble_eq_true rfl) (Nat.le_refl _) (Nat.le_refl _) (am_Cl_mono H (fun r6 h7 H => ?_))
  show am_Wp true (d + 1) M_X7_clause 321 321 h0 Q 99 [some (.inr (.inr 294)), some (.inl v1), some (.inl v2), some (.inl (am_w32 ((am_w32 ((h3 294 12) + 1)) + (am_w32 (9 * v2))))), none] [.inl r6] 321 h7
  refine ar_istore (pc := 99) (i := 4) (ls2 := [some (.inr (.inr 294)), some (.inl v1), some (.inl v2), some (.inl (am_w32 ((am_w32 ((h3 294 12) + 1)) + (am_w32 (9 * v2))))), some (.inl r6)]) (by decide +kernel) (by decide) rfl ?_
  refine ar_iload (pc := 101) (i := 4) (by decide +kernel) rfl ?_
  refine ar_if_eq (pc := 103) (x := r6) (tgt := 109) (off := 6) (by decide +kernel) (by decide) (fun c8 => ?_) (fun c8 => ?_)
  · replace H := H.1 c8
    refine ar_aload_n (pc := 109) (i := 0) (k0 := 0) (by decide +kernel) rfl rfl ?_
    refine ar_getFV (pc := 110) (a := 294) (b := 297) 7 2 (by decide +kernel) k_294 rfl (by decide) wf_RX7_16 rfl (fun _ => rfl) rfl ?_
    refine ar_aload_n (pc := 113) (i := 0) (k0 := 0) (by decide +kernel) rfl rfl ?_
    refine ar_getV (pc := 114) (a := 294) (v := .inl (h7 294 12)) 7 12 (by decide +kernel) k_294 rfl (by decide) wf_RX7_168 rfl ?_
    refine ar_dup2 (pc := 117) (by decide +kernel) trivial trivial ?_
    obtain ⟨g9, H⟩ := H
    obtain ⟨g10, H⟩ := H
    refine ar_iald (pc := 118) (a := 297) (i := (h7 294 12)) (by decide +kernel) k_297 g9 (am_lt_eq g10 (l_297).symm) ?_
    refine ar_iconst (pc := 119) (z := 1) (by decide +kernel) (by unfold am_i32; omega) ?_
    refine ar_iadd (pc := 120) (x := (h7 297 (h7 294 12))) (y := 1) (by decide +kernel) ?_
    refine ar_iast (pc := 121) (a := 297) (i := (h7 294 12)) (z := (am_w32 ((h7 297 (h7 294 12)) + 1))) (by decide +kernel) k_297 g9 (am_lt_eq g10 (l_297).symm) ?_
    refine ar_aload_n (pc := 122) (i := 0) (k0 := 0) (by decide +kernel) rfl rfl ?_
    refine ar_getV (pc := 123) (a := 294) (v := .inl (h7 294 9)) 7 9 (by decide +kernel) k_294 rfl (by decide) wf_RX7_129 (by first | rfl | (simp [am_tv, am_ty, tyX7, am_up, am_cp]; done) | (simp [am_tv, am_ty, tyX7, am_up, am_cp] <;> intros <;> omega)) ?_
    refine ar_bipush (pc := 126) (z := 59) (by decide +kernel) (by omega) ?_
    refine ar_icmp_eq (pc := 128) (x := (h7 294 9)) (y := 59) (tgt := 133) (off := 5) (by decide +kernel) (by decide) (fun c11 => ?_) (fun c11 => ?_)
    · replace H := H.1 c11
      refine ar_aload_n (pc := 133) (i := 0) (k0 := 0) (by decide +kernel) rfl rfl ?_
      refine ar_callV (pc := 134) (M2 := M_X7_nextToken) (a := 294) (ci := 7) (as := []) (n2 := 321) (st := []) (by decide +kernel) rfl wm_RX7_203 wi_yX7_nextToken wl_yX7_nextToken k_294 rfl wz_RX7 wc_yX7_nextToken ⟨by decide, by decide, rfl⟩ (by decide) (Nat.le_of_ble_eq_true rfl) (Nat.le_refl _) (Nat.le_refl _) (am_Cl_mono H (fun r12 h13 H => ?_))
      show am_Wp true (d + 1) M_X7_clause 321 321 h0 Q 137 [some (.inr (.inr 294)), some (.inl v1), some (.inl v2), some (.inl (am_w32 ((am_w32 ((h3 294 12) + 1)) + (am_w32 (9 * v2))))), some (.inl r6)] [] 321 h13
      refine ar_iconst (pc := 137) (z := 0) (by decide +kernel) (by unfold am_i32; omega) ?_
      exact ar_iret (pc := 138) (x := 0) (by decide +kernel) rfl rfl H
    · replace H := H.2 c11
      refine ar_iconst (pc := 131) (z := 1) (by decide +kernel) (by unfold am_i32; omega) ?_
      exact ar_iret (pc := 132) (x := 1) (by decide +kernel) rfl rfl H
  · replace H := H.2 c8
    refine ar_iload (pc := 106) (i := 4) (by decide +kernel) rfl ?_
    exact ar_iret (pc := 108) (x := r6) (by decide +kernel) rfl rfl H

/-! ByteIntervalsModel.readText()I -/
theorem B_X7_readText_0 {d : Nat} {Q : Int → am_H → Prop} {h : am_H} (H : (0 ≤ (am_w32 (825 * (h 295 0)))) ∧ (((am_w32 (825 * (h 295 0))) < 3300) ∧ (cf d M_X7_nextToken [.inr (.inr 294)] (am_up (am_up (am_up (am_up (am_up (am_up h 294 12 (am_w32 (825 * (h 295 0)))) 297 (am_w32 (825 * (h 295 0))) 0) 294 13 0) 294 19 0) 294 20 0) 294 7 0) (fun _ h4 => wf (d + 1) M_X7_readText Q 48 [some (.inr (.inr 294)), none] [] h4)))) : wf (d + 1) M_X7_readText Q 0 [some (.inr (.inr 294)), none] [] h := by
  intro h0
  refine ar_aload_n (pc := 0) (i := 0) (k0 := 0) (by decide +kernel) rfl rfl ?_
  refine ar_sipush (pc := 1) (z := 825) (by decide +kernel) (by omega) ?_
  refine ar_aload_n (pc := 4) (i := 0) (k0 := 0) (by decide +kernel) rfl rfl ?_
  refine ar_getFV (pc := 5) (a := 294) (b := 295) 7 0 (by decide +kernel) k_294 rfl (by decide) wf_RX7_7 rfl (fun _ => rfl) rfl ?_
  refine ar_iconst (pc := 8) (z := 0) (by decide +kernel) (by unfold am_i32; omega) ?_
  refine ar_iald (pc := 9) (a := 295) (i := 0) (by decide +kernel) k_295 (by decide) (am_lt_eq (b := 2159) (by decide) (l_295).symm) ?_
  refine ar_imul (pc := 10) (x := 825) (y := (h 295 0)) (by decide +kernel) ?_
  refine ar_putI (pc := 11) (a := 294) (z := (am_w32 (825 * (h 295 0)))) 7 12 (by decide +kernel) k_294 rfl (by decide) rfl (fun _ => rfl) rfl wf_RX7_168 ?_
  refine ar_aload_n (pc := 14) (i := 0) (k0 := 0) (by decide +kernel) rfl rfl ?_
  refine ar_getFV (pc := 15) (a := 294) (b := 297) 7 2 (by decide +kernel) k_294 rfl (by decide) wf_RX7_16 rfl (fun _ => rfl) rfl ?_
  refine ar_aload_n (pc := 18) (i := 0) (k0 := 0) (by decide +kernel) rfl rfl ?_
  refine ar_getV (pc := 19) (a := 294) (v := .inl (am_w32 (825 * (h 295 0)))) 7 12 (by decide +kernel) k_294 rfl (by decide) wf_RX7_168 (by first | rfl | (simp [am_tv, am_ty, tyX7, am_up, am_cp]; done) | (simp [am_tv, am_ty, tyX7, am_up, am_cp] <;> intros <;> omega)) ?_
  refine ar_iconst (pc := 22) (z := 0) (by decide +kernel) (by unfold am_i32; omega) ?_
  obtain ⟨g1, H⟩ := H
  obtain ⟨g2, H⟩ := H
  refine ar_iast (pc := 23) (a := 297) (i := (am_w32 (825 * (h 295 0)))) (z := 0) (by decide +kernel) k_297 g1 (am_lt_eq g2 (l_297).symm) ?_
  refine ar_aload_n (pc := 24) (i := 0) (k0 := 0) (by decide +kernel) rfl rfl ?_
  refine ar_iconst (pc := 25) (z := 0) (by decide +kernel) (by unfold am_i32; omega) ?_
  refine ar_putI (pc := 26) (a := 294) (z := 0) 7 13 (by decide +kernel) k_294 rfl (by decide) rfl (fun _ => rfl) rfl wf_RX7_171 ?_
  refine ar_aload_n (pc := 29) (i := 0) (k0 := 0) (by decide +kernel) rfl rfl ?_
  refine ar_iconst (pc := 30) (z := 0) (by decide +kernel) (by unfold am_i32; omega) ?_
  refine ar_putZ (pc := 31) (a := 294) (z := 0) 7 19 (by decide +kernel) k_294 rfl (by decide) rfl (fun _ => rfl) rfl (by decide) wf_RX7_284 ?_
  refine ar_aload_n (pc := 34) (i := 0) (k0 := 0) (by decide +kernel) rfl rfl ?_
  refine ar_iconst (pc := 35) (z := 0) (by decide +kernel) (by unfold am_i32; omega) ?_
  refine ar_putI (pc := 36) (a := 294) (z := 0) 7 20 (by decide +kernel) k_294 rfl (by decide) rfl (fun _ => rfl) rfl wf_RX7_257 ?_
  refine ar_aload_n (pc := 39) (i := 0) (k0 := 0) (by decide +kernel) rfl rfl ?_
  refine ar_iconst (pc := 40) (z := 0) (by decide +kernel) (by unfold am_i32; omega) ?_
  refine ar_putI (pc := 41) (a := 294) (z := 0) 7 7 (by decide +kernel) k_294 rfl (by decide) rfl (fun _ => rfl) rfl wf_RX7_119 ?_
  refine ar_aload_n (pc := 44) (i := 0) (k0 := 0) (by decide +kernel) rfl rfl ?_
  refine ar_callV (pc := 45) (M2 := M_X7_nextToken) (a := 294) (ci := 7) (as := []) (n2 := 321) (st := []) (by decide +kernel) rfl wm_RX7_203 wi_yX7_nextToken wl_yX7_nextToken k_294 rfl wz_RX7 wc_yX7_nextToken ⟨by decide, by decide, rfl⟩ (by decide) (Nat.le_of_ble_eq_true rfl) (Nat.le_refl _) (Nat.le_refl _) (am_Cl_mono H (fun r3 h4 H => ?_))
  show am_Wp true (d + 1) M_X7_readText 321 321 h0 Q 48 [some (.inr (.inr 294)), none] [] 321 h4
  exact H h0
theorem B_X7_readText_48 {d : Nat} {Q : Int → am_H → Prop} {h : am_H} (H : ((h 294 9) = 0 → Q 0 h) ∧ (¬ (h 294 9) = 0 → cf d M_X7_clause [.inr (.inr 294)] h (fun r2 h3 => (r2 = 0 → wf (d + 1) M_X7_readText Q 48 [some (.inr (.inr 294)), none] [] h3) ∧ (¬ r2 = 0 → Q r2 h3)))) : wf (d + 1) M_X7_readText Q 48 [some (.inr (.inr 294)), none] [] h := by
  intro h0
  refine ar_aload_n (pc := 48) (i := 0) (k0 := 0) (by decide +kernel) rfl rfl ?_
  refine ar_getV (pc := 49) (a := 294) (v := .inl (h 294 9)) 7 9 (by decide +kernel) k_294 rfl (by decide) wf_RX7_129 rfl ?_
  refine ar_if_eq (pc := 52) (x := (h 294 9)) (tgt := 69) (off := 17) (by decide +kernel) (by decide) (fun c1 => ?_) (fun c1 => ?_)
  · replace H := H.1 c1
    refine ar_iconst (pc := 69) (z := 0) (by decide +kernel) (by unfold am_i32; omega) ?_
    exact ar_iret (pc := 70) (x := 0) (by decide +kernel) rfl rfl H
  · replace H := H.2 c1
    refine ar_aload_n (pc := 55) (i := 0) (k0 := 0) (by decide +kernel) rfl rfl ?_
    refine ar_callV (pc := 56) (M2 := M_X7_clause) (a := 294) (ci := 7) (as := []) (n2 := 321) (st := []) (by decide +kernel) rfl wm_RX7_290 wi_yX7_clause wl_yX7_clause k_294 rfl wz_RX7 wc_yX7_clause ⟨by decide, by decide, rfl⟩ (by decide) (Nat.le_of_ble_eq_true rfl) (Nat.le_refl _) (Nat.le_refl _) (am_Cl_mono H (fun r2 h3 H => ?_))
    show am_Wp true (d + 1) M_X7_readText 321 321 h0 Q 59 [some (.inr (.inr 294)), none] [.inl r2] 321 h3
    refine ar_istore_n (pc := 59) (i := 1) (k0 := 1) (ls2 := [some (.inr (.inr 294)), some (.inl r2)]) (by decide +kernel) rfl (by decide) rfl ?_
    refine ar_iload_n (pc := 60) (i := 1) (k0 := 1) (by decide +kernel) rfl rfl ?_
    refine ar_if_eq (pc := 61) (x := r2) (tgt := 66) (off := 5) (by decide +kernel) (by decide) (fun c4 => ?_) (fun c4 => ?_)
    · replace H := H.1 c4
      refine ar_goto (pc := 66) (tgt := 48) (off := -18) (by decide +kernel) (by decide) ?_
      refine ar_forget [true, false] rfl ?_
      exact H h0
    · replace H := H.2 c4
      refine ar_iload_n (pc := 64) (i := 1) (k0 := 1) (by decide +kernel) rfl rfl ?_
      exact ar_iret (pc := 65) (x := r2) (by decide +kernel) rfl rfl H

/-! ByteIntervalsModel.text()I -/
theorem B_X7_text_0 {d : Nat} {Q : Int → am_H → Prop} {h : am_H} (H : (¬ (h 295 0) = 4 → cf d M_X7_readText [.inr (.inr 294)] h (fun r2 h3 => (¬ r2 = 0 → wf (d + 1) M_X7_text Q 36 [some (.inr (.inr 294))] [.inl (h3 294 8), .inr (.inr 294)] (am_up h3 294 5 r2)) ∧ (r2 = 0 → wf (d + 1) M_X7_text Q 36 [some (.inr (.inr 294))] [.inl (-1), .inr (.inr 294)] (am_up h3 294 5 r2)))) ∧ ((h 295 0) = 4 → Q (-1) h)) : wf (d + 1) M_X7_text Q 0 [some (.inr (.inr 294))] [] h := by
  intro h0
  refine ar_aload_n (pc := 0) (i := 0) (k0 := 0) (by decide +kernel) rfl rfl ?_
  refine ar_getFV (pc := 1) (a := 294) (b := 295) 7 0 (by decide +kernel) k_294 rfl (by decide) wf_RX7_7 rfl (fun _ => rfl) rfl ?_
  refine ar_iconst (pc := 4) (z := 0) (by decide +kernel) (by unfold am_i32; omega) ?_
  refine ar_iald (pc := 5) (a := 295) (i := 0) (by decide +kernel) k_295 (by decide) (am_lt_eq (b := 2159) (by decide) (l_295).symm) ?_
  refine ar_iconst (pc := 6) (z := 4) (by decide +kernel) (by unfold am_i32; omega) ?_
  refine ar_icmp_ne (pc := 7) (x := (h 295 0)) (y := 4) (tgt := 12) (off := 5) (by decide +kernel) (by decide) (fun c1 => ?_) (fun c1 => ?_)
  · replace H := H.1 c1
    refine ar_aload_n (pc := 12) (i := 0) (k0 := 0) (by decide +kernel) rfl rfl ?_
    refine ar_aload_n (pc := 13) (i := 0) (k0 := 0) (by decide +kernel) rfl rfl ?_
    refine ar_callV (pc := 14) (M2 := M_X7_readText) (a := 294) (ci := 7) (as := []) (n2 := 321) (st := [.inr (.inr 294)]) (by decide +kernel) rfl wm_RX7_293 wi_yX7_readText wl_yX7_readText k_294 rfl wz_RX7 wc_yX7_readText ⟨by decide, by decide, rfl⟩ (by decide) (Nat.le_of_ble_eq_true rfl) (Nat.le_refl _) (Nat.le_refl _) (am_Cl_mono H (fun r2 h3 H => ?_))
    show am_Wp true (d + 1) M_X7_text 321 321 h0 Q 17 [some (.inr (.inr 294))] [.inl r2, .inr (.inr 294)] 321 h3
    refine ar_putI (pc := 17) (a := 294) (z := r2) 7 5 (by decide +kernel) k_294 rfl (by decide) rfl (fun _ => rfl) rfl wf_RX7_22 ?_
    refine ar_aload_n (pc := 20) (i := 0) (k0 := 0) (by decide +kernel) rfl rfl ?_
    refine ar_aload_n (pc := 21) (i := 0) (k0 := 0) (by decide +kernel) rfl rfl ?_
    refine ar_getV (pc := 22) (a := 294) (v := .inl r2) 7 5 (by decide +kernel) k_294 rfl (by decide) wf_RX7_22 (by first | rfl | (simp [am_tv, am_ty, tyX7, am_up, am_cp]; done) | (simp [am_tv, am_ty, tyX7, am_up, am_cp] <;> intros <;> omega)) ?_
    refine ar_if_ne (pc := 25) (x := r2) (tgt := 32) (off := 7) (by decide +kernel) (by decide) (fun c4 => ?_) (fun c4 => ?_)
    · replace H := H.1 c4
      refine ar_aload_n (pc := 32) (i := 0) (k0 := 0) (by decide +kernel) rfl rfl ?_
      refine ar_getV (pc := 33) (a := 294) (v := .inl (h3 294 8)) 7 8 (by decide +kernel) k_294 rfl (by decide) wf_RX7_126 (by first | rfl | (simp [am_tv, am_ty, tyX7, am_up, am_cp]; done) | (simp [am_tv, am_ty, tyX7, am_up, am_cp] <;> intros <;> omega)) ?_
      exact H h0
    · replace H := H.2 c4
      refine ar_iconst (pc := 28) (z := (-1)) (by decide +kernel) (by unfold am_i32; omega) ?_
      refine ar_goto (pc := 29) (tgt := 36) (off := 7) (by decide +kernel) (by decide) ?_
      exact H h0
  · replace H := H.2 c1
    refine ar_iconst (pc := 10) (z := (-1)) (by decide +kernel) (by unfold am_i32; omega) ?_
    exact ar_iret (pc := 11) (x := (-1)) (by decide +kernel) rfl rfl H
theorem B_X7_text_36 {d : Nat} {Q : Int → am_H → Prop} {h : am_H} {s1 : Int} (H : ((h 294 5) = 0 → Q (am_w32 ((am_w32 ((h 295 0) + 1)) - 1)) (am_up (am_up (am_up h 294 6 s1) 294 4 0) 295 0 (am_w32 ((h 295 0) + 1)))) ∧ (¬ (h 294 5) = 0 → Q (-1) (am_up (am_up h 294 6 s1) 294 4 0))) : wf (d + 1) M_X7_text Q 36 [some (.inr (.inr 294))] [.inl s1, .inr (.inr 294)] h := by
  intro h0
  refine ar_putI (pc := 36) (a := 294) (z := s1) 7 6 (by decide +kernel) k_294 rfl (by decide) rfl (fun _ => rfl) rfl wf_RX7_26 ?_
  refine ar_aload_n (pc := 39) (i := 0) (k0 := 0) (by decide +kernel) rfl rfl ?_
  refine ar_iconst (pc := 40) (z := 0) (by decide +kernel) (by unfold am_i32; omega) ?_
  refine ar_putI (pc := 41) (a := 294) (z := 0) 7 4 (by decide +kernel) k_294 rfl (by decide) rfl (fun _ => rfl) rfl wf_RX7_112 ?_
  refine ar_aload_n (pc := 44) (i := 0) (k0 := 0) (by decide +kernel) rfl rfl ?_
  refine ar_getV (pc := 45) (a := 294) (v := .inl (h 294 5)) 7 5 (by decide +kernel) k_294 rfl (by decide) wf_RX7_22 (by first | rfl | (simp [am_tv, am_ty, tyX7, am_up, am_cp]; done) | (simp [am_tv, am_ty, tyX7, am_up, am_cp] <;> intros <;> omega)) ?_
  refine ar_if_eq (pc := 48) (x := (h 294 5)) (tgt := 53) (off := 5) (by decide +kernel) (by decide) (fun c1 => ?_) (fun c1 => ?_)
  · replace H := H.1 c1
    refine ar_aload_n (pc := 53) (i := 0) (k0 := 0) (by decide +kernel) rfl rfl ?_
    refine ar_getFV (pc := 54) (a := 294) (b := 295) 7 0 (by decide +kernel) k_294 rfl (by decide) wf_RX7_7 rfl (fun _ => rfl) rfl ?_
    refine ar_iconst (pc := 57) (z := 0) (by decide +kernel) (by unfold am_i32; omega) ?_
    refine ar_dup2 (pc := 58) (by decide +kernel) trivial trivial ?_
    refine ar_ialdV (pc := 59) (a := 295) (i := 0) (v := (h 295 0)) (by first | rfl | (simp [am_up, am_cp]; done) | (simp [am_up, am_cp] <;> intros <;> omega)) (by decide +kernel) k_295 (by decide) (am_lt_eq (b := 2159) (by decide) (l_295).symm) ?_
    refine ar_iconst (pc := 60) (z := 1) (by decide +kernel) (by unfold am_i32; omega) ?_
    refine ar_iadd (pc := 61) (x := (h 295 0)) (y := 1) (by decide +kernel) ?_
    refine ar_iast (pc := 62) (a := 295) (i := 0) (z := (am_w32 ((h 295 0) + 1))) (by decide +kernel) k_295 (by decide) (am_lt_eq (b := 2159) (by decide) (l_295).symm) ?_
    refine ar_aload_n (pc := 63) (i := 0) (k0 := 0) (by decide +kernel) rfl rfl ?_
    refine ar_getFV (pc := 64) (a := 294) (b := 295) 7 0 (by decide +kernel) k_294 rfl (by decide) wf_RX7_7 rfl (fun _ => rfl) rfl ?_
    refine ar_iconst (pc := 67) (z := 0) (by decide +kernel) (by unfold am_i32; omega) ?_
    refine ar_ialdV (pc := 68) (a := 295) (i := 0) (v := (am_w32 ((h 295 0) + 1))) (by first | rfl | (simp [am_up, am_cp]; done) | (simp [am_up, am_cp] <;> intros <;> omega)) (by decide +kernel) k_295 (by decide) (am_lt_eq (b := 2159) (by decide) (l_295).symm) ?_
    refine ar_iconst (pc := 69) (z := 1) (by decide +kernel) (by unfold am_i32; omega) ?_
    refine ar_isub (pc := 70) (x := (am_w32 ((h 295 0) + 1))) (y := 1) (by decide +kernel) ?_
    exact ar_iret (pc := 71) (x := (am_w32 ((am_w32 ((h 295 0) + 1)) - 1))) (by decide +kernel) rfl rfl H
  · replace H := H.2 c1
    refine ar_iconst (pc := 51) (z := (-1)) (by decide +kernel) (by unfold am_i32; omega) ?_
    exact ar_iret (pc := 52) (x := (-1)) (by decide +kernel) rfl rfl H

/-! ByteIntervalsModel.fault(I)I -/
theorem B_X7_fault_0 {d : Nat} {Q : Int → am_H → Prop} {h : am_H} {v1 : Int} (H : (¬ v1 = 0 → (¬ v1 = 1 → Q (-1) h) ∧ (v1 = 1 → Q (h 294 6) h)) ∧ (v1 = 0 → Q (h 294 5) h)) : wf d M_X7_fault Q 0 [some (.inr (.inr 294)), some (.inl v1)] [] h := by
  intro h0
  refine ar_iload_n (pc := 0) (i := 1) (k0 := 1) (by decide +kernel) rfl rfl ?_
  refine ar_if_ne (pc := 1) (x := v1) (tgt := 11) (off := 10) (by decide +kernel) (by decide) (fun c1 => ?_) (fun c1 => ?_)
  · replace H := H.1 c1
    refine ar_iload_n (pc := 11) (i := 1) (k0 := 1) (by decide +kernel) rfl rfl ?_
    refine ar_iconst (pc := 12) (z := 1) (by decide +kernel) (by unfold am_i32; omega) ?_
    refine ar_icmp_ne (pc := 13) (x := v1) (y := 1) (tgt := 23) (off := 10) (by decide +kernel) (by decide) (fun c2 => ?_) (fun c2 => ?_)
    · replace H := H.1 c2
      refine ar_iconst (pc := 23) (z := (-1)) (by decide +kernel) (by unfold am_i32; omega) ?_
      exact ar_iret (pc := 24) (x := (-1)) (by decide +kernel) rfl rfl H
    · replace H := H.2 c2
      refine ar_aload_n (pc := 16) (i := 0) (k0 := 0) (by decide +kernel) rfl rfl ?_
      refine ar_getV (pc := 17) (a := 294) (v := .inl (h 294 6)) 7 6 (by decide +kernel) k_294 rfl (by decide) wf_RX7_26 rfl ?_
      refine ar_goto (pc := 20) (tgt := 24) (off := 4) (by decide +kernel) (by decide) ?_
      exact ar_iret (pc := 24) (x := (h 294 6)) (by decide +kernel) rfl rfl H
  · replace H := H.2 c1
    refine ar_aload_n (pc := 4) (i := 0) (k0 := 0) (by decide +kernel) rfl rfl ?_
    refine ar_getV (pc := 5) (a := 294) (v := .inl (h 294 5)) 7 5 (by decide +kernel) k_294 rfl (by decide) wf_RX7_22 rfl ?_
    refine ar_goto (pc := 8) (tgt := 24) (off := 16) (by decide +kernel) (by decide) ?_
    exact ar_iret (pc := 24) (x := (h 294 5)) (by decide +kernel) rfl rfl H

/-! ByteIntervalsModel.by(I)Z -/
theorem B_X7_by_0 {d : Nat} {Q : Int → am_H → Prop} {h : am_H} {v1 : Int} (H : cf d M_X7_isIn [.inl v1, .inl (-1), .inl (am_w32 ((h 295 0) - 1))] h (fun r1 h2 => (¬ r1 = 0 → Q 1 (am_up h2 295 1 v1)) ∧ (r1 = 0 → Q 0 h2))) : wf (d + 1) M_X7_by Q 0 [some (.inr (.inr 294)), some (.inl v1)] [] h := by
  intro h0
  refine ar_iload_n (pc := 0) (i := 1) (k0 := 1) (by decide +kernel) rfl rfl ?_
  refine ar_iconst (pc := 1) (z := (-1)) (by decide +kernel) (by unfold am_i32; omega) ?_
  refine ar_aload_n (pc := 2) (i := 0) (k0 := 0) (by decide +kernel) rfl rfl ?_
  refine ar_getFV (pc := 3) (a := 294) (b := 295) 7 0 (by decide +kernel) k_294 rfl (by decide) wf_RX7_7 rfl (fun _ => rfl) rfl ?_
  refine ar_iconst (pc := 6) (z := 0) (by decide +kernel) (by unfold am_i32; omega) ?_
  refine ar_iald (pc := 7) (a := 295) (i := 0) (by decide +kernel) k_295 (by decide) (am_lt_eq (b := 2159) (by decide) (l_295).symm) ?_
  refine ar_iconst (pc := 8) (z := 1) (by decide +kernel) (by unfold am_i32; omega) ?_
  refine ar_isub (pc := 9) (x := (h 295 0)) (y := 1) (by decide +kernel) ?_
  refine ar_callS (pc := 10) (M2 := M_X7_isIn) (as := [.inl v1, .inl (-1), .inl (am_w32 ((h 295 0) - 1))]) (n2 := 321) (st := []) (by decide +kernel) rfl wm_RX7_108 ws_yX7_isIn wz_RX7 wc_yX7_isIn ⟨by decide, by decide, rfl⟩ (by decide) (Nat.le_of_ble_eq_true rfl) (Nat.le_refl _) (Nat.le_refl _) (am_Cl_mono H (fun r1 h2 H => ?_))
  show am_Wp true (d + 1) M_X7_by 321 321 h0 Q 13 [some (.inr (.inr 294)), some (.inl v1)] [.inl r1] 321 h2
  refine ar_if_ne (pc := 13) (x := r1) (tgt := 18) (off := 5) (by decide +kernel) (by decide) (fun c3 => ?_) (fun c3 => ?_)
  · replace H := H.1 c3
    refine ar_aload_n (pc := 18) (i := 0) (k0 := 0) (by decide +kernel) rfl rfl ?_
    refine ar_getFV (pc := 19) (a := 294) (b := 295) 7 0 (by decide +kernel) k_294 rfl (by decide) wf_RX7_7 rfl (fun _ => rfl) rfl ?_
    refine ar_iconst (pc := 22) (z := 1) (by decide +kernel) (by unfold am_i32; omega) ?_
    refine ar_iload_n (pc := 23) (i := 1) (k0 := 1) (by decide +kernel) rfl rfl ?_
    refine ar_iast (pc := 24) (a := 295) (i := 1) (z := v1) (by decide +kernel) k_295 (by decide) (am_lt_eq (b := 2159) (by decide) (l_295).symm) ?_
    refine ar_iconst (pc := 25) (z := 1) (by decide +kernel) (by unfold am_i32; omega) ?_
    exact ar_zret (pc := 26) (x := 1) (by decide +kernel) rfl rfl (by decide) H
  · replace H := H.2 c3
    refine ar_iconst (pc := 16) (z := 0) (by decide +kernel) (by unfold am_i32; omega) ?_
    exact ar_zret (pc := 17) (x := 0) (by decide +kernel) rfl rfl (by decide) H

/-! ByteIntervalsModel.clip(J)J -/
theorem B_X7_clip_0 {d : Nat} {Q : Int → am_H → Prop} {h : am_H} {v0 : Int} (H : ((am_lcmp v0 1000000) ≤ 0 → (0 ≤ (am_lcmp v0 (-1000000)) → Q v0 h) ∧ ((am_lcmp v0 (-1000000)) < 0 → Q (-1000000) h)) ∧ (0 < (am_lcmp v0 1000000) → Q 1000000 h)) : wf d M_X7_clip Q 0 [some (.inr (.inl v0)), none] [] h := by
  intro h0
  refine ar_lload_n (pc := 0) (i := 0) (k0 := 0) (by decide +kernel) rfl rfl ?_
  refine ar_ldc2 (pc := 1) (z := 1000000) (by decide +kernel) wk_RX7_296 (by unfold am_i64; omega) ?_
  refine ar_lcmp (pc := 4) (x := v0) (y := 1000000) (by decide +kernel) ?_
  refine ar_if_le (pc := 5) (x := (am_lcmp v0 1000000)) (tgt := 14) (off := 9) (by decide +kernel) (by decide) (fun c1 => ?_) (fun c1 => ?_)
  · replace H := H.1 c1
    refine ar_lload_n (pc := 14) (i := 0) (k0 := 0) (by decide +kernel) rfl rfl ?_
    refine ar_ldc2 (pc := 15) (z := (-1000000)) (by decide +kernel) wk_RX7_298 (by unfold am_i64; omega) ?_
    refine ar_lcmp (pc := 18) (x := v0) (y := (-1000000)) (by decide +kernel) ?_
    refine ar_if_ge (pc := 19) (x := (am_lcmp v0 (-1000000))) (tgt := 28) (off := 9) (by decide +kernel) (by decide) (fun c2 => ?_) (fun c2 => ?_)
    · replace H := H.1 c2
      refine ar_lload_n (pc := 28) (i := 0) (k0 := 0) (by decide +kernel) rfl rfl ?_
      exact ar_lret (pc := 29) (x := v0) (by decide +kernel) rfl rfl H
    · replace H := H.2 c2
      refine ar_ldc2 (pc := 22) (z := (-1000000)) (by decide +kernel) wk_RX7_298 (by unfold am_i64; omega) ?_
      refine ar_goto (pc := 25) (tgt := 29) (off := 4) (by decide +kernel) (by decide) ?_
      exact ar_lret (pc := 29) (x := (-1000000)) (by decide +kernel) rfl rfl H
  · replace H := H.2 c1
    refine ar_ldc2 (pc := 8) (z := 1000000) (by decide +kernel) wk_RX7_296 (by unfold am_i64; omega) ?_
    refine ar_goto (pc := 11) (tgt := 29) (off := 18) (by decide +kernel) (by decide) ?_
    exact ar_lret (pc := 29) (x := 1000000) (by decide +kernel) rfl rfl H

/-! ByteIntervalsModel.two(IJJ)J -/
theorem B_X7_two_0 {d : Nat} {Q : Int → am_H → Prop} {h : am_H} {v0 v1 v3 : Int} (H : (v0 < 6 ∨ 8 < v0 → (¬ (am_lcmp v3 0) = 0 → (v3 ≠ 0) ∧ (cf d M_X7_clip [.inr (.inl (am_w64 (v1.tdiv v3)))] h (fun r4 h5 => Q r4 h5))) ∧ ((am_lcmp v3 0) = 0 → Q 0 h)) ∧ (v0 = 6 → cf d M_X7_clip [.inr (.inl (am_w64 (v1 + v3)))] h (fun r6 h7 => Q r6 h7)) ∧ (v0 = 7 → cf d M_X7_clip [.inr (.inl (am_w64 (v1 - v3)))] h (fun r8 h9 => Q r8 h9)) ∧ (v0 = 8 → cf d M_X7_clip [.inr (.inl (am_w64 (v1 * v3)))] h (fun r10 h11 => Q r10 h11))) : wf (d + 1) M_X7_two Q 0 [some (.inl v0), some (.inr (.inl v1)), none, some (.inr (.inl v3)), none] [] h := by
  intro h0
  refine ar_iload_n (pc := 0) (i := 0) (k0 := 0) (by decide +kernel) rfl rfl ?_
  refine ar_table (pc := 1) (dflt := 48) (lo := 6) (hi := 8) (offs := #[27, 34, 41]) (len := 27) (x := v0) (dt := 49) [28, 35, 42] (by decide +kernel) (by decide) (by decide) (by decide) (fun c1 => ?_) (And.intro (fun c1 => ?_) (And.intro (fun c1 => ?_) (And.intro (fun c1 => ?_) (True.intro))))
  · replace H := H.1 c1
    refine ar_lload_n (pc := 49) (i := 3) (k0 := 3) (by decide +kernel) rfl rfl ?_
    refine ar_lconst (pc := 50) (i := 0) (z := 0) (by decide +kernel) rfl ?_
    refine ar_lcmp (pc := 51) (x := v3) (y := 0) (by decide +kernel) ?_
    refine ar_if_ne (pc := 52) (x := (am_lcmp v3 0)) (tgt := 59) (off := 7) (by decide +kernel) (by decide) (fun c2 => ?_) (fun c2 => ?_)
    · replace H := H.1 c2
      refine ar_lload_n (pc := 59) (i := 1) (k0 := 1) (by decide +kernel) rfl rfl ?_
      refine ar_lload_n (pc := 60) (i := 3) (k0 := 3) (by decide +kernel) rfl rfl ?_
      obtain ⟨g3, H⟩ := H
      refine ar_ldiv (pc := 61) (x := v1) (y := v3) (by decide +kernel) g3 ?_
      refine ar_callS (pc := 62) (M2 := M_X7_clip) (as := [.inr (.inl (am_w64 (v1.tdiv v3)))]) (n2 := 321) (st := []) (by decide +kernel) rfl wm_RX7_300 ws_yX7_clip wz_RX7 wc_yX7_clip ⟨by decide, by decide, rfl⟩ (by decide) (Nat.le_of_ble_eq_true rfl) (Nat.le_refl _) (Nat.le_refl _) (am_Cl_mono H (fun r4 h5 H => ?_))
      show am_Wp true (d + 1) M_X7_two 321 321 h0 Q 65 [some (.inl v0), some (.inr (.inl v1)), none, some (.inr (.inl v3)), none] [.inr (.inl r4)] 321 h5
      exact ar_lret (pc := 65) (x := r4) (by decide +kernel) rfl rfl H
    · replace H := H.2 c2
      refine ar_lconst (pc := 55) (i := 0) (z := 0) (by decide +kernel) rfl ?_
      refine ar_goto (pc := 56) (tgt := 65) (off := 9) (by decide +kernel) (by decide) ?_
      exact ar_lret (pc := 65) (x := 0) (by decide +kernel) rfl rfl H
  · replace H := H.2.1 c1
    refine ar_lload_n (pc := 28) (i := 1) (k0 := 1) (by decide +kernel) rfl rfl ?_
    refine ar_lload_n (pc := 29) (i := 3) (k0 := 3) (by decide +kernel) rfl rfl ?_
    refine ar_ladd (pc := 30) (x := v1) (y := v3) (by decide +kernel) ?_
    refine ar_callS (pc := 31) (M2 := M_X7_clip) (as := [.inr (.inl (am_w64 (v1 + v3)))]) (n2 := 321) (st := []) (by decide +kernel) rfl wm_RX7_300 ws_yX7_clip wz_RX7 wc_yX7_clip ⟨by decide, by decide, rfl⟩ (by decide) (Nat.le_of_ble_eq_true rfl) (Nat.le_refl _) (Nat.le_refl _) (am_Cl_mono H (fun r6 h7 H => ?_))
    show am_Wp true (d + 1) M_X7_two 321 321 h0 Q 34 [some (.inl v0), some (.inr (.inl v1)), none, some (.inr (.inl v3)), none] [.inr (.inl r6)] 321 h7
    exact ar_lret (pc := 34) (x := r6) (by decide +kernel) rfl rfl H
  · replace H := H.2.2.1 c1
    refine ar_lload_n (pc := 35) (i := 1) (k0 := 1) (by decide +kernel) rfl rfl ?_
    refine ar_lload_n (pc := 36) (i := 3) (k0 := 3) (by decide +kernel) rfl rfl ?_
    refine ar_lsub (pc := 37) (x := v1) (y := v3) (by decide +kernel) ?_
    refine ar_callS (pc := 38) (M2 := M_X7_clip) (as := [.inr (.inl (am_w64 (v1 - v3)))]) (n2 := 321) (st := []) (by decide +kernel) rfl wm_RX7_300 ws_yX7_clip wz_RX7 wc_yX7_clip ⟨by decide, by decide, rfl⟩ (by decide) (Nat.le_of_ble_eq_true rfl) (Nat.le_refl _) (Nat.le_refl _) (am_Cl_mono H (fun r8 h9 H => ?_))
    show am_Wp true (d + 1) M_X7_two 321 321 h0 Q 41 [some (.inl v0), some (.inr (.inl v1)), none, some (.inr (.inl v3)), none] [.inr (.inl r8)] 321 h9
    exact ar_lret (pc := 41) (x := r8) (by decide +kernel) rfl rfl H
  · replace H := H.2.2.2 c1
    refine ar_lload_n (pc := 42) (i := 1) (k0 := 1) (by decide +kernel) rfl rfl ?_
    refine ar_lload_n (pc := 43) (i := 3) (k0 := 3) (by decide +kernel) rfl rfl ?_
    refine ar_lmul (pc := 44) (x := v1) (y := v3) (by decide +kernel) ?_
    refine ar_callS (pc := 45) (M2 := M_X7_clip) (as := [.inr (.inl (am_w64 (v1 * v3)))]) (n2 := 321) (st := []) (by decide +kernel) rfl wm_RX7_300 ws_yX7_clip wz_RX7 wc_yX7_clip ⟨by decide, by decide, rfl⟩ (by decide) (Nat.le_of_ble_eq_true rfl) (Nat.le_refl _) (Nat.le_refl _) (am_Cl_mono H (fun r10 h11 H => ?_))
    show am_Wp true (d + 1) M_X7_two 321 321 h0 Q 48 [some (.inl v0), some (.inr (.inl v1)), none, some (.inr (.inl v3)), none] [.inr (.inl r10)] 321 h11
    exact ar_lret (pc := 48) (x := r10) (by decide +kernel) rfl rfl H

/-! ByteIntervalsModel.isAsked(IJJ)Z -/
theorem B_X7_isAsked_0 {d : Nat} {Q : Int → am_H → Prop} {h : am_H} {v0 v1 v3 : Int} (H : (¬ v0 = 10 → (¬ v0 = 11 → (¬ v0 = 12 → (¬ v0 = 13 → (¬ v0 = 14 → ((am_lcmp v1 v3) = 0 → Q 0 h) ∧ (¬ (am_lcmp v1 v3) = 0 → Q 1 h)) ∧ (v0 = 14 → (¬ (am_lcmp v1 v3) = 0 → Q 0 h) ∧ ((am_lcmp v1 v3) = 0 → Q 1 h))) ∧ (v0 = 13 → ((am_lcmp v1 v3) < 0 → Q 0 h) ∧ (0 ≤ (am_lcmp v1 v3) → Q 1 h))) ∧ (v0 = 12 → ((am_lcmp v1 v3) ≤ 0 → Q 0 h) ∧ (0 < (am_lcmp v1 v3) → Q 1 h))) ∧ (v0 = 11 → (0 < (am_lcmp v1 v3) → Q 0 h) ∧ ((am_lcmp v1 v3) ≤ 0 → Q 1 h))) ∧ (v0 = 10 → (0 ≤ (am_lcmp v1 v3) → Q 0 h) ∧ ((am_lcmp v1 v3) < 0 → Q 1 h))) : wf d M_X7_isAsked Q 0 [some (.inl v0), some (.inr (.inl v1)), none, some (.inr (.inl v3)), none] [] h := by
  intro h0
  refine ar_iload_n (pc := 0) (i := 0) (k0 := 0) (by decide +kernel) rfl rfl ?_
  refine ar_bipush (pc := 1) (z := 10) (by decide +kernel) (by omega) ?_
  refine ar_icmp_ne (pc := 3) (x := v0) (y := 10) (tgt := 20) (off := 17) (by decide +kernel) (by decide) (fun c1 => ?_) (fun c1 => ?_)
  · replace H := H.1 c1
    refine ar_iload_n (pc := 20) (i := 0) (k0 := 0) (by decide +kernel) rfl rfl ?_
    refine ar_bipush (pc := 21) (z := 11) (by decide +kernel) (by omega) ?_
    refine ar_icmp_ne (pc := 23) (x := v0) (y := 11) (tgt := 40) (off := 17) (by decide +kernel) (by decide) (fun c2 => ?_) (fun c2 => ?_)
    · replace H := H.1 c2
      refine ar_iload_n (pc := 40) (i := 0) (k0 := 0) (by decide +kernel) rfl rfl ?_
      refine ar_bipush (pc := 41) (z := 12) (by decide +kernel) (by omega) ?_
      refine ar_icmp_ne (pc := 43) (x := v0) (y := 12) (tgt := 60) (off := 17) (by decide +kernel) (by decide) (fun c3 => ?_) (fun c3 => ?_)
      · replace H := H.1 c3
        refine ar_iload_n (pc := 60) (i := 0) (k0 := 0) (by decide +kernel) rfl rfl ?_
        refine ar_bipush (pc := 61) (z := 13) (by decide +kernel) (by omega) ?_
        refine ar_icmp_ne (pc := 63) (x := v0) (y := 13) (tgt := 80) (off := 17) (by decide +kernel) (by decide) (fun c4 => ?_) (fun c4 => ?_)
        · replace H := H.1 c4
          refine ar_iload_n (pc := 80) (i := 0) (k0 := 0) (by decide +kernel) rfl rfl ?_
          refine ar_bipush (pc := 81) (z := 14) (by decide +kernel) (by omega) ?_
          refine ar_icmp_ne (pc := 83) (x := v0) (y := 14) (tgt := 100) (off := 17) (by decide +kernel) (by decide) (fun c5 => ?_) (fun c5 => ?_)
          · replace H := H.1 c5
            refine ar_lload_n (pc := 100) (i := 1) (k0 := 1) (by decide +kernel) rfl rfl ?_
            refine ar_lload_n (pc := 101) (i := 3) (k0 := 3) (by decide +kernel) rfl rfl ?_
            refine ar_lcmp (pc := 102) (x := v1) (y := v3) (by decide +kernel) ?_
            refine ar_if_eq (pc := 103) (x := (am_lcmp v1 v3)) (tgt := 110) (off := 7) (by decide +kernel) (by decide) (fun c6 => ?_) (fun c6 => ?_)
            · replace H := H.1 c6
              refine ar_iconst (pc := 110) (z := 0) (by decide +kernel) (by unfold am_i32; omega) ?_
              exact ar_zret (pc := 111) (x := 0) (by decide +kernel) rfl rfl (by decide) H
            · replace H := H.2 c6
              refine ar_iconst (pc := 106) (z := 1) (by decide +kernel) (by unfold am_i32; omega) ?_
              refine ar_goto (pc := 107) (tgt := 111) (off := 4) (by decide +kernel) (by decide) ?_
              exact ar_zret (pc := 111) (x := 1) (by decide +kernel) rfl rfl (by decide) H
          · replace H := H.2 c5
            refine ar_lload_n (pc := 86) (i := 1) (k0 := 1) (by decide +kernel) rfl rfl ?_
            refine ar_lload_n (pc := 87) (i := 3) (k0 := 3) (by decide +kernel) rfl rfl ?_
            refine ar_lcmp (pc := 88) (x := v1) (y := v3) (by decide +kernel) ?_
            refine ar_if_ne (pc := 89) (x := (am_lcmp v1 v3)) (tgt := 96) (off := 7) (by decide +kernel) (by decide) (fun c7 => ?_) (fun c7 => ?_)
            · replace H := H.1 c7
              refine ar_iconst (pc := 96) (z := 0) (by decide +kernel) (by unfold am_i32; omega) ?_
              refine ar_goto (pc := 97) (tgt := 111) (off := 14) (by decide +kernel) (by decide) ?_
              exact ar_zret (pc := 111) (x := 0) (by decide +kernel) rfl rfl (by decide) H
            · replace H := H.2 c7
              refine ar_iconst (pc := 92) (z := 1) (by decide +kernel) (by unfold am_i32; omega) ?_
              refine ar_goto (pc := 93) (tgt := 111) (off := 18) (by decide +kernel) (by decide) ?_
              exact ar_zret (pc := 111) (x := 1) (by decide +kernel) rfl rfl (by decide) H
        · replace H := H.2 c4
          refine ar_lload_n (pc := 66) (i := 1) (k0 := 1) (by decide +kernel) rfl rfl ?_
          refine ar_lload_n (pc := 67) (i := 3) (k0 := 3) (by decide +kernel) rfl rfl ?_
          refine ar_lcmp (pc := 68) (x := v1) (y := v3) (by decide +kernel) ?_
          refine ar_if_lt (pc := 69) (x := (am_lcmp v1 v3)) (tgt := 76) (off := 7) (by decide +kernel) (by decide) (fun c8 => ?_) (fun c8 => ?_)
          · replace H := H.1 c8
            refine ar_iconst (pc := 76) (z := 0) (by decide +kernel) (by unfold am_i32; omega) ?_
            refine ar_goto (pc := 77) (tgt := 111) (off := 34) (by decide +kernel) (by decide) ?_
            exact ar_zret (pc := 111) (x := 0) (by decide +kernel) rfl rfl (by decide) H
          · replace H := H.2 c8
            refine ar_iconst (pc := 72) (z := 1) (by decide +kernel) (by unfold am_i32; omega) ?_
            refine ar_goto (pc := 73) (tgt := 111) (off := 38) (by decide +kernel) (by decide) ?_
            exact ar_zret (pc := 111) (x := 1) (by decide +kernel) rfl rfl (by decide) H
      · replace H := H.2 c3
        refine ar_lload_n (pc := 46) (i := 1) (k0 := 1) (by decide +kernel) rfl rfl ?_
        refine ar_lload_n (pc := 47) (i := 3) (k0 := 3) (by decide +kernel) rfl rfl ?_
        refine ar_lcmp (pc := 48) (x := v1) (y := v3) (by decide +kernel) ?_
        refine ar_if_le (pc := 49) (x := (am_lcmp v1 v3)) (tgt := 56) (off := 7) (by decide +kernel) (by decide) (fun c9 => ?_) (fun c9 => ?_)
        · replace H := H.1 c9
          refine ar_iconst (pc := 56) (z := 0) (by decide +kernel) (by unfold am_i32; omega) ?_
          refine ar_goto (pc := 57) (tgt := 111) (off := 54) (by decide +kernel) (by decide) ?_
          exact ar_zret (pc := 111) (x := 0) (by decide +kernel) rfl rfl (by decide) H
        · replace H := H.2 c9
          refine ar_iconst (pc := 52) (z := 1) (by decide +kernel) (by unfold am_i32; omega) ?_
          refine ar_goto (pc := 53) (tgt := 111) (off := 58) (by decide +kernel) (by decide) ?_
          exact ar_zret (pc := 111) (x := 1) (by decide +kernel) rfl rfl (by decide) H
    · replace H := H.2 c2
      refine ar_lload_n (pc := 26) (i := 1) (k0 := 1) (by decide +kernel) rfl rfl ?_
      refine ar_lload_n (pc := 27) (i := 3) (k0 := 3) (by decide +kernel) rfl rfl ?_
      refine ar_lcmp (pc := 28) (x := v1) (y := v3) (by decide +kernel) ?_
      refine ar_if_gt (pc := 29) (x := (am_lcmp v1 v3)) (tgt := 36) (off := 7) (by decide +kernel) (by decide) (fun c10 => ?_) (fun c10 => ?_)
      · replace H := H.1 c10
        refine ar_iconst (pc := 36) (z := 0) (by decide +kernel) (by unfold am_i32; omega) ?_
        refine ar_goto (pc := 37) (tgt := 111) (off := 74) (by decide +kernel) (by decide) ?_
        exact ar_zret (pc := 111) (x := 0) (by decide +kernel) rfl rfl (by decide) H
      · replace H := H.2 c10
        refine ar_iconst (pc := 32) (z := 1) (by decide +kernel) (by unfold am_i32; omega) ?_
        refine ar_goto (pc := 33) (tgt := 111) (off := 78) (by decide +kernel) (by decide) ?_
        exact ar_zret (pc := 111) (x := 1) (by decide +kernel) rfl rfl (by decide) H
  · replace H := H.2 c1
    refine ar_lload_n (pc := 6) (i := 1) (k0 := 1) (by decide +kernel) rfl rfl ?_
    refine ar_lload_n (pc := 7) (i := 3) (k0 := 3) (by decide +kernel) rfl rfl ?_
    refine ar_lcmp (pc := 8) (x := v1) (y := v3) (by decide +kernel) ?_
    refine ar_if_ge (pc := 9) (x := (am_lcmp v1 v3)) (tgt := 16) (off := 7) (by decide +kernel) (by decide) (fun c11 => ?_) (fun c11 => ?_)
    · replace H := H.1 c11
      refine ar_iconst (pc := 16) (z := 0) (by decide +kernel) (by unfold am_i32; omega) ?_
      refine ar_goto (pc := 17) (tgt := 111) (off := 94) (by decide +kernel) (by decide) ?_
      exact ar_zret (pc := 111) (x := 0) (by decide +kernel) rfl rfl (by decide) H
    · replace H := H.2 c11
      refine ar_iconst (pc := 12) (z := 1) (by decide +kernel) (by unfold am_i32; omega) ?_
      refine ar_goto (pc := 13) (tgt := 111) (off := 98) (by decide +kernel) (by decide) ?_
      exact ar_zret (pc := 111) (x := 1) (by decide +kernel) rfl rfl (by decide) H

/-! ByteIntervalsModel.joined(IZZ)Z -/
theorem B_X7_joined_0 {d : Nat} {Q : Int → am_H → Prop} {h : am_H} {v0 v1 v2 : Int} (H : (¬ v0 = 21 → (¬ v1 = 0 → wf d M_X7_joined Q 30 [none, none, none] [] h) ∧ (v1 = 0 → (v2 = 0 → Q 0 h) ∧ (¬ v2 = 0 → wf d M_X7_joined Q 30 [none, none, none] [] h))) ∧ (v0 = 21 → (v1 = 0 → wf d M_X7_joined Q 18 [none, none, none] [] h) ∧ (¬ v1 = 0 → (v2 = 0 → wf d M_X7_joined Q 18 [none, none, none] [] h) ∧ (¬ v2 = 0 → Q 1 h)))) : wf d M_X7_joined Q 0 [some (.inl v0), some (.inl v1), some (.inl v2)] [] h := by
  intro h0
  refine ar_iload_n (pc := 0) (i := 0) (k0 := 0) (by decide +kernel) rfl rfl ?_
  refine ar_bipush (pc := 1) (z := 21) (by decide +kernel) (by omega) ?_
  refine ar_icmp_ne (pc := 3) (x := v0) (y := 21) (tgt := 22) (off := 19) (by decide +kernel) (by decide) (fun c1 => ?_) (fun c1 => ?_)
  · replace H := H.1 c1
    refine ar_iload_n (pc := 22) (i := 1) (k0 := 1) (by decide +kernel) rfl rfl ?_
    refine ar_if_ne (pc := 23) (x := v1) (tgt := 30) (off := 7) (by decide +kernel) (by decide) (fun c2 => ?_) (fun c2 => ?_)
    · replace H := H.1 c2
      refine ar_forget [false, false, false] rfl ?_
      exact H h0
    · replace H := H.2 c2
      refine ar_iload_n (pc := 26) (i := 2) (k0 := 2) (by decide +kernel) rfl rfl ?_
      refine ar_if_eq (pc := 27) (x := v2) (tgt := 34) (off := 7) (by decide +kernel) (by decide) (fun c3 => ?_) (fun c3 => ?_)
      · replace H := H.1 c3
        refine ar_iconst (pc := 34) (z := 0) (by decide +kernel) (by unfold am_i32; omega) ?_
        exact ar_zret (pc := 35) (x := 0) (by decide +kernel) rfl rfl (by decide) H
      · replace H := H.2 c3
        refine ar_forget [false, false, false] rfl ?_
        exact H h0
  · replace H := H.2 c1
    refine ar_iload_n (pc := 6) (i := 1) (k0 := 1) (by decide +kernel) rfl rfl ?_
    refine ar_if_eq (pc := 7) (x := v1) (tgt := 18) (off := 11) (by decide +kernel) (by decide) (fun c4 => ?_) (fun c4 => ?_)
    · replace H := H.1 c4
      refine ar_forget [false, false, false] rfl ?_
      exact H h0
    · replace H := H.2 c4
      refine ar_iload_n (pc := 10) (i := 2) (k0 := 2) (by decide +kernel) rfl rfl ?_
      refine ar_if_eq (pc := 11) (x := v2) (tgt := 18) (off := 7) (by decide +kernel) (by decide) (fun c5 => ?_) (fun c5 => ?_)
      · replace H := H.1 c5
        refine ar_forget [false, false, false] rfl ?_
        exact H h0
      · replace H := H.2 c5
        refine ar_iconst (pc := 14) (z := 1) (by decide +kernel) (by unfold am_i32; omega) ?_
        refine ar_goto (pc := 15) (tgt := 35) (off := 20) (by decide +kernel) (by decide) ?_
        exact ar_zret (pc := 35) (x := 1) (by decide +kernel) rfl rfl (by decide) H
theorem B_X7_joined_18 {d : Nat} {Q : Int → am_H → Prop} {h : am_H} (H : Q 0 h) : wf d M_X7_joined Q 18 [none, none, none] [] h := by
  intro h0
  refine ar_iconst (pc := 18) (z := 0) (by decide +kernel) (by unfold am_i32; omega) ?_
  refine ar_goto (pc := 19) (tgt := 35) (off := 16) (by decide +kernel) (by decide) ?_
  exact ar_zret (pc := 35) (x := 0) (by decide +kernel) rfl rfl (by decide) H
theorem B_X7_joined_30 {d : Nat} {Q : Int → am_H → Prop} {h : am_H} (H : Q 1 h) : wf d M_X7_joined Q 30 [none, none, none] [] h := by
  intro h0
  refine ar_iconst (pc := 30) (z := 1) (by decide +kernel) (by unfold am_i32; omega) ?_
  refine ar_goto (pc := 31) (tgt := 35) (off := 4) (by decide +kernel) (by decide) ?_
  exact ar_zret (pc := 35) (x := 1) (by decide +kernel) rfl rfl (by decide) H

/-! ByteIntervalsModel.isInside(J)Z -/
theorem B_X7_isInside_0 {d : Nat} {Q : Int → am_H → Prop} {h : am_H} {v1 : Int} (H : ((am_lcmp v1 0) < 0 → Q 0 h) ∧ (0 ≤ (am_lcmp v1 0) → (0 ≤ (am_lcmp v1 (h 294 23)) → Q 0 h) ∧ ((am_lcmp v1 (h 294 23)) < 0 → Q 1 h))) : wf d M_X7_isInside Q 0 [some (.inr (.inr 294)), some (.inr (.inl v1)), none] [] h := by
  intro h0
  refine ar_lload_n (pc := 0) (i := 1) (k0 := 1) (by decide +kernel) rfl rfl ?_
  refine ar_lconst (pc := 1) (i := 0) (z := 0) (by decide +kernel) rfl ?_
  refine ar_lcmp (pc := 2) (x := v1) (y := 0) (by decide +kernel) ?_
  refine ar_if_lt (pc := 3) (x := (am_lcmp v1 0)) (tgt := 20) (off := 17) (by decide +kernel) (by decide) (fun c1 => ?_) (fun c1 => ?_)
  · replace H := H.1 c1
    refine ar_iconst (pc := 20) (z := 0) (by decide +kernel) (by unfold am_i32; omega) ?_
    exact ar_zret (pc := 21) (x := 0) (by decide +kernel) rfl rfl (by decide) H
  · replace H := H.2 c1
    refine ar_lload_n (pc := 6) (i := 1) (k0 := 1) (by decide +kernel) rfl rfl ?_
    refine ar_aload_n (pc := 7) (i := 0) (k0 := 0) (by decide +kernel) rfl rfl ?_
    refine ar_getV (pc := 8) (a := 294) (v := .inl (h 294 23)) 7 23 (by decide +kernel) k_294 rfl (by decide) wf_RX7_304 rfl ?_
    refine ar_i2l (pc := 11) (x := (h 294 23)) (by decide +kernel) ?_
    refine ar_lcmp (pc := 12) (x := v1) (y := (h 294 23)) (by decide +kernel) ?_
    refine ar_if_ge (pc := 13) (x := (am_lcmp v1 (h 294 23))) (tgt := 20) (off := 7) (by decide +kernel) (by decide) (fun c2 => ?_) (fun c2 => ?_)
    · replace H := H.1 c2
      refine ar_iconst (pc := 20) (z := 0) (by decide +kernel) (by unfold am_i32; omega) ?_
      exact ar_zret (pc := 21) (x := 0) (by decide +kernel) rfl rfl (by decide) H
    · replace H := H.2 c2
      refine ar_iconst (pc := 16) (z := 1) (by decide +kernel) (by unfold am_i32; omega) ?_
      refine ar_goto (pc := 17) (tgt := 21) (off := 4) (by decide +kernel) (by decide) ?_
      exact ar_zret (pc := 21) (x := 1) (by decide +kernel) rfl rfl (by decide) H

/-! ByteIntervalsModel.ofOne(II)V -/
theorem B_X7_ofOne_0 {d : Nat} {Q : Int → am_H → Prop} {h : am_H} {v1 v2 : Int} (H : (¬ v1 = 5 → (0 ≤ v2) ∧ ((v2 < 330) ∧ (cf d M_X7_isInside [.inr (.inr 294), .inr (.inl (h 301 v2))] h (fun r4 h5 => (r4 = 0 → wf (d + 1) M_X7_ofOne Q 50 [some (.inr (.inr 294)), none, some (.inl v2), some (.inl r4), none] [.inl 0] h5) ∧ (¬ r4 = 0 → wf (d + 1) M_X7_ofOne Q 50 [some (.inr (.inr 294)), none, some (.inl v2), some (.inl r4), none] [.inl (am_w32 ((h5 294 22) + (am_l2i (h5 301 v2))))] h5))))) ∧ (v1 = 5 → (0 ≤ v2) ∧ ((v2 < 330) ∧ (Q 0 (am_up h 301 v2 (am_w64 (-(h 301 v2)))))))) : wf (d + 1) M_X7_ofOne Q 0 [some (.inr (.inr 294)), some (.inl v1), some (.inl v2), none, none] [] h := by
  intro h0
  refine ar_iload_n (pc := 0) (i := 1) (k0 := 1) (by decide +kernel) rfl rfl ?_
  refine ar_iconst (pc := 1) (z := 5) (by decide +kernel) (by unfold am_i32; omega) ?_
  refine ar_icmp_ne (pc := 2) (x := v1) (y := 5) (tgt := 19) (off := 17) (by decide +kernel) (by decide) (fun c1 => ?_) (fun c1 => ?_)
  · replace H := H.1 c1
    refine ar_aload_n (pc := 19) (i := 0) (k0 := 0) (by decide +kernel) rfl rfl ?_
    refine ar_aload_n (pc := 20) (i := 0) (k0 := 0) (by decide +kernel) rfl rfl ?_
    refine ar_getFV (pc := 21) (a := 294) (b := 301) 7 24 (by decide +kernel) k_294 rfl (by decide) wf_RX7_35 rfl (fun _ => rfl) rfl ?_
    refine ar_iload_n (pc := 24) (i := 2) (k0 := 2) (by decide +kernel) rfl rfl ?_
    obtain ⟨g2, H⟩ := H
    obtain ⟨g3, H⟩ := H
    refine ar_lald (pc := 25) (a := 301) (i := v2) (by decide +kernel) k_301 g2 (am_lt_eq g3 (l_301).symm) ?_
    refine ar_callV (pc := 26) (M2 := M_X7_isInside) (a := 294) (ci := 7) (as := [.inr (.inl (h 301 v2))]) (n2 := 321) (st := []) (by decide +kernel) rfl wm_RX7_307 wi_yX7_isInside wl_yX7_isInside k_294 rfl wz_RX7 wc_yX7_isInside ⟨by decide, by decide, rfl⟩ (by decide) (Nat.le_of_ble_eq_true rfl) (Nat.le_refl _) (Nat.le_refl _) (am_Cl_mono H (fun r4 h5 H => ?_))
    show am_Wp true (d + 1) M_X7_ofOne 321 321 h0 Q 29 [some (.inr (.inr 294)), some (.inl v1), some (.inl v2), none, none] [.inl r4] 321 h5
    refine ar_istore_n (pc := 29) (i := 3) (k0 := 3) (ls2 := [some (.inr (.inr 294)), some (.inl v1), some (.inl v2), some (.inl r4), none]) (by decide +kernel) rfl (by decide) rfl ?_
    refine ar_iload_n (pc := 30) (i := 3) (k0 := 3) (by decide +kernel) rfl rfl ?_
    refine ar_if_eq (pc := 31) (x := r4) (tgt := 49) (off := 18) (by decide +kernel) (by decide) (fun c6 => ?_) (fun c6 => ?_)
    · replace H := H.1 c6
      refine ar_iconst (pc := 49) (z := 0) (by decide +kernel) (by unfold am_i32; omega) ?_
      refine ar_forget [true, false, true, true, true] rfl ?_
      exact H h0
    · replace H := H.2 c6
      refine ar_aload_n (pc := 34) (i := 0) (k0 := 0) (by decide +kernel) rfl rfl ?_
      refine ar_getV (pc := 35) (a := 294) (v := .inl (h5 294 22)) 7 22 (by decide +kernel) k_294 rfl (by decide) wf_RX7_310 rfl ?_
      refine ar_aload_n (pc := 38) (i := 0) (k0 := 0) (by decide +kernel) rfl rfl ?_
      refine ar_getFV (pc := 39) (a := 294) (b := 301) 7 24 (by decide +kernel) k_294 rfl (by decide) wf_RX7_35 rfl (fun _ => rfl) rfl ?_
      refine ar_iload_n (pc := 42) (i := 2) (k0 := 2) (by decide +kernel) rfl rfl ?_
      refine ar_lald (pc := 43) (a := 301) (i := v2) (by decide +kernel) k_301 g2 (am_lt_eq g3 (l_301).symm) ?_
      refine ar_l2i (pc := 44) (x := (h5 301 v2)) (by decide +kernel) ?_
      refine ar_iadd (pc := 45) (x := (h5 294 22)) (y := (am_l2i (h5 301 v2))) (by decide +kernel) ?_
      refine ar_goto (pc := 46) (tgt := 50) (off := 4) (by decide +kernel) (by decide) ?_
      refine ar_forget [true, false, true, true, true] rfl ?_
      exact H h0
  · replace H := H.2 c1
    refine ar_aload_n (pc := 5) (i := 0) (k0 := 0) (by decide +kernel) rfl rfl ?_
    refine ar_getFV (pc := 6) (a := 294) (b := 301) 7 24 (by decide +kernel) k_294 rfl (by decide) wf_RX7_35 rfl (fun _ => rfl) rfl ?_
    refine ar_iload_n (pc := 9) (i := 2) (k0 := 2) (by decide +kernel) rfl rfl ?_
    refine ar_aload_n (pc := 10) (i := 0) (k0 := 0) (by decide +kernel) rfl rfl ?_
    refine ar_getFV (pc := 11) (a := 294) (b := 301) 7 24 (by decide +kernel) k_294 rfl (by decide) wf_RX7_35 rfl (fun _ => rfl) rfl ?_
    refine ar_iload_n (pc := 14) (i := 2) (k0 := 2) (by decide +kernel) rfl rfl ?_
    obtain ⟨g7, H⟩ := H
    obtain ⟨g8, H⟩ := H
    refine ar_lald (pc := 15) (a := 301) (i := v2) (by decide +kernel) k_301 g7 (am_lt_eq g8 (l_301).symm) ?_
    refine ar_lneg (pc := 16) (x := (h 301 v2)) (by decide +kernel) ?_
    refine ar_last (pc := 17) (a := 301) (i := v2) (z := (am_w64 (-(h 301 v2)))) (by decide +kernel) k_301 g7 (am_lt_eq g8 (l_301).symm) ?_
    exact ar_vret (pc := 18) (by decide +kernel) rfl rfl H
theorem B_X7_ofOne_50 {d : Nat} {Q : Int → am_H → Prop} {h : am_H} {v2 v3 s0 : Int} (H : (v3 = 0 → wf (d + 1) M_X7_ofOne Q 76 [some (.inr (.inr 294)), none, some (.inl v2), some (.inl v3), some (.inl s0)] [.inr (.inl 0), .inl v2, .inr (.inr 301)] h) ∧ (¬ v3 = 0 → (0 ≤ (am_w32 (8 + s0))) ∧ (((am_w32 (8 + s0)) < 2159) ∧ (wf (d + 1) M_X7_ofOne Q 76 [some (.inr (.inr 294)), none, some (.inl v2), some (.inl v3), some (.inl s0)] [.inr (.inl (h 295 (am_w32 (8 + s0)))), .inl v2, .inr (.inr 301)] h)))) : wf (d + 1) M_X7_ofOne Q 50 [some (.inr (.inr 294)), none, some (.inl v2), some (.inl v3), none] [.inl s0] h := by
  intro h0
  refine ar_istore (pc := 50) (i := 4) (ls2 := [some (.inr (.inr 294)), none, some (.inl v2), some (.inl v3), some (.inl s0)]) (by decide +kernel) (by decide) rfl ?_
  refine ar_aload_n (pc := 52) (i := 0) (k0 := 0) (by decide +kernel) rfl rfl ?_
  refine ar_getFV (pc := 53) (a := 294) (b := 301) 7 24 (by decide +kernel) k_294 rfl (by decide) wf_RX7_35 rfl (fun _ => rfl) rfl ?_
  refine ar_iload_n (pc := 56) (i := 2) (k0 := 2) (by decide +kernel) rfl rfl ?_
  refine ar_iload_n (pc := 57) (i := 3) (k0 := 3) (by decide +kernel) rfl rfl ?_
  refine ar_if_eq (pc := 58) (x := v3) (tgt := 75) (off := 17) (by decide +kernel) (by decide) (fun c1 => ?_) (fun c1 => ?_)
  · replace H := H.1 c1
    refine ar_lconst (pc := 75) (i := 0) (z := 0) (by decide +kernel) rfl ?_
    exact H h0
  · replace H := H.2 c1
    refine ar_aload_n (pc := 61) (i := 0) (k0 := 0) (by decide +kernel) rfl rfl ?_
    refine ar_getFV (pc := 62) (a := 294) (b := 295) 7 0 (by decide +kernel) k_294 rfl (by decide) wf_RX7_7 rfl (fun _ => rfl) rfl ?_
    refine ar_bipush (pc := 65) (z := 8) (by decide +kernel) (by omega) ?_
    refine ar_iload (pc := 67) (i := 4) (by decide +kernel) rfl ?_
    refine ar_iadd (pc := 69) (x := 8) (y := s0) (by decide +kernel) ?_
    obtain ⟨g2, H⟩ := H
    obtain ⟨g3, H⟩ := H
    refine ar_iald (pc := 70) (a := 295) (i := (am_w32 (8 + s0))) (by decide +kernel) k_295 g2 (am_lt_eq g3 (l_295).symm) ?_
    refine ar_i2l (pc := 71) (x := (h 295 (am_w32 (8 + s0)))) (by decide +kernel) ?_
    refine ar_goto (pc := 72) (tgt := 76) (off := 4) (by decide +kernel) (by decide) ?_
    exact H h0
theorem B_X7_ofOne_76 {d : Nat} {Q : Int → am_H → Prop} {h : am_H} {v2 v3 v4 s1 s2 : Int} (H : (0 ≤ s1) ∧ ((s1 < 330) ∧ ((v3 = 0 → Q 0 (am_up h 301 s1 s2)) ∧ (¬ v3 = 0 → (0 ≤ v2) ∧ ((v2 < 330) ∧ (Q 0 (am_up (am_up h 301 s1 s2) 302 v2 (am_lor (h 302 v2) (am_lshl 1 v4))))))))) : wf (d + 1) M_X7_ofOne Q 76 [some (.inr (.inr 294)), none, some (.inl v2), some (.inl v3), some (.inl v4)] [.inr (.inl s2), .inl s1, .inr (.inr 301)] h := by
  intro h0
  obtain ⟨g1, H⟩ := H
  obtain ⟨g2, H⟩ := H
  refine ar_last (pc := 76) (a := 301) (i := s1) (z := s2) (by decide +kernel) k_301 g1 (am_lt_eq g2 (l_301).symm) ?_
  refine ar_iload_n (pc := 77) (i := 3) (k0 := 3) (by decide +kernel) rfl rfl ?_
  refine ar_if_eq (pc := 78) (x := v3) (tgt := 94) (off := 16) (by decide +kernel) (by decide) (fun c3 => ?_) (fun c3 => ?_)
  · replace H := H.1 c3
    exact ar_vret (pc := 94) (by decide +kernel) rfl rfl H
  · replace H := H.2 c3
    refine ar_aload_n (pc := 81) (i := 0) (k0 := 0) (by decide +kernel) rfl rfl ?_
    refine ar_getFV (pc := 82) (a := 294) (b := 302) 7 25 (by decide +kernel) k_294 rfl (by decide) wf_RX7_39 rfl (fun _ => rfl) rfl ?_
    refine ar_iload_n (pc := 85) (i := 2) (k0 := 2) (by decide +kernel) rfl rfl ?_
    refine ar_dup2 (pc := 86) (by decide +kernel) trivial trivial ?_
    obtain ⟨g4, H⟩ := H
    obtain ⟨g5, H⟩ := H
    refine ar_laldV (pc := 87) (a := 302) (i := v2) (v := (h 302 v2)) (by first | rfl | (simp [am_up, am_cp]; done) | (simp [am_up, am_cp] <;> intros <;> omega)) (by decide +kernel) k_302 g4 (am_lt_eq g5 (l_302).symm) ?_
    refine ar_lconst (pc := 88) (i := 1) (z := 1) (by decide +kernel) rfl ?_
    refine ar_iload (pc := 89) (i := 4) (by decide +kernel) rfl ?_
    refine ar_lshl (pc := 91) (x := 1) (y := v4) (by decide +kernel) ?_
    refine ar_lor (pc := 92) (x := (h 302 v2)) (y := (am_lshl 1 v4)) (by decide +kernel) ?_
    refine ar_last (pc := 93) (a := 302) (i := v2) (z := (am_lor (h 302 v2) (am_lshl 1 v4))) (by decide +kernel) k_302 g4 (am_lt_eq g5 (l_302).symm) ?_
    exact ar_vret (pc := 94) (by decide +kernel) rfl rfl H

/-! ByteIntervalsModel.work(III)V -/
theorem B_X7_work_0 {d : Nat} {Q : Int → am_H → Prop} {h : am_H} {v1 v2 v3 : Int} (H : wf (d + 1) M_X7_work Q 20 [some (.inr (.inr 294)), none, none, some (.inl v3), some (.inl (am_w32 ((am_w32 (825 * v1)) + 217))), some (.inl 0), some (.inl 0), some (.inl v2), none, none] [] h) : wf (d + 1) M_X7_work Q 0 [some (.inr (.inr 294)), some (.inl v1), some (.inl v2), some (.inl v3), none, none, none, none, none, none] [] h := by
  intro h0
  refine ar_sipush (pc := 0) (z := 825) (by decide +kernel) (by omega) ?_
  refine ar_iload_n (pc := 3) (i := 1) (k0 := 1) (by decide +kernel) rfl rfl ?_
  refine ar_imul (pc := 4) (x := 825) (y := v1) (by decide +kernel) ?_
  refine ar_sipush (pc := 5) (z := 217) (by decide +kernel) (by omega) ?_
  refine ar_iadd (pc := 8) (x := (am_w32 (825 * v1))) (y := 217) (by decide +kernel) ?_
  refine ar_istore (pc := 9) (i := 4) (ls2 := [some (.inr (.inr 294)), some (.inl v1), some (.inl v2), some (.inl v3), some (.inl (am_w32 ((am_w32 (825 * v1)) + 217))), none, none, none, none, none]) (by decide +kernel) (by decide) rfl ?_
  refine ar_iconst (pc := 11) (z := 0) (by decide +kernel) (by unfold am_i32; omega) ?_
  refine ar_istore (pc := 12) (i := 5) (ls2 := [some (.inr (.inr 294)), some (.inl v1), some (.inl v2), some (.inl v3), some (.inl (am_w32 ((am_w32 (825 * v1)) + 217))), some (.inl 0), none, none, none, none]) (by decide +kernel) (by decide) rfl ?_
  refine ar_iconst (pc := 14) (z := 0) (by decide +kernel) (by unfold am_i32; omega) ?_
  refine ar_istore (pc := 15) (i := 6) (ls2 := [some (.inr (.inr 294)), some (.inl v1), some (.inl v2), some (.inl v3), some (.inl (am_w32 ((am_w32 (825 * v1)) + 217))), some (.inl 0), some (.inl 0), none, none, none]) (by decide +kernel) (by decide) rfl ?_
  refine ar_iload_n (pc := 17) (i := 2) (k0 := 2) (by decide +kernel) rfl rfl ?_
  refine ar_istore (pc := 18) (i := 7) (ls2 := [some (.inr (.inr 294)), some (.inl v1), some (.inl v2), some (.inl v3), some (.inl (am_w32 ((am_w32 (825 * v1)) + 217))), some (.inl 0), some (.inl 0), some (.inl v2), none, none]) (by decide +kernel) (by decide) rfl ?_
  refine ar_forget [true, false, false, true, true, true, true, true, true, true] rfl ?_
  exact H h0
theorem B_X7_work_20 {d : Nat} {Q : Int → am_H → Prop} {h : am_H} {v3 v4 v5 v6 v7 : Int} (H : (v3 ≤ v7 → Q 0 h) ∧ (v7 < v3 → (0 ≤ (am_w32 (v4 + (am_w32 (2 * v7))))) ∧ (((am_w32 (v4 + (am_w32 (2 * v7)))) < 3300) ∧ ((0 ≤ (am_w32 ((am_w32 (v4 + (am_w32 (2 * v7)))) + 1))) ∧ (((am_w32 ((am_w32 (v4 + (am_w32 (2 * v7)))) + 1)) < 3300) ∧ ((1 < (h 297 (am_w32 (v4 + (am_w32 (2 * v7))))) → (¬ (h 297 (am_w32 (v4 + (am_w32 (2 * v7))))) = 3 → (5 < (h 297 (am_w32 (v4 + (am_w32 (2 * v7))))) → (10 ≤ (h 297 (am_w32 (v4 + (am_w32 (2 * v7))))) → (20 ≤ (h 297 (am_w32 (v4 + (am_w32 (2 * v7))))) → (¬ (h 297 (am_w32 (v4 + (am_w32 (2 * v7))))) = 20 → (0 ≤ (am_w32 ((am_w32 (v6 + (-1))) - 1))) ∧ (((am_w32 ((am_w32 (v6 + (-1))) - 1)) < 330) ∧ ((0 ≤ (am_w32 (v6 + (-1)))) ∧ (((am_w32 (v6 + (-1))) < 330) ∧ (cf d M_X7_joined [.inl (h 297 (am_w32 (v4 + (am_w32 (2 * v7))))), .inl (h 303 (am_w32 ((am_w32 (v6 + (-1))) - 1))), .inl (h 303 (am_w32 (v6 + (-1))))] h (fun r16 h17 => (r16 = 0 ∨ r16 = 1) ∧ (wf (d + 1) M_X7_work Q 426 [some (.inr (.inr 294)), none, none, some (.inl v3), some (.inl v4), some (.inl v5), some (.inl (am_w32 (v6 + (-1)))), some (.inl v7), none, none] [] (am_up (am_up h17 303 (am_w32 ((am_w32 (v6 + (-1))) - 1)) r16) 304 (am_w32 ((am_w32 (v6 + (-1))) - 1)) (am_lor (h17 304 (am_w32 ((am_w32 (v6 + (-1))) - 1))) (h17 304 (am_w32 (v6 + (-1))))))))))))) ∧ ((h 297 (am_w32 (v4 + (am_w32 (2 * v7))))) = 20 → (0 ≤ (am_w32 (v6 - 1))) ∧ (((am_w32 (v6 - 1)) < 330) ∧ ((¬ (h 303 (am_w32 (v6 - 1))) = 0 → wf (d + 1) M_X7_work Q 370 [some (.inr (.inr 294)), none, none, some (.inl v3), some (.inl v4), some (.inl v5), some (.inl v6), some (.inl v7), none, none] [.inl 0, .inl (am_w32 (v6 - 1)), .inr (.inr 303)] h) ∧ ((h 303 (am_w32 (v6 - 1))) = 0 → wf (d + 1) M_X7_work Q 370 [some (.inr (.inr 294)), none, none, some (.inl v3), some (.inl v4), some (.inl v5), some (.inl v6), some (.inl v7), none, none] [.inl 1, .inl (am_w32 (v6 - 1)), .inr (.inr 303)] h))))) ∧ ((h 297 (am_w32 (v4 + (am_w32 (2 * v7))))) < 20 → (0 ≤ (am_w32 (v5 + (-2)))) ∧ (((am_w32 (v5 + (-2))) < 330) ∧ ((0 ≤ (am_w32 ((am_w32 (v5 + (-2))) + 1))) ∧ (((am_w32 ((am_w32 (v5 + (-2))) + 1)) < 330) ∧ (cf d M_X7_isAsked [.inl (h 297 (am_w32 (v4 + (am_w32 (2 * v7))))), .inr (.inl (h 301 (am_w32 (v5 + (-2))))), .inr (.inl (h 301 (am_w32 ((am_w32 (v5 + (-2))) + 1))))] h (fun r26 h27 => (0 ≤ v6) ∧ ((v6 < 330) ∧ ((r26 = 0 ∨ r26 = 1) ∧ (wf (d + 1) M_X7_work Q 426 [some (.inr (.inr 294)), none, none, some (.inl v3), some (.inl v4), some (.inl (am_w32 (v5 + (-2)))), some (.inl (am_w32 (v6 + 1))), some (.inl v7), none, none] [] (am_up (am_up h27 303 v6 r26) 304 v6 (am_lor (h27 302 (am_w32 (v5 + (-2)))) (h27 302 (am_w32 ((am_w32 (v5 + (-2))) + 1))))))))))))))) ∧ ((h 297 (am_w32 (v4 + (am_w32 (2 * v7))))) < 10 → (0 ≤ (am_w32 ((am_w32 (v5 + (-1))) - 1))) ∧ (((am_w32 ((am_w32 (v5 + (-1))) - 1)) < 330) ∧ ((0 ≤ (am_w32 (v5 + (-1)))) ∧ (((am_w32 (v5 + (-1))) < 330) ∧ (cf d M_X7_two [.inl (h 297 (am_w32 (v4 + (am_w32 (2 * v7))))), .inr (.inl (h 301 (am_w32 ((am_w32 (v5 + (-1))) - 1)))), .inr (.inl (h 301 (am_w32 (v5 + (-1)))))] h (fun r35 h36 => wf (d + 1) M_X7_work Q 426 [some (.inr (.inr 294)), none, none, some (.inl v3), some (.inl v4), some (.inl (am_w32 (v5 + (-1)))), some (.inl v6), some (.inl v7), none, none] [] (am_up (am_up h36 301 (am_w32 ((am_w32 (v5 + (-1))) - 1)) r35) 302 (am_w32 ((am_w32 (v5 + (-1))) - 1)) (am_lor (h36 302 (am_w32 ((am_w32 (v5 + (-1))) - 1))) (h36 302 (am_w32 (v5 + (-1))))))))))))) ∧ ((h 297 (am_w32 (v4 + (am_w32 (2 * v7))))) ≤ 5 → cf d M_X7_ofOne [.inr (.inr 294), .inl (h 297 (am_w32 (v4 + (am_w32 (2 * v7))))), .inl (am_w32 (v5 - 1))] h (fun _ h38 => wf (d + 1) M_X7_work Q 426 [some (.inr (.inr 294)), none, none, some (.inl v3), some (.inl v4), some (.inl v5), some (.inl v6), some (.inl v7), none, none] [] h38))) ∧ ((h 297 (am_w32 (v4 + (am_w32 (2 * v7))))) = 3 → (0 ≤ (am_w32 (v6 + (-1)))) ∧ (((am_w32 (v6 + (-1))) < 330) ∧ ((¬ (h 303 (am_w32 (v6 + (-1)))) = 0 → wf (d + 1) M_X7_work Q 140 [some (.inr (.inr 294)), none, none, some (.inl v3), some (.inl v4), some (.inl (am_w32 (v5 + (-1)))), some (.inl (am_w32 (v6 + (-1)))), some (.inl v7), none, none] [] h) ∧ ((h 303 (am_w32 (v6 + (-1)))) = 0 → (0 ≤ (am_w32 (v5 + (-1)))) ∧ (((am_w32 (v5 + (-1))) < 330) ∧ ((0 ≤ (am_w32 ((am_w32 (v5 + (-1))) - 1))) ∧ (((am_w32 ((am_w32 (v5 + (-1))) - 1)) < 330) ∧ (wf (d + 1) M_X7_work Q 140 [some (.inr (.inr 294)), none, none, some (.inl v3), some (.inl v4), some (.inl (am_w32 (v5 + (-1)))), some (.inl (am_w32 (v6 + (-1)))), some (.inl v7), none, none] [] (am_up h 301 (am_w32 ((am_w32 (v5 + (-1))) - 1)) (h 301 (am_w32 (v5 + (-1)))))))))))))) ∧ ((h 297 (am_w32 (v4 + (am_w32 (2 * v7))))) ≤ 1 → (¬ (h 297 (am_w32 (v4 + (am_w32 (2 * v7))))) = 0 → (0 ≤ (h 297 (am_w32 ((am_w32 (v4 + (am_w32 (2 * v7)))) + 1)))) ∧ (((h 297 (am_w32 ((am_w32 (v4 + (am_w32 (2 * v7)))) + 1))) < 13) ∧ (wf (d + 1) M_X7_work Q 87 [some (.inr (.inr 294)), none, none, some (.inl v3), some (.inl v4), some (.inl v5), some (.inl v6), some (.inl v7), none, none] [.inr (.inl (h 300 (h 297 (am_w32 ((am_w32 (v4 + (am_w32 (2 * v7)))) + 1))))), .inl v5, .inr (.inr 301)] h))) ∧ ((h 297 (am_w32 (v4 + (am_w32 (2 * v7))))) = 0 → wf (d + 1) M_X7_work Q 87 [some (.inr (.inr 294)), none, none, some (.inl v3), some (.inl v4), some (.inl v5), some (.inl v6), some (.inl v7), none, none] [.inr (.inl (h 297 (am_w32 ((am_w32 (v4 + (am_w32 (2 * v7)))) + 1)))), .inl v5, .inr (.inr 301)] h)))))))) : wf (d + 1) M_X7_work Q 20 [some (.inr (.inr 294)), none, none, some (.inl v3), some (.inl v4), some (.inl v5), some (.inl v6), some (.inl v7), none, none] [] h := by
  intro h0
  refine ar_iload (pc := 20) (i := 7) (by decide +kernel) rfl ?_
  refine ar_iload_n (pc := 22) (i := 3) (k0 := 3) (by decide +kernel) rfl rfl ?_
  refine ar_icmp_ge (pc := 23) (x := v7) (y := v3) (tgt := 432) (off := 409) (by decide +kernel) (by decide) (fun c1 => ?_) (fun c1 => ?_)
  · replace H := H.1 c1
    exact ar_vret (pc := 432) (by decide +kernel) rfl rfl H
  · replace H := H.2 c1
    refine ar_aload_n (pc := 26) (i := 0) (k0 := 0) (by decide +kernel) rfl rfl ?_
    refine ar_getFV (pc := 27) (a := 294) (b := 297) 7 2 (by decide +kernel) k_294 rfl (by decide) wf_RX7_16 rfl (fun _ => rfl) rfl ?_
    refine ar_iload (pc := 30) (i := 4) (by decide +kernel) rfl ?_
    refine ar_iconst (pc := 32) (z := 2) (by decide +kernel) (by unfold am_i32; omega) ?_
    refine ar_iload (pc := 33) (i := 7) (by decide +kernel) rfl ?_
    refine ar_imul (pc := 35) (x := 2) (y := v7) (by decide +kernel) ?_
    refine ar_iadd (pc := 36) (x := v4) (y := (am_w32 (2 * v7))) (by decide +kernel) ?_
    obtain ⟨g2, H⟩ := H
    obtain ⟨g3, H⟩ := H
    refine ar_iald (pc := 37) (a := 297) (i := (am_w32 (v4 + (am_w32 (2 * v7))))) (by decide +kernel) k_297 g2 (am_lt_eq g3 (l_297).symm) ?_
    refine ar_istore (pc := 38) (i := 8) (ls2 := [some (.inr (.inr 294)), none, none, some (.inl v3), some (.inl v4), some (.inl v5), some (.inl v6), some (.inl v7), some (.inl (h 297 (am_w32 (v4 + (am_w32 (2 * v7)))))), none]) (by decide +kernel) (by decide) rfl ?_
    refine ar_aload_n (pc := 40) (i := 0) (k0 := 0) (by decide +kernel) rfl rfl ?_
    refine ar_getFV (pc := 41) (a := 294) (b := 297) 7 2 (by decide +kernel) k_294 rfl (by decide) wf_RX7_16 rfl (fun _ => rfl) rfl ?_
    refine ar_iload (pc := 44) (i := 4) (by decide +kernel) rfl ?_
    refine ar_iconst (pc := 46) (z := 2) (by decide +kernel) (by unfold am_i32; omega) ?_
    refine ar_iload (pc := 47) (i := 7) (by decide +kernel) rfl ?_
    refine ar_imul (pc := 49) (x := 2) (y := v7) (by decide +kernel) ?_
    refine ar_iadd (pc := 50) (x := v4) (y := (am_w32 (2 * v7))) (by decide +kernel) ?_
    refine ar_iconst (pc := 51) (z := 1) (by decide +kernel) (by unfold am_i32; omega) ?_
    refine ar_iadd (pc := 52) (x := (am_w32 (v4 + (am_w32 (2 * v7))))) (y := 1) (by decide +kernel) ?_
    obtain ⟨g4, H⟩ := H
    obtain ⟨g5, H⟩ := H
    refine ar_iald (pc := 53) (a := 297) (i := (am_w32 ((am_w32 (v4 + (am_w32 (2 * v7)))) + 1))) (by decide +kernel) k_297 g4 (am_lt_eq g5 (l_297).symm) ?_
    refine ar_istore (pc := 54) (i := 9) (ls2 := [some (.inr (.inr 294)), none, none, some (.inl v3), some (.inl v4), some (.inl v5), some (.inl v6), some (.inl v7), some (.inl (h 297 (am_w32 (v4 + (am_w32 (2 * v7)))))), some (.inl (h 297 (am_w32 ((am_w32 (v4 + (am_w32 (2 * v7)))) + 1))))]) (by decide +kernel) (by decide) rfl ?_
    refine ar_iload (pc := 56) (i := 8) (by decide +kernel) rfl ?_
    refine ar_iconst (pc := 58) (z := 1) (by decide +kernel) (by unfold am_i32; omega) ?_
    refine ar_icmp_gt (pc := 59) (x := (h 297 (am_w32 (v4 + (am_w32 (2 * v7)))))) (y := 1) (tgt := 102) (off := 43) (by decide +kernel) (by decide) (fun c6 => ?_) (fun c6 => ?_)
    · replace H := H.1 c6
      refine ar_iload (pc := 102) (i := 8) (by decide +kernel) rfl ?_
      refine ar_iconst (pc := 104) (z := 3) (by decide +kernel) (by unfold am_i32; omega) ?_
      refine ar_icmp_ne (pc := 105) (x := (h 297 (am_w32 (v4 + (am_w32 (2 * v7)))))) (y := 3) (tgt := 189) (off := 84) (by decide +kernel) (by decide) (fun c7 => ?_) (fun c7 => ?_)
      · replace H := H.1 c7
        refine ar_iload (pc := 189) (i := 8) (by decide +kernel) rfl ?_
        refine ar_iconst (pc := 191) (z := 5) (by decide +kernel) (by unfold am_i32; omega) ?_
        refine ar_icmp_gt (pc := 192) (x := (h 297 (am_w32 (v4 + (am_w32 (2 * v7)))))) (y := 5) (tgt := 208) (off := 16) (by decide +kernel) (by decide) (fun c8 => ?_) (fun c8 => ?_)
        · replace H := H.1 c8
          refine ar_iload (pc := 208) (i := 8) (by decide +kernel) rfl ?_
          refine ar_bipush (pc := 210) (z := 10) (by decide +kernel) (by omega) ?_
          refine ar_icmp_ge (pc := 212) (x := (h 297 (am_w32 (v4 + (am_w32 (2 * v7)))))) (y := 10) (tgt := 270) (off := 58) (by decide +kernel) (by decide) (fun c9 => ?_) (fun c9 => ?_)
          · replace H := H.1 c9
            refine ar_iload (pc := 270) (i := 8) (by decide +kernel) rfl ?_
            refine ar_bipush (pc := 272) (z := 20) (by decide +kernel) (by omega) ?_
            refine ar_icmp_ge (pc := 274) (x := (h 297 (am_w32 (v4 + (am_w32 (2 * v7)))))) (y := 20) (tgt := 338) (off := 64) (by decide +kernel) (by decide) (fun c10 => ?_) (fun c10 => ?_)
            · replace H := H.1 c10
              refine ar_iload (pc := 338) (i := 8) (by decide +kernel) rfl ?_
              refine ar_bipush (pc := 340) (z := 20) (by decide +kernel) (by omega) ?_
              refine ar_icmp_ne (pc := 342) (x := (h 297 (am_w32 (v4 + (am_w32 (2 * v7)))))) (y := 20) (tgt := 374) (off := 32) (by decide +kernel) (by decide) (fun c11 => ?_) (fun c11 => ?_)
              · replace H := H.1 c11
                refine ar_iinc (pc := 374) (i := 6) (z := (-1)) (x := v6) (ls2 := [some (.inr (.inr 294)), none, none, some (.inl v3), some (.inl v4), some (.inl v5), some (.inl (am_w32 (v6 + (-1)))), some (.inl v7), some (.inl (h 297 (am_w32 (v4 + (am_w32 (2 * v7)))))), some (.inl (h 297 (am_w32 ((am_w32 (v4 + (am_w32 (2 * v7)))) + 1))))]) (by decide +kernel) rfl (by decide) rfl ?_
                refine ar_aload_n (pc := 377) (i := 0) (k0 := 0) (by decide +kernel) rfl rfl ?_
                refine ar_getFV (pc := 378) (a := 294) (b := 303) 7 26 (by decide +kernel) k_294 rfl (by decide) wf_RX7_42 rfl (fun _ => rfl) rfl ?_
                refine ar_iload (pc := 381) (i := 6) (by decide +kernel) rfl ?_
                refine ar_iconst (pc := 383) (z := 1) (by decide +kernel) (by unfold am_i32; omega) ?_
                refine ar_isub (pc := 384) (x := (am_w32 (v6 + (-1)))) (y := 1) (by decide +kernel) ?_
                refine ar_iload (pc := 385) (i := 8) (by decide +kernel) rfl ?_
                refine ar_aload_n (pc := 387) (i := 0) (k0 := 0) (by decide +kernel) rfl rfl ?_
                refine ar_getFV (pc := 388) (a := 294) (b := 303) 7 26 (by decide +kernel) k_294 rfl (by decide) wf_RX7_42 rfl (fun _ => rfl) rfl ?_
                refine ar_iload (pc := 391) (i := 6) (by decide +kernel) rfl ?_
                refine ar_iconst (pc := 393) (z := 1) (by decide +kernel) (by unfold am_i32; omega) ?_
                refine ar_isub (pc := 394) (x := (am_w32 (v6 + (-1)))) (y := 1) (by decide +kernel) ?_
                obtain ⟨g12, H⟩ := H
                obtain ⟨g13, H⟩ := H
                refine ar_zald (pc := 395) (a := 303) (i := (am_w32 ((am_w32 (v6 + (-1))) - 1))) (by decide +kernel) k_303 g12 (am_lt_eq g13 (l_303).symm) ?_
                refine ar_aload_n (pc := 396) (i := 0) (k0 := 0) (by decide +kernel) rfl rfl ?_
                refine ar_getFV (pc := 397) (a := 294) (b := 303) 7 26 (by decide +kernel) k_294 rfl (by decide) wf_RX7_42 rfl (fun _ => rfl) rfl ?_
                refine ar_iload (pc := 400) (i := 6) (by decide +kernel) rfl ?_
                obtain ⟨g14, H⟩ := H
                obtain ⟨g15, H⟩ := H
                refine ar_zald (pc := 402) (a := 303) (i := (am_w32 (v6 + (-1)))) (by decide +kernel) k_303 g14 (am_lt_eq g15 (l_303).symm) ?_
                refine ar_callS (pc := 403) (M2 := M_X7_joined) (as := [.inl (h 297 (am_w32 (v4 + (am_w32 (2 * v7))))), .inl (h 303 (am_w32 ((am_w32 (v6 + (-1))) - 1))), .inl (h 303 (am_w32 (v6 + (-1))))]) (n2 := 321) (st := [.inl (am_w32 ((am_w32 (v6 + (-1))) - 1)), .inr (.inr 303)]) (by decide +kernel) rfl wm_RX7_324 ws_yX7_joined wz_RX7 wc_yX7_joined ⟨by decide, by decide, rfl⟩ (by decide) (Nat.le_of_ble_eq_true rfl) (Nat.le_refl _) (Nat.le_refl _) (am_Cl_mono H (fun r16 h17 H => ?_))
                show am_Wp true (d + 1) M_X7_work 321 321 h0 Q 406 [some (.inr (.inr 294)), none, none, some (.inl v3), some (.inl v4), some (.inl v5), some (.inl (am_w32 (v6 + (-1)))), some (.inl v7), some (.inl (h 297 (am_w32 (v4 + (am_w32 (2 * v7)))))), some (.inl (h 297 (am_w32 ((am_w32 (v4 + (am_w32 (2 * v7)))) + 1))))] [.inl r16, .inl (am_w32 ((am_w32 (v6 + (-1))) - 1)), .inr (.inr 303)] 321 h17
                obtain ⟨g18, H⟩ := H
                refine ar_zast (pc := 406) (a := 303) (i := (am_w32 ((am_w32 (v6 + (-1))) - 1))) (z := r16) (by decide +kernel) k_303 g12 (am_lt_eq g13 (l_303).symm) g18 ?_
                refine ar_aload_n (pc := 407) (i := 0) (k0 := 0) (by decide +kernel) rfl rfl ?_
                refine ar_getFV (pc := 408) (a := 294) (b := 304) 7 27 (by decide +kernel) k_294 rfl (by decide) wf_RX7_46 rfl (fun _ => rfl) rfl ?_
                refine ar_iload (pc := 411) (i := 6) (by decide +kernel) rfl ?_
                refine ar_iconst (pc := 413) (z := 1) (by decide +kernel) (by unfold am_i32; omega) ?_
                refine ar_isub (pc := 414) (x := (am_w32 (v6 + (-1)))) (y := 1) (by decide +kernel) ?_
                refine ar_dup2 (pc := 415) (by decide +kernel) trivial trivial ?_
                refine ar_laldV (pc := 416) (a := 304) (i := (am_w32 ((am_w32 (v6 + (-1))) - 1))) (v := (h17 304 (am_w32 ((am_w32 (v6 + (-1))) - 1)))) (by first | rfl | (simp [am_up, am_cp]; done) | (simp [am_up, am_cp] <;> intros <;> omega)) (by decide +kernel) k_304 g12 (am_lt_eq g13 (l_304).symm) ?_
                refine ar_aload_n (pc := 417) (i := 0) (k0 := 0) (by decide +kernel) rfl rfl ?_
                refine ar_getFV (pc := 418) (a := 294) (b := 304) 7 27 (by decide +kernel) k_294 rfl (by decide) wf_RX7_46 rfl (fun _ => rfl) rfl ?_
                refine ar_iload (pc := 421) (i := 6) (by decide +kernel) rfl ?_
                refine ar_laldV (pc := 423) (a := 304) (i := (am_w32 (v6 + (-1)))) (v := (h17 304 (am_w32 (v6 + (-1))))) (by first | rfl | (simp [am_up, am_cp]; done) | (simp [am_up, am_cp] <;> intros <;> omega)) (by decide +kernel) k_304 g14 (am_lt_eq g15 (l_304).symm) ?_
                refine ar_lor (pc := 424) (x := (h17 304 (am_w32 ((am_w32 (v6 + (-1))) - 1)))) (y := (h17 304 (am_w32 (v6 + (-1))))) (by decide +kernel) ?_
                refine ar_last (pc := 425) (a := 304) (i := (am_w32 ((am_w32 (v6 + (-1))) - 1))) (z := (am_lor (h17 304 (am_w32 ((am_w32 (v6 + (-1))) - 1))) (h17 304 (am_w32 (v6 + (-1)))))) (by decide +kernel) k_304 g12 (am_lt_eq g13 (l_304).symm) ?_
                refine ar_forget [true, true, true, true, true, true, true, true, false, false] rfl ?_
                exact H h0
              · replace H := H.2 c11
                refine ar_aload_n (pc := 345) (i := 0) (k0 := 0) (by decide +kernel) rfl rfl ?_
                refine ar_getFV (pc := 346) (a := 294) (b := 303) 7 26 (by decide +kernel) k_294 rfl (by decide) wf_RX7_42 rfl (fun _ => rfl) rfl ?_
                refine ar_iload (pc := 349) (i := 6) (by decide +kernel) rfl ?_
                refine ar_iconst (pc := 351) (z := 1) (by decide +kernel) (by unfold am_i32; omega) ?_
                refine ar_isub (pc := 352) (x := v6) (y := 1) (by decide +kernel) ?_
                refine ar_aload_n (pc := 353) (i := 0) (k0 := 0) (by decide +kernel) rfl rfl ?_
                refine ar_getFV (pc := 354) (a := 294) (b := 303) 7 26 (by decide +kernel) k_294 rfl (by decide) wf_RX7_42 rfl (fun _ => rfl) rfl ?_
                refine ar_iload (pc := 357) (i := 6) (by decide +kernel) rfl ?_
                refine ar_iconst (pc := 359) (z := 1) (by decide +kernel) (by unfold am_i32; omega) ?_
                refine ar_isub (pc := 360) (x := v6) (y := 1) (by decide +kernel) ?_
                obtain ⟨g19, H⟩ := H
                obtain ⟨g20, H⟩ := H
                refine ar_zald (pc := 361) (a := 303) (i := (am_w32 (v6 - 1))) (by decide +kernel) k_303 g19 (am_lt_eq g20 (l_303).symm) ?_
                refine ar_if_ne (pc := 362) (x := (h 303 (am_w32 (v6 - 1)))) (tgt := 369) (off := 7) (by decide +kernel) (by decide) (fun c21 => ?_) (fun c21 => ?_)
                · replace H := H.1 c21
                  refine ar_iconst (pc := 369) (z := 0) (by decide +kernel) (by unfold am_i32; omega) ?_
                  refine ar_forget [true, true, true, true, true, true, true, true, false, false] rfl ?_
                  exact H h0
                · replace H := H.2 c21
                  refine ar_iconst (pc := 365) (z := 1) (by decide +kernel) (by unfold am_i32; omega) ?_
                  refine ar_goto (pc := 366) (tgt := 370) (off := 4) (by decide +kernel) (by decide) ?_
                  refine ar_forget [true, true, true, true, true, true, true, true, false, false] rfl ?_
                  exact H h0
            · replace H := H.2 c10
              refine ar_iinc (pc := 277) (i := 5) (z := (-2)) (x := v5) (ls2 := [some (.inr (.inr 294)), none, none, some (.inl v3), some (.inl v4), some (.inl (am_w32 (v5 + (-2)))), some (.inl v6), some (.inl v7), some (.inl (h 297 (am_w32 (v4 + (am_w32 (2 * v7)))))), some (.inl (h 297 (am_w32 ((am_w32 (v4 + (am_w32 (2 * v7)))) + 1))))]) (by decide +kernel) rfl (by decide) rfl ?_
              refine ar_aload_n (pc := 280) (i := 0) (k0 := 0) (by decide +kernel) rfl rfl ?_
              refine ar_getFV (pc := 281) (a := 294) (b := 303) 7 26 (by decide +kernel) k_294 rfl (by decide) wf_RX7_42 rfl (fun _ => rfl) rfl ?_
              refine ar_iload (pc := 284) (i := 6) (by decide +kernel) rfl ?_
              refine ar_iload (pc := 286) (i := 8) (by decide +kernel) rfl ?_
              refine ar_aload_n (pc := 288) (i := 0) (k0 := 0) (by decide +kernel) rfl rfl ?_
              refine ar_getFV (pc := 289) (a := 294) (b := 301) 7 24 (by decide +kernel) k_294 rfl (by decide) wf_RX7_35 rfl (fun _ => rfl) rfl ?_
              refine ar_iload (pc := 292) (i := 5) (by decide +kernel) rfl ?_
              obtain ⟨g22, H⟩ := H
              obtain ⟨g23, H⟩ := H
              refine ar_lald (pc := 294) (a := 301) (i := (am_w32 (v5 + (-2)))) (by decide +kernel) k_301 g22 (am_lt_eq g23 (l_301).symm) ?_
              refine ar_aload_n (pc := 295) (i := 0) (k0 := 0) (by decide +kernel) rfl rfl ?_
              refine ar_getFV (pc := 296) (a := 294) (b := 301) 7 24 (by decide +kernel) k_294 rfl (by decide) wf_RX7_35 rfl (fun _ => rfl) rfl ?_
              refine ar_iload (pc := 299) (i := 5) (by decide +kernel) rfl ?_
              refine ar_iconst (pc := 301) (z := 1) (by decide +kernel) (by unfold am_i32; omega) ?_
              refine ar_iadd (pc := 302) (x := (am_w32 (v5 + (-2)))) (y := 1) (by decide +kernel) ?_
              obtain ⟨g24, H⟩ := H
              obtain ⟨g25, H⟩ := H
              refine ar_lald (pc := 303) (a := 301) (i := (am_w32 ((am_w32 (v5 + (-2))) + 1))) (by decide +kernel) k_301 g24 (am_lt_eq g25 (l_301).symm) ?_
              refine ar_callS (pc := 304) (M2 := M_X7_isAsked) (as := [.inl (h 297 (am_w32 (v4 + (am_w32 (2 * v7))))), .inr (.inl (h 301 (am_w32 (v5 + (-2))))), .inr (.inl (h 301 (am_w32 ((am_w32 (v5 + (-2))) + 1))))]) (n2 := 321) (st := [.inl v6, .inr (.inr 303)]) (by decide +kernel) rfl wm_RX7_320 ws_yX7_isAsked wz_RX7 wc_yX7_isAsked ⟨by decide, by decide, rfl⟩ (by decide) (Nat.le_of_ble_eq_true rfl) (Nat.le_refl _) (Nat.le_refl _) (am_Cl_mono H (fun r26 h27 H => ?_))
              show am_Wp true (d + 1) M_X7_work 321 321 h0 Q 307 [some (.inr (.inr 294)), none, none, some (.inl v3), some (.inl v4), some (.inl (am_w32 (v5 + (-2)))), some (.inl v6), some (.inl v7), some (.inl (h 297 (am_w32 (v4 + (am_w32 (2 * v7)))))), some (.inl (h 297 (am_w32 ((am_w32 (v4 + (am_w32 (2 * v7)))) + 1))))] [.inl r26, .inl v6, .inr (.inr 303)] 321 h27
              obtain ⟨g28, H⟩ := H
              obtain ⟨g29, H⟩ := H
              obtain ⟨g30, H⟩ := H
              refine ar_zast (pc := 307) (a := 303) (i := v6) (z := r26) (by decide +kernel) k_303 g28 (am_lt_eq g29 (l_303).symm) g30 ?_
              refine ar_aload_n (pc := 308) (i := 0) (k0 := 0) (by decide +kernel) rfl rfl ?_
              refine ar_getFV (pc := 309) (a := 294) (b := 304) 7 27 (by decide +kernel) k_294 rfl (by decide) wf_RX7_46 rfl (fun _ => rfl) rfl ?_
              refine ar_iload (pc := 312) (i := 6) (by decide +kernel) rfl ?_
              refine ar_aload_n (pc := 314) (i := 0) (k0 := 0) (by decide +kernel) rfl rfl ?_
              refine ar_getFV (pc := 315) (a := 294) (b := 302) 7 25 (by decide +kernel) k_294 rfl (by decide) wf_RX7_39 rfl (fun _ => rfl) rfl ?_
              refine ar_iload (pc := 318) (i := 5) (by decide +kernel) rfl ?_
              refine ar_laldV (pc := 320) (a := 302) (i := (am_w32 (v5 + (-2)))) (v := (h27 302 (am_w32 (v5 + (-2))))) (by first | rfl | (simp [am_up, am_cp]; done) | (simp [am_up, am_cp] <;> intros <;> omega)) (by decide +kernel) k_302 g22 (am_lt_eq g23 (l_302).symm) ?_
              refine ar_aload_n (pc := 321) (i := 0) (k0 := 0) (by decide +kernel) rfl rfl ?_
              refine ar_getFV (pc := 322) (a := 294) (b := 302) 7 25 (by decide +kernel) k_294 rfl (by decide) wf_RX7_39 rfl (fun _ => rfl) rfl ?_
              refine ar_iload (pc := 325) (i := 5) (by decide +kernel) rfl ?_
              refine ar_iconst (pc := 327) (z := 1) (by decide +kernel) (by unfold am_i32; omega) ?_
              refine ar_iadd (pc := 328) (x := (am_w32 (v5 + (-2)))) (y := 1) (by decide +kernel) ?_
              refine ar_laldV (pc := 329) (a := 302) (i := (am_w32 ((am_w32 (v5 + (-2))) + 1))) (v := (h27 302 (am_w32 ((am_w32 (v5 + (-2))) + 1)))) (by first | rfl | (simp [am_up, am_cp]; done) | (simp [am_up, am_cp] <;> intros <;> omega)) (by decide +kernel) k_302 g24 (am_lt_eq g25 (l_302).symm) ?_
              refine ar_lor (pc := 330) (x := (h27 302 (am_w32 (v5 + (-2))))) (y := (h27 302 (am_w32 ((am_w32 (v5 + (-2))) + 1)))) (by decide +kernel) ?_
              refine ar_last (pc := 331) (a := 304) (i := v6) (z := (am_lor (h27 302 (am_w32 (v5 + (-2)))) (h27 302 (am_w32 ((am_w32 (v5 + (-2))) + 1))))) (by decide +kernel) k_304 g28 (am_lt_eq g29 (l_304).symm) ?_
              refine ar_iinc (pc := 332) (i := 6) (z := 1) (x := v6) (ls2 := [some (.inr (.inr 294)), none, none, some (.inl v3), some (.inl v4), some (.inl (am_w32 (v5 + (-2)))), some (.inl (am_w32 (v6 + 1))), some (.inl v7), some (.inl (h 297 (am_w32 (v4 + (am_w32 (2 * v7)))))), some (.inl (h 297 (am_w32 ((am_w32 (v4 + (am_w32 (2 * v7)))) + 1))))]) (by decide +kernel) rfl (by decide) rfl ?_
              refine ar_goto (pc := 335) (tgt := 426) (off := 91) (by decide +kernel) (by decide) ?_
              refine ar_forget [true, true, true, true, true, true, true, true, false, false] rfl ?_
              exact H h0
          · replace H := H.2 c9
            refine ar_iinc (pc := 215) (i := 5) (z := (-1)) (x := v5) (ls2 := [some (.inr (.inr 294)), none, none, some (.inl v3), some (.inl v4), some (.inl (am_w32 (v5 + (-1)))), some (.inl v6), some (.inl v7), some (.inl (h 297 (am_w32 (v4 + (am_w32 (2 * v7)))))), some (.inl (h 297 (am_w32 ((am_w32 (v4 + (am_w32 (2 * v7)))) + 1))))]) (by decide +kernel) rfl (by decide) rfl ?_
            refine ar_aload_n (pc := 218) (i := 0) (k0 := 0) (by decide +kernel) rfl rfl ?_
            refine ar_getFV (pc := 219) (a := 294) (b := 301) 7 24 (by decide +kernel) k_294 rfl (by decide) wf_RX7_35 rfl (fun _ => rfl) rfl ?_
            refine ar_iload (pc := 222) (i := 5) (by decide +kernel) rfl ?_
            refine ar_iconst (pc := 224) (z := 1) (by decide +kernel) (by unfold am_i32; omega) ?_
            refine ar_isub (pc := 225) (x := (am_w32 (v5 + (-1)))) (y := 1) (by decide +kernel) ?_
            refine ar_iload (pc := 226) (i := 8) (by decide +kernel) rfl ?_
            refine ar_aload_n (pc := 228) (i := 0) (k0 := 0) (by decide +kernel) rfl rfl ?_
            refine ar_getFV (pc := 229) (a := 294) (b := 301) 7 24 (by decide +kernel) k_294 rfl (by decide) wf_RX7_35 rfl (fun _ => rfl) rfl ?_
            refine ar_iload (pc := 232) (i := 5) (by decide +kernel) rfl ?_
            refine ar_iconst (pc := 234) (z := 1) (by decide +kernel) (by unfold am_i32; omega) ?_
            refine ar_isub (pc := 235) (x := (am_w32 (v5 + (-1)))) (y := 1) (by decide +kernel) ?_
            obtain ⟨g31, H⟩ := H
            obtain ⟨g32, H⟩ := H
            refine ar_lald (pc := 236) (a := 301) (i := (am_w32 ((am_w32 (v5 + (-1))) - 1))) (by decide +kernel) k_301 g31 (am_lt_eq g32 (l_301).symm) ?_
            refine ar_aload_n (pc := 237) (i := 0) (k0 := 0) (by decide +kernel) rfl rfl ?_
            refine ar_getFV (pc := 238) (a := 294) (b := 301) 7 24 (by decide +kernel) k_294 rfl (by decide) wf_RX7_35 rfl (fun _ => rfl) rfl ?_
            refine ar_iload (pc := 241) (i := 5) (by decide +kernel) rfl ?_
            obtain ⟨g33, H⟩ := H
            obtain ⟨g34, H⟩ := H
            refine ar_lald (pc := 243) (a := 301) (i := (am_w32 (v5 + (-1)))) (by decide +kernel) k_301 g33 (am_lt_eq g34 (l_301).symm) ?_
            refine ar_callS (pc := 244) (M2 := M_X7_two) (as := [.inl (h 297 (am_w32 (v4 + (am_w32 (2 * v7))))), .inr (.inl (h 301 (am_w32 ((am_w32 (v5 + (-1))) - 1)))), .inr (.inl (h 301 (am_w32 (v5 + (-1)))))]) (n2 := 321) (st := [.inl (am_w32 ((am_w32 (v5 + (-1))) - 1)), .inr (.inr 301)]) (by decide +kernel) rfl wm_RX7_316 ws_yX7_two wz_RX7 wc_yX7_two ⟨by decide, by decide, rfl⟩ (by decide) (Nat.le_of_ble_eq_true rfl) (Nat.le_refl _) (Nat.le_refl _) (am_Cl_mono H (fun r35 h36 H => ?_))
            show am_Wp true (d + 1) M_X7_work 321 321 h0 Q 247 [some (.inr (.inr 294)), none, none, some (.inl v3), some (.inl v4), some (.inl (am_w32 (v5 + (-1)))), some (.inl v6), some (.inl v7), some (.inl (h 297 (am_w32 (v4 + (am_w32 (2 * v7)))))), some (.inl (h 297 (am_w32 ((am_w32 (v4 + (am_w32 (2 * v7)))) + 1))))] [.inr (.inl r35), .inl (am_w32 ((am_w32 (v5 + (-1))) - 1)), .inr (.inr 301)] 321 h36
            refine ar_last (pc := 247) (a := 301) (i := (am_w32 ((am_w32 (v5 + (-1))) - 1))) (z := r35) (by decide +kernel) k_301 g31 (am_lt_eq g32 (l_301).symm) ?_
            refine ar_aload_n (pc := 248) (i := 0) (k0 := 0) (by decide +kernel) rfl rfl ?_
            refine ar_getFV (pc := 249) (a := 294) (b := 302) 7 25 (by decide +kernel) k_294 rfl (by decide) wf_RX7_39 rfl (fun _ => rfl) rfl ?_
            refine ar_iload (pc := 252) (i := 5) (by decide +kernel) rfl ?_
            refine ar_iconst (pc := 254) (z := 1) (by decide +kernel) (by unfold am_i32; omega) ?_
            refine ar_isub (pc := 255) (x := (am_w32 (v5 + (-1)))) (y := 1) (by decide +kernel) ?_
            refine ar_dup2 (pc := 256) (by decide +kernel) trivial trivial ?_
            refine ar_laldV (pc := 257) (a := 302) (i := (am_w32 ((am_w32 (v5 + (-1))) - 1))) (v := (h36 302 (am_w32 ((am_w32 (v5 + (-1))) - 1)))) (by first | rfl | (simp [am_up, am_cp]; done) | (simp [am_up, am_cp] <;> intros <;> omega)) (by decide +kernel) k_302 g31 (am_lt_eq g32 (l_302).symm) ?_
            refine ar_aload_n (pc := 258) (i := 0) (k0 := 0) (by decide +kernel) rfl rfl ?_
            refine ar_getFV (pc := 259) (a := 294) (b := 302) 7 25 (by decide +kernel) k_294 rfl (by decide) wf_RX7_39 rfl (fun _ => rfl) rfl ?_
            refine ar_iload (pc := 262) (i := 5) (by decide +kernel) rfl ?_
            refine ar_laldV (pc := 264) (a := 302) (i := (am_w32 (v5 + (-1)))) (v := (h36 302 (am_w32 (v5 + (-1))))) (by first | rfl | (simp [am_up, am_cp]; done) | (simp [am_up, am_cp] <;> intros <;> omega)) (by decide +kernel) k_302 g33 (am_lt_eq g34 (l_302).symm) ?_
            refine ar_lor (pc := 265) (x := (h36 302 (am_w32 ((am_w32 (v5 + (-1))) - 1)))) (y := (h36 302 (am_w32 (v5 + (-1))))) (by decide +kernel) ?_
            refine ar_last (pc := 266) (a := 302) (i := (am_w32 ((am_w32 (v5 + (-1))) - 1))) (z := (am_lor (h36 302 (am_w32 ((am_w32 (v5 + (-1))) - 1))) (h36 302 (am_w32 (v5 + (-1)))))) (by decide +kernel) k_302 g31 (am_lt_eq g32 (l_302).symm) ?_
            refine ar_goto (pc := 267) (tgt := 426) (off := 159) (by decide +kernel) (by decide) ?_
            refine ar_forget [true, true, true, true, true, true, true, true, false, false] rfl ?_
            exact H h0
        · replace H := H.2 c8
          refine ar_aload_n (pc := 195) (i := 0) (k0 := 0) (by decide +kernel) rfl rfl ?_
          refine ar_iload (pc := 196) (i := 8) (by decide +kernel) rfl ?_
          refine ar_iload (pc := 198) (i := 5) (by decide +kernel) rfl ?_
          refine ar_iconst (pc := 200) (z := 1) (by decide +kernel) (by unfold am_i32; omega) ?_
          refine ar_isub (pc := 201) (x := v5) (y := 1) (by decide +kernel) ?_
          refine ar_callV (pc := 202) (M2 := M_X7_ofOne) (a := 294) (ci := 7) (as := [.inl (h 297 (am_w32 (v4 + (am_w32 (2 * v7))))), .inl (am_w32 (v5 - 1))]) (n2 := 321) (st := []) (by decide +kernel) rfl wm_RX7_313 wi_yX7_ofOne wl_yX7_ofOne k_294 rfl wz_RX7 wc_yX7_ofOne ⟨by decide, by decide, rfl⟩ (by decide) (Nat.le_of_ble_eq_true rfl) (Nat.le_refl _) (Nat.le_refl _) (am_Cl_mono H (fun r37 h38 H => ?_))
          show am_Wp true (d + 1) M_X7_work 321 321 h0 Q 205 [some (.inr (.inr 294)), none, none, some (.inl v3), some (.inl v4), some (.inl v5), some (.inl v6), some (.inl v7), some (.inl (h 297 (am_w32 (v4 + (am_w32 (2 * v7)))))), some (.inl (h 297 (am_w32 ((am_w32 (v4 + (am_w32 (2 * v7)))) + 1))))] [] 321 h38
          refine ar_goto (pc := 205) (tgt := 426) (off := 221) (by decide +kernel) (by decide) ?_
          refine ar_forget [true, true, true, true, true, true, true, true, false, false] rfl ?_
          exact H h0
      · replace H := H.2 c7
        refine ar_iinc (pc := 108) (i := 5) (z := (-1)) (x := v5) (ls2 := [some (.inr (.inr 294)), none, none, some (.inl v3), some (.inl v4), some (.inl (am_w32 (v5 + (-1)))), some (.inl v6), some (.inl v7), some (.inl (h 297 (am_w32 (v4 + (am_w32 (2 * v7)))))), some (.inl (h 297 (am_w32 ((am_w32 (v4 + (am_w32 (2 * v7)))) + 1))))]) (by decide +kernel) rfl (by decide) rfl ?_
        refine ar_iinc (pc := 111) (i := 6) (z := (-1)) (x := v6) (ls2 := [some (.inr (.inr 294)), none, none, some (.inl v3), some (.inl v4), some (.inl (am_w32 (v5 + (-1)))), some (.inl (am_w32 (v6 + (-1)))), some (.inl v7), some (.inl (h 297 (am_w32 (v4 + (am_w32 (2 * v7)))))), some (.inl (h 297 (am_w32 ((am_w32 (v4 + (am_w32 (2 * v7)))) + 1))))]) (by decide +kernel) rfl (by decide) rfl ?_
        refine ar_aload_n (pc := 114) (i := 0) (k0 := 0) (by decide +kernel) rfl rfl ?_
        refine ar_getFV (pc := 115) (a := 294) (b := 303) 7 26 (by decide +kernel) k_294 rfl (by decide) wf_RX7_42 rfl (fun _ => rfl) rfl ?_
        refine ar_iload (pc := 118) (i := 6) (by decide +kernel) rfl ?_
        obtain ⟨g39, H⟩ := H
        obtain ⟨g40, H⟩ := H
        refine ar_zald (pc := 120) (a := 303) (i := (am_w32 (v6 + (-1)))) (by decide +kernel) k_303 g39 (am_lt_eq g40 (l_303).symm) ?_
        refine ar_if_ne (pc := 121) (x := (h 303 (am_w32 (v6 + (-1))))) (tgt := 140) (off := 19) (by decide +kernel) (by decide) (fun c41 => ?_) (fun c41 => ?_)
        · replace H := H.1 c41
          refine ar_forget [true, true, true, true, true, true, true, true, false, false] rfl ?_
          exact H h0
        · replace H := H.2 c41
          refine ar_aload_n (pc := 124) (i := 0) (k0 := 0) (by decide +kernel) rfl rfl ?_
          refine ar_getFV (pc := 125) (a := 294) (b := 301) 7 24 (by decide +kernel) k_294 rfl (by decide) wf_RX7_35 rfl (fun _ => rfl) rfl ?_
          refine ar_iload (pc := 128) (i := 5) (by decide +kernel) rfl ?_
          refine ar_iconst (pc := 130) (z := 1) (by decide +kernel) (by unfold am_i32; omega) ?_
          refine ar_isub (pc := 131) (x := (am_w32 (v5 + (-1)))) (y := 1) (by decide +kernel) ?_
          refine ar_aload_n (pc := 132) (i := 0) (k0 := 0) (by decide +kernel) rfl rfl ?_
          refine ar_getFV (pc := 133) (a := 294) (b := 301) 7 24 (by decide +kernel) k_294 rfl (by decide) wf_RX7_35 rfl (fun _ => rfl) rfl ?_
          refine ar_iload (pc := 136) (i := 5) (by decide +kernel) rfl ?_
          obtain ⟨g42, H⟩ := H
          obtain ⟨g43, H⟩ := H
          refine ar_lald (pc := 138) (a := 301) (i := (am_w32 (v5 + (-1)))) (by decide +kernel) k_301 g42 (am_lt_eq g43 (l_301).symm) ?_
          obtain ⟨g44, H⟩ := H
          obtain ⟨g45, H⟩ := H
          refine ar_last (pc := 139) (a := 301) (i := (am_w32 ((am_w32 (v5 + (-1))) - 1))) (z := (h 301 (am_w32 (v5 + (-1))))) (by decide +kernel) k_301 g44 (am_lt_eq g45 (l_301).symm) ?_
          refine ar_forget [true, true, true, true, true, true, true, true, false, false] rfl ?_
          exact H h0
    · replace H := H.2 c6
      refine ar_aload_n (pc := 62) (i := 0) (k0 := 0) (by decide +kernel) rfl rfl ?_
      refine ar_getFV (pc := 63) (a := 294) (b := 301) 7 24 (by decide +kernel) k_294 rfl (by decide) wf_RX7_35 rfl (fun _ => rfl) rfl ?_
      refine ar_iload (pc := 66) (i := 5) (by decide +kernel) rfl ?_
      refine ar_iload (pc := 68) (i := 8) (by decide +kernel) rfl ?_
      refine ar_if_ne (pc := 70) (x := (h 297 (am_w32 (v4 + (am_w32 (2 * v7)))))) (tgt := 79) (off := 9) (by decide +kernel) (by decide) (fun c46 => ?_) (fun c46 => ?_)
      · replace H := H.1 c46
        refine ar_aload_n (pc := 79) (i := 0) (k0 := 0) (by decide +kernel) rfl rfl ?_
        refine ar_getFV (pc := 80) (a := 294) (b := 300) 7 21 (by decide +kernel) k_294 rfl (by decide) wf_RX7_32 rfl (fun _ => rfl) rfl ?_
        refine ar_iload (pc := 83) (i := 9) (by decide +kernel) rfl ?_
        obtain ⟨g47, H⟩ := H
        obtain ⟨g48, H⟩ := H
        refine ar_iald (pc := 85) (a := 300) (i := (h 297 (am_w32 ((am_w32 (v4 + (am_w32 (2 * v7)))) + 1)))) (by decide +kernel) k_300 g47 (am_lt_eq g48 (l_300).symm) ?_
        refine ar_i2l (pc := 86) (x := (h 300 (h 297 (am_w32 ((am_w32 (v4 + (am_w32 (2 * v7)))) + 1))))) (by decide +kernel) ?_
        refine ar_forget [true, true, true, true, true, true, true, true, false, false] rfl ?_
        exact H h0
      · replace H := H.2 c46
        refine ar_iload (pc := 73) (i := 9) (by decide +kernel) rfl ?_
        refine ar_i2l (pc := 75) (x := (h 297 (am_w32 ((am_w32 (v4 + (am_w32 (2 * v7)))) + 1)))) (by decide +kernel) ?_
        refine ar_goto (pc := 76) (tgt := 87) (off := 11) (by decide +kernel) (by decide) ?_
        refine ar_forget [true, true, true, true, true, true, true, true, false, false] rfl ?_
        exact H h0
theorem B_X7_work_87 {d : Nat} {Q : Int → am_H → Prop} {h : am_H} {v3 v4 v5 v6 v7 s1 s2 : Int} (H : (0 ≤ s1) ∧ ((s1 < 330) ∧ ((0 ≤ v5) ∧ ((v5 < 330) ∧ (wf (d + 1) M_X7_work Q 426 [some (.inr (.inr 294)), none, none, some (.inl v3), some (.inl v4), some (.inl (am_w32 (v5 + 1))), some (.inl v6), some (.inl v7), none, none] [] (am_up (am_up h 301 s1 s2) 302 v5 0)))))) : wf (d + 1) M_X7_work Q 87 [some (.inr (.inr 294)), none, none, some (.inl v3), some (.inl v4), some (.inl v5), some (.inl v6), some (.inl v7), none, none] [.inr (.inl s2), .inl s1, .inr (.inr 301)] h := by
  intro h0
  obtain ⟨g1, H⟩ := H
  obtain ⟨g2, H⟩ := H
  refine ar_last (pc := 87) (a := 301) (i := s1) (z := s2) (by decide +kernel) k_301 g1 (am_lt_eq g2 (l_301).symm) ?_
  refine ar_aload_n (pc := 88) (i := 0) (k0 := 0) (by decide +kernel) rfl rfl ?_
  refine ar_getFV (pc := 89) (a := 294) (b := 302) 7 25 (by decide +kernel) k_294 rfl (by decide) wf_RX7_39 rfl (fun _ => rfl) rfl ?_
  refine ar_iload (pc := 92) (i := 5) (by decide +kernel) rfl ?_
  refine ar_lconst (pc := 94) (i := 0) (z := 0) (by decide +kernel) rfl ?_
  obtain ⟨g3, H⟩ := H
  obtain ⟨g4, H⟩ := H
  refine ar_last (pc := 95) (a := 302) (i := v5) (z := 0) (by decide +kernel) k_302 g3 (am_lt_eq g4 (l_302).symm) ?_
  refine ar_iinc (pc := 96) (i := 5) (z := 1) (x := v5) (ls2 := [some (.inr (.inr 294)), none, none, some (.inl v3), some (.inl v4), some (.inl (am_w32 (v5 + 1))), some (.inl v6), some (.inl v7), none, none]) (by decide +kernel) rfl (by decide) rfl ?_
  refine ar_goto (pc := 99) (tgt := 426) (off := 327) (by decide +kernel) (by decide) ?_
  exact H h0
theorem B_X7_work_140 {d : Nat} {Q : Int → am_H → Prop} {h : am_H} {v3 v4 v5 v6 v7 : Int} (H : (0 ≤ v6) ∧ ((v6 < 330) ∧ (((h 303 v6) = 0 → (0 ≤ v5) ∧ ((v5 < 330) ∧ (wf (d + 1) M_X7_work Q 184 [some (.inr (.inr 294)), none, none, some (.inl v3), some (.inl v4), some (.inl v5), some (.inl v6), some (.inl v7), none, none] [.inr (.inl (h 302 v5)), .inr (.inl (h 304 v6)), .inl (am_w32 (v5 - 1)), .inr (.inr 302)] h))) ∧ (¬ (h 303 v6) = 0 → (0 ≤ (am_w32 (v5 - 1))) ∧ (((am_w32 (v5 - 1)) < 330) ∧ (wf (d + 1) M_X7_work Q 184 [some (.inr (.inr 294)), none, none, some (.inl v3), some (.inl v4), some (.inl v5), some (.inl v6), some (.inl v7), none, none] [.inr (.inl (h 302 (am_w32 (v5 - 1)))), .inr (.inl (h 304 v6)), .inl (am_w32 (v5 - 1)), .inr (.inr 302)] h)))))) : wf (d + 1) M_X7_work Q 140 [some (.inr (.inr 294)), none, none, some (.inl v3), some (.inl v4), some (.inl v5), some (.inl v6), some (.inl v7), none, none] [] h := by
  intro h0
  refine ar_aload_n (pc := 140) (i := 0) (k0 := 0) (by decide +kernel) rfl rfl ?_
  refine ar_getFV (pc := 141) (a := 294) (b := 302) 7 25 (by decide +kernel) k_294 rfl (by decide) wf_RX7_39 rfl (fun _ => rfl) rfl ?_
  refine ar_iload (pc := 144) (i := 5) (by decide +kernel) rfl ?_
  refine ar_iconst (pc := 146) (z := 1) (by decide +kernel) (by unfold am_i32; omega) ?_
  refine ar_isub (pc := 147) (x := v5) (y := 1) (by decide +kernel) ?_
  refine ar_aload_n (pc := 148) (i := 0) (k0 := 0) (by decide +kernel) rfl rfl ?_
  refine ar_getFV (pc := 149) (a := 294) (b := 304) 7 27 (by decide +kernel) k_294 rfl (by decide) wf_RX7_46 rfl (fun _ => rfl) rfl ?_
  refine ar_iload (pc := 152) (i := 6) (by decide +kernel) rfl ?_
  obtain ⟨g1, H⟩ := H
  obtain ⟨g2, H⟩ := H
  refine ar_lald (pc := 154) (a := 304) (i := v6) (by decide +kernel) k_304 g1 (am_lt_eq g2 (l_304).symm) ?_
  refine ar_aload_n (pc := 155) (i := 0) (k0 := 0) (by decide +kernel) rfl rfl ?_
  refine ar_getFV (pc := 156) (a := 294) (b := 303) 7 26 (by decide +kernel) k_294 rfl (by decide) wf_RX7_42 rfl (fun _ => rfl) rfl ?_
  refine ar_iload (pc := 159) (i := 6) (by decide +kernel) rfl ?_
  refine ar_zald (pc := 161) (a := 303) (i := v6) (by decide +kernel) k_303 g1 (am_lt_eq g2 (l_303).symm) ?_
  refine ar_if_eq (pc := 162) (x := (h 303 v6)) (tgt := 177) (off := 15) (by decide +kernel) (by decide) (fun c3 => ?_) (fun c3 => ?_)
  · replace H := H.1 c3
    refine ar_aload_n (pc := 177) (i := 0) (k0 := 0) (by decide +kernel) rfl rfl ?_
    refine ar_getFV (pc := 178) (a := 294) (b := 302) 7 25 (by decide +kernel) k_294 rfl (by decide) wf_RX7_39 rfl (fun _ => rfl) rfl ?_
    refine ar_iload (pc := 181) (i := 5) (by decide +kernel) rfl ?_
    obtain ⟨g4, H⟩ := H
    obtain ⟨g5, H⟩ := H
    refine ar_lald (pc := 183) (a := 302) (i := v5) (by decide +kernel) k_302 g4 (am_lt_eq g5 (l_302).symm) ?_
    exact H h0
  · replace H := H.2 c3
    refine ar_aload_n (pc := 165) (i := 0) (k0 := 0) (by decide +kernel) rfl rfl ?_
    refine ar_getFV (pc := 166) (a := 294) (b := 302) 7 25 (by decide +kernel) k_294 rfl (by decide) wf_RX7_39 rfl (fun _ => rfl) rfl ?_
    refine ar_iload (pc := 169) (i := 5) (by decide +kernel) rfl ?_
    refine ar_iconst (pc := 171) (z := 1) (by decide +kernel) (by unfold am_i32; omega) ?_
    refine ar_isub (pc := 172) (x := v5) (y := 1) (by decide +kernel) ?_
    obtain ⟨g6, H⟩ := H
    obtain ⟨g7, H⟩ := H
    refine ar_lald (pc := 173) (a := 302) (i := (am_w32 (v5 - 1))) (by decide +kernel) k_302 g6 (am_lt_eq g7 (l_302).symm) ?_
    refine ar_goto (pc := 174) (tgt := 184) (off := 10) (by decide +kernel) (by decide) ?_
    exact H h0
theorem B_X7_work_184 {d : Nat} {Q : Int → am_H → Prop} {h : am_H} {v3 v4 v5 v6 v7 s1 s2 s3 : Int} (H : (0 ≤ s1) ∧ ((s1 < 330) ∧ (wf (d + 1) M_X7_work Q 426 [some (.inr (.inr 294)), none, none, some (.inl v3), some (.inl v4), some (.inl v5), some (.inl v6), some (.inl v7), none, none] [] (am_up h 302 s1 (am_lor s2 s3))))) : wf (d + 1) M_X7_work Q 184 [some (.inr (.inr 294)), none, none, some (.inl v3), some (.inl v4), some (.inl v5), some (.inl v6), some (.inl v7), none, none] [.inr (.inl s3), .inr (.inl s2), .inl s1, .inr (.inr 302)] h := by
  intro h0
  refine ar_lor (pc := 184) (x := s2) (y := s3) (by decide +kernel) ?_
  obtain ⟨g1, H⟩ := H
  obtain ⟨g2, H⟩ := H
  refine ar_last (pc := 185) (a := 302) (i := s1) (z := (am_lor s2 s3)) (by decide +kernel) k_302 g1 (am_lt_eq g2 (l_302).symm) ?_
  refine ar_goto (pc := 186) (tgt := 426) (off := 240) (by decide +kernel) (by decide) ?_
  exact H h0
theorem B_X7_work_370 {d : Nat} {Q : Int → am_H → Prop} {h : am_H} {v3 v4 v5 v6 v7 s1 s2 : Int} (H : (0 ≤ s1) ∧ ((s1 < 330) ∧ ((s2 = 0 ∨ s2 = 1) ∧ (wf (d + 1) M_X7_work Q 426 [some (.inr (.inr 294)), none, none, some (.inl v3), some (.inl v4), some (.inl v5), some (.inl v6), some (.inl v7), none, none] [] (am_up h 303 s1 s2))))) : wf (d + 1) M_X7_work Q 370 [some (.inr (.inr 294)), none, none, some (.inl v3), some (.inl v4), some (.inl v5), some (.inl v6), some (.inl v7), none, none] [.inl s2, .inl s1, .inr (.inr 303)] h := by
  intro h0
  obtain ⟨g1, H⟩ := H
  obtain ⟨g2, H⟩ := H
  obtain ⟨g3, H⟩ := H
  refine ar_zast (pc := 370) (a := 303) (i := s1) (z := s2) (by decide +kernel) k_303 g1 (am_lt_eq g2 (l_303).symm) g3 ?_
  refine ar_goto (pc := 371) (tgt := 426) (off := 55) (by decide +kernel) (by decide) ?_
  exact H h0
theorem B_X7_work_426 {d : Nat} {Q : Int → am_H → Prop} {h : am_H} {v3 v4 v5 v6 v7 : Int} (H : wf (d + 1) M_X7_work Q 20 [some (.inr (.inr 294)), none, none, some (.inl v3), some (.inl v4), some (.inl v5), some (.inl v6), some (.inl (am_w32 (v7 + 1))), none, none] [] h) : wf (d + 1) M_X7_work Q 426 [some (.inr (.inr 294)), none, none, some (.inl v3), some (.inl v4), some (.inl v5), some (.inl v6), some (.inl v7), none, none] [] h := by
  intro h0
  refine ar_iinc (pc := 426) (i := 7) (z := 1) (x := v7) (ls2 := [some (.inr (.inr 294)), none, none, some (.inl v3), some (.inl v4), some (.inl v5), some (.inl v6), some (.inl (am_w32 (v7 + 1))), none, none]) (by decide +kernel) rfl (by decide) rfl ?_
  refine ar_goto (pc := 429) (tgt := 20) (off := -409) (by decide +kernel) (by decide) ?_
  exact H h0

/-! ByteIntervalsModel.clauses(I)I -/
theorem B_X7_clauses_0 {d : Nat} {Q : Int → am_H → Prop} {h : am_H} {v1 : Int} (H : (0 ≤ (am_w32 (825 * v1))) ∧ (((am_w32 (825 * v1)) < 3300) ∧ (Q (h 297 (am_w32 (825 * v1))) h))) : wf d M_X7_clauses Q 0 [some (.inr (.inr 294)), some (.inl v1)] [] h := by
  intro h0
  refine ar_aload_n (pc := 0) (i := 0) (k0 := 0) (by decide +kernel) rfl rfl ?_
  refine ar_getFV (pc := 1) (a := 294) (b := 297) 7 2 (by decide +kernel) k_294 rfl (by decide) wf_RX7_16 rfl (fun _ => rfl) rfl ?_
  refine ar_sipush (pc := 4) (z := 825) (by decide +kernel) (by omega) ?_
  refine ar_iload_n (pc := 7) (i := 1) (k0 := 1) (by decide +kernel) rfl rfl ?_
  refine ar_imul (pc := 8) (x := 825) (y := v1) (by decide +kernel) ?_
  obtain ⟨g1, H⟩ := H
  obtain ⟨g2, H⟩ := H
  refine ar_iald (pc := 9) (a := 297) (i := (am_w32 (825 * v1))) (by decide +kernel) k_297 g1 (am_lt_eq g2 (l_297).symm) ?_
  exact ar_iret (pc := 10) (x := (h 297 (am_w32 (825 * v1)))) (by decide +kernel) rfl rfl H

/-! ByteIntervalsModel.clauseAt(II)I -/
theorem B_X7_clauseAt_0 {d : Nat} {Q : Int → am_H → Prop} {h : am_H} {v0 v1 : Int} (H : Q (am_w32 ((am_w32 ((am_w32 (825 * v0)) + 1)) + (am_w32 (9 * v1)))) h) : wf d M_X7_clauseAt Q 0 [some (.inl v0), some (.inl v1)] [] h := by
  intro h0
  refine ar_sipush (pc := 0) (z := 825) (by decide +kernel) (by omega) ?_
  refine ar_iload_n (pc := 3) (i := 0) (k0 := 0) (by decide +kernel) rfl rfl ?_
  refine ar_imul (pc := 4) (x := 825) (y := v0) (by decide +kernel) ?_
  refine ar_iconst (pc := 5) (z := 1) (by decide +kernel) (by unfold am_i32; omega) ?_
  refine ar_iadd (pc := 6) (x := (am_w32 (825 * v0))) (y := 1) (by decide +kernel) ?_
  refine ar_bipush (pc := 7) (z := 9) (by decide +kernel) (by omega) ?_
  refine ar_iload_n (pc := 9) (i := 1) (k0 := 1) (by decide +kernel) rfl rfl ?_
  refine ar_imul (pc := 10) (x := 9) (y := v1) (by decide +kernel) ?_
  refine ar_iadd (pc := 11) (x := (am_w32 ((am_w32 (825 * v0)) + 1))) (y := (am_w32 (9 * v1))) (by decide +kernel) ?_
  exact ar_iret (pc := 12) (x := (am_w32 ((am_w32 ((am_w32 (825 * v0)) + 1)) + (am_w32 (9 * v1))))) (by decide +kernel) rfl rfl H

/-! ByteIntervalsModel.sumOf(III)J -/
theorem B_X7_sumOf_0 {d : Nat} {Q : Int → am_H → Prop} {h : am_H} {v1 v2 v3 : Int} (H : cf d M_X7_clauseAt [.inl v1, .inl v2] h (fun r1 h2 => (0 ≤ (am_w32 ((am_w32 (r1 + 3)) + (am_w32 (2 * v3))))) ∧ (((am_w32 ((am_w32 (r1 + 3)) + (am_w32 (2 * v3)))) < 3300) ∧ ((0 ≤ (am_w32 ((am_w32 ((am_w32 (r1 + 3)) + (am_w32 (2 * v3)))) + 1))) ∧ (((am_w32 ((am_w32 ((am_w32 (r1 + 3)) + (am_w32 (2 * v3)))) + 1)) < 3300) ∧ (cf d M_X7_work [.inr (.inr 294), .inl v1, .inl (h2 297 (am_w32 ((am_w32 (r1 + 3)) + (am_w32 (2 * v3))))), .inl (h2 297 (am_w32 ((am_w32 ((am_w32 (r1 + 3)) + (am_w32 (2 * v3)))) + 1)))] h2 (fun _ h8 => Q (h8 301 0) h8))))))) : wf (d + 1) M_X7_sumOf Q 0 [some (.inr (.inr 294)), some (.inl v1), some (.inl v2), some (.inl v3), none] [] h := by
  intro h0
  refine ar_iload_n (pc := 0) (i := 1) (k0 := 1) (by decide +kernel) rfl rfl ?_
  refine ar_iload_n (pc := 1) (i := 2) (k0 := 2) (by decide +kernel) rfl rfl ?_
  refine ar_callS (pc := 2) (M2 := M_X7_clauseAt) (as := [.inl v1, .inl v2]) (n2 := 321) (st := []) (by decide +kernel) rfl wm_RX7_328 ws_yX7_clauseAt wz_RX7 wc_yX7_clauseAt ⟨by decide, by decide, rfl⟩ (by decide) (Nat.le_of_ble_eq_true rfl) (Nat.le_refl _) (Nat.le_refl _) (am_Cl_mono H (fun r1 h2 H => ?_))
  show am_Wp true (d + 1) M_X7_sumOf 321 321 h0 Q 5 [some (.inr (.inr 294)), some (.inl v1), some (.inl v2), some (.inl v3), none] [.inl r1] 321 h2
  refine ar_iconst (pc := 5) (z := 3) (by decide +kernel) (by unfold am_i32; omega) ?_
  refine ar_iadd (pc := 6) (x := r1) (y := 3) (by decide +kernel) ?_
  refine ar_iconst (pc := 7) (z := 2) (by decide +kernel) (by unfold am_i32; omega) ?_
  refine ar_iload_n (pc := 8) (i := 3) (k0 := 3) (by decide +kernel) rfl rfl ?_
  refine ar_imul (pc := 9) (x := 2) (y := v3) (by decide +kernel) ?_
  refine ar_iadd (pc := 10) (x := (am_w32 (r1 + 3))) (y := (am_w32 (2 * v3))) (by decide +kernel) ?_
  refine ar_istore (pc := 11) (i := 4) (ls2 := [some (.inr (.inr 294)), some (.inl v1), some (.inl v2), some (.inl v3), some (.inl (am_w32 ((am_w32 (r1 + 3)) + (am_w32 (2 * v3)))))]) (by decide +kernel) (by decide) rfl ?_
  refine ar_aload_n (pc := 13) (i := 0) (k0 := 0) (by decide +kernel) rfl rfl ?_
  refine ar_iload_n (pc := 14) (i := 1) (k0 := 1) (by decide +kernel) rfl rfl ?_
  refine ar_aload_n (pc := 15) (i := 0) (k0 := 0) (by decide +kernel) rfl rfl ?_
  refine ar_getFV (pc := 16) (a := 294) (b := 297) 7 2 (by decide +kernel) k_294 rfl (by decide) wf_RX7_16 rfl (fun _ => rfl) rfl ?_
  refine ar_iload (pc := 19) (i := 4) (by decide +kernel) rfl ?_
  obtain ⟨g3, H⟩ := H
  obtain ⟨g4, H⟩ := H
  refine ar_iald (pc := 21) (a := 297) (i := (am_w32 ((am_w32 (r1 + 3)) + (am_w32 (2 * v3))))) (by decide +kernel) k_297 g3 (am_lt_eq g4 (l_297).symm) ?_
  refine ar_aload_n (pc := 22) (i := 0) (k0 := 0) (by decide +kernel) rfl rfl ?_
  refine ar_getFV (pc := 23) (a := 294) (b := 297) 7 2 (by decide +kernel) k_294 rfl (by decide) wf_RX7_16 rfl (fun _ => rfl) rfl ?_
  refine ar_iload (pc := 26) (i := 4) (by decide +kernel) rfl ?_
  refine ar_iconst (pc := 28) (z := 1) (by decide +kernel) (by unfold am_i32; omega) ?_
  refine ar_iadd (pc := 29) (x := (am_w32 ((am_w32 (r1 + 3)) + (am_w32 (2 * v3))))) (y := 1) (by decide +kernel) ?_
  obtain ⟨g5, H⟩ := H
  obtain ⟨g6, H⟩ := H
  refine ar_iald (pc := 30) (a := 297) (i := (am_w32 ((am_w32 ((am_w32 (r1 + 3)) + (am_w32 (2 * v3)))) + 1))) (by decide +kernel) k_297 g5 (am_lt_eq g6 (l_297).symm) ?_
  refine ar_callV (pc := 31) (M2 := M_X7_work) (a := 294) (ci := 7) (as := [.inl v1, .inl (h2 297 (am_w32 ((am_w32 (r1 + 3)) + (am_w32 (2 * v3))))), .inl (h2 297 (am_w32 ((am_w32 ((am_w32 (r1 + 3)) + (am_w32 (2 * v3)))) + 1)))]) (n2 := 321) (st := []) (by decide +kernel) rfl wm_RX7_331 wi_yX7_work wl_yX7_work k_294 rfl wz_RX7 wc_yX7_work ⟨by decide, by decide, rfl⟩ (by decide) (Nat.le_of_ble_eq_true rfl) (Nat.le_refl _) (Nat.le_refl _) (am_Cl_mono H (fun r7 h8 H => ?_))
  show am_Wp true (d + 1) M_X7_sumOf 321 321 h0 Q 34 [some (.inr (.inr 294)), some (.inl v1), some (.inl v2), some (.inl v3), some (.inl (am_w32 ((am_w32 (r1 + 3)) + (am_w32 (2 * v3)))))] [] 321 h8
  refine ar_aload_n (pc := 34) (i := 0) (k0 := 0) (by decide +kernel) rfl rfl ?_
  refine ar_getFV (pc := 35) (a := 294) (b := 301) 7 24 (by decide +kernel) k_294 rfl (by decide) wf_RX7_35 rfl (fun _ => rfl) rfl ?_
  refine ar_iconst (pc := 38) (z := 0) (by decide +kernel) (by unfold am_i32; omega) ?_
  refine ar_lald (pc := 39) (a := 301) (i := 0) (by decide +kernel) k_301 (by decide) (am_lt_eq (b := 330) (by decide) (l_301).symm) ?_
  exact ar_lret (pc := 40) (x := (h8 301 0)) (by decide +kernel) rfl rfl H

/-! ByteIntervalsModel.rotsNow(I)I -/
theorem B_X7_rotsNow_0 {d : Nat} {Q : Int → am_H → Prop} {h : am_H} {v1 : Int} (H : (0 ≤ (am_w32 (8 + v1))) ∧ (((am_w32 (8 + v1)) < 2159) ∧ (wf (d + 1) M_X7_rotsNow Q 76 [some (.inr (.inr 294)), none, some (.inl (h 295 1)), some (.inl 0)] [] (am_up (am_up (am_up (am_up (am_up (am_up h 294 22 0) 294 23 (h 295 6)) 300 8 (h 295 6)) 300 10 (h 295 4)) 300 11 v1) 300 12 (h 295 (am_w32 (8 + v1))))))) : wf (d + 1) M_X7_rotsNow Q 0 [some (.inr (.inr 294)), some (.inl v1), none, none] [] h := by
  intro h0
  refine ar_aload_n (pc := 0) (i := 0) (k0 := 0) (by decide +kernel) rfl rfl ?_
  refine ar_iconst (pc := 1) (z := 0) (by decide +kernel) (by unfold am_i32; omega) ?_
  refine ar_putI (pc := 2) (a := 294) (z := 0) 7 22 (by decide +kernel) k_294 rfl (by decide) rfl (fun _ => rfl) rfl wf_RX7_310 ?_
  refine ar_aload_n (pc := 5) (i := 0) (k0 := 0) (by decide +kernel) rfl rfl ?_
  refine ar_aload_n (pc := 6) (i := 0) (k0 := 0) (by decide +kernel) rfl rfl ?_
  refine ar_getFV (pc := 7) (a := 294) (b := 295) 7 0 (by decide +kernel) k_294 rfl (by decide) wf_RX7_7 rfl (fun _ => rfl) rfl ?_
  refine ar_bipush (pc := 10) (z := 6) (by decide +kernel) (by omega) ?_
  refine ar_ialdV (pc := 12) (a := 295) (i := 6) (v := (h 295 6)) (by first | rfl | (simp [am_up, am_cp]; done) | (simp [am_up, am_cp] <;> intros <;> omega)) (by decide +kernel) k_295 (by decide) (am_lt_eq (b := 2159) (by decide) (l_295).symm) ?_
  refine ar_putI (pc := 13) (a := 294) (z := (h 295 6)) 7 23 (by decide +kernel) k_294 rfl (by decide) rfl (fun _ => rfl) rfl wf_RX7_304 ?_
  refine ar_aload_n (pc := 16) (i := 0) (k0 := 0) (by decide +kernel) rfl rfl ?_
  refine ar_getFV (pc := 17) (a := 294) (b := 300) 7 21 (by decide +kernel) k_294 rfl (by decide) wf_RX7_32 rfl (fun _ => rfl) rfl ?_
  refine ar_bipush (pc := 20) (z := 8) (by decide +kernel) (by omega) ?_
  refine ar_aload_n (pc := 22) (i := 0) (k0 := 0) (by decide +kernel) rfl rfl ?_
  refine ar_getFV (pc := 23) (a := 294) (b := 295) 7 0 (by decide +kernel) k_294 rfl (by decide) wf_RX7_7 rfl (fun _ => rfl) rfl ?_
  refine ar_bipush (pc := 26) (z := 6) (by decide +kernel) (by omega) ?_
  refine ar_ialdV (pc := 28) (a := 295) (i := 6) (v := (h 295 6)) (by first | rfl | (simp [am_up, am_cp]; done) | (simp [am_up, am_cp] <;> intros <;> omega)) (by decide +kernel) k_295 (by decide) (am_lt_eq (b := 2159) (by decide) (l_295).symm) ?_
  refine ar_iast (pc := 29) (a := 300) (i := 8) (z := (h 295 6)) (by decide +kernel) k_300 (by decide) (am_lt_eq (b := 13) (by decide) (l_300).symm) ?_
  refine ar_aload_n (pc := 30) (i := 0) (k0 := 0) (by decide +kernel) rfl rfl ?_
  refine ar_getFV (pc := 31) (a := 294) (b := 300) 7 21 (by decide +kernel) k_294 rfl (by decide) wf_RX7_32 rfl (fun _ => rfl) rfl ?_
  refine ar_bipush (pc := 34) (z := 10) (by decide +kernel) (by omega) ?_
  refine ar_aload_n (pc := 36) (i := 0) (k0 := 0) (by decide +kernel) rfl rfl ?_
  refine ar_getFV (pc := 37) (a := 294) (b := 295) 7 0 (by decide +kernel) k_294 rfl (by decide) wf_RX7_7 rfl (fun _ => rfl) rfl ?_
  refine ar_iconst (pc := 40) (z := 4) (by decide +kernel) (by unfold am_i32; omega) ?_
  refine ar_ialdV (pc := 41) (a := 295) (i := 4) (v := (h 295 4)) (by first | rfl | (simp [am_up, am_cp]; done) | (simp [am_up, am_cp] <;> intros <;> omega)) (by decide +kernel) k_295 (by decide) (am_lt_eq (b := 2159) (by decide) (l_295).symm) ?_
  refine ar_iast (pc := 42) (a := 300) (i := 10) (z := (h 295 4)) (by decide +kernel) k_300 (by decide) (am_lt_eq (b := 13) (by decide) (l_300).symm) ?_
  refine ar_aload_n (pc := 43) (i := 0) (k0 := 0) (by decide +kernel) rfl rfl ?_
  refine ar_getFV (pc := 44) (a := 294) (b := 300) 7 21 (by decide +kernel) k_294 rfl (by decide) wf_RX7_32 rfl (fun _ => rfl) rfl ?_
  refine ar_bipush (pc := 47) (z := 11) (by decide +kernel) (by omega) ?_
  refine ar_iload_n (pc := 49) (i := 1) (k0 := 1) (by decide +kernel) rfl rfl ?_
  refine ar_iast (pc := 50) (a := 300) (i := 11) (z := v1) (by decide +kernel) k_300 (by decide) (am_lt_eq (b := 13) (by decide) (l_300).symm) ?_
  refine ar_aload_n (pc := 51) (i := 0) (k0 := 0) (by decide +kernel) rfl rfl ?_
  refine ar_getFV (pc := 52) (a := 294) (b := 300) 7 21 (by decide +kernel) k_294 rfl (by decide) wf_RX7_32 rfl (fun _ => rfl) rfl ?_
  refine ar_bipush (pc := 55) (z := 12) (by decide +kernel) (by omega) ?_
  refine ar_aload_n (pc := 57) (i := 0) (k0 := 0) (by decide +kernel) rfl rfl ?_
  refine ar_getFV (pc := 58) (a := 294) (b := 295) 7 0 (by decide +kernel) k_294 rfl (by decide) wf_RX7_7 rfl (fun _ => rfl) rfl ?_
  refine ar_bipush (pc := 61) (z := 8) (by decide +kernel) (by omega) ?_
  refine ar_iload_n (pc := 63) (i := 1) (k0 := 1) (by decide +kernel) rfl rfl ?_
  refine ar_iadd (pc := 64) (x := 8) (y := v1) (by decide +kernel) ?_
  obtain ⟨g1, H⟩ := H
  obtain ⟨g2, H⟩ := H
  refine ar_ialdV (pc := 65) (a := 295) (i := (am_w32 (8 + v1))) (v := (h 295 (am_w32 (8 + v1)))) (by first | rfl | (simp [am_up, am_cp]; done) | (simp [am_up, am_cp] <;> intros <;> omega)) (by decide +kernel) k_295 g1 (am_lt_eq g2 (l_295).symm) ?_
  refine ar_iast (pc := 66) (a := 300) (i := 12) (z := (h 295 (am_w32 (8 + v1)))) (by decide +kernel) k_300 (by decide) (am_lt_eq (b := 13) (by decide) (l_300).symm) ?_
  refine ar_aload_n (pc := 67) (i := 0) (k0 := 0) (by decide +kernel) rfl rfl ?_
  refine ar_getFV (pc := 68) (a := 294) (b := 295) 7 0 (by decide +kernel) k_294 rfl (by decide) wf_RX7_7 rfl (fun _ => rfl) rfl ?_
  refine ar_iconst (pc := 71) (z := 1) (by decide +kernel) (by unfold am_i32; omega) ?_
  refine ar_ialdV (pc := 72) (a := 295) (i := 1) (v := (h 295 1)) (by first | rfl | (simp [am_up, am_cp]; done) | (simp [am_up, am_cp] <;> intros <;> omega)) (by decide +kernel) k_295 (by decide) (am_lt_eq (b := 2159) (by decide) (l_295).symm) ?_
  refine ar_istore_n (pc := 73) (i := 2) (k0 := 2) (ls2 := [some (.inr (.inr 294)), some (.inl v1), some (.inl (h 295 1)), none]) (by decide +kernel) rfl (by decide) rfl ?_
  refine ar_iconst (pc := 74) (z := 0) (by decide +kernel) (by unfold am_i32; omega) ?_
  refine ar_istore_n (pc := 75) (i := 3) (k0 := 3) (ls2 := [some (.inr (.inr 294)), some (.inl v1), some (.inl (h 295 1)), some (.inl 0)]) (by decide +kernel) rfl (by decide) rfl ?_
  refine ar_forget [true, false, true, true] rfl ?_
  exact H h0
theorem B_X7_rotsNow_76 {d : Nat} {Q : Int → am_H → Prop} {h : am_H} {v2 v3 : Int} (H : (v2 < 0 → Q 3 h) ∧ (0 ≤ v2 → cf d M_X7_clauses [.inr (.inr 294), .inl v2] h (fun r2 h3 => (r2 ≤ v3 → Q 3 h3) ∧ (v3 < r2 → cf d M_X7_clauseAt [.inl v2, .inl v3] h3 (fun r5 h6 => (0 ≤ r5) ∧ ((r5 < 3300) ∧ ((¬ (h6 297 r5) = 4 → wf (d + 1) M_X7_rotsNow Q 76 [some (.inr (.inr 294)), none, some (.inl v2), some (.inl (am_w32 (v3 + 1)))] [] h6) ∧ ((h6 297 r5) = 4 → cf d M_X7_sumOf [.inr (.inr 294), .inl v2, .inl v3, .inl 0] h6 (fun r10 h11 => cf d M_X7_held [.inr (.inl r10), .inl 0, .inl 10] h11 (fun r12 h13 => Q r12 h13)))))))))) : wf (d + 1) M_X7_rotsNow Q 76 [some (.inr (.inr 294)), none, some (.inl v2), some (.inl v3)] [] h := by
  intro h0
  refine ar_iload_n (pc := 76) (i := 2) (k0 := 2) (by decide +kernel) rfl rfl ?_
  refine ar_if_lt (pc := 77) (x := v2) (tgt := 123) (off := 46) (by decide +kernel) (by decide) (fun c1 => ?_) (fun c1 => ?_)
  · replace H := H.1 c1
    refine ar_iconst (pc := 123) (z := 3) (by decide +kernel) (by unfold am_i32; omega) ?_
    exact ar_iret (pc := 124) (x := 3) (by decide +kernel) rfl rfl H
  · replace H := H.2 c1
    refine ar_iload_n (pc := 80) (i := 3) (k0 := 3) (by decide +kernel) rfl rfl ?_
    refine ar_aload_n (pc := 81) (i := 0) (k0 := 0) (by decide +kernel) rfl rfl ?_
    refine ar_iload_n (pc := 82) (i := 2) (k0 := 2) (by decide +kernel) rfl rfl ?_
    refine ar_callV (pc := 83) (M2 := M_X7_clauses) (a := 294) (ci := 7) (as := [.inl v2]) (n2 := 321) (st := [.inl v3]) (by decide +kernel) rfl wm_RX7_335 wi_yX7_clauses wl_yX7_clauses k_294 rfl wz_RX7 wc_yX7_clauses ⟨by decide, by decide, rfl⟩ (by decide) (Nat.le_of_ble_eq_true rfl) (Nat.le_refl _) (Nat.le_refl _) (am_Cl_mono H (fun r2 h3 H => ?_))
    show am_Wp true (d + 1) M_X7_rotsNow 321 321 h0 Q 86 [some (.inr (.inr 294)), none, some (.inl v2), some (.inl v3)] [.inl r2, .inl v3] 321 h3
    refine ar_icmp_ge (pc := 86) (x := v3) (y := r2) (tgt := 123) (off := 37) (by decide +kernel) (by decide) (fun c4 => ?_) (fun c4 => ?_)
    · replace H := H.1 c4
      refine ar_iconst (pc := 123) (z := 3) (by decide +kernel) (by unfold am_i32; omega) ?_
      exact ar_iret (pc := 124) (x := 3) (by decide +kernel) rfl rfl H
    · replace H := H.2 c4
      refine ar_aload_n (pc := 89) (i := 0) (k0 := 0) (by decide +kernel) rfl rfl ?_
      refine ar_getFV (pc := 90) (a := 294) (b := 297) 7 2 (by decide +kernel) k_294 rfl (by decide) wf_RX7_16 rfl (fun _ => rfl) rfl ?_
      refine ar_iload_n (pc := 93) (i := 2) (k0 := 2) (by decide +kernel) rfl rfl ?_
      refine ar_iload_n (pc := 94) (i := 3) (k0 := 3) (by decide +kernel) rfl rfl ?_
      refine ar_callS (pc := 95) (M2 := M_X7_clauseAt) (as := [.inl v2, .inl v3]) (n2 := 321) (st := [.inr (.inr 297)]) (by decide +kernel) rfl wm_RX7_328 ws_yX7_clauseAt wz_RX7 wc_yX7_clauseAt ⟨by decide, by decide, rfl⟩ (by decide) (Nat.le_of_ble_eq_true rfl) (Nat.le_refl _) (Nat.le_refl _) (am_Cl_mono H (fun r5 h6 H => ?_))
      show am_Wp true (d + 1) M_X7_rotsNow 321 321 h0 Q 98 [some (.inr (.inr 294)), none, some (.inl v2), some (.inl v3)] [.inl r5, .inr (.inr 297)] 321 h6
      obtain ⟨g7, H⟩ := H
      obtain ⟨g8, H⟩ := H
      refine ar_iald (pc := 98) (a := 297) (i := r5) (by decide +kernel) k_297 g7 (am_lt_eq g8 (l_297).symm) ?_
      refine ar_iconst (pc := 99) (z := 4) (by decide +kernel) (by unfold am_i32; omega) ?_
      refine ar_icmp_ne (pc := 100) (x := (h6 297 r5)) (y := 4) (tgt := 117) (off := 17) (by decide +kernel) (by decide) (fun c9 => ?_) (fun c9 => ?_)
      · replace H := H.1 c9
        refine ar_iinc (pc := 117) (i := 3) (z := 1) (x := v3) (ls2 := [some (.inr (.inr 294)), none, some (.inl v2), some (.inl (am_w32 (v3 + 1)))]) (by decide +kernel) rfl (by decide) rfl ?_
        refine ar_goto (pc := 120) (tgt := 76) (off := -44) (by decide +kernel) (by decide) ?_
        exact H h0
      · replace H := H.2 c9
        refine ar_aload_n (pc := 103) (i := 0) (k0 := 0) (by decide +kernel) rfl rfl ?_
        refine ar_iload_n (pc := 104) (i := 2) (k0 := 2) (by decide +kernel) rfl rfl ?_
        refine ar_iload_n (pc := 105) (i := 3) (k0 := 3) (by decide +kernel) rfl rfl ?_
        refine ar_iconst (pc := 106) (z := 0) (by decide +kernel) (by unfold am_i32; omega) ?_
        refine ar_callV (pc := 107) (M2 := M_X7_sumOf) (a := 294) (ci := 7) (as := [.inl v2, .inl v3, .inl 0]) (n2 := 321) (st := []) (by decide +kernel) rfl wm_RX7_338 wi_yX7_sumOf wl_yX7_sumOf k_294 rfl wz_RX7 wc_yX7_sumOf ⟨by decide, by decide, rfl⟩ (by decide) (Nat.le_of_ble_eq_true rfl) (Nat.le_refl _) (Nat.le_refl _) (am_Cl_mono H (fun r10 h11 H => ?_))
        show am_Wp true (d + 1) M_X7_rotsNow 321 321 h0 Q 110 [some (.inr (.inr 294)), none, some (.inl v2), some (.inl v3)] [.inr (.inl r10)] 321 h11
        refine ar_iconst (pc := 110) (z := 0) (by decide +kernel) (by unfold am_i32; omega) ?_
        refine ar_bipush (pc := 111) (z := 10) (by decide +kernel) (by omega) ?_
        refine ar_callS (pc := 113) (M2 := M_X7_held) (as := [.inr (.inl r10), .inl 0, .inl 10]) (n2 := 321) (st := []) (by decide +kernel) rfl wm_RX7_341 ws_yX7_held wz_RX7 wc_yX7_held ⟨by decide, by decide, rfl⟩ (by decide) (Nat.le_of_ble_eq_true rfl) (Nat.le_refl _) (Nat.le_refl _) (am_Cl_mono H (fun r12 h13 H => ?_))
        show am_Wp true (d + 1) M_X7_rotsNow 321 321 h0 Q 116 [some (.inr (.inr 294)), none, some (.inl v2), some (.inl v3)] [.inl r12] 321 h13
        exact ar_iret (pc := 116) (x := r12) (by decide +kernel) rfl rfl H

/-! ByteIntervalsModel.namesIn(II)I -/
theorem B_X7_namesIn_0 {d : Nat} {Q : Int → am_H → Prop} {h : am_H} {v1 v2 : Int} (H : (0 ≤ v2) ∧ ((v2 < 3300) ∧ (wf d M_X7_namesIn Q 21 [some (.inr (.inr 294)), none, some (.inl v2), some (.inl 0), some (.inl (am_w32 ((am_w32 (825 * v1)) + 217))), some (.inl (h 297 v2))] [] h))) : wf d M_X7_namesIn Q 0 [some (.inr (.inr 294)), some (.inl v1), some (.inl v2), none, none, none] [] h := by
  intro h0
  refine ar_iconst (pc := 0) (z := 0) (by decide +kernel) (by unfold am_i32; omega) ?_
  refine ar_istore_n (pc := 1) (i := 3) (k0 := 3) (ls2 := [some (.inr (.inr 294)), some (.inl v1), some (.inl v2), some (.inl 0), none, none]) (by decide +kernel) rfl (by decide) rfl ?_
  refine ar_sipush (pc := 2) (z := 825) (by decide +kernel) (by omega) ?_
  refine ar_iload_n (pc := 5) (i := 1) (k0 := 1) (by decide +kernel) rfl rfl ?_
  refine ar_imul (pc := 6) (x := 825) (y := v1) (by decide +kernel) ?_
  refine ar_sipush (pc := 7) (z := 217) (by decide +kernel) (by omega) ?_
  refine ar_iadd (pc := 10) (x := (am_w32 (825 * v1))) (y := 217) (by decide +kernel) ?_
  refine ar_istore (pc := 11) (i := 4) (ls2 := [some (.inr (.inr 294)), some (.inl v1), some (.inl v2), some (.inl 0), some (.inl (am_w32 ((am_w32 (825 * v1)) + 217))), none]) (by decide +kernel) (by decide) rfl ?_
  refine ar_aload_n (pc := 13) (i := 0) (k0 := 0) (by decide +kernel) rfl rfl ?_
  refine ar_getFV (pc := 14) (a := 294) (b := 297) 7 2 (by decide +kernel) k_294 rfl (by decide) wf_RX7_16 rfl (fun _ => rfl) rfl ?_
  refine ar_iload_n (pc := 17) (i := 2) (k0 := 2) (by decide +kernel) rfl rfl ?_
  obtain ⟨g1, H⟩ := H
  obtain ⟨g2, H⟩ := H
  refine ar_iald (pc := 18) (a := 297) (i := v2) (by decide +kernel) k_297 g1 (am_lt_eq g2 (l_297).symm) ?_
  refine ar_istore (pc := 19) (i := 5) (ls2 := [some (.inr (.inr 294)), some (.inl v1), some (.inl v2), some (.inl 0), some (.inl (am_w32 ((am_w32 (825 * v1)) + 217))), some (.inl (h 297 v2))]) (by decide +kernel) (by decide) rfl ?_
  refine ar_forget [true, false, true, true, true, true] rfl ?_
  exact H h0
theorem B_X7_namesIn_21 {d : Nat} {Q : Int → am_H → Prop} {h : am_H} {v2 v3 v4 v5 : Int} (H : (0 ≤ (am_w32 (v2 + 1))) ∧ (((am_w32 (v2 + 1)) < 3300) ∧ (((h 297 (am_w32 (v2 + 1))) ≤ v5 → Q v3 h) ∧ (v5 < (h 297 (am_w32 (v2 + 1))) → (0 ≤ (am_w32 (v4 + (am_w32 (2 * v5))))) ∧ (((am_w32 (v4 + (am_w32 (2 * v5)))) < 3300) ∧ ((¬ (h 297 (am_w32 (v4 + (am_w32 (2 * v5))))) = 1 → wf d M_X7_namesIn Q 88 [some (.inr (.inr 294)), none, some (.inl v2), some (.inl v3), some (.inl v4), some (.inl v5)] [] h) ∧ ((h 297 (am_w32 (v4 + (am_w32 (2 * v5))))) = 1 → (0 ≤ (am_w32 ((am_w32 (v4 + (am_w32 (2 * v5)))) + 1))) ∧ (((am_w32 ((am_w32 (v4 + (am_w32 (2 * v5)))) + 1)) < 3300) ∧ ((8 ≤ (h 297 (am_w32 ((am_w32 (v4 + (am_w32 (2 * v5)))) + 1))) → wf d M_X7_namesIn Q 88 [some (.inr (.inr 294)), none, some (.inl v2), some (.inl v3), some (.inl v4), some (.inl v5)] [] h) ∧ ((h 297 (am_w32 ((am_w32 (v4 + (am_w32 (2 * v5)))) + 1))) < 8 → wf d M_X7_namesIn Q 88 [some (.inr (.inr 294)), none, some (.inl v2), some (.inl (am_ior v3 (am_ishl 1 (h 297 (am_w32 ((am_w32 (v4 + (am_w32 (2 * v5)))) + 1)))))), some (.inl v4), some (.inl v5)] [] h)))))))))) : wf d M_X7_namesIn Q 21 [some (.inr (.inr 294)), none, some (.inl v2), some (.inl v3), some (.inl v4), some (.inl v5)] [] h := by
  intro h0
  refine ar_iload (pc := 21) (i := 5) (by decide +kernel) rfl ?_
  refine ar_aload_n (pc := 23) (i := 0) (k0 := 0) (by decide +kernel) rfl rfl ?_
  refine ar_getFV (pc := 24) (a := 294) (b := 297) 7 2 (by decide +kernel) k_294 rfl (by decide) wf_RX7_16 rfl (fun _ => rfl) rfl ?_
  refine ar_iload_n (pc := 27) (i := 2) (k0 := 2) (by decide +kernel) rfl rfl ?_
  refine ar_iconst (pc := 28) (z := 1) (by decide +kernel) (by unfold am_i32; omega) ?_
  refine ar_iadd (pc := 29) (x := v2) (y := 1) (by decide +kernel) ?_
  obtain ⟨g1, H⟩ := H
  obtain ⟨g2, H⟩ := H
  refine ar_iald (pc := 30) (a := 297) (i := (am_w32 (v2 + 1))) (by decide +kernel) k_297 g1 (am_lt_eq g2 (l_297).symm) ?_
  refine ar_icmp_ge (pc := 31) (x := v5) (y := (h 297 (am_w32 (v2 + 1)))) (tgt := 94) (off := 63) (by decide +kernel) (by decide) (fun c3 => ?_) (fun c3 => ?_)
  · replace H := H.1 c3
    refine ar_iload_n (pc := 94) (i := 3) (k0 := 3) (by decide +kernel) rfl rfl ?_
    exact ar_iret (pc := 95) (x := v3) (by decide +kernel) rfl rfl H
  · replace H := H.2 c3
    refine ar_aload_n (pc := 34) (i := 0) (k0 := 0) (by decide +kernel) rfl rfl ?_
    refine ar_getFV (pc := 35) (a := 294) (b := 297) 7 2 (by decide +kernel) k_294 rfl (by decide) wf_RX7_16 rfl (fun _ => rfl) rfl ?_
    refine ar_iload (pc := 38) (i := 4) (by decide +kernel) rfl ?_
    refine ar_iconst (pc := 40) (z := 2) (by decide +kernel) (by unfold am_i32; omega) ?_
    refine ar_iload (pc := 41) (i := 5) (by decide +kernel) rfl ?_
    refine ar_imul (pc := 43) (x := 2) (y := v5) (by decide +kernel) ?_
    refine ar_iadd (pc := 44) (x := v4) (y := (am_w32 (2 * v5))) (by decide +kernel) ?_
    obtain ⟨g4, H⟩ := H
    obtain ⟨g5, H⟩ := H
    refine ar_iald (pc := 45) (a := 297) (i := (am_w32 (v4 + (am_w32 (2 * v5))))) (by decide +kernel) k_297 g4 (am_lt_eq g5 (l_297).symm) ?_
    refine ar_iconst (pc := 46) (z := 1) (by decide +kernel) (by unfold am_i32; omega) ?_
    refine ar_icmp_ne (pc := 47) (x := (h 297 (am_w32 (v4 + (am_w32 (2 * v5)))))) (y := 1) (tgt := 88) (off := 41) (by decide +kernel) (by decide) (fun c6 => ?_) (fun c6 => ?_)
    · replace H := H.1 c6
      exact H h0
    · replace H := H.2 c6
      refine ar_aload_n (pc := 50) (i := 0) (k0 := 0) (by decide +kernel) rfl rfl ?_
      refine ar_getFV (pc := 51) (a := 294) (b := 297) 7 2 (by decide +kernel) k_294 rfl (by decide) wf_RX7_16 rfl (fun _ => rfl) rfl ?_
      refine ar_iload (pc := 54) (i := 4) (by decide +kernel) rfl ?_
      refine ar_iconst (pc := 56) (z := 2) (by decide +kernel) (by unfold am_i32; omega) ?_
      refine ar_iload (pc := 57) (i := 5) (by decide +kernel) rfl ?_
      refine ar_imul (pc := 59) (x := 2) (y := v5) (by decide +kernel) ?_
      refine ar_iadd (pc := 60) (x := v4) (y := (am_w32 (2 * v5))) (by decide +kernel) ?_
      refine ar_iconst (pc := 61) (z := 1) (by decide +kernel) (by unfold am_i32; omega) ?_
      refine ar_iadd (pc := 62) (x := (am_w32 (v4 + (am_w32 (2 * v5))))) (y := 1) (by decide +kernel) ?_
      obtain ⟨g7, H⟩ := H
      obtain ⟨g8, H⟩ := H
      refine ar_iald (pc := 63) (a := 297) (i := (am_w32 ((am_w32 (v4 + (am_w32 (2 * v5)))) + 1))) (by decide +kernel) k_297 g7 (am_lt_eq g8 (l_297).symm) ?_
      refine ar_bipush (pc := 64) (z := 8) (by decide +kernel) (by omega) ?_
      refine ar_icmp_ge (pc := 66) (x := (h 297 (am_w32 ((am_w32 (v4 + (am_w32 (2 * v5)))) + 1)))) (y := 8) (tgt := 88) (off := 22) (by decide +kernel) (by decide) (fun c9 => ?_) (fun c9 => ?_)
      · replace H := H.1 c9
        exact H h0
      · replace H := H.2 c9
        refine ar_iload_n (pc := 69) (i := 3) (k0 := 3) (by decide +kernel) rfl rfl ?_
        refine ar_iconst (pc := 70) (z := 1) (by decide +kernel) (by unfold am_i32; omega) ?_
        refine ar_aload_n (pc := 71) (i := 0) (k0 := 0) (by decide +kernel) rfl rfl ?_
        refine ar_getFV (pc := 72) (a := 294) (b := 297) 7 2 (by decide +kernel) k_294 rfl (by decide) wf_RX7_16 rfl (fun _ => rfl) rfl ?_
        refine ar_iload (pc := 75) (i := 4) (by decide +kernel) rfl ?_
        refine ar_iconst (pc := 77) (z := 2) (by decide +kernel) (by unfold am_i32; omega) ?_
        refine ar_iload (pc := 78) (i := 5) (by decide +kernel) rfl ?_
        refine ar_imul (pc := 80) (x := 2) (y := v5) (by decide +kernel) ?_
        refine ar_iadd (pc := 81) (x := v4) (y := (am_w32 (2 * v5))) (by decide +kernel) ?_
        refine ar_iconst (pc := 82) (z := 1) (by decide +kernel) (by unfold am_i32; omega) ?_
        refine ar_iadd (pc := 83) (x := (am_w32 (v4 + (am_w32 (2 * v5))))) (y := 1) (by decide +kernel) ?_
        refine ar_iald (pc := 84) (a := 297) (i := (am_w32 ((am_w32 (v4 + (am_w32 (2 * v5)))) + 1))) (by decide +kernel) k_297 g7 (am_lt_eq g8 (l_297).symm) ?_
        refine ar_ishl (pc := 85) (x := 1) (y := (h 297 (am_w32 ((am_w32 (v4 + (am_w32 (2 * v5)))) + 1)))) (by decide +kernel) ?_
        refine ar_ior (pc := 86) (x := v3) (y := (am_ishl 1 (h 297 (am_w32 ((am_w32 (v4 + (am_w32 (2 * v5)))) + 1))))) (by decide +kernel) ?_
        refine ar_istore_n (pc := 87) (i := 3) (k0 := 3) (ls2 := [some (.inr (.inr 294)), none, some (.inl v2), some (.inl (am_ior v3 (am_ishl 1 (h 297 (am_w32 ((am_w32 (v4 + (am_w32 (2 * v5)))) + 1)))))), some (.inl v4), some (.inl v5)]) (by decide +kernel) rfl (by decide) rfl ?_
        exact H h0
theorem B_X7_namesIn_88 {d : Nat} {Q : Int → am_H → Prop} {h : am_H} {v2 v3 v4 v5 : Int} (H : wf d M_X7_namesIn Q 21 [some (.inr (.inr 294)), none, some (.inl v2), some (.inl v3), some (.inl v4), some (.inl (am_w32 (v5 + 1)))] [] h) : wf d M_X7_namesIn Q 88 [some (.inr (.inr 294)), none, some (.inl v2), some (.inl v3), some (.inl v4), some (.inl v5)] [] h := by
  intro h0
  refine ar_iinc (pc := 88) (i := 5) (z := 1) (x := v5) (ls2 := [some (.inr (.inr 294)), none, some (.inl v2), some (.inl v3), some (.inl v4), some (.inl (am_w32 (v5 + 1)))]) (by decide +kernel) rfl (by decide) rfl ?_
  refine ar_goto (pc := 91) (tgt := 21) (off := -70) (by decide +kernel) (by decide) ?_
  exact H h0

/-! ByteIntervalsModel.sumsOf(I)I -/
theorem B_X7_sumsOf_0 {d : Nat} {Q : Int → am_H → Prop} {h : am_H} {v0 : Int} (H : (¬ v0 = 1 → (¬ v0 = 3 → Q 2 h) ∧ (v0 = 3 → Q 1 h)) ∧ (v0 = 1 → Q 3 h)) : wf d M_X7_sumsOf Q 0 [some (.inl v0)] [] h := by
  intro h0
  refine ar_iload_n (pc := 0) (i := 0) (k0 := 0) (by decide +kernel) rfl rfl ?_
  refine ar_iconst (pc := 1) (z := 1) (by decide +kernel) (by unfold am_i32; omega) ?_
  refine ar_icmp_ne (pc := 2) (x := v0) (y := 1) (tgt := 9) (off := 7) (by decide +kernel) (by decide) (fun c1 => ?_) (fun c1 => ?_)
  · replace H := H.1 c1
    refine ar_iload_n (pc := 9) (i := 0) (k0 := 0) (by decide +kernel) rfl rfl ?_
    refine ar_iconst (pc := 10) (z := 3) (by decide +kernel) (by unfold am_i32; omega) ?_
    refine ar_icmp_ne (pc := 11) (x := v0) (y := 3) (tgt := 18) (off := 7) (by decide +kernel) (by decide) (fun c2 => ?_) (fun c2 => ?_)
    · replace H := H.1 c2
      refine ar_iconst (pc := 18) (z := 2) (by decide +kernel) (by unfold am_i32; omega) ?_
      exact ar_iret (pc := 19) (x := 2) (by decide +kernel) rfl rfl H
    · replace H := H.2 c2
      refine ar_iconst (pc := 14) (z := 1) (by decide +kernel) (by unfold am_i32; omega) ?_
      refine ar_goto (pc := 15) (tgt := 19) (off := 4) (by decide +kernel) (by decide) ?_
      exact ar_iret (pc := 19) (x := 1) (by decide +kernel) rfl rfl H
  · replace H := H.2 c1
    refine ar_iconst (pc := 5) (z := 3) (by decide +kernel) (by unfold am_i32; omega) ?_
    refine ar_goto (pc := 6) (tgt := 19) (off := 13) (by decide +kernel) (by decide) ?_
    exact ar_iret (pc := 19) (x := 3) (by decide +kernel) rfl rfl H

/-! ByteIntervalsModel.namesOf(II)I -/
theorem B_X7_namesOf_0 {d : Nat} {Q : Int → am_H → Prop} {h : am_H} {v1 v2 : Int} (H : cf d M_X7_clauseAt [.inl v1, .inl v2] h (fun r1 h2 => wf (d + 1) M_X7_namesOf Q 12 [some (.inr (.inr 294)), some (.inl v1), none, some (.inl r1), some (.inl 0), some (.inl 0)] [] h2)) : wf (d + 1) M_X7_namesOf Q 0 [some (.inr (.inr 294)), some (.inl v1), some (.inl v2), none, none, none] [] h := by
  intro h0
  refine ar_iload_n (pc := 0) (i := 1) (k0 := 1) (by decide +kernel) rfl rfl ?_
  refine ar_iload_n (pc := 1) (i := 2) (k0 := 2) (by decide +kernel) rfl rfl ?_
  refine ar_callS (pc := 2) (M2 := M_X7_clauseAt) (as := [.inl v1, .inl v2]) (n2 := 321) (st := []) (by decide +kernel) rfl wm_RX7_328 ws_yX7_clauseAt wz_RX7 wc_yX7_clauseAt ⟨by decide, by decide, rfl⟩ (by decide) (Nat.le_of_ble_eq_true rfl) (Nat.le_refl _) (Nat.le_refl _) (am_Cl_mono H (fun r1 h2 H => ?_))
  show am_Wp true (d + 1) M_X7_namesOf 321 321 h0 Q 5 [some (.inr (.inr 294)), some (.inl v1), some (.inl v2), none, none, none] [.inl r1] 321 h2
  refine ar_istore_n (pc := 5) (i := 3) (k0 := 3) (ls2 := [some (.inr (.inr 294)), some (.inl v1), some (.inl v2), some (.inl r1), none, none]) (by decide +kernel) rfl (by decide) rfl ?_
  refine ar_iconst (pc := 6) (z := 0) (by decide +kernel) (by unfold am_i32; omega) ?_
  refine ar_istore (pc := 7) (i := 4) (ls2 := [some (.inr (.inr 294)), some (.inl v1), some (.inl v2), some (.inl r1), some (.inl 0), none]) (by decide +kernel) (by decide) rfl ?_
  refine ar_iconst (pc := 9) (z := 0) (by decide +kernel) (by unfold am_i32; omega) ?_
  refine ar_istore (pc := 10) (i := 5) (ls2 := [some (.inr (.inr 294)), some (.inl v1), some (.inl v2), some (.inl r1), some (.inl 0), some (.inl 0)]) (by decide +kernel) (by decide) rfl ?_
  refine ar_forget [true, true, false, true, true, true] rfl ?_
  exact H h0
theorem B_X7_namesOf_12 {d : Nat} {Q : Int → am_H → Prop} {h : am_H} {v1 v3 v4 v5 : Int} (H : (0 ≤ v3) ∧ ((v3 < 3300) ∧ (cf d M_X7_sumsOf [.inl (h 297 v3)] h (fun r3 h4 => (r3 ≤ v5 → Q v4 h4) ∧ (v5 < r3 → cf d M_X7_namesIn [.inr (.inr 294), .inl v1, .inl (am_w32 ((am_w32 (v3 + 3)) + (am_w32 (2 * v5))))] h4 (fun r6 h7 => wf (d + 1) M_X7_namesOf Q 12 [some (.inr (.inr 294)), some (.inl v1), none, some (.inl v3), some (.inl (am_ior v4 r6)), some (.inl (am_w32 (v5 + 1)))] [] h7)))))) : wf (d + 1) M_X7_namesOf Q 12 [some (.inr (.inr 294)), some (.inl v1), none, some (.inl v3), some (.inl v4), some (.inl v5)] [] h := by
  intro h0
  refine ar_iload (pc := 12) (i := 5) (by decide +kernel) rfl ?_
  refine ar_aload_n (pc := 14) (i := 0) (k0 := 0) (by decide +kernel) rfl rfl ?_
  refine ar_getFV (pc := 15) (a := 294) (b := 297) 7 2 (by decide +kernel) k_294 rfl (by decide) wf_RX7_16 rfl (fun _ => rfl) rfl ?_
  refine ar_iload_n (pc := 18) (i := 3) (k0 := 3) (by decide +kernel) rfl rfl ?_
  obtain ⟨g1, H⟩ := H
  obtain ⟨g2, H⟩ := H
  refine ar_iald (pc := 19) (a := 297) (i := v3) (by decide +kernel) k_297 g1 (am_lt_eq g2 (l_297).symm) ?_
  refine ar_callS (pc := 20) (M2 := M_X7_sumsOf) (as := [.inl (h 297 v3)]) (n2 := 321) (st := [.inl v5]) (by decide +kernel) rfl wm_RX7_345 ws_yX7_sumsOf wz_RX7 wc_yX7_sumsOf ⟨by decide, by decide, rfl⟩ (by decide) (Nat.le_of_ble_eq_true rfl) (Nat.le_refl _) (Nat.le_refl _) (am_Cl_mono H (fun r3 h4 H => ?_))
  show am_Wp true (d + 1) M_X7_namesOf 321 321 h0 Q 23 [some (.inr (.inr 294)), some (.inl v1), none, some (.inl v3), some (.inl v4), some (.inl v5)] [.inl r3, .inl v5] 321 h4
  refine ar_icmp_ge (pc := 23) (x := v5) (y := r3) (tgt := 50) (off := 27) (by decide +kernel) (by decide) (fun c5 => ?_) (fun c5 => ?_)
  · replace H := H.1 c5
    refine ar_iload (pc := 50) (i := 4) (by decide +kernel) rfl ?_
    exact ar_iret (pc := 52) (x := v4) (by decide +kernel) rfl rfl H
  · replace H := H.2 c5
    refine ar_iload (pc := 26) (i := 4) (by decide +kernel) rfl ?_
    refine ar_aload_n (pc := 28) (i := 0) (k0 := 0) (by decide +kernel) rfl rfl ?_
    refine ar_iload_n (pc := 29) (i := 1) (k0 := 1) (by decide +kernel) rfl rfl ?_
    refine ar_iload_n (pc := 30) (i := 3) (k0 := 3) (by decide +kernel) rfl rfl ?_
    refine ar_iconst (pc := 31) (z := 3) (by decide +kernel) (by unfold am_i32; omega) ?_
    refine ar_iadd (pc := 32) (x := v3) (y := 3) (by decide +kernel) ?_
    refine ar_iconst (pc := 33) (z := 2) (by decide +kernel) (by unfold am_i32; omega) ?_
    refine ar_iload (pc := 34) (i := 5) (by decide +kernel) rfl ?_
    refine ar_imul (pc := 36) (x := 2) (y := v5) (by decide +kernel) ?_
    refine ar_iadd (pc := 37) (x := (am_w32 (v3 + 3))) (y := (am_w32 (2 * v5))) (by decide +kernel) ?_
    refine ar_callV (pc := 38) (M2 := M_X7_namesIn) (a := 294) (ci := 7) (as := [.inl v1, .inl (am_w32 ((am_w32 (v3 + 3)) + (am_w32 (2 * v5))))]) (n2 := 321) (st := [.inl v4]) (by decide +kernel) rfl wm_RX7_348 wi_yX7_namesIn wl_yX7_namesIn k_294 rfl wz_RX7 wc_yX7_namesIn ⟨by decide, by decide, rfl⟩ (by decide) (Nat.le_of_ble_eq_true rfl) (Nat.le_refl _) (Nat.le_refl _) (am_Cl_mono H (fun r6 h7 H => ?_))
    show am_Wp true (d + 1) M_X7_namesOf 321 321 h0 Q 41 [some (.inr (.inr 294)), some (.inl v1), none, some (.inl v3), some (.inl v4), some (.inl v5)] [.inl r6, .inl v4] 321 h7
    refine ar_ior (pc := 41) (x := v4) (y := r6) (by decide +kernel) ?_
    refine ar_istore (pc := 42) (i := 4) (ls2 := [some (.inr (.inr 294)), some (.inl v1), none, some (.inl v3), some (.inl (am_ior v4 r6)), some (.inl v5)]) (by decide +kernel) (by decide) rfl ?_
    refine ar_iinc (pc := 44) (i := 5) (z := 1) (x := v5) (ls2 := [some (.inr (.inr 294)), some (.inl v1), none, some (.inl v3), some (.inl (am_ior v4 r6)), some (.inl (am_w32 (v5 + 1)))]) (by decide +kernel) rfl (by decide) rfl ?_
    refine ar_goto (pc := 47) (tgt := 12) (off := -35) (by decide +kernel) (by decide) ?_
    exact H h0

/-! ByteIntervalsModel.layOrder(I)V -/
theorem B_X7_layOrder_0 {d : Nat} {Q : Int → am_H → Prop} {h : am_H} {v1 : Int} (H : wf (d + 1) M_X7_layOrder Q 7 [some (.inr (.inr 294)), some (.inl v1), some (.inl 0), none] [] (am_up h 294 32 0)) : wf (d + 1) M_X7_layOrder Q 0 [some (.inr (.inr 294)), some (.inl v1), none, none] [] h := by
  intro h0
  refine ar_aload_n (pc := 0) (i := 0) (k0 := 0) (by decide +kernel) rfl rfl ?_
  refine ar_iconst (pc := 1) (z := 0) (by decide +kernel) (by unfold am_i32; omega) ?_
  refine ar_putI (pc := 2) (a := 294) (z := 0) 7 32 (by decide +kernel) k_294 rfl (by decide) rfl (fun _ => rfl) rfl wf_RX7_351 ?_
  refine ar_iconst (pc := 5) (z := 0) (by decide +kernel) (by unfold am_i32; omega) ?_
  refine ar_istore_n (pc := 6) (i := 2) (k0 := 2) (ls2 := [some (.inr (.inr 294)), some (.inl v1), some (.inl 0), none]) (by decide +kernel) rfl (by decide) rfl ?_
  exact H h0
theorem B_X7_layOrder_7 {d : Nat} {Q : Int → am_H → Prop} {h : am_H} {v1 v2 : Int} (H : (8 ≤ v2 → wf (d + 1) M_X7_layOrder Q 28 [some (.inr (.inr 294)), some (.inl v1), some (.inl 0), none] [] h) ∧ (v2 < 8 → (0 ≤ v2) ∧ (wf (d + 1) M_X7_layOrder Q 7 [some (.inr (.inr 294)), some (.inl v1), some (.inl (am_w32 (v2 + 1))), none] [] (am_up h 305 v2 (-1))))) : wf (d + 1) M_X7_layOrder Q 7 [some (.inr (.inr 294)), some (.inl v1), some (.inl v2), none] [] h := by
  intro h0
  refine ar_iload_n (pc := 7) (i := 2) (k0 := 2) (by decide +kernel) rfl rfl ?_
  refine ar_bipush (pc := 8) (z := 8) (by decide +kernel) (by omega) ?_
  refine ar_icmp_ge (pc := 10) (x := v2) (y := 8) (tgt := 26) (off := 16) (by decide +kernel) (by decide) (fun c1 => ?_) (fun c1 => ?_)
  · replace H := H.1 c1
    refine ar_iconst (pc := 26) (z := 0) (by decide +kernel) (by unfold am_i32; omega) ?_
    refine ar_istore_n (pc := 27) (i := 2) (k0 := 2) (ls2 := [some (.inr (.inr 294)), some (.inl v1), some (.inl 0), none]) (by decide +kernel) rfl (by decide) rfl ?_
    exact H h0
  · replace H := H.2 c1
    refine ar_aload_n (pc := 13) (i := 0) (k0 := 0) (by decide +kernel) rfl rfl ?_
    refine ar_getFV (pc := 14) (a := 294) (b := 305) 7 28 (by decide +kernel) k_294 rfl (by decide) wf_RX7_49 rfl (fun _ => rfl) rfl ?_
    refine ar_iload_n (pc := 17) (i := 2) (k0 := 2) (by decide +kernel) rfl rfl ?_
    refine ar_iconst (pc := 18) (z := (-1)) (by decide +kernel) (by unfold am_i32; omega) ?_
    obtain ⟨g2, H⟩ := H
    refine ar_iast (pc := 19) (a := 305) (i := v2) (z := (-1)) (by decide +kernel) k_305 g2 (am_lt_eq c1 (l_305).symm) ?_
    refine ar_iinc (pc := 20) (i := 2) (z := 1) (x := v2) (ls2 := [some (.inr (.inr 294)), some (.inl v1), some (.inl (am_w32 (v2 + 1))), none]) (by decide +kernel) rfl (by decide) rfl ?_
    refine ar_goto (pc := 23) (tgt := 7) (off := -16) (by decide +kernel) (by decide) ?_
    exact H h0
theorem B_X7_layOrder_28 {d : Nat} {Q : Int → am_H → Prop} {h : am_H} {v1 v2 : Int} (H : cf d M_X7_clauses [.inr (.inr 294), .inl v1] h (fun r1 h2 => (r1 ≤ v2 → wf (d + 1) M_X7_layOrder Q 97 [some (.inr (.inr 294)), some (.inl v1), some (.inl 0), none] [] h2) ∧ (v2 < r1 → cf d M_X7_clauseAt [.inl v1, .inl v2] h2 (fun r4 h5 => (0 ≤ r4) ∧ ((r4 < 3300) ∧ (((h5 297 r4) ≤ 2 → (0 ≤ (am_w32 (r4 + 1))) ∧ (((am_w32 (r4 + 1)) < 3300) ∧ ((0 ≤ (h5 297 (am_w32 (r4 + 1)))) ∧ (((h5 297 (am_w32 (r4 + 1))) < 8) ∧ (wf (d + 1) M_X7_layOrder Q 89 [some (.inr (.inr 294)), some (.inl v1), some (.inl v2), none] [] (am_up (am_up h5 305 (h5 297 (am_w32 (r4 + 1))) v2) 294 32 (am_ior (h5 294 32) (am_ishl 1 (h5 297 (am_w32 (r4 + 1))))))))))) ∧ (2 < (h5 297 r4) → wf (d + 1) M_X7_layOrder Q 89 [some (.inr (.inr 294)), some (.inl v1), some (.inl v2), none] [] h5))))))) : wf (d + 1) M_X7_layOrder Q 28 [some (.inr (.inr 294)), some (.inl v1), some (.inl v2), none] [] h := by
  intro h0
  refine ar_iload_n (pc := 28) (i := 2) (k0 := 2) (by decide +kernel) rfl rfl ?_
  refine ar_aload_n (pc := 29) (i := 0) (k0 := 0) (by decide +kernel) rfl rfl ?_
  refine ar_iload_n (pc := 30) (i := 1) (k0 := 1) (by decide +kernel) rfl rfl ?_
  refine ar_callV (pc := 31) (M2 := M_X7_clauses) (a := 294) (ci := 7) (as := [.inl v1]) (n2 := 321) (st := [.inl v2]) (by decide +kernel) rfl wm_RX7_335 wi_yX7_clauses wl_yX7_clauses k_294 rfl wz_RX7 wc_yX7_clauses ⟨by decide, by decide, rfl⟩ (by decide) (Nat.le_of_ble_eq_true rfl) (Nat.le_refl _) (Nat.le_refl _) (am_Cl_mono H (fun r1 h2 H => ?_))
  show am_Wp true (d + 1) M_X7_layOrder 321 321 h0 Q 34 [some (.inr (.inr 294)), some (.inl v1), some (.inl v2), none] [.inl r1, .inl v2] 321 h2
  refine ar_icmp_ge (pc := 34) (x := v2) (y := r1) (tgt := 95) (off := 61) (by decide +kernel) (by decide) (fun c3 => ?_) (fun c3 => ?_)
  · replace H := H.1 c3
    refine ar_iconst (pc := 95) (z := 0) (by decide +kernel) (by unfold am_i32; omega) ?_
    refine ar_istore_n (pc := 96) (i := 2) (k0 := 2) (ls2 := [some (.inr (.inr 294)), some (.inl v1), some (.inl 0), none]) (by decide +kernel) rfl (by decide) rfl ?_
    exact H h0
  · replace H := H.2 c3
    refine ar_iload_n (pc := 37) (i := 1) (k0 := 1) (by decide +kernel) rfl rfl ?_
    refine ar_iload_n (pc := 38) (i := 2) (k0 := 2) (by decide +kernel) rfl rfl ?_
    refine ar_callS (pc := 39) (M2 := M_X7_clauseAt) (as := [.inl v1, .inl v2]) (n2 := 321) (st := []) (by decide +kernel) rfl wm_RX7_328 ws_yX7_clauseAt wz_RX7 wc_yX7_clauseAt ⟨by decide, by decide, rfl⟩ (by decide) (Nat.le_of_ble_eq_true rfl) (Nat.le_refl _) (Nat.le_refl _) (am_Cl_mono H (fun r4 h5 H => ?_))
    show am_Wp true (d + 1) M_X7_layOrder 321 321 h0 Q 42 [some (.inr (.inr 294)), some (.inl v1), some (.inl v2), none] [.inl r4] 321 h5
    refine ar_istore_n (pc := 42) (i := 3) (k0 := 3) (ls2 := [some (.inr (.inr 294)), some (.inl v1), some (.inl v2), some (.inl r4)]) (by decide +kernel) rfl (by decide) rfl ?_
    refine ar_aload_n (pc := 43) (i := 0) (k0 := 0) (by decide +kernel) rfl rfl ?_
    refine ar_getFV (pc := 44) (a := 294) (b := 297) 7 2 (by decide +kernel) k_294 rfl (by decide) wf_RX7_16 rfl (fun _ => rfl) rfl ?_
    refine ar_iload_n (pc := 47) (i := 3) (k0 := 3) (by decide +kernel) rfl rfl ?_
    obtain ⟨g6, H⟩ := H
    obtain ⟨g7, H⟩ := H
    refine ar_iald (pc := 48) (a := 297) (i := r4) (by decide +kernel) k_297 g6 (am_lt_eq g7 (l_297).symm) ?_
    refine ar_iconst (pc := 49) (z := 2) (by decide +kernel) (by unfold am_i32; omega) ?_
    refine ar_icmp_le (pc := 50) (x := (h5 297 r4)) (y := 2) (tgt := 56) (off := 6) (by decide +kernel) (by decide) (fun c8 => ?_) (fun c8 => ?_)
    · replace H := H.1 c8
      refine ar_aload_n (pc := 56) (i := 0) (k0 := 0) (by decide +kernel) rfl rfl ?_
      refine ar_getFV (pc := 57) (a := 294) (b := 305) 7 28 (by decide +kernel) k_294 rfl (by decide) wf_RX7_49 rfl (fun _ => rfl) rfl ?_
      refine ar_aload_n (pc := 60) (i := 0) (k0 := 0) (by decide +kernel) rfl rfl ?_
      refine ar_getFV (pc := 61) (a := 294) (b := 297) 7 2 (by decide +kernel) k_294 rfl (by decide) wf_RX7_16 rfl (fun _ => rfl) rfl ?_
      refine ar_iload_n (pc := 64) (i := 3) (k0 := 3) (by decide +kernel) rfl rfl ?_
      refine ar_iconst (pc := 65) (z := 1) (by decide +kernel) (by unfold am_i32; omega) ?_
      refine ar_iadd (pc := 66) (x := r4) (y := 1) (by decide +kernel) ?_
      obtain ⟨g9, H⟩ := H
      obtain ⟨g10, H⟩ := H
      refine ar_iald (pc := 67) (a := 297) (i := (am_w32 (r4 + 1))) (by decide +kernel) k_297 g9 (am_lt_eq g10 (l_297).symm) ?_
      refine ar_iload_n (pc := 68) (i := 2) (k0 := 2) (by decide +kernel) rfl rfl ?_
      obtain ⟨g11, H⟩ := H
      obtain ⟨g12, H⟩ := H
      refine ar_iast (pc := 69) (a := 305) (i := (h5 297 (am_w32 (r4 + 1)))) (z := v2) (by decide +kernel) k_305 g11 (am_lt_eq g12 (l_305).symm) ?_
      refine ar_aload_n (pc := 70) (i := 0) (k0 := 0) (by decide +kernel) rfl rfl ?_
      refine ar_dup (pc := 71) (by decide +kernel) trivial ?_
      refine ar_getV (pc := 72) (a := 294) (v := .inl (h5 294 32)) 7 32 (by decide +kernel) k_294 rfl (by decide) wf_RX7_351 (by first | rfl | (simp [am_tv, am_ty, tyX7, am_up, am_cp]; done) | (simp [am_tv, am_ty, tyX7, am_up, am_cp] <;> intros <;> omega)) ?_
      refine ar_iconst (pc := 75) (z := 1) (by decide +kernel) (by unfold am_i32; omega) ?_
      refine ar_aload_n (pc := 76) (i := 0) (k0 := 0) (by decide +kernel) rfl rfl ?_
      refine ar_getFV (pc := 77) (a := 294) (b := 297) 7 2 (by decide +kernel) k_294 rfl (by decide) wf_RX7_16 rfl (fun _ => rfl) rfl ?_
      refine ar_iload_n (pc := 80) (i := 3) (k0 := 3) (by decide +kernel) rfl rfl ?_
      refine ar_iconst (pc := 81) (z := 1) (by decide +kernel) (by unfold am_i32; omega) ?_
      refine ar_iadd (pc := 82) (x := r4) (y := 1) (by decide +kernel) ?_
      refine ar_ialdV (pc := 83) (a := 297) (i := (am_w32 (r4 + 1))) (v := (h5 297 (am_w32 (r4 + 1)))) (by first | rfl | (simp [am_up, am_cp]; done) | (simp [am_up, am_cp] <;> intros <;> omega)) (by decide +kernel) k_297 g9 (am_lt_eq g10 (l_297).symm) ?_
      refine ar_ishl (pc := 84) (x := 1) (y := (h5 297 (am_w32 (r4 + 1)))) (by decide +kernel) ?_
      refine ar_ior (pc := 85) (x := (h5 294 32)) (y := (am_ishl 1 (h5 297 (am_w32 (r4 + 1))))) (by decide +kernel) ?_
      refine ar_putI (pc := 86) (a := 294) (z := (am_ior (h5 294 32) (am_ishl 1 (h5 297 (am_w32 (r4 + 1)))))) 7 32 (by decide +kernel) k_294 rfl (by decide) rfl (fun _ => rfl) rfl wf_RX7_351 ?_
      refine ar_forget [true, true, true, false] rfl ?_
      exact H h0
    · replace H := H.2 c8
      refine ar_goto (pc := 53) (tgt := 89) (off := 36) (by decide +kernel) (by decide) ?_
      refine ar_forget [true, true, true, false] rfl ?_
      exact H h0
theorem B_X7_layOrder_89 {d : Nat} {Q : Int → am_H → Prop} {h : am_H} {v1 v2 : Int} (H : wf (d + 1) M_X7_layOrder Q 28 [some (.inr (.inr 294)), some (.inl v1), some (.inl (am_w32 (v2 + 1))), none] [] h) : wf (d + 1) M_X7_layOrder Q 89 [some (.inr (.inr 294)), some (.inl v1), some (.inl v2), none] [] h := by
  intro h0
  refine ar_iinc (pc := 89) (i := 2) (z := 1) (x := v2) (ls2 := [some (.inr (.inr 294)), some (.inl v1), some (.inl (am_w32 (v2 + 1))), none]) (by decide +kernel) rfl (by decide) rfl ?_
  refine ar_goto (pc := 92) (tgt := 28) (off := -64) (by decide +kernel) (by decide) ?_
  exact H h0
theorem B_X7_layOrder_97 {d : Nat} {Q : Int → am_H → Prop} {h : am_H} {v1 v2 : Int} (H : (8 ≤ v2 → wf (d + 1) M_X7_layOrder Q 153 [some (.inr (.inr 294)), none, some (.inl 0), some (.inl 0)] [] (am_up h 294 31 0)) ∧ (v2 < 8 → (0 ≤ v2) ∧ ((0 ≤ (h 305 v2) → cf d M_X7_namesOf [.inr (.inr 294), .inl v1, .inl (h 305 v2)] h (fun r4 h5 => wf (d + 1) M_X7_layOrder Q 137 [some (.inr (.inr 294)), some (.inl v1), some (.inl v2), none] [.inl (am_iand r4 (h5 294 32)), .inl v2, .inr (.inr 306)] h5)) ∧ ((h 305 v2) < 0 → wf (d + 1) M_X7_layOrder Q 137 [some (.inr (.inr 294)), some (.inl v1), some (.inl v2), none] [.inl 0, .inl v2, .inr (.inr 306)] h)))) : wf (d + 1) M_X7_layOrder Q 97 [some (.inr (.inr 294)), some (.inl v1), some (.inl v2), none] [] h := by
  intro h0
  refine ar_iload_n (pc := 97) (i := 2) (k0 := 2) (by decide +kernel) rfl rfl ?_
  refine ar_bipush (pc := 98) (z := 8) (by decide +kernel) (by omega) ?_
  refine ar_icmp_ge (pc := 100) (x := v2) (y := 8) (tgt := 144) (off := 44) (by decide +kernel) (by decide) (fun c1 => ?_) (fun c1 => ?_)
  · replace H := H.1 c1
    refine ar_aload_n (pc := 144) (i := 0) (k0 := 0) (by decide +kernel) rfl rfl ?_
    refine ar_iconst (pc := 145) (z := 0) (by decide +kernel) (by unfold am_i32; omega) ?_
    refine ar_putI (pc := 146) (a := 294) (z := 0) 7 31 (by decide +kernel) k_294 rfl (by decide) rfl (fun _ => rfl) rfl wf_RX7_357 ?_
    refine ar_iconst (pc := 149) (z := 0) (by decide +kernel) (by unfold am_i32; omega) ?_
    refine ar_istore_n (pc := 150) (i := 2) (k0 := 2) (ls2 := [some (.inr (.inr 294)), some (.inl v1), some (.inl 0), none]) (by decide +kernel) rfl (by decide) rfl ?_
    refine ar_iconst (pc := 151) (z := 0) (by decide +kernel) (by unfold am_i32; omega) ?_
    refine ar_istore_n (pc := 152) (i := 3) (k0 := 3) (ls2 := [some (.inr (.inr 294)), some (.inl v1), some (.inl 0), some (.inl 0)]) (by decide +kernel) rfl (by decide) rfl ?_
    refine ar_forget [true, false, true, true] rfl ?_
    exact H h0
  · replace H := H.2 c1
    refine ar_aload_n (pc := 103) (i := 0) (k0 := 0) (by decide +kernel) rfl rfl ?_
    refine ar_getFV (pc := 104) (a := 294) (b := 306) 7 29 (by decide +kernel) k_294 rfl (by decide) wf_RX7_52 rfl (fun _ => rfl) rfl ?_
    refine ar_iload_n (pc := 107) (i := 2) (k0 := 2) (by decide +kernel) rfl rfl ?_
    refine ar_aload_n (pc := 108) (i := 0) (k0 := 0) (by decide +kernel) rfl rfl ?_
    refine ar_getFV (pc := 109) (a := 294) (b := 305) 7 28 (by decide +kernel) k_294 rfl (by decide) wf_RX7_49 rfl (fun _ => rfl) rfl ?_
    refine ar_iload_n (pc := 112) (i := 2) (k0 := 2) (by decide +kernel) rfl rfl ?_
    obtain ⟨g2, H⟩ := H
    refine ar_iald (pc := 113) (a := 305) (i := v2) (by decide +kernel) k_305 g2 (am_lt_eq c1 (l_305).symm) ?_
    refine ar_if_ge (pc := 114) (x := (h 305 v2)) (tgt := 121) (off := 7) (by decide +kernel) (by decide) (fun c3 => ?_) (fun c3 => ?_)
    · replace H := H.1 c3
      refine ar_aload_n (pc := 121) (i := 0) (k0 := 0) (by decide +kernel) rfl rfl ?_
      refine ar_iload_n (pc := 122) (i := 1) (k0 := 1) (by decide +kernel) rfl rfl ?_
      refine ar_aload_n (pc := 123) (i := 0) (k0 := 0) (by decide +kernel) rfl rfl ?_
      refine ar_getFV (pc := 124) (a := 294) (b := 305) 7 28 (by decide +kernel) k_294 rfl (by decide) wf_RX7_49 rfl (fun _ => rfl) rfl ?_
      refine ar_iload_n (pc := 127) (i := 2) (k0 := 2) (by decide +kernel) rfl rfl ?_
      refine ar_iald (pc := 128) (a := 305) (i := v2) (by decide +kernel) k_305 g2 (am_lt_eq c1 (l_305).symm) ?_
      refine ar_callV (pc := 129) (M2 := M_X7_namesOf) (a := 294) (ci := 7) (as := [.inl v1, .inl (h 305 v2)]) (n2 := 321) (st := [.inl v2, .inr (.inr 306)]) (by decide +kernel) rfl wm_RX7_354 wi_yX7_namesOf wl_yX7_namesOf k_294 rfl wz_RX7 wc_yX7_namesOf ⟨by decide, by decide, rfl⟩ (by decide) (Nat.le_of_ble_eq_true rfl) (Nat.le_refl _) (Nat.le_refl _) (am_Cl_mono H (fun r4 h5 H => ?_))
      show am_Wp true (d + 1) M_X7_layOrder 321 321 h0 Q 132 [some (.inr (.inr 294)), some (.inl v1), some (.inl v2), none] [.inl r4, .inl v2, .inr (.inr 306)] 321 h5
      refine ar_aload_n (pc := 132) (i := 0) (k0 := 0) (by decide +kernel) rfl rfl ?_
      refine ar_getV (pc := 133) (a := 294) (v := .inl (h5 294 32)) 7 32 (by decide +kernel) k_294 rfl (by decide) wf_RX7_351 rfl ?_
      refine ar_iand (pc := 136) (x := r4) (y := (h5 294 32)) (by decide +kernel) ?_
      exact H h0
    · replace H := H.2 c3
      refine ar_iconst (pc := 117) (z := 0) (by decide +kernel) (by unfold am_i32; omega) ?_
      refine ar_goto (pc := 118) (tgt := 137) (off := 19) (by decide +kernel) (by decide) ?_
      exact H h0
theorem B_X7_layOrder_137 {d : Nat} {Q : Int → am_H → Prop} {h : am_H} {v1 v2 s1 s2 : Int} (H : (0 ≤ s1) ∧ ((s1 < 8) ∧ (wf (d + 1) M_X7_layOrder Q 97 [some (.inr (.inr 294)), some (.inl v1), some (.inl (am_w32 (v2 + 1))), none] [] (am_up h 306 s1 s2)))) : wf (d + 1) M_X7_layOrder Q 137 [some (.inr (.inr 294)), some (.inl v1), some (.inl v2), none] [.inl s2, .inl s1, .inr (.inr 306)] h := by
  intro h0
  obtain ⟨g1, H⟩ := H
  obtain ⟨g2, H⟩ := H
  refine ar_iast (pc := 137) (a := 306) (i := s1) (z := s2) (by decide +kernel) k_306 g1 (am_lt_eq g2 (l_306).symm) ?_
  refine ar_iinc (pc := 138) (i := 2) (z := 1) (x := v2) (ls2 := [some (.inr (.inr 294)), some (.inl v1), some (.inl (am_w32 (v2 + 1))), none]) (by decide +kernel) rfl (by decide) rfl ?_
  refine ar_goto (pc := 141) (tgt := 97) (off := -44) (by decide +kernel) (by decide) ?_
  exact H h0
theorem B_X7_layOrder_153 {d : Nat} {Q : Int → am_H → Prop} {h : am_H} {v2 v3 : Int} (H : (8 ≤ v3 → Q 0 (am_up h 294 33 (am_iand (h 294 32) (am_ixor v2 (-1))))) ∧ (v3 < 8 → cf d M_X7_has [.inl (am_iand (h 294 32) (am_ixor v2 (-1))), .inl v3] h (fun r2 h3 => (r2 = 0 → wf (d + 1) M_X7_layOrder Q 218 [some (.inr (.inr 294)), none, some (.inl v2), some (.inl v3)] [] h3) ∧ (¬ r2 = 0 → (0 ≤ v3) ∧ ((¬ (am_iand (h3 306 v3) (am_ixor v2 (-1))) = 0 → wf (d + 1) M_X7_layOrder Q 218 [some (.inr (.inr 294)), none, some (.inl v2), some (.inl v3)] [] h3) ∧ ((am_iand (h3 306 v3) (am_ixor v2 (-1))) = 0 → (0 ≤ (h3 294 31)) ∧ (((h3 294 31) < 8) ∧ (wf (d + 1) M_X7_layOrder Q 153 [some (.inr (.inr 294)), none, some (.inl (am_ior v2 (am_ishl 1 v3))), some (.inl 0)] [] (am_up (am_up h3 307 (h3 294 31) v3) 294 31 (am_w32 ((h3 294 31) + 1))))))))))) : wf (d + 1) M_X7_layOrder Q 153 [some (.inr (.inr 294)), none, some (.inl v2), some (.inl v3)] [] h := by
  intro h0
  refine ar_iload_n (pc := 153) (i := 3) (k0 := 3) (by decide +kernel) rfl rfl ?_
  refine ar_bipush (pc := 154) (z := 8) (by decide +kernel) (by omega) ?_
  refine ar_icmp_ge (pc := 156) (x := v3) (y := 8) (tgt := 224) (off := 68) (by decide +kernel) (by decide) (fun c1 => ?_) (fun c1 => ?_)
  · replace H := H.1 c1
    refine ar_aload_n (pc := 224) (i := 0) (k0 := 0) (by decide +kernel) rfl rfl ?_
    refine ar_aload_n (pc := 225) (i := 0) (k0 := 0) (by decide +kernel) rfl rfl ?_
    refine ar_getV (pc := 226) (a := 294) (v := .inl (h 294 32)) 7 32 (by decide +kernel) k_294 rfl (by decide) wf_RX7_351 rfl ?_
    refine ar_iload_n (pc := 229) (i := 2) (k0 := 2) (by decide +kernel) rfl rfl ?_
    refine ar_iconst (pc := 230) (z := (-1)) (by decide +kernel) (by unfold am_i32; omega) ?_
    refine ar_ixor (pc := 231) (x := v2) (y := (-1)) (by decide +kernel) ?_
    refine ar_iand (pc := 232) (x := (h 294 32)) (y := (am_ixor v2 (-1))) (by decide +kernel) ?_
    refine ar_putI (pc := 233) (a := 294) (z := (am_iand (h 294 32) (am_ixor v2 (-1)))) 7 33 (by decide +kernel) k_294 rfl (by decide) rfl (fun _ => rfl) rfl wf_RX7_360 ?_
    exact ar_vret (pc := 236) (by decide +kernel) rfl rfl H
  · replace H := H.2 c1
    refine ar_aload_n (pc := 159) (i := 0) (k0 := 0) (by decide +kernel) rfl rfl ?_
    refine ar_getV (pc := 160) (a := 294) (v := .inl (h 294 32)) 7 32 (by decide +kernel) k_294 rfl (by decide) wf_RX7_351 rfl ?_
    refine ar_iload_n (pc := 163) (i := 2) (k0 := 2) (by decide +kernel) rfl rfl ?_
    refine ar_iconst (pc := 164) (z := (-1)) (by decide +kernel) (by unfold am_i32; omega) ?_
    refine ar_ixor (pc := 165) (x := v2) (y := (-1)) (by decide +kernel) ?_
    refine ar_iand (pc := 166) (x := (h 294 32)) (y := (am_ixor v2 (-1))) (by decide +kernel) ?_
    refine ar_iload_n (pc := 167) (i := 3) (k0 := 3) (by decide +kernel) rfl rfl ?_
    refine ar_callS (pc := 168) (M2 := M_X7_has) (as := [.inl (am_iand (h 294 32) (am_ixor v2 (-1))), .inl v3]) (n2 := 321) (st := []) (by decide +kernel) rfl wm_RX7_260 ws_yX7_has wz_RX7 wc_yX7_has ⟨by decide, by decide, rfl⟩ (by decide) (Nat.le_of_ble_eq_true rfl) (Nat.le_refl _) (Nat.le_refl _) (am_Cl_mono H (fun r2 h3 H => ?_))
    show am_Wp true (d + 1) M_X7_layOrder 321 321 h0 Q 171 [some (.inr (.inr 294)), none, some (.inl v2), some (.inl v3)] [.inl r2] 321 h3
    refine ar_if_eq (pc := 171) (x := r2) (tgt := 218) (off := 47) (by decide +kernel) (by decide) (fun c4 => ?_) (fun c4 => ?_)
    · replace H := H.1 c4
      exact H h0
    · replace H := H.2 c4
      refine ar_aload_n (pc := 174) (i := 0) (k0 := 0) (by decide +kernel) rfl rfl ?_
      refine ar_getFV (pc := 175) (a := 294) (b := 306) 7 29 (by decide +kernel) k_294 rfl (by decide) wf_RX7_52 rfl (fun _ => rfl) rfl ?_
      refine ar_iload_n (pc := 178) (i := 3) (k0 := 3) (by decide +kernel) rfl rfl ?_
      obtain ⟨g5, H⟩ := H
      refine ar_iald (pc := 179) (a := 306) (i := v3) (by decide +kernel) k_306 g5 (am_lt_eq c1 (l_306).symm) ?_
      refine ar_iload_n (pc := 180) (i := 2) (k0 := 2) (by decide +kernel) rfl rfl ?_
      refine ar_iconst (pc := 181) (z := (-1)) (by decide +kernel) (by unfold am_i32; omega) ?_
      refine ar_ixor (pc := 182) (x := v2) (y := (-1)) (by decide +kernel) ?_
      refine ar_iand (pc := 183) (x := (h3 306 v3)) (y := (am_ixor v2 (-1))) (by decide +kernel) ?_
      refine ar_if_ne (pc := 184) (x := (am_iand (h3 306 v3) (am_ixor v2 (-1)))) (tgt := 218) (off := 34) (by decide +kernel) (by decide) (fun c6 => ?_) (fun c6 => ?_)
      · replace H := H.1 c6
        exact H h0
      · replace H := H.2 c6
        refine ar_aload_n (pc := 187) (i := 0) (k0 := 0) (by decide +kernel) rfl rfl ?_
        refine ar_getFV (pc := 188) (a := 294) (b := 307) 7 30 (by decide +kernel) k_294 rfl (by decide) wf_RX7_55 rfl (fun _ => rfl) rfl ?_
        refine ar_aload_n (pc := 191) (i := 0) (k0 := 0) (by decide +kernel) rfl rfl ?_
        refine ar_getV (pc := 192) (a := 294) (v := .inl (h3 294 31)) 7 31 (by decide +kernel) k_294 rfl (by decide) wf_RX7_357 rfl ?_
        refine ar_iload_n (pc := 195) (i := 3) (k0 := 3) (by decide +kernel) rfl rfl ?_
        obtain ⟨g7, H⟩ := H
        obtain ⟨g8, H⟩ := H
        refine ar_iast (pc := 196) (a := 307) (i := (h3 294 31)) (z := v3) (by decide +kernel) k_307 g7 (am_lt_eq g8 (l_307).symm) ?_
        refine ar_aload_n (pc := 197) (i := 0) (k0 := 0) (by decide +kernel) rfl rfl ?_
        refine ar_dup (pc := 198) (by decide +kernel) trivial ?_
        refine ar_getV (pc := 199) (a := 294) (v := .inl (h3 294 31)) 7 31 (by decide +kernel) k_294 rfl (by decide) wf_RX7_357 (by first | rfl | (simp [am_tv, am_ty, tyX7, am_up, am_cp]; done) | (simp [am_tv, am_ty, tyX7, am_up, am_cp] <;> intros <;> omega)) ?_
        refine ar_iconst (pc := 202) (z := 1) (by decide +kernel) (by unfold am_i32; omega) ?_
        refine ar_iadd (pc := 203) (x := (h3 294 31)) (y := 1) (by decide +kernel) ?_
        refine ar_putI (pc := 204) (a := 294) (z := (am_w32 ((h3 294 31) + 1))) 7 31 (by decide +kernel) k_294 rfl (by decide) rfl (fun _ => rfl) rfl wf_RX7_357 ?_
        refine ar_iload_n (pc := 207) (i := 2) (k0 := 2) (by decide +kernel) rfl rfl ?_
        refine ar_iconst (pc := 208) (z := 1) (by decide +kernel) (by unfold am_i32; omega) ?_
        refine ar_iload_n (pc := 209) (i := 3) (k0 := 3) (by decide +kernel) rfl rfl ?_
        refine ar_ishl (pc := 210) (x := 1) (y := v3) (by decide +kernel) ?_
        refine ar_ior (pc := 211) (x := v2) (y := (am_ishl 1 v3)) (by decide +kernel) ?_
        refine ar_istore_n (pc := 212) (i := 2) (k0 := 2) (ls2 := [some (.inr (.inr 294)), none, some (.inl (am_ior v2 (am_ishl 1 v3))), some (.inl v3)]) (by decide +kernel) rfl (by decide) rfl ?_
        refine ar_iconst (pc := 213) (z := 0) (by decide +kernel) (by unfold am_i32; omega) ?_
        refine ar_istore_n (pc := 214) (i := 3) (k0 := 3) (ls2 := [some (.inr (.inr 294)), none, some (.inl (am_ior v2 (am_ishl 1 v3))), some (.inl 0)]) (by decide +kernel) rfl (by decide) rfl ?_
        refine ar_goto (pc := 215) (tgt := 153) (off := -62) (by decide +kernel) (by decide) ?_
        exact H h0
theorem B_X7_layOrder_218 {d : Nat} {Q : Int → am_H → Prop} {h : am_H} {v2 v3 : Int} (H : wf (d + 1) M_X7_layOrder Q 153 [some (.inr (.inr 294)), none, some (.inl v2), some (.inl (am_w32 (v3 + 1)))] [] h) : wf (d + 1) M_X7_layOrder Q 218 [some (.inr (.inr 294)), none, some (.inl v2), some (.inl v3)] [] h := by
  intro h0
  refine ar_iinc (pc := 218) (i := 3) (z := 1) (x := v3) (ls2 := [some (.inr (.inr 294)), none, some (.inl v2), some (.inl (am_w32 (v3 + 1)))]) (by decide +kernel) rfl (by decide) rfl ?_
  refine ar_goto (pc := 221) (tgt := 153) (off := -68) (by decide +kernel) (by decide) ?_
  exact H h0

/-! ByteIntervalsModel.beginLevel(III)V -/
theorem B_X7_beginLevel_0 {d : Nat} {Q : Int → am_H → Prop} {h : am_H} {v1 v2 v3 : Int} (H : (v1 ≤ (h 294 44) → wf (d + 1) M_X7_beginLevel Q 22 [some (.inr (.inr 294)), some (.inl v1), some (.inl v2), some (.inl v3), none] [.inl (h 294 44), .inr (.inr 294)] (am_up h 294 43 v1)) ∧ ((h 294 44) < v1 → wf (d + 1) M_X7_beginLevel Q 22 [some (.inr (.inr 294)), some (.inl v1), some (.inl v2), some (.inl v3), none] [.inl v1, .inr (.inr 294)] (am_up h 294 43 v1))) : wf (d + 1) M_X7_beginLevel Q 0 [some (.inr (.inr 294)), some (.inl v1), some (.inl v2), some (.inl v3), none] [] h := by
  intro h0
  refine ar_aload_n (pc := 0) (i := 0) (k0 := 0) (by decide +kernel) rfl rfl ?_
  refine ar_iload_n (pc := 1) (i := 1) (k0 := 1) (by decide +kernel) rfl rfl ?_
  refine ar_putI (pc := 2) (a := 294) (z := v1) 7 43 (by decide +kernel) k_294 rfl (by decide) rfl (fun _ => rfl) rfl wf_RX7_363 ?_
  refine ar_aload_n (pc := 5) (i := 0) (k0 := 0) (by decide +kernel) rfl rfl ?_
  refine ar_iload_n (pc := 6) (i := 1) (k0 := 1) (by decide +kernel) rfl rfl ?_
  refine ar_aload_n (pc := 7) (i := 0) (k0 := 0) (by decide +kernel) rfl rfl ?_
  refine ar_getV (pc := 8) (a := 294) (v := .inl (h 294 44)) 7 44 (by decide +kernel) k_294 rfl (by decide) wf_RX7_366 (by first | rfl | (simp [am_tv, am_ty, tyX7, am_up, am_cp]; done) | (simp [am_tv, am_ty, tyX7, am_up, am_cp] <;> intros <;> omega)) ?_
  refine ar_icmp_le (pc := 11) (x := v1) (y := (h 294 44)) (tgt := 18) (off := 7) (by decide +kernel) (by decide) (fun c1 => ?_) (fun c1 => ?_)
  · replace H := H.1 c1
    refine ar_aload_n (pc := 18) (i := 0) (k0 := 0) (by decide +kernel) rfl rfl ?_
    refine ar_getV (pc := 19) (a := 294) (v := .inl (h 294 44)) 7 44 (by decide +kernel) k_294 rfl (by decide) wf_RX7_366 (by first | rfl | (simp [am_tv, am_ty, tyX7, am_up, am_cp]; done) | (simp [am_tv, am_ty, tyX7, am_up, am_cp] <;> intros <;> omega)) ?_
    exact H h0
  · replace H := H.2 c1
    refine ar_iload_n (pc := 14) (i := 1) (k0 := 1) (by decide +kernel) rfl rfl ?_
    refine ar_goto (pc := 15) (tgt := 22) (off := 7) (by decide +kernel) (by decide) ?_
    exact H h0
theorem B_X7_beginLevel_22 {d : Nat} {Q : Int → am_H → Prop} {h : am_H} {v1 v2 v3 s1 : Int} (H : (0 ≤ v1) ∧ ((v1 < 3) ∧ (wf (d + 1) M_X7_beginLevel Q 56 [some (.inr (.inr 294)), some (.inl v1), none, none, some (.inl 0)] [] (am_up (am_up (am_up (am_up (am_up h 294 44 s1) 308 v1 v2) 309 v1 v3) 310 v1 0) 311 v1 0)))) : wf (d + 1) M_X7_beginLevel Q 22 [some (.inr (.inr 294)), some (.inl v1), some (.inl v2), some (.inl v3), none] [.inl s1, .inr (.inr 294)] h := by
  intro h0
  refine ar_putI (pc := 22) (a := 294) (z := s1) 7 44 (by decide +kernel) k_294 rfl (by decide) rfl (fun _ => rfl) rfl wf_RX7_366 ?_
  refine ar_aload_n (pc := 25) (i := 0) (k0 := 0) (by decide +kernel) rfl rfl ?_
  refine ar_getFV (pc := 26) (a := 294) (b := 308) 7 34 (by decide +kernel) k_294 rfl (by decide) wf_RX7_58 rfl (fun _ => rfl) rfl ?_
  refine ar_iload_n (pc := 29) (i := 1) (k0 := 1) (by decide +kernel) rfl rfl ?_
  refine ar_iload_n (pc := 30) (i := 2) (k0 := 2) (by decide +kernel) rfl rfl ?_
  obtain ⟨g1, H⟩ := H
  obtain ⟨g2, H⟩ := H
  refine ar_iast (pc := 31) (a := 308) (i := v1) (z := v2) (by decide +kernel) k_308 g1 (am_lt_eq g2 (l_308).symm) ?_
  refine ar_aload_n (pc := 32) (i := 0) (k0 := 0) (by decide +kernel) rfl rfl ?_
  refine ar_getFV (pc := 33) (a := 294) (b := 309) 7 35 (by decide +kernel) k_294 rfl (by decide) wf_RX7_61 rfl (fun _ => rfl) rfl ?_
  refine ar_iload_n (pc := 36) (i := 1) (k0 := 1) (by decide +kernel) rfl rfl ?_
  refine ar_iload_n (pc := 37) (i := 3) (k0 := 3) (by decide +kernel) rfl rfl ?_
  refine ar_iast (pc := 38) (a := 309) (i := v1) (z := v3) (by decide +kernel) k_309 g1 (am_lt_eq g2 (l_309).symm) ?_
  refine ar_aload_n (pc := 39) (i := 0) (k0 := 0) (by decide +kernel) rfl rfl ?_
  refine ar_getFV (pc := 40) (a := 294) (b := 310) 7 36 (by decide +kernel) k_294 rfl (by decide) wf_RX7_64 rfl (fun _ => rfl) rfl ?_
  refine ar_iload_n (pc := 43) (i := 1) (k0 := 1) (by decide +kernel) rfl rfl ?_
  refine ar_iconst (pc := 44) (z := 0) (by decide +kernel) (by unfold am_i32; omega) ?_
  refine ar_iast (pc := 45) (a := 310) (i := v1) (z := 0) (by decide +kernel) k_310 g1 (am_lt_eq g2 (l_310).symm) ?_
  refine ar_aload_n (pc := 46) (i := 0) (k0 := 0) (by decide +kernel) rfl rfl ?_
  refine ar_getFV (pc := 47) (a := 294) (b := 311) 7 37 (by decide +kernel) k_294 rfl (by decide) wf_RX7_67 rfl (fun _ => rfl) rfl ?_
  refine ar_iload_n (pc := 50) (i := 1) (k0 := 1) (by decide +kernel) rfl rfl ?_
  refine ar_lconst (pc := 51) (i := 0) (z := 0) (by decide +kernel) rfl ?_
  refine ar_last (pc := 52) (a := 311) (i := v1) (z := 0) (by decide +kernel) k_311 g1 (am_lt_eq g2 (l_311).symm) ?_
  refine ar_iconst (pc := 53) (z := 0) (by decide +kernel) (by unfold am_i32; omega) ?_
  refine ar_istore (pc := 54) (i := 4) (ls2 := [some (.inr (.inr 294)), some (.inl v1), some (.inl v2), some (.inl v3), some (.inl 0)]) (by decide +kernel) (by decide) rfl ?_
  refine ar_forget [true, true, false, false, true] rfl ?_
  exact H h0
theorem B_X7_beginLevel_56 {d : Nat} {Q : Int → am_H → Prop} {h : am_H} {v1 v4 : Int} (H : (8 ≤ v4 → Q 0 h) ∧ (v4 < 8 → cf d M_X7_has [.inl (h 294 32), .inl v4] h (fun r2 h3 => (r2 = 0 → wf (d + 1) M_X7_beginLevel Q 91 [some (.inr (.inr 294)), some (.inl v1), none, none, some (.inl v4)] [.inl 3, .inl (am_w32 ((am_w32 (8 * v1)) + v4)), .inr (.inr 315)] h3) ∧ (¬ r2 = 0 → wf (d + 1) M_X7_beginLevel Q 91 [some (.inr (.inr 294)), some (.inl v1), none, none, some (.inl v4)] [.inl 1, .inl (am_w32 ((am_w32 (8 * v1)) + v4)), .inr (.inr 315)] h3)))) : wf (d + 1) M_X7_beginLevel Q 56 [some (.inr (.inr 294)), some (.inl v1), none, none, some (.inl v4)] [] h := by
  intro h0
  refine ar_iload (pc := 56) (i := 4) (by decide +kernel) rfl ?_
  refine ar_bipush (pc := 58) (z := 8) (by decide +kernel) (by omega) ?_
  refine ar_icmp_ge (pc := 60) (x := v4) (y := 8) (tgt := 166) (off := 106) (by decide +kernel) (by decide) (fun c1 => ?_) (fun c1 => ?_)
  · replace H := H.1 c1
    exact ar_vret (pc := 166) (by decide +kernel) rfl rfl H
  · replace H := H.2 c1
    refine ar_aload_n (pc := 63) (i := 0) (k0 := 0) (by decide +kernel) rfl rfl ?_
    refine ar_getFV (pc := 64) (a := 294) (b := 315) 7 41 (by decide +kernel) k_294 rfl (by decide) wf_RX7_79 rfl (fun _ => rfl) rfl ?_
    refine ar_bipush (pc := 67) (z := 8) (by decide +kernel) (by omega) ?_
    refine ar_iload_n (pc := 69) (i := 1) (k0 := 1) (by decide +kernel) rfl rfl ?_
    refine ar_imul (pc := 70) (x := 8) (y := v1) (by decide +kernel) ?_
    refine ar_iload (pc := 71) (i := 4) (by decide +kernel) rfl ?_
    refine ar_iadd (pc := 73) (x := (am_w32 (8 * v1))) (y := v4) (by decide +kernel) ?_
    refine ar_aload_n (pc := 74) (i := 0) (k0 := 0) (by decide +kernel) rfl rfl ?_
    refine ar_getV (pc := 75) (a := 294) (v := .inl (h 294 32)) 7 32 (by decide +kernel) k_294 rfl (by decide) wf_RX7_351 rfl ?_
    refine ar_iload (pc := 78) (i := 4) (by decide +kernel) rfl ?_
    refine ar_callS (pc := 80) (M2 := M_X7_has) (as := [.inl (h 294 32), .inl v4]) (n2 := 321) (st := [.inl (am_w32 ((am_w32 (8 * v1)) + v4)), .inr (.inr 315)]) (by decide +kernel) rfl wm_RX7_260 ws_yX7_has wz_RX7 wc_yX7_has ⟨by decide, by decide, rfl⟩ (by decide) (Nat.le_of_ble_eq_true rfl) (Nat.le_refl _) (Nat.le_refl _) (am_Cl_mono H (fun r2 h3 H => ?_))
    show am_Wp true (d + 1) M_X7_beginLevel 321 321 h0 Q 83 [some (.inr (.inr 294)), some (.inl v1), none, none, some (.inl v4)] [.inl r2, .inl (am_w32 ((am_w32 (8 * v1)) + v4)), .inr (.inr 315)] 321 h3
    refine ar_if_eq (pc := 83) (x := r2) (tgt := 90) (off := 7) (by decide +kernel) (by decide) (fun c4 => ?_) (fun c4 => ?_)
    · replace H := H.1 c4
      refine ar_iconst (pc := 90) (z := 3) (by decide +kernel) (by unfold am_i32; omega) ?_
      exact H h0
    · replace H := H.2 c4
      refine ar_iconst (pc := 86) (z := 1) (by decide +kernel) (by unfold am_i32; omega) ?_
      refine ar_goto (pc := 87) (tgt := 91) (off := 4) (by decide +kernel) (by decide) ?_
      exact H h0
theorem B_X7_beginLevel_91 {d : Nat} {Q : Int → am_H → Prop} {h : am_H} {v1 v4 s1 s2 : Int} (H : (0 ≤ s1) ∧ ((s1 < 24) ∧ (cf d M_X7_has [.inl (h 294 32), .inl v4] (am_up h 315 s1 s2) (fun r3 h4 => (r3 = 0 → wf (d + 1) M_X7_beginLevel Q 120 [some (.inr (.inr 294)), some (.inl v1), none, none, some (.inl v4)] [.inl 0, .inl (am_w32 ((am_w32 (8 * v1)) + v4)), .inr (.inr 312)] h4) ∧ (¬ r3 = 0 → wf (d + 1) M_X7_beginLevel Q 120 [some (.inr (.inr 294)), some (.inl v1), none, none, some (.inl v4)] [.inl (-1), .inl (am_w32 ((am_w32 (8 * v1)) + v4)), .inr (.inr 312)] h4))))) : wf (d + 1) M_X7_beginLevel Q 91 [some (.inr (.inr 294)), some (.inl v1), none, none, some (.inl v4)] [.inl s2, .inl s1, .inr (.inr 315)] h := by
  intro h0
  obtain ⟨g1, H⟩ := H
  obtain ⟨g2, H⟩ := H
  refine ar_iast (pc := 91) (a := 315) (i := s1) (z := s2) (by decide +kernel) k_315 g1 (am_lt_eq g2 (l_315).symm) ?_
  refine ar_aload_n (pc := 92) (i := 0) (k0 := 0) (by decide +kernel) rfl rfl ?_
  refine ar_getFV (pc := 93) (a := 294) (b := 312) 7 38 (by decide +kernel) k_294 rfl (by decide) wf_RX7_70 rfl (fun _ => rfl) rfl ?_
  refine ar_bipush (pc := 96) (z := 8) (by decide +kernel) (by omega) ?_
  refine ar_iload_n (pc := 98) (i := 1) (k0 := 1) (by decide +kernel) rfl rfl ?_
  refine ar_imul (pc := 99) (x := 8) (y := v1) (by decide +kernel) ?_
  refine ar_iload (pc := 100) (i := 4) (by decide +kernel) rfl ?_
  refine ar_iadd (pc := 102) (x := (am_w32 (8 * v1))) (y := v4) (by decide +kernel) ?_
  refine ar_aload_n (pc := 103) (i := 0) (k0 := 0) (by decide +kernel) rfl rfl ?_
  refine ar_getV (pc := 104) (a := 294) (v := .inl (h 294 32)) 7 32 (by decide +kernel) k_294 rfl (by decide) wf_RX7_351 (by first | rfl | (simp [am_tv, am_ty, tyX7, am_up, am_cp]; done) | (simp [am_tv, am_ty, tyX7, am_up, am_cp] <;> intros <;> omega)) ?_
  refine ar_iload (pc := 107) (i := 4) (by decide +kernel) rfl ?_
  refine ar_callS (pc := 109) (M2 := M_X7_has) (as := [.inl (h 294 32), .inl v4]) (n2 := 321) (st := [.inl (am_w32 ((am_w32 (8 * v1)) + v4)), .inr (.inr 312)]) (by decide +kernel) rfl wm_RX7_260 ws_yX7_has wz_RX7 wc_yX7_has ⟨by decide, by decide, rfl⟩ (by decide) (Nat.le_of_ble_eq_true rfl) (Nat.le_refl _) (Nat.le_refl _) (am_Cl_mono H (fun r3 h4 H => ?_))
  show am_Wp true (d + 1) M_X7_beginLevel 321 321 h0 Q 112 [some (.inr (.inr 294)), some (.inl v1), none, none, some (.inl v4)] [.inl r3, .inl (am_w32 ((am_w32 (8 * v1)) + v4)), .inr (.inr 312)] 321 h4
  refine ar_if_eq (pc := 112) (x := r3) (tgt := 119) (off := 7) (by decide +kernel) (by decide) (fun c5 => ?_) (fun c5 => ?_)
  · replace H := H.1 c5
    refine ar_iconst (pc := 119) (z := 0) (by decide +kernel) (by unfold am_i32; omega) ?_
    exact H h0
  · replace H := H.2 c5
    refine ar_iconst (pc := 115) (z := (-1)) (by decide +kernel) (by unfold am_i32; omega) ?_
    refine ar_goto (pc := 116) (tgt := 120) (off := 4) (by decide +kernel) (by decide) ?_
    exact H h0
theorem B_X7_beginLevel_120 {d : Nat} {Q : Int → am_H → Prop} {h : am_H} {v1 v4 s1 s2 : Int} (H : (0 ≤ s1) ∧ ((s1 < 24) ∧ ((0 ≤ (am_w32 ((am_w32 (8 * v1)) + v4))) ∧ (((am_w32 ((am_w32 (8 * v1)) + v4)) < 24) ∧ (wf (d + 1) M_X7_beginLevel Q 56 [some (.inr (.inr 294)), some (.inl v1), none, none, some (.inl (am_w32 (v4 + 1)))] [] (am_up (am_up (am_up (am_up h 312 s1 s2) 313 (am_w32 ((am_w32 (8 * v1)) + v4)) (-1)) 314 (am_w32 ((am_w32 (8 * v1)) + v4)) (-1)) 316 (am_w32 ((am_w32 (8 * v1)) + v4)) 0)))))) : wf (d + 1) M_X7_beginLevel Q 120 [some (.inr (.inr 294)), some (.inl v1), none, none, some (.inl v4)] [.inl s2, .inl s1, .inr (.inr 312)] h := by
  intro h0
  obtain ⟨g1, H⟩ := H
  obtain ⟨g2, H⟩ := H
  refine ar_iast (pc := 120) (a := 312) (i := s1) (z := s2) (by decide +kernel) k_312 g1 (am_lt_eq g2 (l_312).symm) ?_
  refine ar_aload_n (pc := 121) (i := 0) (k0 := 0) (by decide +kernel) rfl rfl ?_
  refine ar_getFV (pc := 122) (a := 294) (b := 313) 7 39 (by decide +kernel) k_294 rfl (by decide) wf_RX7_73 rfl (fun _ => rfl) rfl ?_
  refine ar_bipush (pc := 125) (z := 8) (by decide +kernel) (by omega) ?_
  refine ar_iload_n (pc := 127) (i := 1) (k0 := 1) (by decide +kernel) rfl rfl ?_
  refine ar_imul (pc := 128) (x := 8) (y := v1) (by decide +kernel) ?_
  refine ar_iload (pc := 129) (i := 4) (by decide +kernel) rfl ?_
  refine ar_iadd (pc := 131) (x := (am_w32 (8 * v1))) (y := v4) (by decide +kernel) ?_
  refine ar_iconst (pc := 132) (z := (-1)) (by decide +kernel) (by unfold am_i32; omega) ?_
  obtain ⟨g3, H⟩ := H
  obtain ⟨g4, H⟩ := H
  refine ar_iast (pc := 133) (a := 313) (i := (am_w32 ((am_w32 (8 * v1)) + v4))) (z := (-1)) (by decide +kernel) k_313 g3 (am_lt_eq g4 (l_313).symm) ?_
  refine ar_aload_n (pc := 134) (i := 0) (k0 := 0) (by decide +kernel) rfl rfl ?_
  refine ar_getFV (pc := 135) (a := 294) (b := 314) 7 40 (by decide +kernel) k_294 rfl (by decide) wf_RX7_76 rfl (fun _ => rfl) rfl ?_
  refine ar_bipush (pc := 138) (z := 8) (by decide +kernel) (by omega) ?_
  refine ar_iload_n (pc := 140) (i := 1) (k0 := 1) (by decide +kernel) rfl rfl ?_
  refine ar_imul (pc := 141) (x := 8) (y := v1) (by decide +kernel) ?_
  refine ar_iload (pc := 142) (i := 4) (by decide +kernel) rfl ?_
  refine ar_iadd (pc := 144) (x := (am_w32 (8 * v1))) (y := v4) (by decide +kernel) ?_
  refine ar_iconst (pc := 145) (z := (-1)) (by decide +kernel) (by unfold am_i32; omega) ?_
  refine ar_iast (pc := 146) (a := 314) (i := (am_w32 ((am_w32 (8 * v1)) + v4))) (z := (-1)) (by decide +kernel) k_314 g3 (am_lt_eq g4 (l_314).symm) ?_
  refine ar_aload_n (pc := 147) (i := 0) (k0 := 0) (by decide +kernel) rfl rfl ?_
  refine ar_getFV (pc := 148) (a := 294) (b := 316) 7 42 (by decide +kernel) k_294 rfl (by decide) wf_RX7_82 rfl (fun _ => rfl) rfl ?_
  refine ar_bipush (pc := 151) (z := 8) (by decide +kernel) (by omega) ?_
  refine ar_iload_n (pc := 153) (i := 1) (k0 := 1) (by decide +kernel) rfl rfl ?_
  refine ar_imul (pc := 154) (x := 8) (y := v1) (by decide +kernel) ?_
  refine ar_iload (pc := 155) (i := 4) (by decide +kernel) rfl ?_
  refine ar_iadd (pc := 157) (x := (am_w32 (8 * v1))) (y := v4) (by decide +kernel) ?_
  refine ar_lconst (pc := 158) (i := 0) (z := 0) (by decide +kernel) rfl ?_
  refine ar_last (pc := 159) (a := 316) (i := (am_w32 ((am_w32 (8 * v1)) + v4))) (z := 0) (by decide +kernel) k_316 g3 (am_lt_eq g4 (l_316).symm) ?_
  refine ar_iinc (pc := 160) (i := 4) (z := 1) (x := v4) (ls2 := [some (.inr (.inr 294)), some (.inl v1), none, none, some (.inl (am_w32 (v4 + 1)))]) (by decide +kernel) rfl (by decide) rfl ?_
  refine ar_goto (pc := 163) (tgt := 56) (off := -107) (by decide +kernel) (by decide) ?_
  exact H h0

/-! ByteIntervalsModel.nameLevel()V -/
theorem B_X7_nameLevel_0 {d : Nat} {Q : Int → am_H → Prop} {h : am_H} (H : (0 ≤ (h 294 43)) ∧ (((h 294 43) < 3) ∧ (wf d M_X7_nameLevel Q 28 [some (.inr (.inr 294)), some (.inl 0)] [] (am_up (am_up h 294 22 (h 308 (h 294 43))) 294 23 (h 309 (h 294 43)))))) : wf d M_X7_nameLevel Q 0 [some (.inr (.inr 294)), none] [] h := by
  intro h0
  refine ar_aload_n (pc := 0) (i := 0) (k0 := 0) (by decide +kernel) rfl rfl ?_
  refine ar_aload_n (pc := 1) (i := 0) (k0 := 0) (by decide +kernel) rfl rfl ?_
  refine ar_getFV (pc := 2) (a := 294) (b := 308) 7 34 (by decide +kernel) k_294 rfl (by decide) wf_RX7_58 rfl (fun _ => rfl) rfl ?_
  refine ar_aload_n (pc := 5) (i := 0) (k0 := 0) (by decide +kernel) rfl rfl ?_
  refine ar_getV (pc := 6) (a := 294) (v := .inl (h 294 43)) 7 43 (by decide +kernel) k_294 rfl (by decide) wf_RX7_363 rfl ?_
  obtain ⟨g1, H⟩ := H
  obtain ⟨g2, H⟩ := H
  refine ar_iald (pc := 9) (a := 308) (i := (h 294 43)) (by decide +kernel) k_308 g1 (am_lt_eq g2 (l_308).symm) ?_
  refine ar_putI (pc := 10) (a := 294) (z := (h 308 (h 294 43))) 7 22 (by decide +kernel) k_294 rfl (by decide) rfl (fun _ => rfl) rfl wf_RX7_310 ?_
  refine ar_aload_n (pc := 13) (i := 0) (k0 := 0) (by decide +kernel) rfl rfl ?_
  refine ar_aload_n (pc := 14) (i := 0) (k0 := 0) (by decide +kernel) rfl rfl ?_
  refine ar_getFV (pc := 15) (a := 294) (b := 309) 7 35 (by decide +kernel) k_294 rfl (by decide) wf_RX7_61 rfl (fun _ => rfl) rfl ?_
  refine ar_aload_n (pc := 18) (i := 0) (k0 := 0) (by decide +kernel) rfl rfl ?_
  refine ar_getV (pc := 19) (a := 294) (v := .inl (h 294 43)) 7 43 (by decide +kernel) k_294 rfl (by decide) wf_RX7_363 (by first | rfl | (simp [am_tv, am_ty, tyX7, am_up, am_cp]; done) | (simp [am_tv, am_ty, tyX7, am_up, am_cp] <;> intros <;> omega)) ?_
  refine ar_ialdV (pc := 22) (a := 309) (i := (h 294 43)) (v := (h 309 (h 294 43))) (by first | rfl | (simp [am_up, am_cp]; done) | (simp [am_up, am_cp] <;> intros <;> omega)) (by decide +kernel) k_309 g1 (am_lt_eq g2 (l_309).symm) ?_
  refine ar_putI (pc := 23) (a := 294) (z := (h 309 (h 294 43))) 7 23 (by decide +kernel) k_294 rfl (by decide) rfl (fun _ => rfl) rfl wf_RX7_304 ?_
  refine ar_iconst (pc := 26) (z := 0) (by decide +kernel) (by unfold am_i32; omega) ?_
  refine ar_istore_n (pc := 27) (i := 1) (k0 := 1) (ls2 := [some (.inr (.inr 294)), some (.inl 0)]) (by decide +kernel) rfl (by decide) rfl ?_
  exact H h0
theorem B_X7_nameLevel_28 {d : Nat} {Q : Int → am_H → Prop} {h : am_H} {v1 : Int} (H : (8 ≤ v1 → (0 ≤ (h 294 43)) ∧ (((h 294 43) < 3) ∧ (Q 0 (am_up (am_up h 300 8 (h 309 (h 294 43))) 300 9 (h 294 43))))) ∧ (v1 < 8 → (0 ≤ (am_w32 ((am_w32 (8 * (h 294 43))) + v1))) ∧ (((am_w32 ((am_w32 (8 * (h 294 43))) + v1)) < 24) ∧ ((0 ≤ v1) ∧ ((v1 < 13) ∧ (wf d M_X7_nameLevel Q 28 [some (.inr (.inr 294)), some (.inl (am_w32 (v1 + 1)))] [] (am_up h 300 v1 (h 312 (am_w32 ((am_w32 (8 * (h 294 43))) + v1)))))))))) : wf d M_X7_nameLevel Q 28 [some (.inr (.inr 294)), some (.inl v1)] [] h := by
  intro h0
  refine ar_iload_n (pc := 28) (i := 1) (k0 := 1) (by decide +kernel) rfl rfl ?_
  refine ar_bipush (pc := 29) (z := 8) (by decide +kernel) (by omega) ?_
  refine ar_icmp_ge (pc := 31) (x := v1) (y := 8) (tgt := 60) (off := 29) (by decide +kernel) (by decide) (fun c1 => ?_) (fun c1 => ?_)
  · replace H := H.1 c1
    refine ar_aload_n (pc := 60) (i := 0) (k0 := 0) (by decide +kernel) rfl rfl ?_
    refine ar_getFV (pc := 61) (a := 294) (b := 300) 7 21 (by decide +kernel) k_294 rfl (by decide) wf_RX7_32 rfl (fun _ => rfl) rfl ?_
    refine ar_bipush (pc := 64) (z := 8) (by decide +kernel) (by omega) ?_
    refine ar_aload_n (pc := 66) (i := 0) (k0 := 0) (by decide +kernel) rfl rfl ?_
    refine ar_getFV (pc := 67) (a := 294) (b := 309) 7 35 (by decide +kernel) k_294 rfl (by decide) wf_RX7_61 rfl (fun _ => rfl) rfl ?_
    refine ar_aload_n (pc := 70) (i := 0) (k0 := 0) (by decide +kernel) rfl rfl ?_
    refine ar_getV (pc := 71) (a := 294) (v := .inl (h 294 43)) 7 43 (by decide +kernel) k_294 rfl (by decide) wf_RX7_363 rfl ?_
    obtain ⟨g2, H⟩ := H
    obtain ⟨g3, H⟩ := H
    refine ar_iald (pc := 74) (a := 309) (i := (h 294 43)) (by decide +kernel) k_309 g2 (am_lt_eq g3 (l_309).symm) ?_
    refine ar_iast (pc := 75) (a := 300) (i := 8) (z := (h 309 (h 294 43))) (by decide +kernel) k_300 (by decide) (am_lt_eq (b := 13) (by decide) (l_300).symm) ?_
    refine ar_aload_n (pc := 76) (i := 0) (k0 := 0) (by decide +kernel) rfl rfl ?_
    refine ar_getFV (pc := 77) (a := 294) (b := 300) 7 21 (by decide +kernel) k_294 rfl (by decide) wf_RX7_32 rfl (fun _ => rfl) rfl ?_
    refine ar_bipush (pc := 80) (z := 9) (by decide +kernel) (by omega) ?_
    refine ar_aload_n (pc := 82) (i := 0) (k0 := 0) (by decide +kernel) rfl rfl ?_
    refine ar_getV (pc := 83) (a := 294) (v := .inl (h 294 43)) 7 43 (by decide +kernel) k_294 rfl (by decide) wf_RX7_363 (by first | rfl | (simp [am_tv, am_ty, tyX7, am_up, am_cp]; done) | (simp [am_tv, am_ty, tyX7, am_up, am_cp] <;> intros <;> omega)) ?_
    refine ar_iast (pc := 86) (a := 300) (i := 9) (z := (h 294 43)) (by decide +kernel) k_300 (by decide) (am_lt_eq (b := 13) (by decide) (l_300).symm) ?_
    exact ar_vret (pc := 87) (by decide +kernel) rfl rfl H
  · replace H := H.2 c1
    refine ar_aload_n (pc := 34) (i := 0) (k0 := 0) (by decide +kernel) rfl rfl ?_
    refine ar_getFV (pc := 35) (a := 294) (b := 300) 7 21 (by decide +kernel) k_294 rfl (by decide) wf_RX7_32 rfl (fun _ => rfl) rfl ?_
    refine ar_iload_n (pc := 38) (i := 1) (k0 := 1) (by decide +kernel) rfl rfl ?_
    refine ar_aload_n (pc := 39) (i := 0) (k0 := 0) (by decide +kernel) rfl rfl ?_
    refine ar_getFV (pc := 40) (a := 294) (b := 312) 7 38 (by decide +kernel) k_294 rfl (by decide) wf_RX7_70 rfl (fun _ => rfl) rfl ?_
    refine ar_bipush (pc := 43) (z := 8) (by decide +kernel) (by omega) ?_
    refine ar_aload_n (pc := 45) (i := 0) (k0 := 0) (by decide +kernel) rfl rfl ?_
    refine ar_getV (pc := 46) (a := 294) (v := .inl (h 294 43)) 7 43 (by decide +kernel) k_294 rfl (by decide) wf_RX7_363 rfl ?_
    refine ar_imul (pc := 49) (x := 8) (y := (h 294 43)) (by decide +kernel) ?_
    refine ar_iload_n (pc := 50) (i := 1) (k0 := 1) (by decide +kernel) rfl rfl ?_
    refine ar_iadd (pc := 51) (x := (am_w32 (8 * (h 294 43)))) (y := v1) (by decide +kernel) ?_
    obtain ⟨g4, H⟩ := H
    obtain ⟨g5, H⟩ := H
    refine ar_iald (pc := 52) (a := 312) (i := (am_w32 ((am_w32 (8 * (h 294 43))) + v1))) (by decide +kernel) k_312 g4 (am_lt_eq g5 (l_312).symm) ?_
    obtain ⟨g6, H⟩ := H
    obtain ⟨g7, H⟩ := H
    refine ar_iast (pc := 53) (a := 300) (i := v1) (z := (h 312 (am_w32 ((am_w32 (8 * (h 294 43))) + v1)))) (by decide +kernel) k_300 g6 (am_lt_eq g7 (l_300).symm) ?_
    refine ar_iinc (pc := 54) (i := 1) (z := 1) (x := v1) (ls2 := [some (.inr (.inr 294)), some (.inl (am_w32 (v1 + 1)))]) (by decide +kernel) rfl (by decide) rfl ?_
    refine ar_goto (pc := 57) (tgt := 28) (off := -29) (by decide +kernel) (by decide) ?_
    exact H h0

/-! ByteIntervalsModel.isAnyBroken(I)Z -/
theorem B_X7_isAnyBroken_0 {d : Nat} {Q : Int → am_H → Prop} {h : am_H} {v1 : Int} (H : wf (d + 1) M_X7_isAnyBroken Q 2 [some (.inr (.inr 294)), some (.inl v1), some (.inl 0)] [] h) : wf (d + 1) M_X7_isAnyBroken Q 0 [some (.inr (.inr 294)), some (.inl v1), none] [] h := by
  intro h0
  refine ar_iconst (pc := 0) (z := 0) (by decide +kernel) (by unfold am_i32; omega) ?_
  refine ar_istore_n (pc := 1) (i := 2) (k0 := 2) (ls2 := [some (.inr (.inr 294)), some (.inl v1), some (.inl 0)]) (by decide +kernel) rfl (by decide) rfl ?_
  exact H h0
theorem B_X7_isAnyBroken_2 {d : Nat} {Q : Int → am_H → Prop} {h : am_H} {v1 v2 : Int} (H : (8 ≤ v2 → Q 0 h) ∧ (v2 < 8 → cf d M_X7_has [.inl v1, .inl v2] h (fun r2 h3 => (r2 = 0 → wf (d + 1) M_X7_isAnyBroken Q 36 [some (.inr (.inr 294)), some (.inl v1), some (.inl v2)] [] h3) ∧ (¬ r2 = 0 → (0 ≤ (am_w32 ((am_w32 (8 * (h3 294 43))) + v2))) ∧ (((am_w32 ((am_w32 (8 * (h3 294 43))) + v2)) < 24) ∧ ((¬ (h3 315 (am_w32 ((am_w32 (8 * (h3 294 43))) + v2))) = 1 → wf (d + 1) M_X7_isAnyBroken Q 36 [some (.inr (.inr 294)), some (.inl v1), some (.inl v2)] [] h3) ∧ ((h3 315 (am_w32 ((am_w32 (8 * (h3 294 43))) + v2))) = 1 → Q 1 h3))))))) : wf (d + 1) M_X7_isAnyBroken Q 2 [some (.inr (.inr 294)), some (.inl v1), some (.inl v2)] [] h := by
  intro h0
  refine ar_iload_n (pc := 2) (i := 2) (k0 := 2) (by decide +kernel) rfl rfl ?_
  refine ar_bipush (pc := 3) (z := 8) (by decide +kernel) (by omega) ?_
  refine ar_icmp_ge (pc := 5) (x := v2) (y := 8) (tgt := 42) (off := 37) (by decide +kernel) (by decide) (fun c1 => ?_) (fun c1 => ?_)
  · replace H := H.1 c1
    refine ar_iconst (pc := 42) (z := 0) (by decide +kernel) (by unfold am_i32; omega) ?_
    exact ar_zret (pc := 43) (x := 0) (by decide +kernel) rfl rfl (by decide) H
  · replace H := H.2 c1
    refine ar_iload_n (pc := 8) (i := 1) (k0 := 1) (by decide +kernel) rfl rfl ?_
    refine ar_iload_n (pc := 9) (i := 2) (k0 := 2) (by decide +kernel) rfl rfl ?_
    refine ar_callS (pc := 10) (M2 := M_X7_has) (as := [.inl v1, .inl v2]) (n2 := 321) (st := []) (by decide +kernel) rfl wm_RX7_260 ws_yX7_has wz_RX7 wc_yX7_has ⟨by decide, by decide, rfl⟩ (by decide) (Nat.le_of_ble_eq_true rfl) (Nat.le_refl _) (Nat.le_refl _) (am_Cl_mono H (fun r2 h3 H => ?_))
    show am_Wp true (d + 1) M_X7_isAnyBroken 321 321 h0 Q 13 [some (.inr (.inr 294)), some (.inl v1), some (.inl v2)] [.inl r2] 321 h3
    refine ar_if_eq (pc := 13) (x := r2) (tgt := 36) (off := 23) (by decide +kernel) (by decide) (fun c4 => ?_) (fun c4 => ?_)
    · replace H := H.1 c4
      exact H h0
    · replace H := H.2 c4
      refine ar_aload_n (pc := 16) (i := 0) (k0 := 0) (by decide +kernel) rfl rfl ?_
      refine ar_getFV (pc := 17) (a := 294) (b := 315) 7 41 (by decide +kernel) k_294 rfl (by decide) wf_RX7_79 rfl (fun _ => rfl) rfl ?_
      refine ar_bipush (pc := 20) (z := 8) (by decide +kernel) (by omega) ?_
      refine ar_aload_n (pc := 22) (i := 0) (k0 := 0) (by decide +kernel) rfl rfl ?_
      refine ar_getV (pc := 23) (a := 294) (v := .inl (h3 294 43)) 7 43 (by decide +kernel) k_294 rfl (by decide) wf_RX7_363 rfl ?_
      refine ar_imul (pc := 26) (x := 8) (y := (h3 294 43)) (by decide +kernel) ?_
      refine ar_iload_n (pc := 27) (i := 2) (k0 := 2) (by decide +kernel) rfl rfl ?_
      refine ar_iadd (pc := 28) (x := (am_w32 (8 * (h3 294 43)))) (y := v2) (by decide +kernel) ?_
      obtain ⟨g5, H⟩ := H
      obtain ⟨g6, H⟩ := H
      refine ar_iald (pc := 29) (a := 315) (i := (am_w32 ((am_w32 (8 * (h3 294 43))) + v2))) (by decide +kernel) k_315 g5 (am_lt_eq g6 (l_315).symm) ?_
      refine ar_iconst (pc := 30) (z := 1) (by decide +kernel) (by unfold am_i32; omega) ?_
      refine ar_icmp_ne (pc := 31) (x := (h3 315 (am_w32 ((am_w32 (8 * (h3 294 43))) + v2)))) (y := 1) (tgt := 36) (off := 5) (by decide +kernel) (by decide) (fun c7 => ?_) (fun c7 => ?_)
      · replace H := H.1 c7
        exact H h0
      · replace H := H.2 c7
        refine ar_iconst (pc := 34) (z := 1) (by decide +kernel) (by unfold am_i32; omega) ?_
        exact ar_zret (pc := 35) (x := 1) (by decide +kernel) rfl rfl (by decide) H
theorem B_X7_isAnyBroken_36 {d : Nat} {Q : Int → am_H → Prop} {h : am_H} {v1 v2 : Int} (H : wf (d + 1) M_X7_isAnyBroken Q 2 [some (.inr (.inr 294)), some (.inl v1), some (.inl (am_w32 (v2 + 1)))] [] h) : wf (d + 1) M_X7_isAnyBroken Q 36 [some (.inr (.inr 294)), some (.inl v1), some (.inl v2)] [] h := by
  intro h0
  refine ar_iinc (pc := 36) (i := 2) (z := 1) (x := v2) (ls2 := [some (.inr (.inr 294)), some (.inl v1), some (.inl (am_w32 (v2 + 1)))]) (by decide +kernel) rfl (by decide) rfl ?_
  refine ar_goto (pc := 39) (tgt := 2) (off := -37) (by decide +kernel) (by decide) ?_
  exact H h0

/-! ByteIntervalsModel.isWithin(JJI)Z -/
theorem B_X7_isWithin_0 {d : Nat} {Q : Int → am_H → Prop} {h : am_H} {v0 v2 v4 : Int} (H : ((am_lcmp v0 0) < 0 → Q 0 h) ∧ (0 ≤ (am_lcmp v0 0) → (0 < (am_lcmp v0 v2) → Q 0 h) ∧ ((am_lcmp v0 v2) ≤ 0 → (0 < (am_lcmp v2 v4) → Q 0 h) ∧ ((am_lcmp v2 v4) ≤ 0 → Q 1 h)))) : wf d M_X7_isWithin Q 0 [some (.inr (.inl v0)), none, some (.inr (.inl v2)), none, some (.inl v4)] [] h := by
  intro h0
  refine ar_lload_n (pc := 0) (i := 0) (k0 := 0) (by decide +kernel) rfl rfl ?_
  refine ar_lconst (pc := 1) (i := 0) (z := 0) (by decide +kernel) rfl ?_
  refine ar_lcmp (pc := 2) (x := v0) (y := 0) (by decide +kernel) ?_
  refine ar_if_lt (pc := 3) (x := (am_lcmp v0 0)) (tgt := 24) (off := 21) (by decide +kernel) (by decide) (fun c1 => ?_) (fun c1 => ?_)
  · replace H := H.1 c1
    refine ar_iconst (pc := 24) (z := 0) (by decide +kernel) (by unfold am_i32; omega) ?_
    exact ar_zret (pc := 25) (x := 0) (by decide +kernel) rfl rfl (by decide) H
  · replace H := H.2 c1
    refine ar_lload_n (pc := 6) (i := 0) (k0 := 0) (by decide +kernel) rfl rfl ?_
    refine ar_lload_n (pc := 7) (i := 2) (k0 := 2) (by decide +kernel) rfl rfl ?_
    refine ar_lcmp (pc := 8) (x := v0) (y := v2) (by decide +kernel) ?_
    refine ar_if_gt (pc := 9) (x := (am_lcmp v0 v2)) (tgt := 24) (off := 15) (by decide +kernel) (by decide) (fun c2 => ?_) (fun c2 => ?_)
    · replace H := H.1 c2
      refine ar_iconst (pc := 24) (z := 0) (by decide +kernel) (by unfold am_i32; omega) ?_
      exact ar_zret (pc := 25) (x := 0) (by decide +kernel) rfl rfl (by decide) H
    · replace H := H.2 c2
      refine ar_lload_n (pc := 12) (i := 2) (k0 := 2) (by decide +kernel) rfl rfl ?_
      refine ar_iload (pc := 13) (i := 4) (by decide +kernel) rfl ?_
      refine ar_i2l (pc := 15) (x := v4) (by decide +kernel) ?_
      refine ar_lcmp (pc := 16) (x := v2) (y := v4) (by decide +kernel) ?_
      refine ar_if_gt (pc := 17) (x := (am_lcmp v2 v4)) (tgt := 24) (off := 7) (by decide +kernel) (by decide) (fun c3 => ?_) (fun c3 => ?_)
      · replace H := H.1 c3
        refine ar_iconst (pc := 24) (z := 0) (by decide +kernel) (by unfold am_i32; omega) ?_
        exact ar_zret (pc := 25) (x := 0) (by decide +kernel) rfl rfl (by decide) H
      · replace H := H.2 c3
        refine ar_iconst (pc := 20) (z := 1) (by decide +kernel) (by unfold am_i32; omega) ?_
        refine ar_goto (pc := 21) (tgt := 25) (off := 4) (by decide +kernel) (by decide) ?_
        exact ar_zret (pc := 25) (x := 1) (by decide +kernel) rfl rfl (by decide) H

/-! ByteIntervalsModel.numberFrom(II)I -/
theorem B_X7_numberFrom_0 {d : Nat} {Q : Int → am_H → Prop} {h : am_H} {v1 v2 : Int} (H : wf d M_X7_numberFrom Q 5 [some (.inr (.inr 294)), none, some (.inl v2), some (.inl 0), some (.inl v1)] [] h) : wf d M_X7_numberFrom Q 0 [some (.inr (.inr 294)), some (.inl v1), some (.inl v2), none, none] [] h := by
  intro h0
  refine ar_iconst (pc := 0) (z := 0) (by decide +kernel) (by unfold am_i32; omega) ?_
  refine ar_istore_n (pc := 1) (i := 3) (k0 := 3) (ls2 := [some (.inr (.inr 294)), some (.inl v1), some (.inl v2), some (.inl 0), none]) (by decide +kernel) rfl (by decide) rfl ?_
  refine ar_iload_n (pc := 2) (i := 1) (k0 := 1) (by decide +kernel) rfl rfl ?_
  refine ar_istore (pc := 3) (i := 4) (ls2 := [some (.inr (.inr 294)), some (.inl v1), some (.inl v2), some (.inl 0), some (.inl v1)]) (by decide +kernel) (by decide) rfl ?_
  refine ar_forget [true, false, true, true, true] rfl ?_
  exact H h0
theorem B_X7_numberFrom_5 {d : Nat} {Q : Int → am_H → Prop} {h : am_H} {v2 v3 v4 : Int} (H : (v2 ≤ v4 → Q v3 h) ∧ (v4 < v2 → (0 ≤ (am_w32 (8 + v4))) ∧ (((am_w32 (8 + v4)) < 2159) ∧ (wf d M_X7_numberFrom Q 5 [some (.inr (.inr 294)), none, some (.inl v2), some (.inl (am_w32 ((am_w32 (256 * v3)) + (h 295 (am_w32 (8 + v4)))))), some (.inl (am_w32 (v4 + 1)))] [] h)))) : wf d M_X7_numberFrom Q 5 [some (.inr (.inr 294)), none, some (.inl v2), some (.inl v3), some (.inl v4)] [] h := by
  intro h0
  refine ar_iload (pc := 5) (i := 4) (by decide +kernel) rfl ?_
  refine ar_iload_n (pc := 7) (i := 2) (k0 := 2) (by decide +kernel) rfl rfl ?_
  refine ar_icmp_ge (pc := 8) (x := v4) (y := v2) (tgt := 34) (off := 26) (by decide +kernel) (by decide) (fun c1 => ?_) (fun c1 => ?_)
  · replace H := H.1 c1
    refine ar_iload_n (pc := 34) (i := 3) (k0 := 3) (by decide +kernel) rfl rfl ?_
    exact ar_iret (pc := 35) (x := v3) (by decide +kernel) rfl rfl H
  · replace H := H.2 c1
    refine ar_sipush (pc := 11) (z := 256) (by decide +kernel) (by omega) ?_
    refine ar_iload_n (pc := 14) (i := 3) (k0 := 3) (by decide +kernel) rfl rfl ?_
    refine ar_imul (pc := 15) (x := 256) (y := v3) (by decide +kernel) ?_
    refine ar_aload_n (pc := 16) (i := 0) (k0 := 0) (by decide +kernel) rfl rfl ?_
    refine ar_getFV (pc := 17) (a := 294) (b := 295) 7 0 (by decide +kernel) k_294 rfl (by decide) wf_RX7_7 rfl (fun _ => rfl) rfl ?_
    refine ar_bipush (pc := 20) (z := 8) (by decide +kernel) (by omega) ?_
    refine ar_iload (pc := 22) (i := 4) (by decide +kernel) rfl ?_
    refine ar_iadd (pc := 24) (x := 8) (y := v4) (by decide +kernel) ?_
    obtain ⟨g2, H⟩ := H
    obtain ⟨g3, H⟩ := H
    refine ar_iald (pc := 25) (a := 295) (i := (am_w32 (8 + v4))) (by decide +kernel) k_295 g2 (am_lt_eq g3 (l_295).symm) ?_
    refine ar_iadd (pc := 26) (x := (am_w32 (256 * v3))) (y := (h 295 (am_w32 (8 + v4)))) (by decide +kernel) ?_
    refine ar_istore_n (pc := 27) (i := 3) (k0 := 3) (ls2 := [some (.inr (.inr 294)), none, some (.inl v2), some (.inl (am_w32 ((am_w32 (256 * v3)) + (h 295 (am_w32 (8 + v4)))))), some (.inl v4)]) (by decide +kernel) rfl (by decide) rfl ?_
    refine ar_iinc (pc := 28) (i := 4) (z := 1) (x := v4) (ls2 := [some (.inr (.inr 294)), none, some (.inl v2), some (.inl (am_w32 ((am_w32 (256 * v3)) + (h 295 (am_w32 (8 + v4)))))), some (.inl (am_w32 (v4 + 1)))]) (by decide +kernel) rfl (by decide) rfl ?_
    refine ar_goto (pc := 31) (tgt := 5) (off := -26) (by decide +kernel) (by decide) ?_
    exact H h0

/-! ByteIntervalsModel.bytesFrom(II)I -/
theorem B_X7_bytesFrom_0 {d : Nat} {Q : Int → am_H → Prop} {h : am_H} {v1 v2 : Int} (H : wf d M_X7_bytesFrom Q 5 [some (.inr (.inr 294)), none, some (.inl v2), some (.inl 0), some (.inl v1)] [] h) : wf d M_X7_bytesFrom Q 0 [some (.inr (.inr 294)), some (.inl v1), some (.inl v2), none, none] [] h := by
  intro h0
  refine ar_iconst (pc := 0) (z := 0) (by decide +kernel) (by unfold am_i32; omega) ?_
  refine ar_istore_n (pc := 1) (i := 3) (k0 := 3) (ls2 := [some (.inr (.inr 294)), some (.inl v1), some (.inl v2), some (.inl 0), none]) (by decide +kernel) rfl (by decide) rfl ?_
  refine ar_iload_n (pc := 2) (i := 1) (k0 := 1) (by decide +kernel) rfl rfl ?_
  refine ar_istore (pc := 3) (i := 4) (ls2 := [some (.inr (.inr 294)), some (.inl v1), some (.inl v2), some (.inl 0), some (.inl v1)]) (by decide +kernel) (by decide) rfl ?_
  refine ar_forget [true, false, true, true, true] rfl ?_
  exact H h0
theorem B_X7_bytesFrom_5 {d : Nat} {Q : Int → am_H → Prop} {h : am_H} {v2 v3 v4 : Int} (H : (v2 ≤ v4 → Q v3 h) ∧ (v4 < v2 → (0 ≤ (am_w32 (8 + v4))) ∧ (((am_w32 (8 + v4)) < 2159) ∧ (wf d M_X7_bytesFrom Q 5 [some (.inr (.inr 294)), none, some (.inl v2), some (.inl (am_w32 (v3 + (h 295 (am_w32 (8 + v4)))))), some (.inl (am_w32 (v4 + 1)))] [] h)))) : wf d M_X7_bytesFrom Q 5 [some (.inr (.inr 294)), none, some (.inl v2), some (.inl v3), some (.inl v4)] [] h := by
  intro h0
  refine ar_iload (pc := 5) (i := 4) (by decide +kernel) rfl ?_
  refine ar_iload_n (pc := 7) (i := 2) (k0 := 2) (by decide +kernel) rfl rfl ?_
  refine ar_icmp_ge (pc := 8) (x := v4) (y := v2) (tgt := 30) (off := 22) (by decide +kernel) (by decide) (fun c1 => ?_) (fun c1 => ?_)
  · replace H := H.1 c1
    refine ar_iload_n (pc := 30) (i := 3) (k0 := 3) (by decide +kernel) rfl rfl ?_
    exact ar_iret (pc := 31) (x := v3) (by decide +kernel) rfl rfl H
  · replace H := H.2 c1
    refine ar_iload_n (pc := 11) (i := 3) (k0 := 3) (by decide +kernel) rfl rfl ?_
    refine ar_aload_n (pc := 12) (i := 0) (k0 := 0) (by decide +kernel) rfl rfl ?_
    refine ar_getFV (pc := 13) (a := 294) (b := 295) 7 0 (by decide +kernel) k_294 rfl (by decide) wf_RX7_7 rfl (fun _ => rfl) rfl ?_
    refine ar_bipush (pc := 16) (z := 8) (by decide +kernel) (by omega) ?_
    refine ar_iload (pc := 18) (i := 4) (by decide +kernel) rfl ?_
    refine ar_iadd (pc := 20) (x := 8) (y := v4) (by decide +kernel) ?_
    obtain ⟨g2, H⟩ := H
    obtain ⟨g3, H⟩ := H
    refine ar_iald (pc := 21) (a := 295) (i := (am_w32 (8 + v4))) (by decide +kernel) k_295 g2 (am_lt_eq g3 (l_295).symm) ?_
    refine ar_iadd (pc := 22) (x := v3) (y := (h 295 (am_w32 (8 + v4)))) (by decide +kernel) ?_
    refine ar_istore_n (pc := 23) (i := 3) (k0 := 3) (ls2 := [some (.inr (.inr 294)), none, some (.inl v2), some (.inl (am_w32 (v3 + (h 295 (am_w32 (8 + v4)))))), some (.inl v4)]) (by decide +kernel) rfl (by decide) rfl ?_
    refine ar_iinc (pc := 24) (i := 4) (z := 1) (x := v4) (ls2 := [some (.inr (.inr 294)), none, some (.inl v2), some (.inl (am_w32 (v3 + (h 295 (am_w32 (8 + v4)))))), some (.inl (am_w32 (v4 + 1)))]) (by decide +kernel) rfl (by decide) rfl ?_
    refine ar_goto (pc := 27) (tgt := 5) (off := -22) (by decide +kernel) (by decide) ?_
    exact H h0

/-! ByteIntervalsModel.bitsFrom(II)J -/
theorem B_X7_bitsFrom_0 {d : Nat} {Q : Int → am_H → Prop} {h : am_H} {v0 v1 : Int} (H : wf d M_X7_bitsFrom Q 5 [none, some (.inl v1), some (.inr (.inl 0)), none, some (.inl v0)] [] h) : wf d M_X7_bitsFrom Q 0 [some (.inl v0), some (.inl v1), none, none, none] [] h := by
  intro h0
  refine ar_lconst (pc := 0) (i := 0) (z := 0) (by decide +kernel) rfl ?_
  refine ar_lstore_n (pc := 1) (i := 2) (k0 := 2) (ls2 := [some (.inl v0), some (.inl v1), some (.inr (.inl 0)), none, none]) (by decide +kernel) rfl (by decide) rfl ?_
  refine ar_iload_n (pc := 2) (i := 0) (k0 := 0) (by decide +kernel) rfl rfl ?_
  refine ar_istore (pc := 3) (i := 4) (ls2 := [some (.inl v0), some (.inl v1), some (.inr (.inl 0)), none, some (.inl v0)]) (by decide +kernel) (by decide) rfl ?_
  refine ar_forget [false, true, true, true, true] rfl ?_
  exact H h0
theorem B_X7_bitsFrom_5 {d : Nat} {Q : Int → am_H → Prop} {h : am_H} {v1 v2 v4 : Int} (H : (v1 ≤ v4 → Q v2 h) ∧ (v4 < v1 → wf d M_X7_bitsFrom Q 5 [none, some (.inl v1), some (.inr (.inl (am_lor v2 (am_lshl 1 v4)))), none, some (.inl (am_w32 (v4 + 1)))] [] h)) : wf d M_X7_bitsFrom Q 5 [none, some (.inl v1), some (.inr (.inl v2)), none, some (.inl v4)] [] h := by
  intro h0
  refine ar_iload (pc := 5) (i := 4) (by decide +kernel) rfl ?_
  refine ar_iload_n (pc := 7) (i := 1) (k0 := 1) (by decide +kernel) rfl rfl ?_
  refine ar_icmp_ge (pc := 8) (x := v4) (y := v1) (tgt := 24) (off := 16) (by decide +kernel) (by decide) (fun c1 => ?_) (fun c1 => ?_)
  · replace H := H.1 c1
    refine ar_lload_n (pc := 24) (i := 2) (k0 := 2) (by decide +kernel) rfl rfl ?_
    exact ar_lret (pc := 25) (x := v2) (by decide +kernel) rfl rfl H
  · replace H := H.2 c1
    refine ar_lload_n (pc := 11) (i := 2) (k0 := 2) (by decide +kernel) rfl rfl ?_
    refine ar_lconst (pc := 12) (i := 1) (z := 1) (by decide +kernel) rfl ?_
    refine ar_iload (pc := 13) (i := 4) (by decide +kernel) rfl ?_
    refine ar_lshl (pc := 15) (x := 1) (y := v4) (by decide +kernel) ?_
    refine ar_lor (pc := 16) (x := v2) (y := (am_lshl 1 v4)) (by decide +kernel) ?_
    refine ar_lstore_n (pc := 17) (i := 2) (k0 := 2) (ls2 := [none, some (.inl v1), some (.inr (.inl (am_lor v2 (am_lshl 1 v4)))), none, some (.inl v4)]) (by decide +kernel) rfl (by decide) rfl ?_
    refine ar_iinc (pc := 18) (i := 4) (z := 1) (x := v4) (ls2 := [none, some (.inl v1), some (.inr (.inl (am_lor v2 (am_lshl 1 v4)))), none, some (.inl (am_w32 (v4 + 1)))]) (by decide +kernel) rfl (by decide) rfl ?_
    refine ar_goto (pc := 21) (tgt := 5) (off := -16) (by decide +kernel) (by decide) ?_
    exact H h0

/-! ByteIntervalsModel.settleField(IIIII)V -/
theorem B_X7_settleField_0 {d : Nat} {Q : Int → am_H → Prop} {h : am_H} {v1 v2 v3 v4 v5 : Int} (H : (0 ≤ v1) ∧ ((v1 < 24) ∧ (Q 0 (am_up (am_up (am_up (am_up h 313 v1 v2) 314 v1 v3) 312 v1 v4) 315 v1 v5)))) : wf d M_X7_settleField Q 0 [some (.inr (.inr 294)), some (.inl v1), some (.inl v2), some (.inl v3), some (.inl v4), some (.inl v5)] [] h := by
  intro h0
  refine ar_aload_n (pc := 0) (i := 0) (k0 := 0) (by decide +kernel) rfl rfl ?_
  refine ar_getFV (pc := 1) (a := 294) (b := 313) 7 39 (by decide +kernel) k_294 rfl (by decide) wf_RX7_73 rfl (fun _ => rfl) rfl ?_
  refine ar_iload_n (pc := 4) (i := 1) (k0 := 1) (by decide +kernel) rfl rfl ?_
  refine ar_iload_n (pc := 5) (i := 2) (k0 := 2) (by decide +kernel) rfl rfl ?_
  obtain ⟨g1, H⟩ := H
  obtain ⟨g2, H⟩ := H
  refine ar_iast (pc := 6) (a := 313) (i := v1) (z := v2) (by decide +kernel) k_313 g1 (am_lt_eq g2 (l_313).symm) ?_
  refine ar_aload_n (pc := 7) (i := 0) (k0 := 0) (by decide +kernel) rfl rfl ?_
  refine ar_getFV (pc := 8) (a := 294) (b := 314) 7 40 (by decide +kernel) k_294 rfl (by decide) wf_RX7_76 rfl (fun _ => rfl) rfl ?_
  refine ar_iload_n (pc := 11) (i := 1) (k0 := 1) (by decide +kernel) rfl rfl ?_
  refine ar_iload_n (pc := 12) (i := 3) (k0 := 3) (by decide +kernel) rfl rfl ?_
  refine ar_iast (pc := 13) (a := 314) (i := v1) (z := v3) (by decide +kernel) k_314 g1 (am_lt_eq g2 (l_314).symm) ?_
  refine ar_aload_n (pc := 14) (i := 0) (k0 := 0) (by decide +kernel) rfl rfl ?_
  refine ar_getFV (pc := 15) (a := 294) (b := 312) 7 38 (by decide +kernel) k_294 rfl (by decide) wf_RX7_70 rfl (fun _ => rfl) rfl ?_
  refine ar_iload_n (pc := 18) (i := 1) (k0 := 1) (by decide +kernel) rfl rfl ?_
  refine ar_iload (pc := 19) (i := 4) (by decide +kernel) rfl ?_
  refine ar_iast (pc := 21) (a := 312) (i := v1) (z := v4) (by decide +kernel) k_312 g1 (am_lt_eq g2 (l_312).symm) ?_
  refine ar_aload_n (pc := 22) (i := 0) (k0 := 0) (by decide +kernel) rfl rfl ?_
  refine ar_getFV (pc := 23) (a := 294) (b := 315) 7 41 (by decide +kernel) k_294 rfl (by decide) wf_RX7_79 rfl (fun _ => rfl) rfl ?_
  refine ar_iload_n (pc := 26) (i := 1) (k0 := 1) (by decide +kernel) rfl rfl ?_
  refine ar_iload (pc := 27) (i := 5) (by decide +kernel) rfl ?_
  refine ar_iast (pc := 29) (a := 315) (i := v1) (z := v5) (by decide +kernel) k_315 g1 (am_lt_eq g2 (l_315).symm) ?_
  exact ar_vret (pc := 30) (by decide +kernel) rfl rfl H

/-! ByteIntervalsModel.readNum(II)V -/
theorem B_X7_readNum_0 {d : Nat} {Q : Int → am_H → Prop} {h : am_H} {v1 v2 : Int} (H : (0 ≤ v2) ∧ ((v2 < 8) ∧ (cf d M_X7_sumOf [.inr (.inr 294), .inl v1, .inl (h 305 v2), .inl 0] h (fun r3 h4 => (0 ≤ (am_w32 ((am_w32 (8 * (h 294 43))) + v2))) ∧ (((am_w32 ((am_w32 (8 * (h 294 43))) + v2)) < 24) ∧ (cf d M_X7_sumOf [.inr (.inr 294), .inl v1, .inl (h4 305 v2), .inl 1] (am_up h4 316 (am_w32 ((am_w32 (8 * (h 294 43))) + v2)) (h4 302 0)) (fun r7 h8 => (0 ≤ (h8 294 43)) ∧ (((h8 294 43) < 3) ∧ (cf d M_X7_isWithin [.inr (.inl r3), .inr (.inl r7), .inl (h8 309 (h8 294 43))] (am_up h8 316 (am_w32 ((am_w32 (8 * (h 294 43))) + v2)) (am_lor (h8 316 (am_w32 ((am_w32 (8 * (h 294 43))) + v2))) (h8 302 0))) (fun r11 h12 => (r11 = 0 → Q 0 h12) ∧ (¬ r11 = 0 → ((am_lcmp (am_w64 (r7 - r3)) 3) ≤ 0 → (0 ≤ (h12 294 43)) ∧ (((h12 294 43) < 3) ∧ (cf d M_X7_numberFrom [.inr (.inr 294), .inl (am_w32 ((h12 308 (h12 294 43)) + (am_l2i r3))), .inl (am_w32 ((h12 308 (h12 294 43)) + (am_l2i r7)))] h12 (fun r17 h18 => cf d M_X7_settleField [.inr (.inr 294), .inl (am_w32 ((am_w32 (8 * (h 294 43))) + v2)), .inl (am_l2i r3), .inl (am_l2i r7), .inl r17, .inl 0] h18 (fun _ h20 => cf d M_X7_bitsFrom [.inl (am_w32 ((h12 308 (h12 294 43)) + (am_l2i r3))), .inl (am_w32 ((h12 308 (h12 294 43)) + (am_l2i r7)))] h20 (fun r21 h22 => Q 0 (am_up h22 316 (am_w32 ((am_w32 (8 * (h 294 43))) + v2)) (am_lor (h20 316 (am_w32 ((am_w32 (8 * (h 294 43))) + v2))) r21)))))))) ∧ (0 < (am_lcmp (am_w64 (r7 - r3)) 3) → Q 0 h12)))))))))))) : wf (d + 1) M_X7_readNum Q 0 [some (.inr (.inr 294)), some (.inl v1), some (.inl v2), none, none, none, none, none, none] [] h := by
  intro h0
  refine ar_bipush (pc := 0) (z := 8) (by decide +kernel) (by omega) ?_
  refine ar_aload_n (pc := 2) (i := 0) (k0 := 0) (by decide +kernel) rfl rfl ?_
  refine ar_getV (pc := 3) (a := 294) (v := .inl (h 294 43)) 7 43 (by decide +kernel) k_294 rfl (by decide) wf_RX7_363 rfl ?_
  refine ar_imul (pc := 6) (x := 8) (y := (h 294 43)) (by decide +kernel) ?_
  refine ar_iload_n (pc := 7) (i := 2) (k0 := 2) (by decide +kernel) rfl rfl ?_
  refine ar_iadd (pc := 8) (x := (am_w32 (8 * (h 294 43)))) (y := v2) (by decide +kernel) ?_
  refine ar_istore_n (pc := 9) (i := 3) (k0 := 3) (ls2 := [some (.inr (.inr 294)), some (.inl v1), some (.inl v2), some (.inl (am_w32 ((am_w32 (8 * (h 294 43))) + v2))), none, none, none, none, none]) (by decide +kernel) rfl (by decide) rfl ?_
  refine ar_aload_n (pc := 10) (i := 0) (k0 := 0) (by decide +kernel) rfl rfl ?_
  refine ar_iload_n (pc := 11) (i := 1) (k0 := 1) (by decide +kernel) rfl rfl ?_
  refine ar_aload_n (pc := 12) (i := 0) (k0 := 0) (by decide +kernel) rfl rfl ?_
  refine ar_getFV (pc := 13) (a := 294) (b := 305) 7 28 (by decide +kernel) k_294 rfl (by decide) wf_RX7_49 rfl (fun _ => rfl) rfl ?_
  refine ar_iload_n (pc := 16) (i := 2) (k0 := 2) (by decide +kernel) rfl rfl ?_
  obtain ⟨g1, H⟩ := H
  obtain ⟨g2, H⟩ := H
  refine ar_iald (pc := 17) (a := 305) (i := v2) (by decide +kernel) k_305 g1 (am_lt_eq g2 (l_305).symm) ?_
  refine ar_iconst (pc := 18) (z := 0) (by decide +kernel) (by unfold am_i32; omega) ?_
  refine ar_callV (pc := 19) (M2 := M_X7_sumOf) (a := 294) (ci := 7) (as := [.inl v1, .inl (h 305 v2), .inl 0]) (n2 := 321) (st := []) (by decide +kernel) rfl wm_RX7_338 wi_yX7_sumOf wl_yX7_sumOf k_294 rfl wz_RX7 wc_yX7_sumOf ⟨by decide, by decide, rfl⟩ (by decide) (Nat.le_of_ble_eq_true rfl) (Nat.le_refl _) (Nat.le_refl _) (am_Cl_mono H (fun r3 h4 H => ?_))
  show am_Wp true (d + 1) M_X7_readNum 321 321 h0 Q 22 [some (.inr (.inr 294)), some (.inl v1), some (.inl v2), some (.inl (am_w32 ((am_w32 (8 * (h 294 43))) + v2))), none, none, none, none, none] [.inr (.inl r3)] 321 h4
  refine ar_lstore (pc := 22) (i := 4) (ls2 := [some (.inr (.inr 294)), some (.inl v1), some (.inl v2), some (.inl (am_w32 ((am_w32 (8 * (h 294 43))) + v2))), some (.inr (.inl r3)), none, none, none, none]) (by decide +kernel) (by decide) rfl ?_
  refine ar_aload_n (pc := 24) (i := 0) (k0 := 0) (by decide +kernel) rfl rfl ?_
  refine ar_getFV (pc := 25) (a := 294) (b := 316) 7 42 (by decide +kernel) k_294 rfl (by decide) wf_RX7_82 rfl (fun _ => rfl) rfl ?_
  refine ar_iload_n (pc := 28) (i := 3) (k0 := 3) (by decide +kernel) rfl rfl ?_
  refine ar_aload_n (pc := 29) (i := 0) (k0 := 0) (by decide +kernel) rfl rfl ?_
  refine ar_getFV (pc := 30) (a := 294) (b := 302) 7 25 (by decide +kernel) k_294 rfl (by decide) wf_RX7_39 rfl (fun _ => rfl) rfl ?_
  refine ar_iconst (pc := 33) (z := 0) (by decide +kernel) (by unfold am_i32; omega) ?_
  refine ar_lald (pc := 34) (a := 302) (i := 0) (by decide +kernel) k_302 (by decide) (am_lt_eq (b := 330) (by decide) (l_302).symm) ?_
  obtain ⟨g5, H⟩ := H
  obtain ⟨g6, H⟩ := H
  refine ar_last (pc := 35) (a := 316) (i := (am_w32 ((am_w32 (8 * (h 294 43))) + v2))) (z := (h4 302 0)) (by decide +kernel) k_316 g5 (am_lt_eq g6 (l_316).symm) ?_
  refine ar_aload_n (pc := 36) (i := 0) (k0 := 0) (by decide +kernel) rfl rfl ?_
  refine ar_iload_n (pc := 37) (i := 1) (k0 := 1) (by decide +kernel) rfl rfl ?_
  refine ar_aload_n (pc := 38) (i := 0) (k0 := 0) (by decide +kernel) rfl rfl ?_
  refine ar_getFV (pc := 39) (a := 294) (b := 305) 7 28 (by decide +kernel) k_294 rfl (by decide) wf_RX7_49 rfl (fun _ => rfl) rfl ?_
  refine ar_iload_n (pc := 42) (i := 2) (k0 := 2) (by decide +kernel) rfl rfl ?_
  refine ar_ialdV (pc := 43) (a := 305) (i := v2) (v := (h4 305 v2)) (by first | rfl | (simp [am_up, am_cp]; done) | (simp [am_up, am_cp] <;> intros <;> omega)) (by decide +kernel) k_305 g1 (am_lt_eq g2 (l_305).symm) ?_
  refine ar_iconst (pc := 44) (z := 1) (by decide +kernel) (by unfold am_i32; omega) ?_
  refine ar_callV (pc := 45) (M2 := M_X7_sumOf) (a := 294) (ci := 7) (as := [.inl v1, .inl (h4 305 v2), .inl 1]) (n2 := 321) (st := []) (by decide +kernel) rfl wm_RX7_338 wi_yX7_sumOf wl_yX7_sumOf k_294 rfl wz_RX7 wc_yX7_sumOf ⟨by decide, by decide, rfl⟩ (by decide) (Nat.le_of_ble_eq_true rfl) (Nat.le_refl _) (Nat.le_refl _) (am_Cl_mono H (fun r7 h8 H => ?_))
  show am_Wp true (d + 1) M_X7_readNum 321 321 h0 Q 48 [some (.inr (.inr 294)), some (.inl v1), some (.inl v2), some (.inl (am_w32 ((am_w32 (8 * (h 294 43))) + v2))), some (.inr (.inl r3)), none, none, none, none] [.inr (.inl r7)] 321 h8
  refine ar_lstore (pc := 48) (i := 6) (ls2 := [some (.inr (.inr 294)), some (.inl v1), some (.inl v2), some (.inl (am_w32 ((am_w32 (8 * (h 294 43))) + v2))), some (.inr (.inl r3)), none, some (.inr (.inl r7)), none, none]) (by decide +kernel) (by decide) rfl ?_
  refine ar_aload_n (pc := 50) (i := 0) (k0 := 0) (by decide +kernel) rfl rfl ?_
  refine ar_getFV (pc := 51) (a := 294) (b := 316) 7 42 (by decide +kernel) k_294 rfl (by decide) wf_RX7_82 rfl (fun _ => rfl) rfl ?_
  refine ar_iload_n (pc := 54) (i := 3) (k0 := 3) (by decide +kernel) rfl rfl ?_
  refine ar_dup2 (pc := 55) (by decide +kernel) trivial trivial ?_
  refine ar_lald (pc := 56) (a := 316) (i := (am_w32 ((am_w32 (8 * (h 294 43))) + v2))) (by decide +kernel) k_316 g5 (am_lt_eq g6 (l_316).symm) ?_
  refine ar_aload_n (pc := 57) (i := 0) (k0 := 0) (by decide +kernel) rfl rfl ?_
  refine ar_getFV (pc := 58) (a := 294) (b := 302) 7 25 (by decide +kernel) k_294 rfl (by decide) wf_RX7_39 rfl (fun _ => rfl) rfl ?_
  refine ar_iconst (pc := 61) (z := 0) (by decide +kernel) (by unfold am_i32; omega) ?_
  refine ar_lald (pc := 62) (a := 302) (i := 0) (by decide +kernel) k_302 (by decide) (am_lt_eq (b := 330) (by decide) (l_302).symm) ?_
  refine ar_lor (pc := 63) (x := (h8 316 (am_w32 ((am_w32 (8 * (h 294 43))) + v2)))) (y := (h8 302 0)) (by decide +kernel) ?_
  refine ar_last (pc := 64) (a := 316) (i := (am_w32 ((am_w32 (8 * (h 294 43))) + v2))) (z := (am_lor (h8 316 (am_w32 ((am_w32 (8 * (h 294 43))) + v2))) (h8 302 0))) (by decide +kernel) k_316 g5 (am_lt_eq g6 (l_316).symm) ?_
  refine ar_lload (pc := 65) (i := 4) (by decide +kernel) rfl ?_
  refine ar_lload (pc := 67) (i := 6) (by decide +kernel) rfl ?_
  refine ar_aload_n (pc := 69) (i := 0) (k0 := 0) (by decide +kernel) rfl rfl ?_
  refine ar_getFV (pc := 70) (a := 294) (b := 309) 7 35 (by decide +kernel) k_294 rfl (by decide) wf_RX7_61 rfl (fun _ => rfl) rfl ?_
  refine ar_aload_n (pc := 73) (i := 0) (k0 := 0) (by decide +kernel) rfl rfl ?_
  refine ar_getV (pc := 74) (a := 294) (v := .inl (h8 294 43)) 7 43 (by decide +kernel) k_294 rfl (by decide) wf_RX7_363 (by first | rfl | (simp [am_tv, am_ty, tyX7, am_up, am_cp]; done) | (simp [am_tv, am_ty, tyX7, am_up, am_cp] <;> intros <;> omega)) ?_
  obtain ⟨g9, H⟩ := H
  obtain ⟨g10, H⟩ := H
  refine ar_ialdV (pc := 77) (a := 309) (i := (h8 294 43)) (v := (h8 309 (h8 294 43))) (by first | rfl | (simp [am_up, am_cp]; done) | (simp [am_up, am_cp] <;> intros <;> omega)) (by decide +kernel) k_309 g9 (am_lt_eq g10 (l_309).symm) ?_
  refine ar_callS (pc := 78) (M2 := M_X7_isWithin) (as := [.inr (.inl r3), .inr (.inl r7), .inl (h8 309 (h8 294 43))]) (n2 := 321) (st := []) (by decide +kernel) rfl wm_RX7_369 ws_yX7_isWithin wz_RX7 wc_yX7_isWithin ⟨by decide, by decide, rfl⟩ (by decide) (Nat.le_of_ble_eq_true rfl) (Nat.le_refl _) (Nat.le_refl _) (am_Cl_mono H (fun r11 h12 H => ?_))
  show am_Wp true (d + 1) M_X7_readNum 321 321 h0 Q 81 [some (.inr (.inr 294)), some (.inl v1), some (.inl v2), some (.inl (am_w32 ((am_w32 (8 * (h 294 43))) + v2))), some (.inr (.inl r3)), none, some (.inr (.inl r7)), none, none] [.inl r11] 321 h12
  refine ar_if_eq (pc := 81) (x := r11) (tgt := 96) (off := 15) (by decide +kernel) (by decide) (fun c13 => ?_) (fun c13 => ?_)
  · replace H := H.1 c13
    exact ar_vret (pc := 96) (by decide +kernel) rfl rfl H
  · replace H := H.2 c13
    refine ar_lload (pc := 84) (i := 6) (by decide +kernel) rfl ?_
    refine ar_lload (pc := 86) (i := 4) (by decide +kernel) rfl ?_
    refine ar_lsub (pc := 88) (x := r7) (y := r3) (by decide +kernel) ?_
    refine ar_ldc2 (pc := 89) (z := 3) (by decide +kernel) wk_RX7_373 (by unfold am_i64; omega) ?_
    refine ar_lcmp (pc := 92) (x := (am_w64 (r7 - r3))) (y := 3) (by decide +kernel) ?_
    refine ar_if_le (pc := 93) (x := (am_lcmp (am_w64 (r7 - r3)) 3)) (tgt := 97) (off := 4) (by decide +kernel) (by decide) (fun c14 => ?_) (fun c14 => ?_)
    · replace H := H.1 c14
      refine ar_aload_n (pc := 97) (i := 0) (k0 := 0) (by decide +kernel) rfl rfl ?_
      refine ar_getFV (pc := 98) (a := 294) (b := 308) 7 34 (by decide +kernel) k_294 rfl (by decide) wf_RX7_58 rfl (fun _ => rfl) rfl ?_
      refine ar_aload_n (pc := 101) (i := 0) (k0 := 0) (by decide +kernel) rfl rfl ?_
      refine ar_getV (pc := 102) (a := 294) (v := .inl (h12 294 43)) 7 43 (by decide +kernel) k_294 rfl (by decide) wf_RX7_363 rfl ?_
      obtain ⟨g15, H⟩ := H
      obtain ⟨g16, H⟩ := H
      refine ar_iald (pc := 105) (a := 308) (i := (h12 294 43)) (by decide +kernel) k_308 g15 (am_lt_eq g16 (l_308).symm) ?_
      refine ar_istore (pc := 106) (i := 8) (ls2 := [some (.inr (.inr 294)), some (.inl v1), some (.inl v2), some (.inl (am_w32 ((am_w32 (8 * (h 294 43))) + v2))), some (.inr (.inl r3)), none, some (.inr (.inl r7)), none, some (.inl (h12 308 (h12 294 43)))]) (by decide +kernel) (by decide) rfl ?_
      refine ar_aload_n (pc := 108) (i := 0) (k0 := 0) (by decide +kernel) rfl rfl ?_
      refine ar_iload_n (pc := 109) (i := 3) (k0 := 3) (by decide +kernel) rfl rfl ?_
      refine ar_lload (pc := 110) (i := 4) (by decide +kernel) rfl ?_
      refine ar_l2i (pc := 112) (x := r3) (by decide +kernel) ?_
      refine ar_lload (pc := 113) (i := 6) (by decide +kernel) rfl ?_
      refine ar_l2i (pc := 115) (x := r7) (by decide +kernel) ?_
      refine ar_aload_n (pc := 116) (i := 0) (k0 := 0) (by decide +kernel) rfl rfl ?_
      refine ar_iload (pc := 117) (i := 8) (by decide +kernel) rfl ?_
      refine ar_lload (pc := 119) (i := 4) (by decide +kernel) rfl ?_
      refine ar_l2i (pc := 121) (x := r3) (by decide +kernel) ?_
      refine ar_iadd (pc := 122) (x := (h12 308 (h12 294 43))) (y := (am_l2i r3)) (by decide +kernel) ?_
      refine ar_iload (pc := 123) (i := 8) (by decide +kernel) rfl ?_
      refine ar_lload (pc := 125) (i := 6) (by decide +kernel) rfl ?_
      refine ar_l2i (pc := 127) (x := r7) (by decide +kernel) ?_
      refine ar_iadd (pc := 128) (x := (h12 308 (h12 294 43))) (y := (am_l2i r7)) (by decide +kernel) ?_
      refine ar_callV (pc := 129) (M2 := M_X7_numberFrom) (a := 294) (ci := 7) (as := [.inl (am_w32 ((h12 308 (h12 294 43)) + (am_l2i r3))), .inl (am_w32 ((h12 308 (h12 294 43)) + (am_l2i r7)))]) (n2 := 321) (st := [.inl (am_l2i r7), .inl (am_l2i r3), .inl (am_w32 ((am_w32 (8 * (h 294 43))) + v2)), .inr (.inr 294)]) (by decide +kernel) rfl wm_RX7_375 wi_yX7_numberFrom wl_yX7_numberFrom k_294 rfl wz_RX7 wc_yX7_numberFrom ⟨by decide, by decide, rfl⟩ (by decide) (Nat.le_of_ble_eq_true rfl) (Nat.le_refl _) (Nat.le_refl _) (am_Cl_mono H (fun r17 h18 H => ?_))
      show am_Wp true (d + 1) M_X7_readNum 321 321 h0 Q 132 [some (.inr (.inr 294)), some (.inl v1), some (.inl v2), some (.inl (am_w32 ((am_w32 (8 * (h 294 43))) + v2))), some (.inr (.inl r3)), none, some (.inr (.inl r7)), none, some (.inl (h12 308 (h12 294 43)))] [.inl r17, .inl (am_l2i r7), .inl (am_l2i r3), .inl (am_w32 ((am_w32 (8 * (h 294 43))) + v2)), .inr (.inr 294)] 321 h18
      refine ar_iconst (pc := 132) (z := 0) (by decide +kernel) (by unfold am_i32; omega) ?_
      refine ar_callV (pc := 133) (M2 := M_X7_settleField) (a := 294) (ci := 7) (as := [.inl (am_w32 ((am_w32 (8 * (h 294 43))) + v2)), .inl (am_l2i r3), .inl (am_l2i r7), .inl r17, .inl 0]) (n2 := 321) (st := []) (by decide +kernel) rfl wm_RX7_378 wi_yX7_settleField wl_yX7_settleField k_294 rfl wz_RX7 wc_yX7_settleField ⟨by decide, by decide, rfl⟩ (by decide) (Nat.le_of_ble_eq_true rfl) (Nat.le_refl _) (Nat.le_refl _) (am_Cl_mono H (fun r19 h20 H => ?_))
      show am_Wp true (d + 1) M_X7_readNum 321 321 h0 Q 136 [some (.inr (.inr 294)), some (.inl v1), some (.inl v2), some (.inl (am_w32 ((am_w32 (8 * (h 294 43))) + v2))), some (.inr (.inl r3)), none, some (.inr (.inl r7)), none, some (.inl (h12 308 (h12 294 43)))] [] 321 h20
      refine ar_aload_n (pc := 136) (i := 0) (k0 := 0) (by decide +kernel) rfl rfl ?_
      refine ar_getFV (pc := 137) (a := 294) (b := 316) 7 42 (by decide +kernel) k_294 rfl (by decide) wf_RX7_82 rfl (fun _ => rfl) rfl ?_
      refine ar_iload_n (pc := 140) (i := 3) (k0 := 3) (by decide +kernel) rfl rfl ?_
      refine ar_dup2 (pc := 141) (by decide +kernel) trivial trivial ?_
      refine ar_lald (pc := 142) (a := 316) (i := (am_w32 ((am_w32 (8 * (h 294 43))) + v2))) (by decide +kernel) k_316 g5 (am_lt_eq g6 (l_316).symm) ?_
      refine ar_iload (pc := 143) (i := 8) (by decide +kernel) rfl ?_
      refine ar_lload (pc := 145) (i := 4) (by decide +kernel) rfl ?_
      refine ar_l2i (pc := 147) (x := r3) (by decide +kernel) ?_
      refine ar_iadd (pc := 148) (x := (h12 308 (h12 294 43))) (y := (am_l2i r3)) (by decide +kernel) ?_
      refine ar_iload (pc := 149) (i := 8) (by decide +kernel) rfl ?_
      refine ar_lload (pc := 151) (i := 6) (by decide +kernel) rfl ?_
      refine ar_l2i (pc := 153) (x := r7) (by decide +kernel) ?_
      refine ar_iadd (pc := 154) (x := (h12 308 (h12 294 43))) (y := (am_l2i r7)) (by decide +kernel) ?_
      refine ar_callS (pc := 155) (M2 := M_X7_bitsFrom) (as := [.inl (am_w32 ((h12 308 (h12 294 43)) + (am_l2i r3))), .inl (am_w32 ((h12 308 (h12 294 43)) + (am_l2i r7)))]) (n2 := 321) (st := [.inr (.inl (h20 316 (am_w32 ((am_w32 (8 * (h 294 43))) + v2)))), .inl (am_w32 ((am_w32 (8 * (h 294 43))) + v2)), .inr (.inr 316)]) (by decide +kernel) rfl wm_RX7_382 ws_yX7_bitsFrom wz_RX7 wc_yX7_bitsFrom ⟨by decide, by decide, rfl⟩ (by decide) (Nat.le_of_ble_eq_true rfl) (Nat.le_refl _) (Nat.le_refl _) (am_Cl_mono H (fun r21 h22 H => ?_))
      show am_Wp true (d + 1) M_X7_readNum 321 321 h0 Q 158 [some (.inr (.inr 294)), some (.inl v1), some (.inl v2), some (.inl (am_w32 ((am_w32 (8 * (h 294 43))) + v2))), some (.inr (.inl r3)), none, some (.inr (.inl r7)), none, some (.inl (h12 308 (h12 294 43)))] [.inr (.inl r21), .inr (.inl (h20 316 (am_w32 ((am_w32 (8 * (h 294 43))) + v2)))), .inl (am_w32 ((am_w32 (8 * (h 294 43))) + v2)), .inr (.inr 316)] 321 h22
      refine ar_lor (pc := 158) (x := (h20 316 (am_w32 ((am_w32 (8 * (h 294 43))) + v2)))) (y := r21) (by decide +kernel) ?_
      refine ar_last (pc := 159) (a := 316) (i := (am_w32 ((am_w32 (8 * (h 294 43))) + v2))) (z := (am_lor (h20 316 (am_w32 ((am_w32 (8 * (h 294 43))) + v2))) r21)) (by decide +kernel) k_316 g5 (am_lt_eq g6 (l_316).symm) ?_
      exact ar_vret (pc := 160) (by decide +kernel) rfl rfl H
    · replace H := H.2 c14
      exact ar_vret (pc := 96) (by decide +kernel) rfl rfl H

/-! ByteIntervalsModel.readSum(II)V -/
theorem B_X7_readSum_0 {d : Nat} {Q : Int → am_H → Prop} {h : am_H} {v1 v2 : Int} (H : (0 ≤ v2) ∧ ((v2 < 8) ∧ (cf d M_X7_sumOf [.inr (.inr 294), .inl v1, .inl (h 305 v2), .inl 0] h (fun r3 h4 => (0 ≤ (am_w32 ((am_w32 (8 * (h 294 43))) + v2))) ∧ (((am_w32 ((am_w32 (8 * (h 294 43))) + v2)) < 24) ∧ (cf d M_X7_sumOf [.inr (.inr 294), .inl v1, .inl (h4 305 v2), .inl 2] (am_up h4 316 (am_w32 ((am_w32 (8 * (h 294 43))) + v2)) (h4 302 0)) (fun r7 h8 => cf d M_X7_sumOf [.inr (.inr 294), .inl v1, .inl (h8 305 v2), .inl 1] (am_up h8 316 (am_w32 ((am_w32 (8 * (h 294 43))) + v2)) (am_lor (h8 316 (am_w32 ((am_w32 (8 * (h 294 43))) + v2))) (h8 302 0))) (fun r9 h10 => (0 ≤ (h10 294 43)) ∧ (((h10 294 43) < 3) ∧ (cf d M_X7_isWithin [.inr (.inl r7), .inr (.inl r9), .inl (h10 309 (h10 294 43))] (am_up h10 316 (am_w32 ((am_w32 (8 * (h 294 43))) + v2)) (am_lor (h10 316 (am_w32 ((am_w32 (8 * (h 294 43))) + v2))) (h10 302 0))) (fun r13 h14 => (r13 = 0 → Q 0 h14) ∧ (¬ r13 = 0 → (0 ≤ (h14 294 43)) ∧ (((h14 294 43) < 3) ∧ (cf d M_X7_isWithin [.inr (.inl r3), .inr (.inl (am_w64 (r3 + 1))), .inl (h14 309 (h14 294 43))] h14 (fun r18 h19 => (¬ r18 = 0 → (0 ≤ (h19 294 43)) ∧ (((h19 294 43) < 3) ∧ (cf d M_X7_bytesFrom [.inr (.inr 294), .inl (am_w32 ((h19 308 (h19 294 43)) + (am_l2i r7))), .inl (am_w32 ((h19 308 (h19 294 43)) + (am_l2i r9)))] h19 (fun r23 h24 => cf d M_X7_isIn [.inl (am_w32 ((h19 308 (h19 294 43)) + (am_l2i r3))), .inl (am_w32 ((h19 308 (h19 294 43)) + (am_l2i r7))), .inl (am_w32 ((am_w32 ((h19 308 (h19 294 43)) + (am_l2i r9))) - 1))] h24 (fun r25 h26 => (r25 = 0 → wf (d + 1) M_X7_readSum Q 216 [some (.inr (.inr 294)), none, none, some (.inl (am_w32 ((am_w32 (8 * (h 294 43))) + v2))), some (.inr (.inl r3)), none, none, none, none, none, some (.inl (am_w32 ((h19 308 (h19 294 43)) + (am_l2i r3)))), some (.inl (am_w32 ((h19 308 (h19 294 43)) + (am_l2i r7)))), some (.inl (am_w32 ((h19 308 (h19 294 43)) + (am_l2i r9)))), none] [.inl 0, .inl r23] h26) ∧ (¬ r25 = 0 → (0 ≤ (am_w32 (8 + (am_w32 ((h19 308 (h19 294 43)) + (am_l2i r3)))))) ∧ (((am_w32 (8 + (am_w32 ((h19 308 (h19 294 43)) + (am_l2i r3))))) < 2159) ∧ (wf (d + 1) M_X7_readSum Q 216 [some (.inr (.inr 294)), none, none, some (.inl (am_w32 ((am_w32 (8 * (h 294 43))) + v2))), some (.inr (.inl r3)), none, none, none, none, none, some (.inl (am_w32 ((h19 308 (h19 294 43)) + (am_l2i r3)))), some (.inl (am_w32 ((h19 308 (h19 294 43)) + (am_l2i r7)))), some (.inl (am_w32 ((h19 308 (h19 294 43)) + (am_l2i r9)))), none] [.inl (h26 295 (am_w32 (8 + (am_w32 ((h19 308 (h19 294 43)) + (am_l2i r3)))))), .inl r23] h26)))))))) ∧ (r18 = 0 → Q 0 h19)))))))))))))))) : wf (d + 1) M_X7_readSum Q 0 [some (.inr (.inr 294)), some (.inl v1), some (.inl v2), none, none, none, none, none, none, none, none, none, none, none] [] h := by
  intro h0
  refine ar_bipush (pc := 0) (z := 8) (by decide +kernel) (by omega) ?_
  refine ar_aload_n (pc := 2) (i := 0) (k0 := 0) (by decide +kernel) rfl rfl ?_
  refine ar_getV (pc := 3) (a := 294) (v := .inl (h 294 43)) 7 43 (by decide +kernel) k_294 rfl (by decide) wf_RX7_363 rfl ?_
  refine ar_imul (pc := 6) (x := 8) (y := (h 294 43)) (by decide +kernel) ?_
  refine ar_iload_n (pc := 7) (i := 2) (k0 := 2) (by decide +kernel) rfl rfl ?_
  refine ar_iadd (pc := 8) (x := (am_w32 (8 * (h 294 43)))) (y := v2) (by decide +kernel) ?_
  refine ar_istore_n (pc := 9) (i := 3) (k0 := 3) (ls2 := [some (.inr (.inr 294)), some (.inl v1), some (.inl v2), some (.inl (am_w32 ((am_w32 (8 * (h 294 43))) + v2))), none, none, none, none, none, none, none, none, none, none]) (by decide +kernel) rfl (by decide) rfl ?_
  refine ar_aload_n (pc := 10) (i := 0) (k0 := 0) (by decide +kernel) rfl rfl ?_
  refine ar_iload_n (pc := 11) (i := 1) (k0 := 1) (by decide +kernel) rfl rfl ?_
  refine ar_aload_n (pc := 12) (i := 0) (k0 := 0) (by decide +kernel) rfl rfl ?_
  refine ar_getFV (pc := 13) (a := 294) (b := 305) 7 28 (by decide +kernel) k_294 rfl (by decide) wf_RX7_49 rfl (fun _ => rfl) rfl ?_
  refine ar_iload_n (pc := 16) (i := 2) (k0 := 2) (by decide +kernel) rfl rfl ?_
  obtain ⟨g1, H⟩ := H
  obtain ⟨g2, H⟩ := H
  refine ar_iald (pc := 17) (a := 305) (i := v2) (by decide +kernel) k_305 g1 (am_lt_eq g2 (l_305).symm) ?_
  refine ar_iconst (pc := 18) (z := 0) (by decide +kernel) (by unfold am_i32; omega) ?_
  refine ar_callV (pc := 19) (M2 := M_X7_sumOf) (a := 294) (ci := 7) (as := [.inl v1, .inl (h 305 v2), .inl 0]) (n2 := 321) (st := []) (by decide +kernel) rfl wm_RX7_338 wi_yX7_sumOf wl_yX7_sumOf k_294 rfl wz_RX7 wc_yX7_sumOf ⟨by decide, by decide, rfl⟩ (by decide) (Nat.le_of_ble_eq_true rfl) (Nat.le_refl _) (Nat.le_refl _) (am_Cl_mono H (fun r3 h4 H => ?_))
  show am_Wp true (d + 1) M_X7_readSum 321 321 h0 Q 22 [some (.inr (.inr 294)), some (.inl v1), some (.inl v2), some (.inl (am_w32 ((am_w32 (8 * (h 294 43))) + v2))), none, none, none, none, none, none, none, none, none, none] [.inr (.inl r3)] 321 h4
  refine ar_lstore (pc := 22) (i := 4) (ls2 := [some (.inr (.inr 294)), some (.inl v1), some (.inl v2), some (.inl (am_w32 ((am_w32 (8 * (h 294 43))) + v2))), some (.inr (.inl r3)), none, none, none, none, none, none, none, none, none]) (by decide +kernel) (by decide) rfl ?_
  refine ar_aload_n (pc := 24) (i := 0) (k0 := 0) (by decide +kernel) rfl rfl ?_
  refine ar_getFV (pc := 25) (a := 294) (b := 316) 7 42 (by decide +kernel) k_294 rfl (by decide) wf_RX7_82 rfl (fun _ => rfl) rfl ?_
  refine ar_iload_n (pc := 28) (i := 3) (k0 := 3) (by decide +kernel) rfl rfl ?_
  refine ar_aload_n (pc := 29) (i := 0) (k0 := 0) (by decide +kernel) rfl rfl ?_
  refine ar_getFV (pc := 30) (a := 294) (b := 302) 7 25 (by decide +kernel) k_294 rfl (by decide) wf_RX7_39 rfl (fun _ => rfl) rfl ?_
  refine ar_iconst (pc := 33) (z := 0) (by decide +kernel) (by unfold am_i32; omega) ?_
  refine ar_lald (pc := 34) (a := 302) (i := 0) (by decide +kernel) k_302 (by decide) (am_lt_eq (b := 330) (by decide) (l_302).symm) ?_
  obtain ⟨g5, H⟩ := H
  obtain ⟨g6, H⟩ := H
  refine ar_last (pc := 35) (a := 316) (i := (am_w32 ((am_w32 (8 * (h 294 43))) + v2))) (z := (h4 302 0)) (by decide +kernel) k_316 g5 (am_lt_eq g6 (l_316).symm) ?_
  refine ar_aload_n (pc := 36) (i := 0) (k0 := 0) (by decide +kernel) rfl rfl ?_
  refine ar_iload_n (pc := 37) (i := 1) (k0 := 1) (by decide +kernel) rfl rfl ?_
  refine ar_aload_n (pc := 38) (i := 0) (k0 := 0) (by decide +kernel) rfl rfl ?_
  refine ar_getFV (pc := 39) (a := 294) (b := 305) 7 28 (by decide +kernel) k_294 rfl (by decide) wf_RX7_49 rfl (fun _ => rfl) rfl ?_
  refine ar_iload_n (pc := 42) (i := 2) (k0 := 2) (by decide +kernel) rfl rfl ?_
  refine ar_ialdV (pc := 43) (a := 305) (i := v2) (v := (h4 305 v2)) (by first | rfl | (simp [am_up, am_cp]; done) | (simp [am_up, am_cp] <;> intros <;> omega)) (by decide +kernel) k_305 g1 (am_lt_eq g2 (l_305).symm) ?_
  refine ar_iconst (pc := 44) (z := 2) (by decide +kernel) (by unfold am_i32; omega) ?_
  refine ar_callV (pc := 45) (M2 := M_X7_sumOf) (a := 294) (ci := 7) (as := [.inl v1, .inl (h4 305 v2), .inl 2]) (n2 := 321) (st := []) (by decide +kernel) rfl wm_RX7_338 wi_yX7_sumOf wl_yX7_sumOf k_294 rfl wz_RX7 wc_yX7_sumOf ⟨by decide, by decide, rfl⟩ (by decide) (Nat.le_of_ble_eq_true rfl) (Nat.le_refl _) (Nat.le_refl _) (am_Cl_mono H (fun r7 h8 H => ?_))
  show am_Wp true (d + 1) M_X7_readSum 321 321 h0 Q 48 [some (.inr (.inr 294)), some (.inl v1), some (.inl v2), some (.inl (am_w32 ((am_w32 (8 * (h 294 43))) + v2))), some (.inr (.inl r3)), none, none, none, none, none, none, none, none, none] [.inr (.inl r7)] 321 h8
  refine ar_lstore (pc := 48) (i := 6) (ls2 := [some (.inr (.inr 294)), some (.inl v1), some (.inl v2), some (.inl (am_w32 ((am_w32 (8 * (h 294 43))) + v2))), some (.inr (.inl r3)), none, some (.inr (.inl r7)), none, none, none, none, none, none, none]) (by decide +kernel) (by decide) rfl ?_
  refine ar_aload_n (pc := 50) (i := 0) (k0 := 0) (by decide +kernel) rfl rfl ?_
  refine ar_getFV (pc := 51) (a := 294) (b := 316) 7 42 (by decide +kernel) k_294 rfl (by decide) wf_RX7_82 rfl (fun _ => rfl) rfl ?_
  refine ar_iload_n (pc := 54) (i := 3) (k0 := 3) (by decide +kernel) rfl rfl ?_
  refine ar_dup2 (pc := 55) (by decide +kernel) trivial trivial ?_
  refine ar_lald (pc := 56) (a := 316) (i := (am_w32 ((am_w32 (8 * (h 294 43))) + v2))) (by decide +kernel) k_316 g5 (am_lt_eq g6 (l_316).symm) ?_
  refine ar_aload_n (pc := 57) (i := 0) (k0 := 0) (by decide +kernel) rfl rfl ?_
  refine ar_getFV (pc := 58) (a := 294) (b := 302) 7 25 (by decide +kernel) k_294 rfl (by decide) wf_RX7_39 rfl (fun _ => rfl) rfl ?_
  refine ar_iconst (pc := 61) (z := 0) (by decide +kernel) (by unfold am_i32; omega) ?_
  refine ar_lald (pc := 62) (a := 302) (i := 0) (by decide +kernel) k_302 (by decide) (am_lt_eq (b := 330) (by decide) (l_302).symm) ?_
  refine ar_lor (pc := 63) (x := (h8 316 (am_w32 ((am_w32 (8 * (h 294 43))) + v2)))) (y := (h8 302 0)) (by decide +kernel) ?_
  refine ar_last (pc := 64) (a := 316) (i := (am_w32 ((am_w32 (8 * (h 294 43))) + v2))) (z := (am_lor (h8 316 (am_w32 ((am_w32 (8 * (h 294 43))) + v2))) (h8 302 0))) (by decide +kernel) k_316 g5 (am_lt_eq g6 (l_316).symm) ?_
  refine ar_aload_n (pc := 65) (i := 0) (k0 := 0) (by decide +kernel) rfl rfl ?_
  refine ar_iload_n (pc := 66) (i := 1) (k0 := 1) (by decide +kernel) rfl rfl ?_
  refine ar_aload_n (pc := 67) (i := 0) (k0 := 0) (by decide +kernel) rfl rfl ?_
  refine ar_getFV (pc := 68) (a := 294) (b := 305) 7 28 (by decide +kernel) k_294 rfl (by decide) wf_RX7_49 rfl (fun _ => rfl) rfl ?_
  refine ar_iload_n (pc := 71) (i := 2) (k0 := 2) (by decide +kernel) rfl rfl ?_
  refine ar_ialdV (pc := 72) (a := 305) (i := v2) (v := (h8 305 v2)) (by first | rfl | (simp [am_up, am_cp]; done) | (simp [am_up, am_cp] <;> intros <;> omega)) (by decide +kernel) k_305 g1 (am_lt_eq g2 (l_305).symm) ?_
  refine ar_iconst (pc := 73) (z := 1) (by decide +kernel) (by unfold am_i32; omega) ?_
  refine ar_callV (pc := 74) (M2 := M_X7_sumOf) (a := 294) (ci := 7) (as := [.inl v1, .inl (h8 305 v2), .inl 1]) (n2 := 321) (st := []) (by decide +kernel) rfl wm_RX7_338 wi_yX7_sumOf wl_yX7_sumOf k_294 rfl wz_RX7 wc_yX7_sumOf ⟨by decide, by decide, rfl⟩ (by decide) (Nat.le_of_ble_eq_true rfl) (Nat.le_refl _) (Nat.le_refl _) (am_Cl_mono H (fun r9 h10 H => ?_))
  show am_Wp true (d + 1) M_X7_readSum 321 321 h0 Q 77 [some (.inr (.inr 294)), some (.inl v1), some (.inl v2), some (.inl (am_w32 ((am_w32 (8 * (h 294 43))) + v2))), some (.inr (.inl r3)), none, some (.inr (.inl r7)), none, none, none, none, none, none, none] [.inr (.inl r9)] 321 h10
  refine ar_lstore (pc := 77) (i := 8) (ls2 := [some (.inr (.inr 294)), some (.inl v1), some (.inl v2), some (.inl (am_w32 ((am_w32 (8 * (h 294 43))) + v2))), some (.inr (.inl r3)), none, some (.inr (.inl r7)), none, some (.inr (.inl r9)), none, none, none, none, none]) (by decide +kernel) (by decide) rfl ?_
  refine ar_aload_n (pc := 79) (i := 0) (k0 := 0) (by decide +kernel) rfl rfl ?_
  refine ar_getFV (pc := 80) (a := 294) (b := 316) 7 42 (by decide +kernel) k_294 rfl (by decide) wf_RX7_82 rfl (fun _ => rfl) rfl ?_
  refine ar_iload_n (pc := 83) (i := 3) (k0 := 3) (by decide +kernel) rfl rfl ?_
  refine ar_dup2 (pc := 84) (by decide +kernel) trivial trivial ?_
  refine ar_lald (pc := 85) (a := 316) (i := (am_w32 ((am_w32 (8 * (h 294 43))) + v2))) (by decide +kernel) k_316 g5 (am_lt_eq g6 (l_316).symm) ?_
  refine ar_aload_n (pc := 86) (i := 0) (k0 := 0) (by decide +kernel) rfl rfl ?_
  refine ar_getFV (pc := 87) (a := 294) (b := 302) 7 25 (by decide +kernel) k_294 rfl (by decide) wf_RX7_39 rfl (fun _ => rfl) rfl ?_
  refine ar_iconst (pc := 90) (z := 0) (by decide +kernel) (by unfold am_i32; omega) ?_
  refine ar_lald (pc := 91) (a := 302) (i := 0) (by decide +kernel) k_302 (by decide) (am_lt_eq (b := 330) (by decide) (l_302).symm) ?_
  refine ar_lor (pc := 92) (x := (h10 316 (am_w32 ((am_w32 (8 * (h 294 43))) + v2)))) (y := (h10 302 0)) (by decide +kernel) ?_
  refine ar_last (pc := 93) (a := 316) (i := (am_w32 ((am_w32 (8 * (h 294 43))) + v2))) (z := (am_lor (h10 316 (am_w32 ((am_w32 (8 * (h 294 43))) + v2))) (h10 302 0))) (by decide +kernel) k_316 g5 (am_lt_eq g6 (l_316).symm) ?_
  refine ar_lload (pc := 94) (i := 6) (by decide +kernel) rfl ?_
  refine ar_lload (pc := 96) (i := 8) (by decide +kernel) rfl ?_
  refine ar_aload_n (pc := 98) (i := 0) (k0 := 0) (by decide +kernel) rfl rfl ?_
  refine ar_getFV (pc := 99) (a := 294) (b := 309) 7 35 (by decide +kernel) k_294 rfl (by decide) wf_RX7_61 rfl (fun _ => rfl) rfl ?_
  refine ar_aload_n (pc := 102) (i := 0) (k0 := 0) (by decide +kernel) rfl rfl ?_
  refine ar_getV (pc := 103) (a := 294) (v := .inl (h10 294 43)) 7 43 (by decide +kernel) k_294 rfl (by decide) wf_RX7_363 (by first | rfl | (simp [am_tv, am_ty, tyX7, am_up, am_cp]; done) | (simp [am_tv, am_ty, tyX7, am_up, am_cp] <;> intros <;> omega)) ?_
  obtain ⟨g11, H⟩ := H
  obtain ⟨g12, H⟩ := H
  refine ar_ialdV (pc := 106) (a := 309) (i := (h10 294 43)) (v := (h10 309 (h10 294 43))) (by first | rfl | (simp [am_up, am_cp]; done) | (simp [am_up, am_cp] <;> intros <;> omega)) (by decide +kernel) k_309 g11 (am_lt_eq g12 (l_309).symm) ?_
  refine ar_callS (pc := 107) (M2 := M_X7_isWithin) (as := [.inr (.inl r7), .inr (.inl r9), .inl (h10 309 (h10 294 43))]) (n2 := 321) (st := []) (by decide +kernel) rfl wm_RX7_369 ws_yX7_isWithin wz_RX7 wc_yX7_isWithin ⟨by decide, by decide, rfl⟩ (by decide) (Nat.le_of_ble_eq_true rfl) (Nat.le_refl _) (Nat.le_refl _) (am_Cl_mono H (fun r13 h14 H => ?_))
  show am_Wp true (d + 1) M_X7_readSum 321 321 h0 Q 110 [some (.inr (.inr 294)), some (.inl v1), some (.inl v2), some (.inl (am_w32 ((am_w32 (8 * (h 294 43))) + v2))), some (.inr (.inl r3)), none, some (.inr (.inl r7)), none, some (.inr (.inl r9)), none, none, none, none, none] [.inl r13] 321 h14
  refine ar_if_eq (pc := 110) (x := r13) (tgt := 134) (off := 24) (by decide +kernel) (by decide) (fun c15 => ?_) (fun c15 => ?_)
  · replace H := H.1 c15
    exact ar_vret (pc := 134) (by decide +kernel) rfl rfl H
  · replace H := H.2 c15
    refine ar_lload (pc := 113) (i := 4) (by decide +kernel) rfl ?_
    refine ar_lload (pc := 115) (i := 4) (by decide +kernel) rfl ?_
    refine ar_lconst (pc := 117) (i := 1) (z := 1) (by decide +kernel) rfl ?_
    refine ar_ladd (pc := 118) (x := r3) (y := 1) (by decide +kernel) ?_
    refine ar_aload_n (pc := 119) (i := 0) (k0 := 0) (by decide +kernel) rfl rfl ?_
    refine ar_getFV (pc := 120) (a := 294) (b := 309) 7 35 (by decide +kernel) k_294 rfl (by decide) wf_RX7_61 rfl (fun _ => rfl) rfl ?_
    refine ar_aload_n (pc := 123) (i := 0) (k0 := 0) (by decide +kernel) rfl rfl ?_
    refine ar_getV (pc := 124) (a := 294) (v := .inl (h14 294 43)) 7 43 (by decide +kernel) k_294 rfl (by decide) wf_RX7_363 rfl ?_
    obtain ⟨g16, H⟩ := H
    obtain ⟨g17, H⟩ := H
    refine ar_iald (pc := 127) (a := 309) (i := (h14 294 43)) (by decide +kernel) k_309 g16 (am_lt_eq g17 (l_309).symm) ?_
    refine ar_callS (pc := 128) (M2 := M_X7_isWithin) (as := [.inr (.inl r3), .inr (.inl (am_w64 (r3 + 1))), .inl (h14 309 (h14 294 43))]) (n2 := 321) (st := []) (by decide +kernel) rfl wm_RX7_369 ws_yX7_isWithin wz_RX7 wc_yX7_isWithin ⟨by decide, by decide, rfl⟩ (by decide) (Nat.le_of_ble_eq_true rfl) (Nat.le_refl _) (Nat.le_refl _) (am_Cl_mono H (fun r18 h19 H => ?_))
    show am_Wp true (d + 1) M_X7_readSum 321 321 h0 Q 131 [some (.inr (.inr 294)), some (.inl v1), some (.inl v2), some (.inl (am_w32 ((am_w32 (8 * (h 294 43))) + v2))), some (.inr (.inl r3)), none, some (.inr (.inl r7)), none, some (.inr (.inl r9)), none, none, none, none, none] [.inl r18] 321 h19
    refine ar_if_ne (pc := 131) (x := r18) (tgt := 135) (off := 4) (by decide +kernel) (by decide) (fun c20 => ?_) (fun c20 => ?_)
    · replace H := H.1 c20
      refine ar_aload_n (pc := 135) (i := 0) (k0 := 0) (by decide +kernel) rfl rfl ?_
      refine ar_getFV (pc := 136) (a := 294) (b := 308) 7 34 (by decide +kernel) k_294 rfl (by decide) wf_RX7_58 rfl (fun _ => rfl) rfl ?_
      refine ar_aload_n (pc := 139) (i := 0) (k0 := 0) (by decide +kernel) rfl rfl ?_
      refine ar_getV (pc := 140) (a := 294) (v := .inl (h19 294 43)) 7 43 (by decide +kernel) k_294 rfl (by decide) wf_RX7_363 rfl ?_
      obtain ⟨g21, H⟩ := H
      obtain ⟨g22, H⟩ := H
      refine ar_iald (pc := 143) (a := 308) (i := (h19 294 43)) (by decide +kernel) k_308 g21 (am_lt_eq g22 (l_308).symm) ?_
      refine ar_lload (pc := 144) (i := 4) (by decide +kernel) rfl ?_
      refine ar_l2i (pc := 146) (x := r3) (by decide +kernel) ?_
      refine ar_iadd (pc := 147) (x := (h19 308 (h19 294 43))) (y := (am_l2i r3)) (by decide +kernel) ?_
      refine ar_istore (pc := 148) (i := 10) (ls2 := [some (.inr (.inr 294)), some (.inl v1), some (.inl v2), some (.inl (am_w32 ((am_w32 (8 * (h 294 43))) + v2))), some (.inr (.inl r3)), none, some (.inr (.inl r7)), none, some (.inr (.inl r9)), none, some (.inl (am_w32 ((h19 308 (h19 294 43)) + (am_l2i r3)))), none, none, none]) (by decide +kernel) (by decide) rfl ?_
      refine ar_aload_n (pc := 150) (i := 0) (k0 := 0) (by decide +kernel) rfl rfl ?_
      refine ar_getFV (pc := 151) (a := 294) (b := 308) 7 34 (by decide +kernel) k_294 rfl (by decide) wf_RX7_58 rfl (fun _ => rfl) rfl ?_
      refine ar_aload_n (pc := 154) (i := 0) (k0 := 0) (by decide +kernel) rfl rfl ?_
      refine ar_getV (pc := 155) (a := 294) (v := .inl (h19 294 43)) 7 43 (by decide +kernel) k_294 rfl (by decide) wf_RX7_363 rfl ?_
      refine ar_iald (pc := 158) (a := 308) (i := (h19 294 43)) (by decide +kernel) k_308 g21 (am_lt_eq g22 (l_308).symm) ?_
      refine ar_lload (pc := 159) (i := 6) (by decide +kernel) rfl ?_
      refine ar_l2i (pc := 161) (x := r7) (by decide +kernel) ?_
      refine ar_iadd (pc := 162) (x := (h19 308 (h19 294 43))) (y := (am_l2i r7)) (by decide +kernel) ?_
      refine ar_istore (pc := 163) (i := 11) (ls2 := [some (.inr (.inr 294)), some (.inl v1), some (.inl v2), some (.inl (am_w32 ((am_w32 (8 * (h 294 43))) + v2))), some (.inr (.inl r3)), none, some (.inr (.inl r7)), none, some (.inr (.inl r9)), none, some (.inl (am_w32 ((h19 308 (h19 294 43)) + (am_l2i r3)))), some (.inl (am_w32 ((h19 308 (h19 294 43)) + (am_l2i r7)))), none, none]) (by decide +kernel) (by decide) rfl ?_
      refine ar_aload_n (pc := 165) (i := 0) (k0 := 0) (by decide +kernel) rfl rfl ?_
      refine ar_getFV (pc := 166) (a := 294) (b := 308) 7 34 (by decide +kernel) k_294 rfl (by decide) wf_RX7_58 rfl (fun _ => rfl) rfl ?_
      refine ar_aload_n (pc := 169) (i := 0) (k0 := 0) (by decide +kernel) rfl rfl ?_
      refine ar_getV (pc := 170) (a := 294) (v := .inl (h19 294 43)) 7 43 (by decide +kernel) k_294 rfl (by decide) wf_RX7_363 rfl ?_
      refine ar_iald (pc := 173) (a := 308) (i := (h19 294 43)) (by decide +kernel) k_308 g21 (am_lt_eq g22 (l_308).symm) ?_
      refine ar_lload (pc := 174) (i := 8) (by decide +kernel) rfl ?_
      refine ar_l2i (pc := 176) (x := r9) (by decide +kernel) ?_
      refine ar_iadd (pc := 177) (x := (h19 308 (h19 294 43))) (y := (am_l2i r9)) (by decide +kernel) ?_
      refine ar_istore (pc := 178) (i := 12) (ls2 := [some (.inr (.inr 294)), some (.inl v1), some (.inl v2), some (.inl (am_w32 ((am_w32 (8 * (h 294 43))) + v2))), some (.inr (.inl r3)), none, some (.inr (.inl r7)), none, some (.inr (.inl r9)), none, some (.inl (am_w32 ((h19 308 (h19 294 43)) + (am_l2i r3)))), some (.inl (am_w32 ((h19 308 (h19 294 43)) + (am_l2i r7)))), some (.inl (am_w32 ((h19 308 (h19 294 43)) + (am_l2i r9)))), none]) (by decide +kernel) (by decide) rfl ?_
      refine ar_aload_n (pc := 180) (i := 0) (k0 := 0) (by decide +kernel) rfl rfl ?_
      refine ar_iload (pc := 181) (i := 11) (by decide +kernel) rfl ?_
      refine ar_iload (pc := 183) (i := 12) (by decide +kernel) rfl ?_
      refine ar_callV (pc := 185) (M2 := M_X7_bytesFrom) (a := 294) (ci := 7) (as := [.inl (am_w32 ((h19 308 (h19 294 43)) + (am_l2i r7))), .inl (am_w32 ((h19 308 (h19 294 43)) + (am_l2i r9)))]) (n2 := 321) (st := []) (by decide +kernel) rfl wm_RX7_385 wi_yX7_bytesFrom wl_yX7_bytesFrom k_294 rfl wz_RX7 wc_yX7_bytesFrom ⟨by decide, by decide, rfl⟩ (by decide) (Nat.le_of_ble_eq_true rfl) (Nat.le_refl _) (Nat.le_refl _) (am_Cl_mono H (fun r23 h24 H => ?_))
      show am_Wp true (d + 1) M_X7_readSum 321 321 h0 Q 188 [some (.inr (.inr 294)), some (.inl v1), some (.inl v2), some (.inl (am_w32 ((am_w32 (8 * (h 294 43))) + v2))), some (.inr (.inl r3)), none, some (.inr (.inl r7)), none, some (.inr (.inl r9)), none, some (.inl (am_w32 ((h19 308 (h19 294 43)) + (am_l2i r3)))), some (.inl (am_w32 ((h19 308 (h19 294 43)) + (am_l2i r7)))), some (.inl (am_w32 ((h19 308 (h19 294 43)) + (am_l2i r9)))), none] [.inl r23] 321 h24
      refine ar_iload (pc := 188) (i := 10) (by decide +kernel) rfl ?_
      refine ar_iload (pc := 190) (i := 11) (by decide +kernel) rfl ?_
      refine ar_iload (pc := 192) (i := 12) (by decide +kernel) rfl ?_
      refine ar_iconst (pc := 194) (z := 1) (by decide +kernel) (by unfold am_i32; omega) ?_
      refine ar_isub (pc := 195) (x := (am_w32 ((h19 308 (h19 294 43)) + (am_l2i r9)))) (y := 1) (by decide +kernel) ?_
      refine ar_callS (pc := 196) (M2 := M_X7_isIn) (as := [.inl (am_w32 ((h19 308 (h19 294 43)) + (am_l2i r3))), .inl (am_w32 ((h19 308 (h19 294 43)) + (am_l2i r7))), .inl (am_w32 ((am_w32 ((h19 308 (h19 294 43)) + (am_l2i r9))) - 1))]) (n2 := 321) (st := [.inl r23]) (by decide +kernel) rfl wm_RX7_108 ws_yX7_isIn wz_RX7 wc_yX7_isIn ⟨by decide, by decide, rfl⟩ (by decide) (Nat.le_of_ble_eq_true rfl) (Nat.le_refl _) (Nat.le_refl _) (am_Cl_mono H (fun r25 h26 H => ?_))
      show am_Wp true (d + 1) M_X7_readSum 321 321 h0 Q 199 [some (.inr (.inr 294)), some (.inl v1), some (.inl v2), some (.inl (am_w32 ((am_w32 (8 * (h 294 43))) + v2))), some (.inr (.inl r3)), none, some (.inr (.inl r7)), none, some (.inr (.inl r9)), none, some (.inl (am_w32 ((h19 308 (h19 294 43)) + (am_l2i r3)))), some (.inl (am_w32 ((h19 308 (h19 294 43)) + (am_l2i r7)))), some (.inl (am_w32 ((h19 308 (h19 294 43)) + (am_l2i r9)))), none] [.inl r25, .inl r23] 321 h26
      refine ar_if_eq (pc := 199) (x := r25) (tgt := 215) (off := 16) (by decide +kernel) (by decide) (fun c27 => ?_) (fun c27 => ?_)
      · replace H := H.1 c27
        refine ar_iconst (pc := 215) (z := 0) (by decide +kernel) (by unfold am_i32; omega) ?_
        refine ar_forget [true, false, false, true, true, true, false, true, false, true, true, true, true, true] rfl ?_
        exact H h0
      · replace H := H.2 c27
        refine ar_aload_n (pc := 202) (i := 0) (k0 := 0) (by decide +kernel) rfl rfl ?_
        refine ar_getFV (pc := 203) (a := 294) (b := 295) 7 0 (by decide +kernel) k_294 rfl (by decide) wf_RX7_7 rfl (fun _ => rfl) rfl ?_
        refine ar_bipush (pc := 206) (z := 8) (by decide +kernel) (by omega) ?_
        refine ar_iload (pc := 208) (i := 10) (by decide +kernel) rfl ?_
        refine ar_iadd (pc := 210) (x := 8) (y := (am_w32 ((h19 308 (h19 294 43)) + (am_l2i r3)))) (by decide +kernel) ?_
        obtain ⟨g28, H⟩ := H
        obtain ⟨g29, H⟩ := H
        refine ar_iald (pc := 211) (a := 295) (i := (am_w32 (8 + (am_w32 ((h19 308 (h19 294 43)) + (am_l2i r3)))))) (by decide +kernel) k_295 g28 (am_lt_eq g29 (l_295).symm) ?_
        refine ar_goto (pc := 212) (tgt := 216) (off := 4) (by decide +kernel) (by decide) ?_
        refine ar_forget [true, false, false, true, true, true, false, true, false, true, true, true, true, true] rfl ?_
        exact H h0
    · replace H := H.2 c20
      exact ar_vret (pc := 134) (by decide +kernel) rfl rfl H
theorem B_X7_readSum_216 {d : Nat} {Q : Int → am_H → Prop} {h : am_H} {v3 v4 v10 v11 v12 s0 s1 : Int} (H : (0 ≤ (am_w32 (8 + v10))) ∧ (((am_w32 (8 + v10)) < 2159) ∧ ((¬ (am_w32 ((am_w32 (s0 - s1)).tmod 256)) = (h 295 (am_w32 (8 + v10))) → wf (d + 1) M_X7_readSum Q 255 [some (.inr (.inr 294)), none, none, some (.inl v3), none, none, none, none, none, none, some (.inl v10), some (.inl v11), some (.inl v12), none] [.inl 2, .inl (am_w32 ((am_w32 (s0 - s1)).tmod 256)), .inl (am_w32 ((am_l2i v4) + 1)), .inl (am_l2i v4), .inl v3, .inr (.inr 294)] h) ∧ ((am_w32 ((am_w32 (s0 - s1)).tmod 256)) = (h 295 (am_w32 (8 + v10))) → wf (d + 1) M_X7_readSum Q 255 [some (.inr (.inr 294)), none, none, some (.inl v3), none, none, none, none, none, none, some (.inl v10), some (.inl v11), some (.inl v12), none] [.inl 0, .inl (am_w32 ((am_w32 (s0 - s1)).tmod 256)), .inl (am_w32 ((am_l2i v4) + 1)), .inl (am_l2i v4), .inl v3, .inr (.inr 294)] h)))) : wf (d + 1) M_X7_readSum Q 216 [some (.inr (.inr 294)), none, none, some (.inl v3), some (.inr (.inl v4)), none, none, none, none, none, some (.inl v10), some (.inl v11), some (.inl v12), none] [.inl s1, .inl s0] h := by
  intro h0
  refine ar_isub (pc := 216) (x := s0) (y := s1) (by decide +kernel) ?_
  refine ar_sipush (pc := 217) (z := 256) (by decide +kernel) (by omega) ?_
  refine ar_irem (pc := 220) (x := (am_w32 (s0 - s1))) (y := 256) (by decide +kernel) (by decide) ?_
  refine ar_istore (pc := 221) (i := 13) (ls2 := [some (.inr (.inr 294)), none, none, some (.inl v3), some (.inr (.inl v4)), none, none, none, none, none, some (.inl v10), some (.inl v11), some (.inl v12), some (.inl (am_w32 ((am_w32 (s0 - s1)).tmod 256)))]) (by decide +kernel) (by decide) rfl ?_
  refine ar_aload_n (pc := 223) (i := 0) (k0 := 0) (by decide +kernel) rfl rfl ?_
  refine ar_iload_n (pc := 224) (i := 3) (k0 := 3) (by decide +kernel) rfl rfl ?_
  refine ar_lload (pc := 225) (i := 4) (by decide +kernel) rfl ?_
  refine ar_l2i (pc := 227) (x := v4) (by decide +kernel) ?_
  refine ar_lload (pc := 228) (i := 4) (by decide +kernel) rfl ?_
  refine ar_l2i (pc := 230) (x := v4) (by decide +kernel) ?_
  refine ar_iconst (pc := 231) (z := 1) (by decide +kernel) (by unfold am_i32; omega) ?_
  refine ar_iadd (pc := 232) (x := (am_l2i v4)) (y := 1) (by decide +kernel) ?_
  refine ar_iload (pc := 233) (i := 13) (by decide +kernel) rfl ?_
  refine ar_iload (pc := 235) (i := 13) (by decide +kernel) rfl ?_
  refine ar_aload_n (pc := 237) (i := 0) (k0 := 0) (by decide +kernel) rfl rfl ?_
  refine ar_getFV (pc := 238) (a := 294) (b := 295) 7 0 (by decide +kernel) k_294 rfl (by decide) wf_RX7_7 rfl (fun _ => rfl) rfl ?_
  refine ar_bipush (pc := 241) (z := 8) (by decide +kernel) (by omega) ?_
  refine ar_iload (pc := 243) (i := 10) (by decide +kernel) rfl ?_
  refine ar_iadd (pc := 245) (x := 8) (y := v10) (by decide +kernel) ?_
  obtain ⟨g1, H⟩ := H
  obtain ⟨g2, H⟩ := H
  refine ar_iald (pc := 246) (a := 295) (i := (am_w32 (8 + v10))) (by decide +kernel) k_295 g1 (am_lt_eq g2 (l_295).symm) ?_
  refine ar_icmp_ne (pc := 247) (x := (am_w32 ((am_w32 (s0 - s1)).tmod 256))) (y := (h 295 (am_w32 (8 + v10)))) (tgt := 254) (off := 7) (by decide +kernel) (by decide) (fun c3 => ?_) (fun c3 => ?_)
  · replace H := H.1 c3
    refine ar_iconst (pc := 254) (z := 2) (by decide +kernel) (by unfold am_i32; omega) ?_
    refine ar_forget [true, true, true, true, false, true, true, true, true, true, true, true, true, false] rfl ?_
    exact H h0
  · replace H := H.2 c3
    refine ar_iconst (pc := 250) (z := 0) (by decide +kernel) (by unfold am_i32; omega) ?_
    refine ar_goto (pc := 251) (tgt := 255) (off := 4) (by decide +kernel) (by decide) ?_
    refine ar_forget [true, true, true, true, false, true, true, true, true, true, true, true, true, false] rfl ?_
    exact H h0
theorem B_X7_readSum_255 {d : Nat} {Q : Int → am_H → Prop} {h : am_H} {v3 v10 v11 v12 s1 s2 s3 s4 s5 : Int} (H : cf d M_X7_settleField [.inr (.inr 294), .inl s1, .inl s2, .inl s3, .inl s4, .inl s5] h (fun _ h2 => (0 ≤ v3) ∧ ((v3 < 24) ∧ (cf d M_X7_bitsFrom [.inl v11, .inl v12] h2 (fun r5 h6 => Q 0 (am_up h6 316 v3 (am_lor (h2 316 v3) (am_lor r5 (am_lshl 1 v10))))))))) : wf (d + 1) M_X7_readSum Q 255 [some (.inr (.inr 294)), none, none, some (.inl v3), none, none, none, none, none, none, some (.inl v10), some (.inl v11), some (.inl v12), none] [.inl s5, .inl s4, .inl s3, .inl s2, .inl s1, .inr (.inr 294)] h := by
  intro h0
  refine ar_callV (pc := 255) (M2 := M_X7_settleField) (a := 294) (ci := 7) (as := [.inl s1, .inl s2, .inl s3, .inl s4, .inl s5]) (n2 := 321) (st := []) (by decide +kernel) rfl wm_RX7_378 wi_yX7_settleField wl_yX7_settleField k_294 rfl wz_RX7 wc_yX7_settleField ⟨by decide, by decide, rfl⟩ (by decide) (Nat.le_of_ble_eq_true rfl) (Nat.le_refl _) (Nat.le_refl _) (am_Cl_mono H (fun r1 h2 H => ?_))
  show am_Wp true (d + 1) M_X7_readSum 321 321 h0 Q 258 [some (.inr (.inr 294)), none, none, some (.inl v3), none, none, none, none, none, none, some (.inl v10), some (.inl v11), some (.inl v12), none] [] 321 h2
  refine ar_aload_n (pc := 258) (i := 0) (k0 := 0) (by decide +kernel) rfl rfl ?_
  refine ar_getFV (pc := 259) (a := 294) (b := 316) 7 42 (by decide +kernel) k_294 rfl (by decide) wf_RX7_82 rfl (fun _ => rfl) rfl ?_
  refine ar_iload_n (pc := 262) (i := 3) (k0 := 3) (by decide +kernel) rfl rfl ?_
  refine ar_dup2 (pc := 263) (by decide +kernel) trivial trivial ?_
  obtain ⟨g3, H⟩ := H
  obtain ⟨g4, H⟩ := H
  refine ar_lald (pc := 264) (a := 316) (i := v3) (by decide +kernel) k_316 g3 (am_lt_eq g4 (l_316).symm) ?_
  refine ar_iload (pc := 265) (i := 11) (by decide +kernel) rfl ?_
  refine ar_iload (pc := 267) (i := 12) (by decide +kernel) rfl ?_
  refine ar_callS (pc := 269) (M2 := M_X7_bitsFrom) (as := [.inl v11, .inl v12]) (n2 := 321) (st := [.inr (.inl (h2 316 v3)), .inl v3, .inr (.inr 316)]) (by decide +kernel) rfl wm_RX7_382 ws_yX7_bitsFrom wz_RX7 wc_yX7_bitsFrom ⟨by decide, by decide, rfl⟩ (by decide) (Nat.le_of_ble_eq_true rfl) (Nat.le_refl _) (Nat.le_refl _) (am_Cl_mono H (fun r5 h6 H => ?_))
  show am_Wp true (d + 1) M_X7_readSum 321 321 h0 Q 272 [some (.inr (.inr 294)), none, none, some (.inl v3), none, none, none, none, none, none, some (.inl v10), some (.inl v11), some (.inl v12), none] [.inr (.inl r5), .inr (.inl (h2 316 v3)), .inl v3, .inr (.inr 316)] 321 h6
  refine ar_lconst (pc := 272) (i := 1) (z := 1) (by decide +kernel) rfl ?_
  refine ar_iload (pc := 273) (i := 10) (by decide +kernel) rfl ?_
  refine ar_lshl (pc := 275) (x := 1) (y := v10) (by decide +kernel) ?_
  refine ar_lor (pc := 276) (x := r5) (y := (am_lshl 1 v10)) (by decide +kernel) ?_
  refine ar_lor (pc := 277) (x := (h2 316 v3)) (y := (am_lor r5 (am_lshl 1 v10))) (by decide +kernel) ?_
  refine ar_last (pc := 278) (a := 316) (i := v3) (z := (am_lor (h2 316 v3) (am_lor r5 (am_lshl 1 v10)))) (by decide +kernel) k_316 g3 (am_lt_eq g4 (l_316).symm) ?_
  exact ar_vret (pc := 279) (by decide +kernel) rfl rfl H

/-! ByteIntervalsModel.isNestBegun(II)Z -/
theorem B_X7_isNestBegun_0 {d : Nat} {Q : Int → am_H → Prop} {h : am_H} {v1 v2 : Int} (H : (0 ≤ v2) ∧ ((v2 < 8) ∧ (cf d M_X7_sumOf [.inr (.inr 294), .inl v1, .inl (h 305 v2), .inl 0] h (fun r3 h4 => (0 ≤ (am_w32 ((am_w32 (8 * (h 294 43))) + v2))) ∧ (((am_w32 ((am_w32 (8 * (h 294 43))) + v2)) < 24) ∧ (cf d M_X7_sumOf [.inr (.inr 294), .inl v1, .inl (h4 305 v2), .inl 1] (am_up h4 316 (am_w32 ((am_w32 (8 * (h 294 43))) + v2)) (h4 302 0)) (fun r7 h8 => (0 ≤ (h8 294 43)) ∧ (((h8 294 43) < 3) ∧ (cf d M_X7_isWithin [.inr (.inl r3), .inr (.inl r7), .inl (h8 309 (h8 294 43))] (am_up h8 316 (am_w32 ((am_w32 (8 * (h 294 43))) + v2)) (am_lor (h8 316 (am_w32 ((am_w32 (8 * (h 294 43))) + v2))) (h8 302 0))) (fun r11 h12 => (r11 = 0 → Q 0 h12) ∧ (¬ r11 = 0 → (0 ≤ (h12 294 43)) ∧ (((h12 294 43) < 3) ∧ ((0 ≤ (am_lcmp (am_w64 (r7 - r3)) (h12 309 (h12 294 43))) → Q 0 h12) ∧ ((am_lcmp (am_w64 (r7 - r3)) (h12 309 (h12 294 43))) < 0 → (¬ (h12 294 43) = 2 → cf d M_X7_beginLevel [.inr (.inr 294), .inl (am_w32 ((h12 294 43) + 1)), .inl (am_w32 ((h12 308 (h12 294 43)) + (am_l2i r3))), .inl (am_l2i (am_w64 (r7 - r3)))] (am_up (am_up h12 313 (am_w32 ((am_w32 (8 * (h 294 43))) + v2)) (am_l2i r3)) 314 (am_w32 ((am_w32 (8 * (h 294 43))) + v2)) (am_l2i r7)) (fun _ h19 => Q 1 h19)) ∧ ((h12 294 43) = 2 → Q 0 h12))))))))))))))) : wf (d + 1) M_X7_isNestBegun Q 0 [some (.inr (.inr 294)), some (.inl v1), some (.inl v2), none, none, none, none, none] [] h := by
  intro h0
  refine ar_bipush (pc := 0) (z := 8) (by decide +kernel) (by omega) ?_
  refine ar_aload_n (pc := 2) (i := 0) (k0 := 0) (by decide +kernel) rfl rfl ?_
  refine ar_getV (pc := 3) (a := 294) (v := .inl (h 294 43)) 7 43 (by decide +kernel) k_294 rfl (by decide) wf_RX7_363 rfl ?_
  refine ar_imul (pc := 6) (x := 8) (y := (h 294 43)) (by decide +kernel) ?_
  refine ar_iload_n (pc := 7) (i := 2) (k0 := 2) (by decide +kernel) rfl rfl ?_
  refine ar_iadd (pc := 8) (x := (am_w32 (8 * (h 294 43)))) (y := v2) (by decide +kernel) ?_
  refine ar_istore_n (pc := 9) (i := 3) (k0 := 3) (ls2 := [some (.inr (.inr 294)), some (.inl v1), some (.inl v2), some (.inl (am_w32 ((am_w32 (8 * (h 294 43))) + v2))), none, none, none, none]) (by decide +kernel) rfl (by decide) rfl ?_
  refine ar_aload_n (pc := 10) (i := 0) (k0 := 0) (by decide +kernel) rfl rfl ?_
  refine ar_iload_n (pc := 11) (i := 1) (k0 := 1) (by decide +kernel) rfl rfl ?_
  refine ar_aload_n (pc := 12) (i := 0) (k0 := 0) (by decide +kernel) rfl rfl ?_
  refine ar_getFV (pc := 13) (a := 294) (b := 305) 7 28 (by decide +kernel) k_294 rfl (by decide) wf_RX7_49 rfl (fun _ => rfl) rfl ?_
  refine ar_iload_n (pc := 16) (i := 2) (k0 := 2) (by decide +kernel) rfl rfl ?_
  obtain ⟨g1, H⟩ := H
  obtain ⟨g2, H⟩ := H
  refine ar_iald (pc := 17) (a := 305) (i := v2) (by decide +kernel) k_305 g1 (am_lt_eq g2 (l_305).symm) ?_
  refine ar_iconst (pc := 18) (z := 0) (by decide +kernel) (by unfold am_i32; omega) ?_
  refine ar_callV (pc := 19) (M2 := M_X7_sumOf) (a := 294) (ci := 7) (as := [.inl v1, .inl (h 305 v2), .inl 0]) (n2 := 321) (st := []) (by decide +kernel) rfl wm_RX7_338 wi_yX7_sumOf wl_yX7_sumOf k_294 rfl wz_RX7 wc_yX7_sumOf ⟨by decide, by decide, rfl⟩ (by decide) (Nat.le_of_ble_eq_true rfl) (Nat.le_refl _) (Nat.le_refl _) (am_Cl_mono H (fun r3 h4 H => ?_))
  show am_Wp true (d + 1) M_X7_isNestBegun 321 321 h0 Q 22 [some (.inr (.inr 294)), some (.inl v1), some (.inl v2), some (.inl (am_w32 ((am_w32 (8 * (h 294 43))) + v2))), none, none, none, none] [.inr (.inl r3)] 321 h4
  refine ar_lstore (pc := 22) (i := 4) (ls2 := [some (.inr (.inr 294)), some (.inl v1), some (.inl v2), some (.inl (am_w32 ((am_w32 (8 * (h 294 43))) + v2))), some (.inr (.inl r3)), none, none, none]) (by decide +kernel) (by decide) rfl ?_
  refine ar_aload_n (pc := 24) (i := 0) (k0 := 0) (by decide +kernel) rfl rfl ?_
  refine ar_getFV (pc := 25) (a := 294) (b := 316) 7 42 (by decide +kernel) k_294 rfl (by decide) wf_RX7_82 rfl (fun _ => rfl) rfl ?_
  refine ar_iload_n (pc := 28) (i := 3) (k0 := 3) (by decide +kernel) rfl rfl ?_
  refine ar_aload_n (pc := 29) (i := 0) (k0 := 0) (by decide +kernel) rfl rfl ?_
  refine ar_getFV (pc := 30) (a := 294) (b := 302) 7 25 (by decide +kernel) k_294 rfl (by decide) wf_RX7_39 rfl (fun _ => rfl) rfl ?_
  refine ar_iconst (pc := 33) (z := 0) (by decide +kernel) (by unfold am_i32; omega) ?_
  refine ar_lald (pc := 34) (a := 302) (i := 0) (by decide +kernel) k_302 (by decide) (am_lt_eq (b := 330) (by decide) (l_302).symm) ?_
  obtain ⟨g5, H⟩ := H
  obtain ⟨g6, H⟩ := H
  refine ar_last (pc := 35) (a := 316) (i := (am_w32 ((am_w32 (8 * (h 294 43))) + v2))) (z := (h4 302 0)) (by decide +kernel) k_316 g5 (am_lt_eq g6 (l_316).symm) ?_
  refine ar_aload_n (pc := 36) (i := 0) (k0 := 0) (by decide +kernel) rfl rfl ?_
  refine ar_iload_n (pc := 37) (i := 1) (k0 := 1) (by decide +kernel) rfl rfl ?_
  refine ar_aload_n (pc := 38) (i := 0) (k0 := 0) (by decide +kernel) rfl rfl ?_
  refine ar_getFV (pc := 39) (a := 294) (b := 305) 7 28 (by decide +kernel) k_294 rfl (by decide) wf_RX7_49 rfl (fun _ => rfl) rfl ?_
  refine ar_iload_n (pc := 42) (i := 2) (k0 := 2) (by decide +kernel) rfl rfl ?_
  refine ar_ialdV (pc := 43) (a := 305) (i := v2) (v := (h4 305 v2)) (by first | rfl | (simp [am_up, am_cp]; done) | (simp [am_up, am_cp] <;> intros <;> omega)) (by decide +kernel) k_305 g1 (am_lt_eq g2 (l_305).symm) ?_
  refine ar_iconst (pc := 44) (z := 1) (by decide +kernel) (by unfold am_i32; omega) ?_
  refine ar_callV (pc := 45) (M2 := M_X7_sumOf) (a := 294) (ci := 7) (as := [.inl v1, .inl (h4 305 v2), .inl 1]) (n2 := 321) (st := []) (by decide +kernel) rfl wm_RX7_338 wi_yX7_sumOf wl_yX7_sumOf k_294 rfl wz_RX7 wc_yX7_sumOf ⟨by decide, by decide, rfl⟩ (by decide) (Nat.le_of_ble_eq_true rfl) (Nat.le_refl _) (Nat.le_refl _) (am_Cl_mono H (fun r7 h8 H => ?_))
  show am_Wp true (d + 1) M_X7_isNestBegun 321 321 h0 Q 48 [some (.inr (.inr 294)), some (.inl v1), some (.inl v2), some (.inl (am_w32 ((am_w32 (8 * (h 294 43))) + v2))), some (.inr (.inl r3)), none, none, none] [.inr (.inl r7)] 321 h8
  refine ar_lstore (pc := 48) (i := 6) (ls2 := [some (.inr (.inr 294)), some (.inl v1), some (.inl v2), some (.inl (am_w32 ((am_w32 (8 * (h 294 43))) + v2))), some (.inr (.inl r3)), none, some (.inr (.inl r7)), none]) (by decide +kernel) (by decide) rfl ?_
  refine ar_aload_n (pc := 50) (i := 0) (k0 := 0) (by decide +kernel) rfl rfl ?_
  refine ar_getFV (pc := 51) (a := 294) (b := 316) 7 42 (by decide +kernel) k_294 rfl (by decide) wf_RX7_82 rfl (fun _ => rfl) rfl ?_
  refine ar_iload_n (pc := 54) (i := 3) (k0 := 3) (by decide +kernel) rfl rfl ?_
  refine ar_dup2 (pc := 55) (by decide +kernel) trivial trivial ?_
  refine ar_lald (pc := 56) (a := 316) (i := (am_w32 ((am_w32 (8 * (h 294 43))) + v2))) (by decide +kernel) k_316 g5 (am_lt_eq g6 (l_316).symm) ?_
  refine ar_aload_n (pc := 57) (i := 0) (k0 := 0) (by decide +kernel) rfl rfl ?_
  refine ar_getFV (pc := 58) (a := 294) (b := 302) 7 25 (by decide +kernel) k_294 rfl (by decide) wf_RX7_39 rfl (fun _ => rfl) rfl ?_
  refine ar_iconst (pc := 61) (z := 0) (by decide +kernel) (by unfold am_i32; omega) ?_
  refine ar_lald (pc := 62) (a := 302) (i := 0) (by decide +kernel) k_302 (by decide) (am_lt_eq (b := 330) (by decide) (l_302).symm) ?_
  refine ar_lor (pc := 63) (x := (h8 316 (am_w32 ((am_w32 (8 * (h 294 43))) + v2)))) (y := (h8 302 0)) (by decide +kernel) ?_
  refine ar_last (pc := 64) (a := 316) (i := (am_w32 ((am_w32 (8 * (h 294 43))) + v2))) (z := (am_lor (h8 316 (am_w32 ((am_w32 (8 * (h 294 43))) + v2))) (h8 302 0))) (by decide +kernel) k_316 g5 (am_lt_eq g6 (l_316).symm) ?_
  refine ar_lload (pc := 65) (i := 4) (by decide +kernel) rfl ?_
  refine ar_lload (pc := 67) (i := 6) (by decide +kernel) rfl ?_
  refine ar_aload_n (pc := 69) (i := 0) (k0 := 0) (by decide +kernel) rfl rfl ?_
  refine ar_getFV (pc := 70) (a := 294) (b := 309) 7 35 (by decide +kernel) k_294 rfl (by decide) wf_RX7_61 rfl (fun _ => rfl) rfl ?_
  refine ar_aload_n (pc := 73) (i := 0) (k0 := 0) (by decide +kernel) rfl rfl ?_
  refine ar_getV (pc := 74) (a := 294) (v := .inl (h8 294 43)) 7 43 (by decide +kernel) k_294 rfl (by decide) wf_RX7_363 (by first | rfl | (simp [am_tv, am_ty, tyX7, am_up, am_cp]; done) | (simp [am_tv, am_ty, tyX7, am_up, am_cp] <;> intros <;> omega)) ?_
  obtain ⟨g9, H⟩ := H
  obtain ⟨g10, H⟩ := H
  refine ar_ialdV (pc := 77) (a := 309) (i := (h8 294 43)) (v := (h8 309 (h8 294 43))) (by first | rfl | (simp [am_up, am_cp]; done) | (simp [am_up, am_cp] <;> intros <;> omega)) (by decide +kernel) k_309 g9 (am_lt_eq g10 (l_309).symm) ?_
  refine ar_callS (pc := 78) (M2 := M_X7_isWithin) (as := [.inr (.inl r3), .inr (.inl r7), .inl (h8 309 (h8 294 43))]) (n2 := 321) (st := []) (by decide +kernel) rfl wm_RX7_369 ws_yX7_isWithin wz_RX7 wc_yX7_isWithin ⟨by decide, by decide, rfl⟩ (by decide) (Nat.le_of_ble_eq_true rfl) (Nat.le_refl _) (Nat.le_refl _) (am_Cl_mono H (fun r11 h12 H => ?_))
  show am_Wp true (d + 1) M_X7_isNestBegun 321 321 h0 Q 81 [some (.inr (.inr 294)), some (.inl v1), some (.inl v2), some (.inl (am_w32 ((am_w32 (8 * (h 294 43))) + v2))), some (.inr (.inl r3)), none, some (.inr (.inl r7)), none] [.inl r11] 321 h12
  refine ar_if_eq (pc := 81) (x := r11) (tgt := 111) (off := 30) (by decide +kernel) (by decide) (fun c13 => ?_) (fun c13 => ?_)
  · replace H := H.1 c13
    refine ar_iconst (pc := 111) (z := 0) (by decide +kernel) (by unfold am_i32; omega) ?_
    exact ar_zret (pc := 112) (x := 0) (by decide +kernel) rfl rfl (by decide) H
  · replace H := H.2 c13
    refine ar_lload (pc := 84) (i := 6) (by decide +kernel) rfl ?_
    refine ar_lload (pc := 86) (i := 4) (by decide +kernel) rfl ?_
    refine ar_lsub (pc := 88) (x := r7) (y := r3) (by decide +kernel) ?_
    refine ar_aload_n (pc := 89) (i := 0) (k0 := 0) (by decide +kernel) rfl rfl ?_
    refine ar_getFV (pc := 90) (a := 294) (b := 309) 7 35 (by decide +kernel) k_294 rfl (by decide) wf_RX7_61 rfl (fun _ => rfl) rfl ?_
    refine ar_aload_n (pc := 93) (i := 0) (k0 := 0) (by decide +kernel) rfl rfl ?_
    refine ar_getV (pc := 94) (a := 294) (v := .inl (h12 294 43)) 7 43 (by decide +kernel) k_294 rfl (by decide) wf_RX7_363 rfl ?_
    obtain ⟨g14, H⟩ := H
    obtain ⟨g15, H⟩ := H
    refine ar_iald (pc := 97) (a := 309) (i := (h12 294 43)) (by decide +kernel) k_309 g14 (am_lt_eq g15 (l_309).symm) ?_
    refine ar_i2l (pc := 98) (x := (h12 309 (h12 294 43))) (by decide +kernel) ?_
    refine ar_lcmp (pc := 99) (x := (am_w64 (r7 - r3))) (y := (h12 309 (h12 294 43))) (by decide +kernel) ?_
    refine ar_if_ge (pc := 100) (x := (am_lcmp (am_w64 (r7 - r3)) (h12 309 (h12 294 43)))) (tgt := 111) (off := 11) (by decide +kernel) (by decide) (fun c16 => ?_) (fun c16 => ?_)
    · replace H := H.1 c16
      refine ar_iconst (pc := 111) (z := 0) (by decide +kernel) (by unfold am_i32; omega) ?_
      exact ar_zret (pc := 112) (x := 0) (by decide +kernel) rfl rfl (by decide) H
    · replace H := H.2 c16
      refine ar_aload_n (pc := 103) (i := 0) (k0 := 0) (by decide +kernel) rfl rfl ?_
      refine ar_getV (pc := 104) (a := 294) (v := .inl (h12 294 43)) 7 43 (by decide +kernel) k_294 rfl (by decide) wf_RX7_363 rfl ?_
      refine ar_iconst (pc := 107) (z := 2) (by decide +kernel) (by unfold am_i32; omega) ?_
      refine ar_icmp_ne (pc := 108) (x := (h12 294 43)) (y := 2) (tgt := 113) (off := 5) (by decide +kernel) (by decide) (fun c17 => ?_) (fun c17 => ?_)
      · replace H := H.1 c17
        refine ar_aload_n (pc := 113) (i := 0) (k0 := 0) (by decide +kernel) rfl rfl ?_
        refine ar_getFV (pc := 114) (a := 294) (b := 313) 7 39 (by decide +kernel) k_294 rfl (by decide) wf_RX7_73 rfl (fun _ => rfl) rfl ?_
        refine ar_iload_n (pc := 117) (i := 3) (k0 := 3) (by decide +kernel) rfl rfl ?_
        refine ar_lload (pc := 118) (i := 4) (by decide +kernel) rfl ?_
        refine ar_l2i (pc := 120) (x := r3) (by decide +kernel) ?_
        refine ar_iast (pc := 121) (a := 313) (i := (am_w32 ((am_w32 (8 * (h 294 43))) + v2))) (z := (am_l2i r3)) (by decide +kernel) k_313 g5 (am_lt_eq g6 (l_313).symm) ?_
        refine ar_aload_n (pc := 122) (i := 0) (k0 := 0) (by decide +kernel) rfl rfl ?_
        refine ar_getFV (pc := 123) (a := 294) (b := 314) 7 40 (by decide +kernel) k_294 rfl (by decide) wf_RX7_76 rfl (fun _ => rfl) rfl ?_
        refine ar_iload_n (pc := 126) (i := 3) (k0 := 3) (by decide +kernel) rfl rfl ?_
        refine ar_lload (pc := 127) (i := 6) (by decide +kernel) rfl ?_
        refine ar_l2i (pc := 129) (x := r7) (by decide +kernel) ?_
        refine ar_iast (pc := 130) (a := 314) (i := (am_w32 ((am_w32 (8 * (h 294 43))) + v2))) (z := (am_l2i r7)) (by decide +kernel) k_314 g5 (am_lt_eq g6 (l_314).symm) ?_
        refine ar_aload_n (pc := 131) (i := 0) (k0 := 0) (by decide +kernel) rfl rfl ?_
        refine ar_aload_n (pc := 132) (i := 0) (k0 := 0) (by decide +kernel) rfl rfl ?_
        refine ar_getV (pc := 133) (a := 294) (v := .inl (h12 294 43)) 7 43 (by decide +kernel) k_294 rfl (by decide) wf_RX7_363 (by first | rfl | (simp [am_tv, am_ty, tyX7, am_up, am_cp]; done) | (simp [am_tv, am_ty, tyX7, am_up, am_cp] <;> intros <;> omega)) ?_
        refine ar_iconst (pc := 136) (z := 1) (by decide +kernel) (by unfold am_i32; omega) ?_
        refine ar_iadd (pc := 137) (x := (h12 294 43)) (y := 1) (by decide +kernel) ?_
        refine ar_aload_n (pc := 138) (i := 0) (k0 := 0) (by decide +kernel) rfl rfl ?_
        refine ar_getFV (pc := 139) (a := 294) (b := 308) 7 34 (by decide +kernel) k_294 rfl (by decide) wf_RX7_58 rfl (fun _ => rfl) rfl ?_
        refine ar_aload_n (pc := 142) (i := 0) (k0 := 0) (by decide +kernel) rfl rfl ?_
        refine ar_getV (pc := 143) (a := 294) (v := .inl (h12 294 43)) 7 43 (by decide +kernel) k_294 rfl (by decide) wf_RX7_363 (by first | rfl | (simp [am_tv, am_ty, tyX7, am_up, am_cp]; done) | (simp [am_tv, am_ty, tyX7, am_up, am_cp] <;> intros <;> omega)) ?_
        refine ar_ialdV (pc := 146) (a := 308) (i := (h12 294 43)) (v := (h12 308 (h12 294 43))) (by first | rfl | (simp [am_up, am_cp]; done) | (simp [am_up, am_cp] <;> intros <;> omega)) (by decide +kernel) k_308 g14 (am_lt_eq g15 (l_308).symm) ?_
        refine ar_lload (pc := 147) (i := 4) (by decide +kernel) rfl ?_
        refine ar_l2i (pc := 149) (x := r3) (by decide +kernel) ?_
        refine ar_iadd (pc := 150) (x := (h12 308 (h12 294 43))) (y := (am_l2i r3)) (by decide +kernel) ?_
        refine ar_lload (pc := 151) (i := 6) (by decide +kernel) rfl ?_
        refine ar_lload (pc := 153) (i := 4) (by decide +kernel) rfl ?_
        refine ar_lsub (pc := 155) (x := r7) (y := r3) (by decide +kernel) ?_
        refine ar_l2i (pc := 156) (x := (am_w64 (r7 - r3))) (by decide +kernel) ?_
        refine ar_callV (pc := 157) (M2 := M_X7_beginLevel) (a := 294) (ci := 7) (as := [.inl (am_w32 ((h12 294 43) + 1)), .inl (am_w32 ((h12 308 (h12 294 43)) + (am_l2i r3))), .inl (am_l2i (am_w64 (r7 - r3)))]) (n2 := 321) (st := []) (by decide +kernel) rfl wm_RX7_388 wi_yX7_beginLevel wl_yX7_beginLevel k_294 rfl wz_RX7 wc_yX7_beginLevel ⟨by decide, by decide, rfl⟩ (by decide) (Nat.le_of_ble_eq_true rfl) (Nat.le_refl _) (Nat.le_refl _) (am_Cl_mono H (fun r18 h19 H => ?_))
        show am_Wp true (d + 1) M_X7_isNestBegun 321 321 h0 Q 160 [some (.inr (.inr 294)), some (.inl v1), some (.inl v2), some (.inl (am_w32 ((am_w32 (8 * (h 294 43))) + v2))), some (.inr (.inl r3)), none, some (.inr (.inl r7)), none] [] 321 h19
        refine ar_iconst (pc := 160) (z := 1) (by decide +kernel) (by unfold am_i32; omega) ?_
        exact ar_zret (pc := 161) (x := 1) (by decide +kernel) rfl rfl (by decide) H
      · replace H := H.2 c17
        refine ar_iconst (pc := 111) (z := 0) (by decide +kernel) (by unfold am_i32; omega) ?_
        exact ar_zret (pc := 112) (x := 0) (by decide +kernel) rfl rfl (by decide) H

