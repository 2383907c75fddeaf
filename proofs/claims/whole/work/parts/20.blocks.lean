/-! ByteIntervalsModel.readMusts(I)V -/
theorem B_X7_readMusts_0 {d : Nat} {Q : Int → am_H → Prop} {h : am_H} {v1 : Int} (H : cf d M_X7_nameLevel [.inr (.inr 294)] (am_up h 294 46 1) (fun _ h2 => wf (d + 1) M_X7_readMusts Q 11 [some (.inr (.inr 294)), some (.inl v1), some (.inl 0), none, none] [] h2)) : wf (d + 1) M_X7_readMusts Q 0 [some (.inr (.inr 294)), some (.inl v1), none, none, none] [] h := by
  intro h0
  refine ar_aload_n (pc := 0) (i := 0) (k0 := 0) (by decide +kernel) rfl rfl ?_
  refine ar_iconst (pc := 1) (z := 1) (by decide +kernel) (by unfold am_i32; omega) ?_
  refine ar_putZ (pc := 2) (a := 294) (z := 1) 7 46 (by decide +kernel) k_294 rfl (by decide) rfl (fun _ => rfl) rfl (by decide) wf_RX7_391 ?_
  refine ar_aload_n (pc := 5) (i := 0) (k0 := 0) (by decide +kernel) rfl rfl ?_
  refine ar_callV (pc := 6) (M2 := M_X7_nameLevel) (a := 294) (ci := 7) (as := []) (n2 := 321) (st := []) (by decide +kernel) rfl wm_RX7_394 wi_yX7_nameLevel wl_yX7_nameLevel k_294 rfl wz_RX7 wc_yX7_nameLevel ⟨by decide, by decide, rfl⟩ (by decide) (Nat.le_of_ble_eq_true rfl) (Nat.le_refl _) (Nat.le_refl _) (am_Cl_mono H (fun r1 h2 H => ?_))
  show am_Wp true (d + 1) M_X7_readMusts 321 321 h0 Q 9 [some (.inr (.inr 294)), some (.inl v1), none, none, none] [] 321 h2
  refine ar_iconst (pc := 9) (z := 0) (by decide +kernel) (by unfold am_i32; omega) ?_
  refine ar_istore_n (pc := 10) (i := 2) (k0 := 2) (ls2 := [some (.inr (.inr 294)), some (.inl v1), some (.inl 0), none, none]) (by decide +kernel) rfl (by decide) rfl ?_
  exact H h0
theorem B_X7_readMusts_11 {d : Nat} {Q : Int → am_H → Prop} {h : am_H} {v1 v2 : Int} (H : cf d M_X7_clauses [.inr (.inr 294), .inl v1] h (fun r1 h2 => (r1 ≤ v2 → Q 0 h2) ∧ (v2 < r1 → cf d M_X7_clauseAt [.inl v1, .inl v2] h2 (fun r4 h5 => (0 ≤ r4) ∧ ((r4 < 3300) ∧ (((h5 297 r4) = 3 → cf d M_X7_namesOf [.inr (.inr 294), .inl v1, .inl v2] h5 (fun r9 h10 => cf d M_X7_isAnyBroken [.inr (.inr 294), .inl (am_iand r9 (h10 294 32))] h10 (fun r11 h12 => (¬ r11 = 0 → wf (d + 1) M_X7_readMusts Q 62 [some (.inr (.inr 294)), some (.inl v1), some (.inl v2), some (.inl r4), none] [.inl 0] h12) ∧ (r11 = 0 → wf (d + 1) M_X7_readMusts Q 62 [some (.inr (.inr 294)), some (.inl v1), some (.inl v2), some (.inl r4), none] [.inl 1] h12)))) ∧ (¬ (h5 297 r4) = 3 → wf (d + 1) M_X7_readMusts Q 161 [some (.inr (.inr 294)), some (.inl v1), some (.inl v2), none, none] [] h5))))))) : wf (d + 1) M_X7_readMusts Q 11 [some (.inr (.inr 294)), some (.inl v1), some (.inl v2), none, none] [] h := by
  intro h0
  refine ar_iload_n (pc := 11) (i := 2) (k0 := 2) (by decide +kernel) rfl rfl ?_
  refine ar_aload_n (pc := 12) (i := 0) (k0 := 0) (by decide +kernel) rfl rfl ?_
  refine ar_iload_n (pc := 13) (i := 1) (k0 := 1) (by decide +kernel) rfl rfl ?_
  refine ar_callV (pc := 14) (M2 := M_X7_clauses) (a := 294) (ci := 7) (as := [.inl v1]) (n2 := 321) (st := [.inl v2]) (by decide +kernel) rfl wm_RX7_335 wi_yX7_clauses wl_yX7_clauses k_294 rfl wz_RX7 wc_yX7_clauses ⟨by decide, by decide, rfl⟩ (by decide) (Nat.le_of_ble_eq_true rfl) (Nat.le_refl _) (Nat.le_refl _) (am_Cl_mono H (fun r1 h2 H => ?_))
  show am_Wp true (d + 1) M_X7_readMusts 321 321 h0 Q 17 [some (.inr (.inr 294)), some (.inl v1), some (.inl v2), none, none] [.inl r1, .inl v2] 321 h2
  refine ar_icmp_ge (pc := 17) (x := v2) (y := r1) (tgt := 167) (off := 150) (by decide +kernel) (by decide) (fun c3 => ?_) (fun c3 => ?_)
  · replace H := H.1 c3
    exact ar_vret (pc := 167) (by decide +kernel) rfl rfl H
  · replace H := H.2 c3
    refine ar_iload_n (pc := 20) (i := 1) (k0 := 1) (by decide +kernel) rfl rfl ?_
    refine ar_iload_n (pc := 21) (i := 2) (k0 := 2) (by decide +kernel) rfl rfl ?_
    refine ar_callS (pc := 22) (M2 := M_X7_clauseAt) (as := [.inl v1, .inl v2]) (n2 := 321) (st := []) (by decide +kernel) rfl wm_RX7_328 ws_yX7_clauseAt wz_RX7 wc_yX7_clauseAt ⟨by decide, by decide, rfl⟩ (by decide) (Nat.le_of_ble_eq_true rfl) (Nat.le_refl _) (Nat.le_refl _) (am_Cl_mono H (fun r4 h5 H => ?_))
    show am_Wp true (d + 1) M_X7_readMusts 321 321 h0 Q 25 [some (.inr (.inr 294)), some (.inl v1), some (.inl v2), none, none] [.inl r4] 321 h5
    refine ar_istore_n (pc := 25) (i := 3) (k0 := 3) (ls2 := [some (.inr (.inr 294)), some (.inl v1), some (.inl v2), some (.inl r4), none]) (by decide +kernel) rfl (by decide) rfl ?_
    refine ar_aload_n (pc := 26) (i := 0) (k0 := 0) (by decide +kernel) rfl rfl ?_
    refine ar_getFV (pc := 27) (a := 294) (b := 297) 7 2 (by decide +kernel) k_294 rfl (by decide) wf_RX7_16 rfl (fun _ => rfl) rfl ?_
    refine ar_iload_n (pc := 30) (i := 3) (k0 := 3) (by decide +kernel) rfl rfl ?_
    obtain ⟨g6, H⟩ := H
    obtain ⟨g7, H⟩ := H
    refine ar_iald (pc := 31) (a := 297) (i := r4) (by decide +kernel) k_297 g6 (am_lt_eq g7 (l_297).symm) ?_
    refine ar_iconst (pc := 32) (z := 3) (by decide +kernel) (by unfold am_i32; omega) ?_
    refine ar_icmp_eq (pc := 33) (x := (h5 297 r4)) (y := 3) (tgt := 39) (off := 6) (by decide +kernel) (by decide) (fun c8 => ?_) (fun c8 => ?_)
    · replace H := H.1 c8
      refine ar_aload_n (pc := 39) (i := 0) (k0 := 0) (by decide +kernel) rfl rfl ?_
      refine ar_aload_n (pc := 40) (i := 0) (k0 := 0) (by decide +kernel) rfl rfl ?_
      refine ar_iload_n (pc := 41) (i := 1) (k0 := 1) (by decide +kernel) rfl rfl ?_
      refine ar_iload_n (pc := 42) (i := 2) (k0 := 2) (by decide +kernel) rfl rfl ?_
      refine ar_callV (pc := 43) (M2 := M_X7_namesOf) (a := 294) (ci := 7) (as := [.inl v1, .inl v2]) (n2 := 321) (st := [.inr (.inr 294)]) (by decide +kernel) rfl wm_RX7_354 wi_yX7_namesOf wl_yX7_namesOf k_294 rfl wz_RX7 wc_yX7_namesOf ⟨by decide, by decide, rfl⟩ (by decide) (Nat.le_of_ble_eq_true rfl) (Nat.le_refl _) (Nat.le_refl _) (am_Cl_mono H (fun r9 h10 H => ?_))
      show am_Wp true (d + 1) M_X7_readMusts 321 321 h0 Q 46 [some (.inr (.inr 294)), some (.inl v1), some (.inl v2), some (.inl r4), none] [.inl r9, .inr (.inr 294)] 321 h10
      refine ar_aload_n (pc := 46) (i := 0) (k0 := 0) (by decide +kernel) rfl rfl ?_
      refine ar_getV (pc := 47) (a := 294) (v := .inl (h10 294 32)) 7 32 (by decide +kernel) k_294 rfl (by decide) wf_RX7_351 rfl ?_
      refine ar_iand (pc := 50) (x := r9) (y := (h10 294 32)) (by decide +kernel) ?_
      refine ar_callV (pc := 51) (M2 := M_X7_isAnyBroken) (a := 294) (ci := 7) (as := [.inl (am_iand r9 (h10 294 32))]) (n2 := 321) (st := []) (by decide +kernel) rfl wm_RX7_397 wi_yX7_isAnyBroken wl_yX7_isAnyBroken k_294 rfl wz_RX7 wc_yX7_isAnyBroken ⟨by decide, by decide, rfl⟩ (by decide) (Nat.le_of_ble_eq_true rfl) (Nat.le_refl _) (Nat.le_refl _) (am_Cl_mono H (fun r11 h12 H => ?_))
      show am_Wp true (d + 1) M_X7_readMusts 321 321 h0 Q 54 [some (.inr (.inr 294)), some (.inl v1), some (.inl v2), some (.inl r4), none] [.inl r11] 321 h12
      refine ar_if_ne (pc := 54) (x := r11) (tgt := 61) (off := 7) (by decide +kernel) (by decide) (fun c13 => ?_) (fun c13 => ?_)
      · replace H := H.1 c13
        refine ar_iconst (pc := 61) (z := 0) (by decide +kernel) (by unfold am_i32; omega) ?_
        exact H h0
      · replace H := H.2 c13
        refine ar_iconst (pc := 57) (z := 1) (by decide +kernel) (by unfold am_i32; omega) ?_
        refine ar_goto (pc := 58) (tgt := 62) (off := 4) (by decide +kernel) (by decide) ?_
        exact H h0
    · replace H := H.2 c8
      refine ar_goto (pc := 36) (tgt := 161) (off := 125) (by decide +kernel) (by decide) ?_
      refine ar_forget [true, true, true, false, true] rfl ?_
      exact H h0
theorem B_X7_readMusts_62 {d : Nat} {Q : Int → am_H → Prop} {h : am_H} {v1 v2 v3 s0 : Int} (H : (s0 = 0 → wf (d + 1) M_X7_readMusts Q 116 [some (.inr (.inr 294)), some (.inl v1), some (.inl v2), none, some (.inl s0)] [] h) ∧ (¬ s0 = 0 → (0 ≤ (am_w32 (v3 + 3))) ∧ (((am_w32 (v3 + 3)) < 3300) ∧ ((0 ≤ (am_w32 (v3 + 4))) ∧ (((am_w32 (v3 + 4)) < 3300) ∧ (cf d M_X7_work [.inr (.inr 294), .inl v1, .inl (h 297 (am_w32 (v3 + 3))), .inl (h 297 (am_w32 (v3 + 4)))] h (fun _ h7 => (0 ≤ (h7 294 43)) ∧ (((h7 294 43) < 3) ∧ (wf (d + 1) M_X7_readMusts Q 116 [some (.inr (.inr 294)), some (.inl v1), some (.inl v2), none, some (.inl (h7 303 0))] [] (am_up h7 311 (h7 294 43) (am_lor (h7 311 (h7 294 43)) (h7 304 0)))))))))))) : wf (d + 1) M_X7_readMusts Q 62 [some (.inr (.inr 294)), some (.inl v1), some (.inl v2), some (.inl v3), none] [.inl s0] h := by
  intro h0
  refine ar_istore (pc := 62) (i := 4) (ls2 := [some (.inr (.inr 294)), some (.inl v1), some (.inl v2), some (.inl v3), some (.inl s0)]) (by decide +kernel) (by decide) rfl ?_
  refine ar_iload (pc := 64) (i := 4) (by decide +kernel) rfl ?_
  refine ar_if_eq (pc := 66) (x := s0) (tgt := 116) (off := 50) (by decide +kernel) (by decide) (fun c1 => ?_) (fun c1 => ?_)
  · replace H := H.1 c1
    refine ar_forget [true, true, true, false, true] rfl ?_
    exact H h0
  · replace H := H.2 c1
    refine ar_aload_n (pc := 69) (i := 0) (k0 := 0) (by decide +kernel) rfl rfl ?_
    refine ar_iload_n (pc := 70) (i := 1) (k0 := 1) (by decide +kernel) rfl rfl ?_
    refine ar_aload_n (pc := 71) (i := 0) (k0 := 0) (by decide +kernel) rfl rfl ?_
    refine ar_getFV (pc := 72) (a := 294) (b := 297) 7 2 (by decide +kernel) k_294 rfl (by decide) wf_RX7_16 rfl (fun _ => rfl) rfl ?_
    refine ar_iload_n (pc := 75) (i := 3) (k0 := 3) (by decide +kernel) rfl rfl ?_
    refine ar_iconst (pc := 76) (z := 3) (by decide +kernel) (by unfold am_i32; omega) ?_
    refine ar_iadd (pc := 77) (x := v3) (y := 3) (by decide +kernel) ?_
    obtain ⟨g2, H⟩ := H
    obtain ⟨g3, H⟩ := H
    refine ar_iald (pc := 78) (a := 297) (i := (am_w32 (v3 + 3))) (by decide +kernel) k_297 g2 (am_lt_eq g3 (l_297).symm) ?_
    refine ar_aload_n (pc := 79) (i := 0) (k0 := 0) (by decide +kernel) rfl rfl ?_
    refine ar_getFV (pc := 80) (a := 294) (b := 297) 7 2 (by decide +kernel) k_294 rfl (by decide) wf_RX7_16 rfl (fun _ => rfl) rfl ?_
    refine ar_iload_n (pc := 83) (i := 3) (k0 := 3) (by decide +kernel) rfl rfl ?_
    refine ar_iconst (pc := 84) (z := 4) (by decide +kernel) (by unfold am_i32; omega) ?_
    refine ar_iadd (pc := 85) (x := v3) (y := 4) (by decide +kernel) ?_
    obtain ⟨g4, H⟩ := H
    obtain ⟨g5, H⟩ := H
    refine ar_iald (pc := 86) (a := 297) (i := (am_w32 (v3 + 4))) (by decide +kernel) k_297 g4 (am_lt_eq g5 (l_297).symm) ?_
    refine ar_callV (pc := 87) (M2 := M_X7_work) (a := 294) (ci := 7) (as := [.inl v1, .inl (h 297 (am_w32 (v3 + 3))), .inl (h 297 (am_w32 (v3 + 4)))]) (n2 := 321) (st := []) (by decide +kernel) rfl wm_RX7_331 wi_yX7_work wl_yX7_work k_294 rfl wz_RX7 wc_yX7_work ⟨by decide, by decide, rfl⟩ (by decide) (Nat.le_of_ble_eq_true rfl) (Nat.le_refl _) (Nat.le_refl _) (am_Cl_mono H (fun r6 h7 H => ?_))
    show am_Wp true (d + 1) M_X7_readMusts 321 321 h0 Q 90 [some (.inr (.inr 294)), some (.inl v1), some (.inl v2), some (.inl v3), some (.inl s0)] [] 321 h7
    refine ar_aload_n (pc := 90) (i := 0) (k0 := 0) (by decide +kernel) rfl rfl ?_
    refine ar_getFV (pc := 91) (a := 294) (b := 303) 7 26 (by decide +kernel) k_294 rfl (by decide) wf_RX7_42 rfl (fun _ => rfl) rfl ?_
    refine ar_iconst (pc := 94) (z := 0) (by decide +kernel) (by unfold am_i32; omega) ?_
    refine ar_zald (pc := 95) (a := 303) (i := 0) (by decide +kernel) k_303 (by decide) (am_lt_eq (b := 330) (by decide) (l_303).symm) ?_
    refine ar_istore (pc := 96) (i := 4) (ls2 := [some (.inr (.inr 294)), some (.inl v1), some (.inl v2), some (.inl v3), some (.inl (h7 303 0))]) (by decide +kernel) (by decide) rfl ?_
    refine ar_aload_n (pc := 98) (i := 0) (k0 := 0) (by decide +kernel) rfl rfl ?_
    refine ar_getFV (pc := 99) (a := 294) (b := 311) 7 37 (by decide +kernel) k_294 rfl (by decide) wf_RX7_67 rfl (fun _ => rfl) rfl ?_
    refine ar_aload_n (pc := 102) (i := 0) (k0 := 0) (by decide +kernel) rfl rfl ?_
    refine ar_getV (pc := 103) (a := 294) (v := .inl (h7 294 43)) 7 43 (by decide +kernel) k_294 rfl (by decide) wf_RX7_363 rfl ?_
    refine ar_dup2 (pc := 106) (by decide +kernel) trivial trivial ?_
    obtain ⟨g8, H⟩ := H
    obtain ⟨g9, H⟩ := H
    refine ar_lald (pc := 107) (a := 311) (i := (h7 294 43)) (by decide +kernel) k_311 g8 (am_lt_eq g9 (l_311).symm) ?_
    refine ar_aload_n (pc := 108) (i := 0) (k0 := 0) (by decide +kernel) rfl rfl ?_
    refine ar_getFV (pc := 109) (a := 294) (b := 304) 7 27 (by decide +kernel) k_294 rfl (by decide) wf_RX7_46 rfl (fun _ => rfl) rfl ?_
    refine ar_iconst (pc := 112) (z := 0) (by decide +kernel) (by unfold am_i32; omega) ?_
    refine ar_lald (pc := 113) (a := 304) (i := 0) (by decide +kernel) k_304 (by decide) (am_lt_eq (b := 330) (by decide) (l_304).symm) ?_
    refine ar_lor (pc := 114) (x := (h7 311 (h7 294 43))) (y := (h7 304 0)) (by decide +kernel) ?_
    refine ar_last (pc := 115) (a := 311) (i := (h7 294 43)) (z := (am_lor (h7 311 (h7 294 43)) (h7 304 0))) (by decide +kernel) k_311 g8 (am_lt_eq g9 (l_311).symm) ?_
    refine ar_forget [true, true, true, false, true] rfl ?_
    exact H h0
theorem B_X7_readMusts_116 {d : Nat} {Q : Int → am_H → Prop} {h : am_H} {v1 v2 v4 : Int} (H : (¬ v4 = 0 → wf (d + 1) M_X7_readMusts Q 140 [some (.inr (.inr 294)), some (.inl v1), some (.inl v2), none, some (.inl v4)] [] h) ∧ (v4 = 0 → ((h 294 46) = 0 → wf (d + 1) M_X7_readMusts Q 140 [some (.inr (.inr 294)), some (.inl v1), some (.inl v2), none, some (.inl v4)] [] h) ∧ (¬ (h 294 46) = 0 → (¬ (h 294 43) = 0 → wf (d + 1) M_X7_readMusts Q 140 [some (.inr (.inr 294)), some (.inl v1), some (.inl v2), none, some (.inl v4)] [] h) ∧ ((h 294 43) = 0 → wf (d + 1) M_X7_readMusts Q 140 [some (.inr (.inr 294)), some (.inl v1), some (.inl v2), none, some (.inl v4)] [] (am_up h 294 45 v2))))) : wf (d + 1) M_X7_readMusts Q 116 [some (.inr (.inr 294)), some (.inl v1), some (.inl v2), none, some (.inl v4)] [] h := by
  intro h0
  refine ar_iload (pc := 116) (i := 4) (by decide +kernel) rfl ?_
  refine ar_if_ne (pc := 118) (x := v4) (tgt := 140) (off := 22) (by decide +kernel) (by decide) (fun c1 => ?_) (fun c1 => ?_)
  · replace H := H.1 c1
    exact H h0
  · replace H := H.2 c1
    refine ar_aload_n (pc := 121) (i := 0) (k0 := 0) (by decide +kernel) rfl rfl ?_
    refine ar_getV (pc := 122) (a := 294) (v := .inl (h 294 46)) 7 46 (by decide +kernel) k_294 rfl (by decide) wf_RX7_391 rfl ?_
    refine ar_if_eq (pc := 125) (x := (h 294 46)) (tgt := 140) (off := 15) (by decide +kernel) (by decide) (fun c2 => ?_) (fun c2 => ?_)
    · replace H := H.1 c2
      exact H h0
    · replace H := H.2 c2
      refine ar_aload_n (pc := 128) (i := 0) (k0 := 0) (by decide +kernel) rfl rfl ?_
      refine ar_getV (pc := 129) (a := 294) (v := .inl (h 294 43)) 7 43 (by decide +kernel) k_294 rfl (by decide) wf_RX7_363 rfl ?_
      refine ar_if_ne (pc := 132) (x := (h 294 43)) (tgt := 140) (off := 8) (by decide +kernel) (by decide) (fun c3 => ?_) (fun c3 => ?_)
      · replace H := H.1 c3
        exact H h0
      · replace H := H.2 c3
        refine ar_aload_n (pc := 135) (i := 0) (k0 := 0) (by decide +kernel) rfl rfl ?_
        refine ar_iload_n (pc := 136) (i := 2) (k0 := 2) (by decide +kernel) rfl rfl ?_
        refine ar_putI (pc := 137) (a := 294) (z := v2) 7 45 (by decide +kernel) k_294 rfl (by decide) rfl (fun _ => rfl) rfl wf_RX7_400 ?_
        exact H h0
theorem B_X7_readMusts_140 {d : Nat} {Q : Int → am_H → Prop} {h : am_H} {v1 v2 v4 : Int} (H : ((h 294 46) = 0 → wf (d + 1) M_X7_readMusts Q 157 [some (.inr (.inr 294)), some (.inl v1), some (.inl v2), none, none] [.inr (.inr 294)] h) ∧ (¬ (h 294 46) = 0 → (v4 = 0 → wf (d + 1) M_X7_readMusts Q 157 [some (.inr (.inr 294)), some (.inl v1), some (.inl v2), none, none] [.inr (.inr 294)] h) ∧ (¬ v4 = 0 → wf (d + 1) M_X7_readMusts Q 158 [some (.inr (.inr 294)), some (.inl v1), some (.inl v2), none, none] [.inl 1, .inr (.inr 294)] h))) : wf (d + 1) M_X7_readMusts Q 140 [some (.inr (.inr 294)), some (.inl v1), some (.inl v2), none, some (.inl v4)] [] h := by
  intro h0
  refine ar_aload_n (pc := 140) (i := 0) (k0 := 0) (by decide +kernel) rfl rfl ?_
  refine ar_aload_n (pc := 141) (i := 0) (k0 := 0) (by decide +kernel) rfl rfl ?_
  refine ar_getV (pc := 142) (a := 294) (v := .inl (h 294 46)) 7 46 (by decide +kernel) k_294 rfl (by decide) wf_RX7_391 rfl ?_
  refine ar_if_eq (pc := 145) (x := (h 294 46)) (tgt := 157) (off := 12) (by decide +kernel) (by decide) (fun c1 => ?_) (fun c1 => ?_)
  · replace H := H.1 c1
    refine ar_forget [true, true, true, true, false] rfl ?_
    exact H h0
  · replace H := H.2 c1
    refine ar_iload (pc := 148) (i := 4) (by decide +kernel) rfl ?_
    refine ar_if_eq (pc := 150) (x := v4) (tgt := 157) (off := 7) (by decide +kernel) (by decide) (fun c2 => ?_) (fun c2 => ?_)
    · replace H := H.1 c2
      refine ar_forget [true, true, true, true, false] rfl ?_
      exact H h0
    · replace H := H.2 c2
      refine ar_iconst (pc := 153) (z := 1) (by decide +kernel) (by unfold am_i32; omega) ?_
      refine ar_goto (pc := 154) (tgt := 158) (off := 4) (by decide +kernel) (by decide) ?_
      refine ar_forget [true, true, true, true, false] rfl ?_
      exact H h0
theorem B_X7_readMusts_157 {d : Nat} {Q : Int → am_H → Prop} {h : am_H} {v1 v2 : Int} (H : wf (d + 1) M_X7_readMusts Q 158 [some (.inr (.inr 294)), some (.inl v1), some (.inl v2), none, none] [.inl 0, .inr (.inr 294)] h) : wf (d + 1) M_X7_readMusts Q 157 [some (.inr (.inr 294)), some (.inl v1), some (.inl v2), none, none] [.inr (.inr 294)] h := by
  intro h0
  refine ar_iconst (pc := 157) (z := 0) (by decide +kernel) (by unfold am_i32; omega) ?_
  exact H h0
theorem B_X7_readMusts_158 {d : Nat} {Q : Int → am_H → Prop} {h : am_H} {v1 v2 s1 : Int} (H : (s1 = 0 ∨ s1 = 1) ∧ (wf (d + 1) M_X7_readMusts Q 161 [some (.inr (.inr 294)), some (.inl v1), some (.inl v2), none, none] [] (am_up h 294 46 s1))) : wf (d + 1) M_X7_readMusts Q 158 [some (.inr (.inr 294)), some (.inl v1), some (.inl v2), none, none] [.inl s1, .inr (.inr 294)] h := by
  intro h0
  obtain ⟨g1, H⟩ := H
  refine ar_putZ (pc := 158) (a := 294) (z := s1) 7 46 (by decide +kernel) k_294 rfl (by decide) rfl (fun _ => rfl) rfl g1 wf_RX7_391 ?_
  exact H h0
theorem B_X7_readMusts_161 {d : Nat} {Q : Int → am_H → Prop} {h : am_H} {v1 v2 : Int} (H : wf (d + 1) M_X7_readMusts Q 11 [some (.inr (.inr 294)), some (.inl v1), some (.inl (am_w32 (v2 + 1))), none, none] [] h) : wf (d + 1) M_X7_readMusts Q 161 [some (.inr (.inr 294)), some (.inl v1), some (.inl v2), none, none] [] h := by
  intro h0
  refine ar_iinc (pc := 161) (i := 2) (z := 1) (x := v2) (ls2 := [some (.inr (.inr 294)), some (.inl v1), some (.inl (am_w32 (v2 + 1))), none, none]) (by decide +kernel) rfl (by decide) rfl ?_
  refine ar_goto (pc := 164) (tgt := 11) (off := -153) (by decide +kernel) (by decide) ?_
  exact H h0

/-! ByteIntervalsModel.endLevel()V -/
theorem B_X7_endLevel_0 {d : Nat} {Q : Int → am_H → Prop} {h : am_H} (H : wf (d + 1) M_X7_endLevel Q 9 [some (.inr (.inr 294)), some (.inl 1), some (.inl (h 294 46)), some (.inl 0), none, none] [] h) : wf (d + 1) M_X7_endLevel Q 0 [some (.inr (.inr 294)), none, none, none, none, none] [] h := by
  intro h0
  refine ar_iconst (pc := 0) (z := 1) (by decide +kernel) (by unfold am_i32; omega) ?_
  refine ar_istore_n (pc := 1) (i := 1) (k0 := 1) (ls2 := [some (.inr (.inr 294)), some (.inl 1), none, none, none, none]) (by decide +kernel) rfl (by decide) rfl ?_
  refine ar_aload_n (pc := 2) (i := 0) (k0 := 0) (by decide +kernel) rfl rfl ?_
  refine ar_getV (pc := 3) (a := 294) (v := .inl (h 294 46)) 7 46 (by decide +kernel) k_294 rfl (by decide) wf_RX7_391 rfl ?_
  refine ar_istore_n (pc := 6) (i := 2) (k0 := 2) (ls2 := [some (.inr (.inr 294)), some (.inl 1), some (.inl (h 294 46)), none, none, none]) (by decide +kernel) rfl (by decide) rfl ?_
  refine ar_iconst (pc := 7) (z := 0) (by decide +kernel) (by unfold am_i32; omega) ?_
  refine ar_istore_n (pc := 8) (i := 3) (k0 := 3) (ls2 := [some (.inr (.inr 294)), some (.inl 1), some (.inl (h 294 46)), some (.inl 0), none, none]) (by decide +kernel) rfl (by decide) rfl ?_
  exact H h0
theorem B_X7_endLevel_9 {d : Nat} {Q : Int → am_H → Prop} {h : am_H} {v1 v2 v3 : Int} (H : (8 ≤ v3 → (0 ≤ (h 294 43)) ∧ (((h 294 43) < 3) ∧ ((0 ≤ (am_w32 ((h 294 43) - 1))) ∧ (((am_w32 ((h 294 43) - 1)) < 3) ∧ ((0 ≤ (h 310 (am_w32 ((h 294 43) - 1)))) ∧ (((h 310 (am_w32 ((h 294 43) - 1))) < 8) ∧ ((0 ≤ (am_w32 ((am_w32 (8 * (am_w32 ((h 294 43) - 1)))) + (h 307 (h 310 (am_w32 ((h 294 43) - 1))))))) ∧ (((am_w32 ((am_w32 (8 * (am_w32 ((h 294 43) - 1)))) + (h 307 (h 310 (am_w32 ((h 294 43) - 1)))))) < 24) ∧ ((v2 = 0 → wf (d + 1) M_X7_endLevel Q 195 [some (.inr (.inr 294)), none, none, some (.inr (.inl (h 311 (h 294 43)))), none, some (.inl (am_w32 ((am_w32 (8 * (am_w32 ((h 294 43) - 1)))) + (h 307 (h 310 (am_w32 ((h 294 43) - 1)))))))] [.inl 2, .inl (am_w32 ((am_w32 (8 * (am_w32 ((h 294 43) - 1)))) + (h 307 (h 310 (am_w32 ((h 294 43) - 1)))))), .inr (.inr 315)] (am_up (am_up h 294 43 (am_w32 ((h 294 43) - 1))) 312 (am_w32 ((am_w32 (8 * (am_w32 ((h 294 43) - 1)))) + (h 307 (h 310 (am_w32 ((h 294 43) - 1)))))) v1)) ∧ (¬ v2 = 0 → wf (d + 1) M_X7_endLevel Q 195 [some (.inr (.inr 294)), none, none, some (.inr (.inl (h 311 (h 294 43)))), none, some (.inl (am_w32 ((am_w32 (8 * (am_w32 ((h 294 43) - 1)))) + (h 307 (h 310 (am_w32 ((h 294 43) - 1)))))))] [.inl 0, .inl (am_w32 ((am_w32 (8 * (am_w32 ((h 294 43) - 1)))) + (h 307 (h 310 (am_w32 ((h 294 43) - 1)))))), .inr (.inr 315)] (am_up (am_up h 294 43 (am_w32 ((h 294 43) - 1))) 312 (am_w32 ((am_w32 (8 * (am_w32 ((h 294 43) - 1)))) + (h 307 (h 310 (am_w32 ((h 294 43) - 1)))))) v1))))))))))) ∧ (v3 < 8 → cf d M_X7_has [.inl (h 294 32), .inl v3] h (fun r11 h12 => (¬ r11 = 0 → (0 ≤ (h12 294 43)) ∧ (((h12 294 43) < 3) ∧ ((0 ≤ (am_w32 ((am_w32 (8 * (h 294 43))) + v3))) ∧ (((am_w32 ((am_w32 (8 * (h 294 43))) + v3)) < 24) ∧ ((v2 = 0 → wf (d + 1) M_X7_endLevel Q 77 [some (.inr (.inr 294)), some (.inl v1), none, some (.inl v3), some (.inl (am_w32 ((am_w32 (8 * (h 294 43))) + v3))), none] [] (am_up h12 311 (h12 294 43) (am_lor (h12 311 (h12 294 43)) (h12 316 (am_w32 ((am_w32 (8 * (h 294 43))) + v3)))))) ∧ (¬ v2 = 0 → (¬ (h12 315 (am_w32 ((am_w32 (8 * (h 294 43))) + v3))) = 0 → wf (d + 1) M_X7_endLevel Q 77 [some (.inr (.inr 294)), some (.inl v1), none, some (.inl v3), some (.inl (am_w32 ((am_w32 (8 * (h 294 43))) + v3))), none] [] (am_up h12 311 (h12 294 43) (am_lor (h12 311 (h12 294 43)) (h12 316 (am_w32 ((am_w32 (8 * (h 294 43))) + v3)))))) ∧ ((h12 315 (am_w32 ((am_w32 (8 * (h 294 43))) + v3))) = 0 → wf (d + 1) M_X7_endLevel Q 78 [some (.inr (.inr 294)), some (.inl v1), none, some (.inl v3), some (.inl (am_w32 ((am_w32 (8 * (h 294 43))) + v3))), none] [.inl 1] (am_up h12 311 (h12 294 43) (am_lor (h12 311 (h12 294 43)) (h12 316 (am_w32 ((am_w32 (8 * (h 294 43))) + v3)))))))))))) ∧ (r11 = 0 → wf (d + 1) M_X7_endLevel Q 122 [some (.inr (.inr 294)), some (.inl v1), some (.inl v2), some (.inl v3), none, none] [] h12)))) : wf (d + 1) M_X7_endLevel Q 9 [some (.inr (.inr 294)), some (.inl v1), some (.inl v2), some (.inl v3), none, none] [] h := by
  intro h0
  refine ar_iload_n (pc := 9) (i := 3) (k0 := 3) (by decide +kernel) rfl rfl ?_
  refine ar_bipush (pc := 10) (z := 8) (by decide +kernel) (by omega) ?_
  refine ar_icmp_ge (pc := 12) (x := v3) (y := 8) (tgt := 128) (off := 116) (by decide +kernel) (by decide) (fun c1 => ?_) (fun c1 => ?_)
  · replace H := H.1 c1
    refine ar_aload_n (pc := 128) (i := 0) (k0 := 0) (by decide +kernel) rfl rfl ?_
    refine ar_getFV (pc := 129) (a := 294) (b := 311) 7 37 (by decide +kernel) k_294 rfl (by decide) wf_RX7_67 rfl (fun _ => rfl) rfl ?_
    refine ar_aload_n (pc := 132) (i := 0) (k0 := 0) (by decide +kernel) rfl rfl ?_
    refine ar_getV (pc := 133) (a := 294) (v := .inl (h 294 43)) 7 43 (by decide +kernel) k_294 rfl (by decide) wf_RX7_363 rfl ?_
    obtain ⟨g2, H⟩ := H
    obtain ⟨g3, H⟩ := H
    refine ar_lald (pc := 136) (a := 311) (i := (h 294 43)) (by decide +kernel) k_311 g2 (am_lt_eq g3 (l_311).symm) ?_
    refine ar_lstore_n (pc := 137) (i := 3) (k0 := 3) (ls2 := [some (.inr (.inr 294)), some (.inl v1), some (.inl v2), some (.inr (.inl (h 311 (h 294 43)))), none, none]) (by decide +kernel) rfl (by decide) rfl ?_
    refine ar_aload_n (pc := 138) (i := 0) (k0 := 0) (by decide +kernel) rfl rfl ?_
    refine ar_dup (pc := 139) (by decide +kernel) trivial ?_
    refine ar_getV (pc := 140) (a := 294) (v := .inl (h 294 43)) 7 43 (by decide +kernel) k_294 rfl (by decide) wf_RX7_363 rfl ?_
    refine ar_iconst (pc := 143) (z := 1) (by decide +kernel) (by unfold am_i32; omega) ?_
    refine ar_isub (pc := 144) (x := (h 294 43)) (y := 1) (by decide +kernel) ?_
    refine ar_putI (pc := 145) (a := 294) (z := (am_w32 ((h 294 43) - 1))) 7 43 (by decide +kernel) k_294 rfl (by decide) rfl (fun _ => rfl) rfl wf_RX7_363 ?_
    refine ar_bipush (pc := 148) (z := 8) (by decide +kernel) (by omega) ?_
    refine ar_aload_n (pc := 150) (i := 0) (k0 := 0) (by decide +kernel) rfl rfl ?_
    refine ar_getV (pc := 151) (a := 294) (v := .inl (am_w32 ((h 294 43) - 1))) 7 43 (by decide +kernel) k_294 rfl (by decide) wf_RX7_363 (by first | rfl | (simp [am_tv, am_ty, tyX7, am_up, am_cp]; done) | (simp [am_tv, am_ty, tyX7, am_up, am_cp] <;> intros <;> omega)) ?_
    refine ar_imul (pc := 154) (x := 8) (y := (am_w32 ((h 294 43) - 1))) (by decide +kernel) ?_
    refine ar_aload_n (pc := 155) (i := 0) (k0 := 0) (by decide +kernel) rfl rfl ?_
    refine ar_getFV (pc := 156) (a := 294) (b := 307) 7 30 (by decide +kernel) k_294 rfl (by decide) wf_RX7_55 rfl (fun _ => rfl) rfl ?_
    refine ar_aload_n (pc := 159) (i := 0) (k0 := 0) (by decide +kernel) rfl rfl ?_
    refine ar_getFV (pc := 160) (a := 294) (b := 310) 7 36 (by decide +kernel) k_294 rfl (by decide) wf_RX7_64 rfl (fun _ => rfl) rfl ?_
    refine ar_aload_n (pc := 163) (i := 0) (k0 := 0) (by decide +kernel) rfl rfl ?_
    refine ar_getV (pc := 164) (a := 294) (v := .inl (am_w32 ((h 294 43) - 1))) 7 43 (by decide +kernel) k_294 rfl (by decide) wf_RX7_363 (by first | rfl | (simp [am_tv, am_ty, tyX7, am_up, am_cp]; done) | (simp [am_tv, am_ty, tyX7, am_up, am_cp] <;> intros <;> omega)) ?_
    obtain ⟨g4, H⟩ := H
    obtain ⟨g5, H⟩ := H
    refine ar_ialdV (pc := 167) (a := 310) (i := (am_w32 ((h 294 43) - 1))) (v := (h 310 (am_w32 ((h 294 43) - 1)))) (by first | rfl | (simp [am_up, am_cp]; done) | (simp [am_up, am_cp] <;> intros <;> omega)) (by decide +kernel) k_310 g4 (am_lt_eq g5 (l_310).symm) ?_
    obtain ⟨g6, H⟩ := H
    obtain ⟨g7, H⟩ := H
    refine ar_ialdV (pc := 168) (a := 307) (i := (h 310 (am_w32 ((h 294 43) - 1)))) (v := (h 307 (h 310 (am_w32 ((h 294 43) - 1))))) (by first | rfl | (simp [am_up, am_cp]; done) | (simp [am_up, am_cp] <;> intros <;> omega)) (by decide +kernel) k_307 g6 (am_lt_eq g7 (l_307).symm) ?_
    refine ar_iadd (pc := 169) (x := (am_w32 (8 * (am_w32 ((h 294 43) - 1))))) (y := (h 307 (h 310 (am_w32 ((h 294 43) - 1))))) (by decide +kernel) ?_
    refine ar_istore (pc := 170) (i := 5) (ls2 := [some (.inr (.inr 294)), some (.inl v1), some (.inl v2), some (.inr (.inl (h 311 (h 294 43)))), none, some (.inl (am_w32 ((am_w32 (8 * (am_w32 ((h 294 43) - 1)))) + (h 307 (h 310 (am_w32 ((h 294 43) - 1)))))))]) (by decide +kernel) (by decide) rfl ?_
    refine ar_aload_n (pc := 172) (i := 0) (k0 := 0) (by decide +kernel) rfl rfl ?_
    refine ar_getFV (pc := 173) (a := 294) (b := 312) 7 38 (by decide +kernel) k_294 rfl (by decide) wf_RX7_70 rfl (fun _ => rfl) rfl ?_
    refine ar_iload (pc := 176) (i := 5) (by decide +kernel) rfl ?_
    refine ar_iload_n (pc := 178) (i := 1) (k0 := 1) (by decide +kernel) rfl rfl ?_
    obtain ⟨g8, H⟩ := H
    obtain ⟨g9, H⟩ := H
    refine ar_iast (pc := 179) (a := 312) (i := (am_w32 ((am_w32 (8 * (am_w32 ((h 294 43) - 1)))) + (h 307 (h 310 (am_w32 ((h 294 43) - 1))))))) (z := v1) (by decide +kernel) k_312 g8 (am_lt_eq g9 (l_312).symm) ?_
    refine ar_aload_n (pc := 180) (i := 0) (k0 := 0) (by decide +kernel) rfl rfl ?_
    refine ar_getFV (pc := 181) (a := 294) (b := 315) 7 41 (by decide +kernel) k_294 rfl (by decide) wf_RX7_79 rfl (fun _ => rfl) rfl ?_
    refine ar_iload (pc := 184) (i := 5) (by decide +kernel) rfl ?_
    refine ar_iload_n (pc := 186) (i := 2) (k0 := 2) (by decide +kernel) rfl rfl ?_
    refine ar_if_eq (pc := 187) (x := v2) (tgt := 194) (off := 7) (by decide +kernel) (by decide) (fun c10 => ?_) (fun c10 => ?_)
    · replace H := H.1 c10
      refine ar_iconst (pc := 194) (z := 2) (by decide +kernel) (by unfold am_i32; omega) ?_
      refine ar_forget [true, false, false, true, true, true] rfl ?_
      exact H h0
    · replace H := H.2 c10
      refine ar_iconst (pc := 190) (z := 0) (by decide +kernel) (by unfold am_i32; omega) ?_
      refine ar_goto (pc := 191) (tgt := 195) (off := 4) (by decide +kernel) (by decide) ?_
      refine ar_forget [true, false, false, true, true, true] rfl ?_
      exact H h0
  · replace H := H.2 c1
    refine ar_bipush (pc := 15) (z := 8) (by decide +kernel) (by omega) ?_
    refine ar_aload_n (pc := 17) (i := 0) (k0 := 0) (by decide +kernel) rfl rfl ?_
    refine ar_getV (pc := 18) (a := 294) (v := .inl (h 294 43)) 7 43 (by decide +kernel) k_294 rfl (by decide) wf_RX7_363 rfl ?_
    refine ar_imul (pc := 21) (x := 8) (y := (h 294 43)) (by decide +kernel) ?_
    refine ar_iload_n (pc := 22) (i := 3) (k0 := 3) (by decide +kernel) rfl rfl ?_
    refine ar_iadd (pc := 23) (x := (am_w32 (8 * (h 294 43)))) (y := v3) (by decide +kernel) ?_
    refine ar_istore (pc := 24) (i := 4) (ls2 := [some (.inr (.inr 294)), some (.inl v1), some (.inl v2), some (.inl v3), some (.inl (am_w32 ((am_w32 (8 * (h 294 43))) + v3))), none]) (by decide +kernel) (by decide) rfl ?_
    refine ar_aload_n (pc := 26) (i := 0) (k0 := 0) (by decide +kernel) rfl rfl ?_
    refine ar_getV (pc := 27) (a := 294) (v := .inl (h 294 32)) 7 32 (by decide +kernel) k_294 rfl (by decide) wf_RX7_351 rfl ?_
    refine ar_iload_n (pc := 30) (i := 3) (k0 := 3) (by decide +kernel) rfl rfl ?_
    refine ar_callS (pc := 31) (M2 := M_X7_has) (as := [.inl (h 294 32), .inl v3]) (n2 := 321) (st := []) (by decide +kernel) rfl wm_RX7_260 ws_yX7_has wz_RX7 wc_yX7_has ⟨by decide, by decide, rfl⟩ (by decide) (Nat.le_of_ble_eq_true rfl) (Nat.le_refl _) (Nat.le_refl _) (am_Cl_mono H (fun r11 h12 H => ?_))
    show am_Wp true (d + 1) M_X7_endLevel 321 321 h0 Q 34 [some (.inr (.inr 294)), some (.inl v1), some (.inl v2), some (.inl v3), some (.inl (am_w32 ((am_w32 (8 * (h 294 43))) + v3))), none] [.inl r11] 321 h12
    refine ar_if_ne (pc := 34) (x := r11) (tgt := 40) (off := 6) (by decide +kernel) (by decide) (fun c13 => ?_) (fun c13 => ?_)
    · replace H := H.1 c13
      refine ar_aload_n (pc := 40) (i := 0) (k0 := 0) (by decide +kernel) rfl rfl ?_
      refine ar_getFV (pc := 41) (a := 294) (b := 311) 7 37 (by decide +kernel) k_294 rfl (by decide) wf_RX7_67 rfl (fun _ => rfl) rfl ?_
      refine ar_aload_n (pc := 44) (i := 0) (k0 := 0) (by decide +kernel) rfl rfl ?_
      refine ar_getV (pc := 45) (a := 294) (v := .inl (h12 294 43)) 7 43 (by decide +kernel) k_294 rfl (by decide) wf_RX7_363 rfl ?_
      refine ar_dup2 (pc := 48) (by decide +kernel) trivial trivial ?_
      obtain ⟨g14, H⟩ := H
      obtain ⟨g15, H⟩ := H
      refine ar_lald (pc := 49) (a := 311) (i := (h12 294 43)) (by decide +kernel) k_311 g14 (am_lt_eq g15 (l_311).symm) ?_
      refine ar_aload_n (pc := 50) (i := 0) (k0 := 0) (by decide +kernel) rfl rfl ?_
      refine ar_getFV (pc := 51) (a := 294) (b := 316) 7 42 (by decide +kernel) k_294 rfl (by decide) wf_RX7_82 rfl (fun _ => rfl) rfl ?_
      refine ar_iload (pc := 54) (i := 4) (by decide +kernel) rfl ?_
      obtain ⟨g16, H⟩ := H
      obtain ⟨g17, H⟩ := H
      refine ar_lald (pc := 56) (a := 316) (i := (am_w32 ((am_w32 (8 * (h 294 43))) + v3))) (by decide +kernel) k_316 g16 (am_lt_eq g17 (l_316).symm) ?_
      refine ar_lor (pc := 57) (x := (h12 311 (h12 294 43))) (y := (h12 316 (am_w32 ((am_w32 (8 * (h 294 43))) + v3)))) (by decide +kernel) ?_
      refine ar_last (pc := 58) (a := 311) (i := (h12 294 43)) (z := (am_lor (h12 311 (h12 294 43)) (h12 316 (am_w32 ((am_w32 (8 * (h 294 43))) + v3))))) (by decide +kernel) k_311 g14 (am_lt_eq g15 (l_311).symm) ?_
      refine ar_iload_n (pc := 59) (i := 2) (k0 := 2) (by decide +kernel) rfl rfl ?_
      refine ar_if_eq (pc := 60) (x := v2) (tgt := 77) (off := 17) (by decide +kernel) (by decide) (fun c18 => ?_) (fun c18 => ?_)
      · replace H := H.1 c18
        refine ar_forget [true, true, false, true, true, true] rfl ?_
        exact H h0
      · replace H := H.2 c18
        refine ar_aload_n (pc := 63) (i := 0) (k0 := 0) (by decide +kernel) rfl rfl ?_
        refine ar_getFV (pc := 64) (a := 294) (b := 315) 7 41 (by decide +kernel) k_294 rfl (by decide) wf_RX7_79 rfl (fun _ => rfl) rfl ?_
        refine ar_iload (pc := 67) (i := 4) (by decide +kernel) rfl ?_
        refine ar_ialdV (pc := 69) (a := 315) (i := (am_w32 ((am_w32 (8 * (h 294 43))) + v3))) (v := (h12 315 (am_w32 ((am_w32 (8 * (h 294 43))) + v3)))) (by first | rfl | (simp [am_up, am_cp]; done) | (simp [am_up, am_cp] <;> intros <;> omega)) (by decide +kernel) k_315 g16 (am_lt_eq g17 (l_315).symm) ?_
        refine ar_if_ne (pc := 70) (x := (h12 315 (am_w32 ((am_w32 (8 * (h 294 43))) + v3)))) (tgt := 77) (off := 7) (by decide +kernel) (by decide) (fun c19 => ?_) (fun c19 => ?_)
        · replace H := H.1 c19
          refine ar_forget [true, true, false, true, true, true] rfl ?_
          exact H h0
        · replace H := H.2 c19
          refine ar_iconst (pc := 73) (z := 1) (by decide +kernel) (by unfold am_i32; omega) ?_
          refine ar_goto (pc := 74) (tgt := 78) (off := 4) (by decide +kernel) (by decide) ?_
          refine ar_forget [true, true, false, true, true, true] rfl ?_
          exact H h0
    · replace H := H.2 c13
      refine ar_goto (pc := 37) (tgt := 122) (off := 85) (by decide +kernel) (by decide) ?_
      refine ar_forget [true, true, true, true, false, true] rfl ?_
      exact H h0
theorem B_X7_endLevel_77 {d : Nat} {Q : Int → am_H → Prop} {h : am_H} {v1 v3 v4 : Int} (H : wf (d + 1) M_X7_endLevel Q 78 [some (.inr (.inr 294)), some (.inl v1), none, some (.inl v3), some (.inl v4), none] [.inl 0] h) : wf (d + 1) M_X7_endLevel Q 77 [some (.inr (.inr 294)), some (.inl v1), none, some (.inl v3), some (.inl v4), none] [] h := by
  intro h0
  refine ar_iconst (pc := 77) (z := 0) (by decide +kernel) (by unfold am_i32; omega) ?_
  exact H h0
theorem B_X7_endLevel_78 {d : Nat} {Q : Int → am_H → Prop} {h : am_H} {v1 v3 v4 s0 : Int} (H : (0 ≤ v4) ∧ ((v4 < 24) ∧ (((h 315 v4) = 1 → wf (d + 1) M_X7_endLevel Q 122 [some (.inr (.inr 294)), some (.inl v1), some (.inl s0), some (.inl v3), none, none] [] h) ∧ (¬ (h 315 v4) = 1 → (0 ≤ v3) ∧ ((v3 < 8) ∧ (cf d M_X7_clauseAt [.inl (h 294 47), .inl (h 305 v3)] h (fun r6 h7 => (0 ≤ r6) ∧ ((r6 < 3300) ∧ ((¬ (h7 297 r6) = 2 → wf (d + 1) M_X7_endLevel Q 122 [some (.inr (.inr 294)), some (.inl v1), some (.inl s0), some (.inl v3), none, none] [] h7) ∧ ((h7 297 r6) = 2 → wf (d + 1) M_X7_endLevel Q 122 [some (.inr (.inr 294)), some (.inl (am_w32 (v1 + (h7 312 v4)))), some (.inl s0), some (.inl v3), none, none] [] h7)))))))))) : wf (d + 1) M_X7_endLevel Q 78 [some (.inr (.inr 294)), some (.inl v1), none, some (.inl v3), some (.inl v4), none] [.inl s0] h := by
  intro h0
  refine ar_istore_n (pc := 78) (i := 2) (k0 := 2) (ls2 := [some (.inr (.inr 294)), some (.inl v1), some (.inl s0), some (.inl v3), some (.inl v4), none]) (by decide +kernel) rfl (by decide) rfl ?_
  refine ar_aload_n (pc := 79) (i := 0) (k0 := 0) (by decide +kernel) rfl rfl ?_
  refine ar_getFV (pc := 80) (a := 294) (b := 315) 7 41 (by decide +kernel) k_294 rfl (by decide) wf_RX7_79 rfl (fun _ => rfl) rfl ?_
  refine ar_iload (pc := 83) (i := 4) (by decide +kernel) rfl ?_
  obtain ⟨g1, H⟩ := H
  obtain ⟨g2, H⟩ := H
  refine ar_iald (pc := 85) (a := 315) (i := v4) (by decide +kernel) k_315 g1 (am_lt_eq g2 (l_315).symm) ?_
  refine ar_iconst (pc := 86) (z := 1) (by decide +kernel) (by unfold am_i32; omega) ?_
  refine ar_icmp_eq (pc := 87) (x := (h 315 v4)) (y := 1) (tgt := 122) (off := 35) (by decide +kernel) (by decide) (fun c3 => ?_) (fun c3 => ?_)
  · replace H := H.1 c3
    refine ar_forget [true, true, true, true, false, true] rfl ?_
    exact H h0
  · replace H := H.2 c3
    refine ar_aload_n (pc := 90) (i := 0) (k0 := 0) (by decide +kernel) rfl rfl ?_
    refine ar_getFV (pc := 91) (a := 294) (b := 297) 7 2 (by decide +kernel) k_294 rfl (by decide) wf_RX7_16 rfl (fun _ => rfl) rfl ?_
    refine ar_aload_n (pc := 94) (i := 0) (k0 := 0) (by decide +kernel) rfl rfl ?_
    refine ar_getV (pc := 95) (a := 294) (v := .inl (h 294 47)) 7 47 (by decide +kernel) k_294 rfl (by decide) wf_RX7_403 rfl ?_
    refine ar_aload_n (pc := 98) (i := 0) (k0 := 0) (by decide +kernel) rfl rfl ?_
    refine ar_getFV (pc := 99) (a := 294) (b := 305) 7 28 (by decide +kernel) k_294 rfl (by decide) wf_RX7_49 rfl (fun _ => rfl) rfl ?_
    refine ar_iload_n (pc := 102) (i := 3) (k0 := 3) (by decide +kernel) rfl rfl ?_
    obtain ⟨g4, H⟩ := H
    obtain ⟨g5, H⟩ := H
    refine ar_iald (pc := 103) (a := 305) (i := v3) (by decide +kernel) k_305 g4 (am_lt_eq g5 (l_305).symm) ?_
    refine ar_callS (pc := 104) (M2 := M_X7_clauseAt) (as := [.inl (h 294 47), .inl (h 305 v3)]) (n2 := 321) (st := [.inr (.inr 297)]) (by decide +kernel) rfl wm_RX7_328 ws_yX7_clauseAt wz_RX7 wc_yX7_clauseAt ⟨by decide, by decide, rfl⟩ (by decide) (Nat.le_of_ble_eq_true rfl) (Nat.le_refl _) (Nat.le_refl _) (am_Cl_mono H (fun r6 h7 H => ?_))
    show am_Wp true (d + 1) M_X7_endLevel 321 321 h0 Q 107 [some (.inr (.inr 294)), some (.inl v1), some (.inl s0), some (.inl v3), some (.inl v4), none] [.inl r6, .inr (.inr 297)] 321 h7
    obtain ⟨g8, H⟩ := H
    obtain ⟨g9, H⟩ := H
    refine ar_iald (pc := 107) (a := 297) (i := r6) (by decide +kernel) k_297 g8 (am_lt_eq g9 (l_297).symm) ?_
    refine ar_iconst (pc := 108) (z := 2) (by decide +kernel) (by unfold am_i32; omega) ?_
    refine ar_icmp_ne (pc := 109) (x := (h7 297 r6)) (y := 2) (tgt := 122) (off := 13) (by decide +kernel) (by decide) (fun c10 => ?_) (fun c10 => ?_)
    · replace H := H.1 c10
      refine ar_forget [true, true, true, true, false, true] rfl ?_
      exact H h0
    · replace H := H.2 c10
      refine ar_iload_n (pc := 112) (i := 1) (k0 := 1) (by decide +kernel) rfl rfl ?_
      refine ar_aload_n (pc := 113) (i := 0) (k0 := 0) (by decide +kernel) rfl rfl ?_
      refine ar_getFV (pc := 114) (a := 294) (b := 312) 7 38 (by decide +kernel) k_294 rfl (by decide) wf_RX7_70 rfl (fun _ => rfl) rfl ?_
      refine ar_iload (pc := 117) (i := 4) (by decide +kernel) rfl ?_
      refine ar_iald (pc := 119) (a := 312) (i := v4) (by decide +kernel) k_312 g1 (am_lt_eq g2 (l_312).symm) ?_
      refine ar_iadd (pc := 120) (x := v1) (y := (h7 312 v4)) (by decide +kernel) ?_
      refine ar_istore_n (pc := 121) (i := 1) (k0 := 1) (ls2 := [some (.inr (.inr 294)), some (.inl (am_w32 (v1 + (h7 312 v4)))), some (.inl s0), some (.inl v3), some (.inl v4), none]) (by decide +kernel) rfl (by decide) rfl ?_
      refine ar_forget [true, true, true, true, false, true] rfl ?_
      exact H h0
theorem B_X7_endLevel_122 {d : Nat} {Q : Int → am_H → Prop} {h : am_H} {v1 v2 v3 : Int} (H : wf (d + 1) M_X7_endLevel Q 9 [some (.inr (.inr 294)), some (.inl v1), some (.inl v2), some (.inl (am_w32 (v3 + 1))), none, none] [] h) : wf (d + 1) M_X7_endLevel Q 122 [some (.inr (.inr 294)), some (.inl v1), some (.inl v2), some (.inl v3), none, none] [] h := by
  intro h0
  refine ar_iinc (pc := 122) (i := 3) (z := 1) (x := v3) (ls2 := [some (.inr (.inr 294)), some (.inl v1), some (.inl v2), some (.inl (am_w32 (v3 + 1))), none, none]) (by decide +kernel) rfl (by decide) rfl ?_
  refine ar_goto (pc := 125) (tgt := 9) (off := -116) (by decide +kernel) (by decide) ?_
  exact H h0
theorem B_X7_endLevel_195 {d : Nat} {Q : Int → am_H → Prop} {h : am_H} {v3 v5 s1 s2 : Int} (H : (0 ≤ s1) ∧ ((s1 < 24) ∧ ((0 ≤ v5) ∧ ((v5 < 24) ∧ ((0 ≤ (h 294 43)) ∧ (((h 294 43) < 3) ∧ (Q 0 (am_up (am_up (am_up h 315 s1 s2) 316 v5 (am_lor (h 316 v5) v3)) 310 (h 294 43) (am_w32 ((h 310 (h 294 43)) + 1)))))))))) : wf (d + 1) M_X7_endLevel Q 195 [some (.inr (.inr 294)), none, none, some (.inr (.inl v3)), none, some (.inl v5)] [.inl s2, .inl s1, .inr (.inr 315)] h := by
  intro h0
  obtain ⟨g1, H⟩ := H
  obtain ⟨g2, H⟩ := H
  refine ar_iast (pc := 195) (a := 315) (i := s1) (z := s2) (by decide +kernel) k_315 g1 (am_lt_eq g2 (l_315).symm) ?_
  refine ar_aload_n (pc := 196) (i := 0) (k0 := 0) (by decide +kernel) rfl rfl ?_
  refine ar_getFV (pc := 197) (a := 294) (b := 316) 7 42 (by decide +kernel) k_294 rfl (by decide) wf_RX7_82 rfl (fun _ => rfl) rfl ?_
  refine ar_iload (pc := 200) (i := 5) (by decide +kernel) rfl ?_
  refine ar_dup2 (pc := 202) (by decide +kernel) trivial trivial ?_
  obtain ⟨g3, H⟩ := H
  obtain ⟨g4, H⟩ := H
  refine ar_laldV (pc := 203) (a := 316) (i := v5) (v := (h 316 v5)) (by first | rfl | (simp [am_up, am_cp]; done) | (simp [am_up, am_cp] <;> intros <;> omega)) (by decide +kernel) k_316 g3 (am_lt_eq g4 (l_316).symm) ?_
  refine ar_lload_n (pc := 204) (i := 3) (k0 := 3) (by decide +kernel) rfl rfl ?_
  refine ar_lor (pc := 205) (x := (h 316 v5)) (y := v3) (by decide +kernel) ?_
  refine ar_last (pc := 206) (a := 316) (i := v5) (z := (am_lor (h 316 v5) v3)) (by decide +kernel) k_316 g3 (am_lt_eq g4 (l_316).symm) ?_
  refine ar_aload_n (pc := 207) (i := 0) (k0 := 0) (by decide +kernel) rfl rfl ?_
  refine ar_getFV (pc := 208) (a := 294) (b := 310) 7 36 (by decide +kernel) k_294 rfl (by decide) wf_RX7_64 rfl (fun _ => rfl) rfl ?_
  refine ar_aload_n (pc := 211) (i := 0) (k0 := 0) (by decide +kernel) rfl rfl ?_
  refine ar_getV (pc := 212) (a := 294) (v := .inl (h 294 43)) 7 43 (by decide +kernel) k_294 rfl (by decide) wf_RX7_363 (by first | rfl | (simp [am_tv, am_ty, tyX7, am_up, am_cp]; done) | (simp [am_tv, am_ty, tyX7, am_up, am_cp] <;> intros <;> omega)) ?_
  refine ar_dup2 (pc := 215) (by decide +kernel) trivial trivial ?_
  obtain ⟨g5, H⟩ := H
  obtain ⟨g6, H⟩ := H
  refine ar_ialdV (pc := 216) (a := 310) (i := (h 294 43)) (v := (h 310 (h 294 43))) (by first | rfl | (simp [am_up, am_cp]; done) | (simp [am_up, am_cp] <;> intros <;> omega)) (by decide +kernel) k_310 g5 (am_lt_eq g6 (l_310).symm) ?_
  refine ar_iconst (pc := 217) (z := 1) (by decide +kernel) (by unfold am_i32; omega) ?_
  refine ar_iadd (pc := 218) (x := (h 310 (h 294 43))) (y := 1) (by decide +kernel) ?_
  refine ar_iast (pc := 219) (a := 310) (i := (h 294 43)) (z := (am_w32 ((h 310 (h 294 43)) + 1))) (by decide +kernel) k_310 g5 (am_lt_eq g6 (l_310).symm) ?_
  exact ar_vret (pc := 220) (by decide +kernel) rfl rfl H

/-! ByteIntervalsModel.readField(I)Z -/
theorem B_X7_readField_0 {d : Nat} {Q : Int → am_H → Prop} {h : am_H} {v1 : Int} (H : (0 ≤ (h 294 43)) ∧ (((h 294 43) < 3) ∧ ((0 ≤ (h 310 (h 294 43))) ∧ (((h 310 (h 294 43)) < 8) ∧ ((0 ≤ (h 307 (h 310 (h 294 43)))) ∧ (((h 307 (h 310 (h 294 43))) < 8) ∧ (cf d M_X7_isAnyBroken [.inr (.inr 294), .inl (h 306 (h 307 (h 310 (h 294 43))))] h (fun r7 h8 => (r7 = 0 → cf d M_X7_nameLevel [.inr (.inr 294)] h8 (fun _ h11 => cf d M_X7_clauseAt [.inl v1, .inl (h11 305 (h 307 (h 310 (h 294 43))))] h11 (fun r12 h13 => (0 ≤ r12) ∧ ((r12 < 3300) ∧ ((¬ (h13 297 r12) = 2 → (¬ (h13 297 r12) = 0 → cf d M_X7_readSum [.inr (.inr 294), .inl v1, .inl (h 307 (h 310 (h 294 43)))] h13 (fun _ h19 => Q 0 h19)) ∧ ((h13 297 r12) = 0 → cf d M_X7_readNum [.inr (.inr 294), .inl v1, .inl (h 307 (h 310 (h 294 43)))] h13 (fun _ h21 => Q 0 h21))) ∧ ((h13 297 r12) = 2 → cf d M_X7_isNestBegun [.inr (.inr 294), .inl v1, .inl (h 307 (h 310 (h 294 43)))] h13 (fun r22 h23 => (r22 = 0 ∨ r22 = 1) ∧ (Q r22 h23)))))))) ∧ (¬ r7 = 0 → Q 0 h8))))))))) : wf (d + 1) M_X7_readField Q 0 [some (.inr (.inr 294)), some (.inl v1), none, none] [] h := by
  intro h0
  refine ar_aload_n (pc := 0) (i := 0) (k0 := 0) (by decide +kernel) rfl rfl ?_
  refine ar_getFV (pc := 1) (a := 294) (b := 307) 7 30 (by decide +kernel) k_294 rfl (by decide) wf_RX7_55 rfl (fun _ => rfl) rfl ?_
  refine ar_aload_n (pc := 4) (i := 0) (k0 := 0) (by decide +kernel) rfl rfl ?_
  refine ar_getFV (pc := 5) (a := 294) (b := 310) 7 36 (by decide +kernel) k_294 rfl (by decide) wf_RX7_64 rfl (fun _ => rfl) rfl ?_
  refine ar_aload_n (pc := 8) (i := 0) (k0 := 0) (by decide +kernel) rfl rfl ?_
  refine ar_getV (pc := 9) (a := 294) (v := .inl (h 294 43)) 7 43 (by decide +kernel) k_294 rfl (by decide) wf_RX7_363 rfl ?_
  obtain ⟨g1, H⟩ := H
  obtain ⟨g2, H⟩ := H
  refine ar_iald (pc := 12) (a := 310) (i := (h 294 43)) (by decide +kernel) k_310 g1 (am_lt_eq g2 (l_310).symm) ?_
  obtain ⟨g3, H⟩ := H
  obtain ⟨g4, H⟩ := H
  refine ar_iald (pc := 13) (a := 307) (i := (h 310 (h 294 43))) (by decide +kernel) k_307 g3 (am_lt_eq g4 (l_307).symm) ?_
  refine ar_istore_n (pc := 14) (i := 2) (k0 := 2) (ls2 := [some (.inr (.inr 294)), some (.inl v1), some (.inl (h 307 (h 310 (h 294 43)))), none]) (by decide +kernel) rfl (by decide) rfl ?_
  refine ar_aload_n (pc := 15) (i := 0) (k0 := 0) (by decide +kernel) rfl rfl ?_
  refine ar_aload_n (pc := 16) (i := 0) (k0 := 0) (by decide +kernel) rfl rfl ?_
  refine ar_getFV (pc := 17) (a := 294) (b := 306) 7 29 (by decide +kernel) k_294 rfl (by decide) wf_RX7_52 rfl (fun _ => rfl) rfl ?_
  refine ar_iload_n (pc := 20) (i := 2) (k0 := 2) (by decide +kernel) rfl rfl ?_
  obtain ⟨g5, H⟩ := H
  obtain ⟨g6, H⟩ := H
  refine ar_iald (pc := 21) (a := 306) (i := (h 307 (h 310 (h 294 43)))) (by decide +kernel) k_306 g5 (am_lt_eq g6 (l_306).symm) ?_
  refine ar_callV (pc := 22) (M2 := M_X7_isAnyBroken) (a := 294) (ci := 7) (as := [.inl (h 306 (h 307 (h 310 (h 294 43))))]) (n2 := 321) (st := []) (by decide +kernel) rfl wm_RX7_397 wi_yX7_isAnyBroken wl_yX7_isAnyBroken k_294 rfl wz_RX7 wc_yX7_isAnyBroken ⟨by decide, by decide, rfl⟩ (by decide) (Nat.le_of_ble_eq_true rfl) (Nat.le_refl _) (Nat.le_refl _) (am_Cl_mono H (fun r7 h8 H => ?_))
  show am_Wp true (d + 1) M_X7_readField 321 321 h0 Q 25 [some (.inr (.inr 294)), some (.inl v1), some (.inl (h 307 (h 310 (h 294 43)))), none] [.inl r7] 321 h8
  refine ar_if_eq (pc := 25) (x := r7) (tgt := 30) (off := 5) (by decide +kernel) (by decide) (fun c9 => ?_) (fun c9 => ?_)
  · replace H := H.1 c9
    refine ar_aload_n (pc := 30) (i := 0) (k0 := 0) (by decide +kernel) rfl rfl ?_
    refine ar_callV (pc := 31) (M2 := M_X7_nameLevel) (a := 294) (ci := 7) (as := []) (n2 := 321) (st := []) (by decide +kernel) rfl wm_RX7_394 wi_yX7_nameLevel wl_yX7_nameLevel k_294 rfl wz_RX7 wc_yX7_nameLevel ⟨by decide, by decide, rfl⟩ (by decide) (Nat.le_of_ble_eq_true rfl) (Nat.le_refl _) (Nat.le_refl _) (am_Cl_mono H (fun r10 h11 H => ?_))
    show am_Wp true (d + 1) M_X7_readField 321 321 h0 Q 34 [some (.inr (.inr 294)), some (.inl v1), some (.inl (h 307 (h 310 (h 294 43)))), none] [] 321 h11
    refine ar_aload_n (pc := 34) (i := 0) (k0 := 0) (by decide +kernel) rfl rfl ?_
    refine ar_getFV (pc := 35) (a := 294) (b := 297) 7 2 (by decide +kernel) k_294 rfl (by decide) wf_RX7_16 rfl (fun _ => rfl) rfl ?_
    refine ar_iload_n (pc := 38) (i := 1) (k0 := 1) (by decide +kernel) rfl rfl ?_
    refine ar_aload_n (pc := 39) (i := 0) (k0 := 0) (by decide +kernel) rfl rfl ?_
    refine ar_getFV (pc := 40) (a := 294) (b := 305) 7 28 (by decide +kernel) k_294 rfl (by decide) wf_RX7_49 rfl (fun _ => rfl) rfl ?_
    refine ar_iload_n (pc := 43) (i := 2) (k0 := 2) (by decide +kernel) rfl rfl ?_
    refine ar_iald (pc := 44) (a := 305) (i := (h 307 (h 310 (h 294 43)))) (by decide +kernel) k_305 g5 (am_lt_eq g6 (l_305).symm) ?_
    refine ar_callS (pc := 45) (M2 := M_X7_clauseAt) (as := [.inl v1, .inl (h11 305 (h 307 (h 310 (h 294 43))))]) (n2 := 321) (st := [.inr (.inr 297)]) (by decide +kernel) rfl wm_RX7_328 ws_yX7_clauseAt wz_RX7 wc_yX7_clauseAt ⟨by decide, by decide, rfl⟩ (by decide) (Nat.le_of_ble_eq_true rfl) (Nat.le_refl _) (Nat.le_refl _) (am_Cl_mono H (fun r12 h13 H => ?_))
    show am_Wp true (d + 1) M_X7_readField 321 321 h0 Q 48 [some (.inr (.inr 294)), some (.inl v1), some (.inl (h 307 (h 310 (h 294 43)))), none] [.inl r12, .inr (.inr 297)] 321 h13
    obtain ⟨g14, H⟩ := H
    obtain ⟨g15, H⟩ := H
    refine ar_iald (pc := 48) (a := 297) (i := r12) (by decide +kernel) k_297 g14 (am_lt_eq g15 (l_297).symm) ?_
    refine ar_istore_n (pc := 49) (i := 3) (k0 := 3) (ls2 := [some (.inr (.inr 294)), some (.inl v1), some (.inl (h 307 (h 310 (h 294 43)))), some (.inl (h13 297 r12))]) (by decide +kernel) rfl (by decide) rfl ?_
    refine ar_iload_n (pc := 50) (i := 3) (k0 := 3) (by decide +kernel) rfl rfl ?_
    refine ar_iconst (pc := 51) (z := 2) (by decide +kernel) (by unfold am_i32; omega) ?_
    refine ar_icmp_ne (pc := 52) (x := (h13 297 r12)) (y := 2) (tgt := 62) (off := 10) (by decide +kernel) (by decide) (fun c16 => ?_) (fun c16 => ?_)
    · replace H := H.1 c16
      refine ar_iload_n (pc := 62) (i := 3) (k0 := 3) (by decide +kernel) rfl rfl ?_
      refine ar_if_ne (pc := 63) (x := (h13 297 r12)) (tgt := 75) (off := 12) (by decide +kernel) (by decide) (fun c17 => ?_) (fun c17 => ?_)
      · replace H := H.1 c17
        refine ar_aload_n (pc := 75) (i := 0) (k0 := 0) (by decide +kernel) rfl rfl ?_
        refine ar_iload_n (pc := 76) (i := 1) (k0 := 1) (by decide +kernel) rfl rfl ?_
        refine ar_iload_n (pc := 77) (i := 2) (k0 := 2) (by decide +kernel) rfl rfl ?_
        refine ar_callV (pc := 78) (M2 := M_X7_readSum) (a := 294) (ci := 7) (as := [.inl v1, .inl (h 307 (h 310 (h 294 43)))]) (n2 := 321) (st := []) (by decide +kernel) rfl wm_RX7_412 wi_yX7_readSum wl_yX7_readSum k_294 rfl wz_RX7 wc_yX7_readSum ⟨by decide, by decide, rfl⟩ (by decide) (Nat.le_of_ble_eq_true rfl) (Nat.le_refl _) (Nat.le_refl _) (am_Cl_mono H (fun r18 h19 H => ?_))
        show am_Wp true (d + 1) M_X7_readField 321 321 h0 Q 81 [some (.inr (.inr 294)), some (.inl v1), some (.inl (h 307 (h 310 (h 294 43)))), some (.inl (h13 297 r12))] [] 321 h19
        refine ar_iconst (pc := 81) (z := 0) (by decide +kernel) (by unfold am_i32; omega) ?_
        exact ar_zret (pc := 82) (x := 0) (by decide +kernel) rfl rfl (by decide) H
      · replace H := H.2 c17
        refine ar_aload_n (pc := 66) (i := 0) (k0 := 0) (by decide +kernel) rfl rfl ?_
        refine ar_iload_n (pc := 67) (i := 1) (k0 := 1) (by decide +kernel) rfl rfl ?_
        refine ar_iload_n (pc := 68) (i := 2) (k0 := 2) (by decide +kernel) rfl rfl ?_
        refine ar_callV (pc := 69) (M2 := M_X7_readNum) (a := 294) (ci := 7) (as := [.inl v1, .inl (h 307 (h 310 (h 294 43)))]) (n2 := 321) (st := []) (by decide +kernel) rfl wm_RX7_409 wi_yX7_readNum wl_yX7_readNum k_294 rfl wz_RX7 wc_yX7_readNum ⟨by decide, by decide, rfl⟩ (by decide) (Nat.le_of_ble_eq_true rfl) (Nat.le_refl _) (Nat.le_refl _) (am_Cl_mono H (fun r20 h21 H => ?_))
        show am_Wp true (d + 1) M_X7_readField 321 321 h0 Q 72 [some (.inr (.inr 294)), some (.inl v1), some (.inl (h 307 (h 310 (h 294 43)))), some (.inl (h13 297 r12))] [] 321 h21
        refine ar_goto (pc := 72) (tgt := 81) (off := 9) (by decide +kernel) (by decide) ?_
        refine ar_iconst (pc := 81) (z := 0) (by decide +kernel) (by unfold am_i32; omega) ?_
        exact ar_zret (pc := 82) (x := 0) (by decide +kernel) rfl rfl (by decide) H
    · replace H := H.2 c16
      refine ar_aload_n (pc := 55) (i := 0) (k0 := 0) (by decide +kernel) rfl rfl ?_
      refine ar_iload_n (pc := 56) (i := 1) (k0 := 1) (by decide +kernel) rfl rfl ?_
      refine ar_iload_n (pc := 57) (i := 2) (k0 := 2) (by decide +kernel) rfl rfl ?_
      refine ar_callV (pc := 58) (M2 := M_X7_isNestBegun) (a := 294) (ci := 7) (as := [.inl v1, .inl (h 307 (h 310 (h 294 43)))]) (n2 := 321) (st := []) (by decide +kernel) rfl wm_RX7_406 wi_yX7_isNestBegun wl_yX7_isNestBegun k_294 rfl wz_RX7 wc_yX7_isNestBegun ⟨by decide, by decide, rfl⟩ (by decide) (Nat.le_of_ble_eq_true rfl) (Nat.le_refl _) (Nat.le_refl _) (am_Cl_mono H (fun r22 h23 H => ?_))
      show am_Wp true (d + 1) M_X7_readField 321 321 h0 Q 61 [some (.inr (.inr 294)), some (.inl v1), some (.inl (h 307 (h 310 (h 294 43)))), some (.inl (h13 297 r12))] [.inl r22] 321 h23
      obtain ⟨g24, H⟩ := H
      exact ar_zret (pc := 61) (x := r22) (by decide +kernel) rfl rfl g24 H
  · replace H := H.2 c9
    refine ar_iconst (pc := 28) (z := 0) (by decide +kernel) (by unfold am_i32; omega) ?_
    exact ar_zret (pc := 29) (x := 0) (by decide +kernel) rfl rfl (by decide) H

/-! ByteIntervalsModel.readBy(I)V -/
theorem B_X7_readBy_0 {d : Nat} {Q : Int → am_H → Prop} {h : am_H} {v1 : Int} (H : cf d M_X7_beginLevel [.inr (.inr 294), .inl 0, .inl 0, .inl (h 295 6)] (am_up (am_up (am_up h 294 47 v1) 294 44 0) 294 45 (-1)) (fun _ h2 => wf (d + 1) M_X7_readBy Q 30 [some (.inr (.inr 294)), some (.inl v1), some (.inl 0)] [] h2)) : wf (d + 1) M_X7_readBy Q 0 [some (.inr (.inr 294)), some (.inl v1), none] [] h := by
  intro h0
  refine ar_aload_n (pc := 0) (i := 0) (k0 := 0) (by decide +kernel) rfl rfl ?_
  refine ar_iload_n (pc := 1) (i := 1) (k0 := 1) (by decide +kernel) rfl rfl ?_
  refine ar_putI (pc := 2) (a := 294) (z := v1) 7 47 (by decide +kernel) k_294 rfl (by decide) rfl (fun _ => rfl) rfl wf_RX7_403 ?_
  refine ar_aload_n (pc := 5) (i := 0) (k0 := 0) (by decide +kernel) rfl rfl ?_
  refine ar_iconst (pc := 6) (z := 0) (by decide +kernel) (by unfold am_i32; omega) ?_
  refine ar_putI (pc := 7) (a := 294) (z := 0) 7 44 (by decide +kernel) k_294 rfl (by decide) rfl (fun _ => rfl) rfl wf_RX7_366 ?_
  refine ar_aload_n (pc := 10) (i := 0) (k0 := 0) (by decide +kernel) rfl rfl ?_
  refine ar_iconst (pc := 11) (z := (-1)) (by decide +kernel) (by unfold am_i32; omega) ?_
  refine ar_putI (pc := 12) (a := 294) (z := (-1)) 7 45 (by decide +kernel) k_294 rfl (by decide) rfl (fun _ => rfl) rfl wf_RX7_400 ?_
  refine ar_aload_n (pc := 15) (i := 0) (k0 := 0) (by decide +kernel) rfl rfl ?_
  refine ar_iconst (pc := 16) (z := 0) (by decide +kernel) (by unfold am_i32; omega) ?_
  refine ar_iconst (pc := 17) (z := 0) (by decide +kernel) (by unfold am_i32; omega) ?_
  refine ar_aload_n (pc := 18) (i := 0) (k0 := 0) (by decide +kernel) rfl rfl ?_
  refine ar_getFV (pc := 19) (a := 294) (b := 295) 7 0 (by decide +kernel) k_294 rfl (by decide) wf_RX7_7 rfl (fun _ => rfl) rfl ?_
  refine ar_bipush (pc := 22) (z := 6) (by decide +kernel) (by omega) ?_
  refine ar_ialdV (pc := 24) (a := 295) (i := 6) (v := (h 295 6)) (by first | rfl | (simp [am_up, am_cp]; done) | (simp [am_up, am_cp] <;> intros <;> omega)) (by decide +kernel) k_295 (by decide) (am_lt_eq (b := 2159) (by decide) (l_295).symm) ?_
  refine ar_callV (pc := 25) (M2 := M_X7_beginLevel) (a := 294) (ci := 7) (as := [.inl 0, .inl 0, .inl (h 295 6)]) (n2 := 321) (st := []) (by decide +kernel) rfl wm_RX7_388 wi_yX7_beginLevel wl_yX7_beginLevel k_294 rfl wz_RX7 wc_yX7_beginLevel ⟨by decide, by decide, rfl⟩ (by decide) (Nat.le_of_ble_eq_true rfl) (Nat.le_refl _) (Nat.le_refl _) (am_Cl_mono H (fun r1 h2 H => ?_))
  show am_Wp true (d + 1) M_X7_readBy 321 321 h0 Q 28 [some (.inr (.inr 294)), some (.inl v1), none] [] 321 h2
  refine ar_iconst (pc := 28) (z := 0) (by decide +kernel) (by unfold am_i32; omega) ?_
  refine ar_istore_n (pc := 29) (i := 2) (k0 := 2) (ls2 := [some (.inr (.inr 294)), some (.inl v1), some (.inl 0)]) (by decide +kernel) rfl (by decide) rfl ?_
  exact H h0
theorem B_X7_readBy_30 {d : Nat} {Q : Int → am_H → Prop} {h : am_H} {v1 v2 : Int} (H : (¬ v2 = 0 → Q 0 h) ∧ (v2 = 0 → (0 ≤ (h 294 43)) ∧ (((h 294 43) < 3) ∧ (((h 294 31) ≤ (h 310 (h 294 43)) → cf d M_X7_readMusts [.inr (.inr 294), .inl v1] h (fun _ h6 => (¬ (h6 294 43) = 0 → wf (d + 1) M_X7_readBy Q 91 [some (.inr (.inr 294)), some (.inl v1), none] [.inl 0] h6) ∧ ((h6 294 43) = 0 → wf (d + 1) M_X7_readBy Q 91 [some (.inr (.inr 294)), some (.inl v1), none] [.inl 1] h6))) ∧ ((h 310 (h 294 43)) < (h 294 31) → cf d M_X7_readField [.inr (.inr 294), .inl v1] h (fun r8 h9 => (¬ r8 = 0 → wf (d + 1) M_X7_readBy Q 30 [some (.inr (.inr 294)), some (.inl v1), some (.inl v2)] [] h9) ∧ (r8 = 0 → (0 ≤ (h9 294 43)) ∧ (((h9 294 43) < 3) ∧ (wf (d + 1) M_X7_readBy Q 30 [some (.inr (.inr 294)), some (.inl v1), some (.inl v2)] [] (am_up h9 310 (h9 294 43) (am_w32 ((h9 310 (h9 294 43)) + 1)))))))))))) : wf (d + 1) M_X7_readBy Q 30 [some (.inr (.inr 294)), some (.inl v1), some (.inl v2)] [] h := by
  intro h0
  refine ar_iload_n (pc := 30) (i := 2) (k0 := 2) (by decide +kernel) rfl rfl ?_
  refine ar_if_ne (pc := 31) (x := v2) (tgt := 103) (off := 72) (by decide +kernel) (by decide) (fun c1 => ?_) (fun c1 => ?_)
  · replace H := H.1 c1
    exact ar_vret (pc := 103) (by decide +kernel) rfl rfl H
  · replace H := H.2 c1
    refine ar_aload_n (pc := 34) (i := 0) (k0 := 0) (by decide +kernel) rfl rfl ?_
    refine ar_getFV (pc := 35) (a := 294) (b := 310) 7 36 (by decide +kernel) k_294 rfl (by decide) wf_RX7_64 rfl (fun _ => rfl) rfl ?_
    refine ar_aload_n (pc := 38) (i := 0) (k0 := 0) (by decide +kernel) rfl rfl ?_
    refine ar_getV (pc := 39) (a := 294) (v := .inl (h 294 43)) 7 43 (by decide +kernel) k_294 rfl (by decide) wf_RX7_363 rfl ?_
    obtain ⟨g2, H⟩ := H
    obtain ⟨g3, H⟩ := H
    refine ar_iald (pc := 42) (a := 310) (i := (h 294 43)) (by decide +kernel) k_310 g2 (am_lt_eq g3 (l_310).symm) ?_
    refine ar_aload_n (pc := 43) (i := 0) (k0 := 0) (by decide +kernel) rfl rfl ?_
    refine ar_getV (pc := 44) (a := 294) (v := .inl (h 294 31)) 7 31 (by decide +kernel) k_294 rfl (by decide) wf_RX7_357 rfl ?_
    refine ar_icmp_ge (pc := 47) (x := (h 310 (h 294 43))) (y := (h 294 31)) (tgt := 74) (off := 27) (by decide +kernel) (by decide) (fun c4 => ?_) (fun c4 => ?_)
    · replace H := H.1 c4
      refine ar_aload_n (pc := 74) (i := 0) (k0 := 0) (by decide +kernel) rfl rfl ?_
      refine ar_iload_n (pc := 75) (i := 1) (k0 := 1) (by decide +kernel) rfl rfl ?_
      refine ar_callV (pc := 76) (M2 := M_X7_readMusts) (a := 294) (ci := 7) (as := [.inl v1]) (n2 := 321) (st := []) (by decide +kernel) rfl wm_RX7_418 wi_yX7_readMusts wl_yX7_readMusts k_294 rfl wz_RX7 wc_yX7_readMusts ⟨by decide, by decide, rfl⟩ (by decide) (Nat.le_of_ble_eq_true rfl) (Nat.le_refl _) (Nat.le_refl _) (am_Cl_mono H (fun r5 h6 H => ?_))
      show am_Wp true (d + 1) M_X7_readBy 321 321 h0 Q 79 [some (.inr (.inr 294)), some (.inl v1), some (.inl v2)] [] 321 h6
      refine ar_aload_n (pc := 79) (i := 0) (k0 := 0) (by decide +kernel) rfl rfl ?_
      refine ar_getV (pc := 80) (a := 294) (v := .inl (h6 294 43)) 7 43 (by decide +kernel) k_294 rfl (by decide) wf_RX7_363 rfl ?_
      refine ar_if_ne (pc := 83) (x := (h6 294 43)) (tgt := 90) (off := 7) (by decide +kernel) (by decide) (fun c7 => ?_) (fun c7 => ?_)
      · replace H := H.1 c7
        refine ar_iconst (pc := 90) (z := 0) (by decide +kernel) (by unfold am_i32; omega) ?_
        refine ar_forget [true, true, false] rfl ?_
        exact H h0
      · replace H := H.2 c7
        refine ar_iconst (pc := 86) (z := 1) (by decide +kernel) (by unfold am_i32; omega) ?_
        refine ar_goto (pc := 87) (tgt := 91) (off := 4) (by decide +kernel) (by decide) ?_
        refine ar_forget [true, true, false] rfl ?_
        exact H h0
    · replace H := H.2 c4
      refine ar_aload_n (pc := 50) (i := 0) (k0 := 0) (by decide +kernel) rfl rfl ?_
      refine ar_iload_n (pc := 51) (i := 1) (k0 := 1) (by decide +kernel) rfl rfl ?_
      refine ar_callV (pc := 52) (M2 := M_X7_readField) (a := 294) (ci := 7) (as := [.inl v1]) (n2 := 321) (st := []) (by decide +kernel) rfl wm_RX7_415 wi_yX7_readField wl_yX7_readField k_294 rfl wz_RX7 wc_yX7_readField ⟨by decide, by decide, rfl⟩ (by decide) (Nat.le_of_ble_eq_true rfl) (Nat.le_refl _) (Nat.le_refl _) (am_Cl_mono H (fun r8 h9 H => ?_))
      show am_Wp true (d + 1) M_X7_readBy 321 321 h0 Q 55 [some (.inr (.inr 294)), some (.inl v1), some (.inl v2)] [.inl r8] 321 h9
      refine ar_if_ne (pc := 55) (x := r8) (tgt := 30) (off := -25) (by decide +kernel) (by decide) (fun c10 => ?_) (fun c10 => ?_)
      · replace H := H.1 c10
        exact H h0
      · replace H := H.2 c10
        refine ar_aload_n (pc := 58) (i := 0) (k0 := 0) (by decide +kernel) rfl rfl ?_
        refine ar_getFV (pc := 59) (a := 294) (b := 310) 7 36 (by decide +kernel) k_294 rfl (by decide) wf_RX7_64 rfl (fun _ => rfl) rfl ?_
        refine ar_aload_n (pc := 62) (i := 0) (k0 := 0) (by decide +kernel) rfl rfl ?_
        refine ar_getV (pc := 63) (a := 294) (v := .inl (h9 294 43)) 7 43 (by decide +kernel) k_294 rfl (by decide) wf_RX7_363 rfl ?_
        refine ar_dup2 (pc := 66) (by decide +kernel) trivial trivial ?_
        obtain ⟨g11, H⟩ := H
        obtain ⟨g12, H⟩ := H
        refine ar_iald (pc := 67) (a := 310) (i := (h9 294 43)) (by decide +kernel) k_310 g11 (am_lt_eq g12 (l_310).symm) ?_
        refine ar_iconst (pc := 68) (z := 1) (by decide +kernel) (by unfold am_i32; omega) ?_
        refine ar_iadd (pc := 69) (x := (h9 310 (h9 294 43))) (y := 1) (by decide +kernel) ?_
        refine ar_iast (pc := 70) (a := 310) (i := (h9 294 43)) (z := (am_w32 ((h9 310 (h9 294 43)) + 1))) (by decide +kernel) k_310 g11 (am_lt_eq g12 (l_310).symm) ?_
        refine ar_goto (pc := 71) (tgt := 30) (off := -41) (by decide +kernel) (by decide) ?_
        exact H h0
theorem B_X7_readBy_91 {d : Nat} {Q : Int → am_H → Prop} {h : am_H} {v1 s0 : Int} (H : (¬ s0 = 0 → wf (d + 1) M_X7_readBy Q 30 [some (.inr (.inr 294)), some (.inl v1), some (.inl s0)] [] h) ∧ (s0 = 0 → cf d M_X7_endLevel [.inr (.inr 294)] h (fun _ h3 => wf (d + 1) M_X7_readBy Q 30 [some (.inr (.inr 294)), some (.inl v1), some (.inl s0)] [] h3))) : wf (d + 1) M_X7_readBy Q 91 [some (.inr (.inr 294)), some (.inl v1), none] [.inl s0] h := by
  intro h0
  refine ar_istore_n (pc := 91) (i := 2) (k0 := 2) (ls2 := [some (.inr (.inr 294)), some (.inl v1), some (.inl s0)]) (by decide +kernel) rfl (by decide) rfl ?_
  refine ar_iload_n (pc := 92) (i := 2) (k0 := 2) (by decide +kernel) rfl rfl ?_
  refine ar_if_ne (pc := 93) (x := s0) (tgt := 30) (off := -63) (by decide +kernel) (by decide) (fun c1 => ?_) (fun c1 => ?_)
  · replace H := H.1 c1
    exact H h0
  · replace H := H.2 c1
    refine ar_aload_n (pc := 96) (i := 0) (k0 := 0) (by decide +kernel) rfl rfl ?_
    refine ar_callV (pc := 97) (M2 := M_X7_endLevel) (a := 294) (ci := 7) (as := []) (n2 := 321) (st := []) (by decide +kernel) rfl wm_RX7_421 wi_yX7_endLevel wl_yX7_endLevel k_294 rfl wz_RX7 wc_yX7_endLevel ⟨by decide, by decide, rfl⟩ (by decide) (Nat.le_of_ble_eq_true rfl) (Nat.le_refl _) (Nat.le_refl _) (am_Cl_mono H (fun r2 h3 H => ?_))
    show am_Wp true (d + 1) M_X7_readBy 321 321 h0 Q 100 [some (.inr (.inr 294)), some (.inl v1), some (.inl s0)] [] 321 h3
    refine ar_goto (pc := 100) (tgt := 30) (off := -70) (by decide +kernel) (by decide) ?_
    exact H h0

/-! ByteIntervalsModel.read(I)V -/
theorem B_X7_read_0 {d : Nat} {Q : Int → am_H → Prop} {h : am_H} {v1 : Int} (H : cf d M_X7_layOrder [.inr (.inr 294), .inl v1] h (fun _ h2 => cf d M_X7_readBy [.inr (.inr 294), .inl v1] h2 (fun _ h4 => Q 0 h4))) : wf (d + 1) M_X7_read Q 0 [some (.inr (.inr 294)), some (.inl v1)] [] h := by
  intro h0
  refine ar_aload_n (pc := 0) (i := 0) (k0 := 0) (by decide +kernel) rfl rfl ?_
  refine ar_iload_n (pc := 1) (i := 1) (k0 := 1) (by decide +kernel) rfl rfl ?_
  refine ar_callV (pc := 2) (M2 := M_X7_layOrder) (a := 294) (ci := 7) (as := [.inl v1]) (n2 := 321) (st := []) (by decide +kernel) rfl wm_RX7_424 wi_yX7_layOrder wl_yX7_layOrder k_294 rfl wz_RX7 wc_yX7_layOrder ⟨by decide, by decide, rfl⟩ (by decide) (Nat.le_of_ble_eq_true rfl) (Nat.le_refl _) (Nat.le_refl _) (am_Cl_mono H (fun r1 h2 H => ?_))
  show am_Wp true (d + 1) M_X7_read 321 321 h0 Q 5 [some (.inr (.inr 294)), some (.inl v1)] [] 321 h2
  refine ar_aload_n (pc := 5) (i := 0) (k0 := 0) (by decide +kernel) rfl rfl ?_
  refine ar_iload_n (pc := 6) (i := 1) (k0 := 1) (by decide +kernel) rfl rfl ?_
  refine ar_callV (pc := 7) (M2 := M_X7_readBy) (a := 294) (ci := 7) (as := [.inl v1]) (n2 := 321) (st := []) (by decide +kernel) rfl wm_RX7_427 wi_yX7_readBy wl_yX7_readBy k_294 rfl wz_RX7 wc_yX7_readBy ⟨by decide, by decide, rfl⟩ (by decide) (Nat.le_of_ble_eq_true rfl) (Nat.le_refl _) (Nat.le_refl _) (am_Cl_mono H (fun r3 h4 H => ?_))
  show am_Wp true (d + 1) M_X7_read 321 321 h0 Q 10 [some (.inr (.inr 294)), some (.inl v1)] [] 321 h4
  exact ar_vret (pc := 10) (by decide +kernel) rfl rfl H

/-! ByteIntervalsModel.isValidNow()Z -/
theorem B_X7_isValidNow_0 {d : Nat} {Q : Int → am_H → Prop} {h : am_H} (H : wf (d + 1) M_X7_isValidNow Q 2 [some (.inr (.inr 294)), some (.inl 0)] [] h) : wf (d + 1) M_X7_isValidNow Q 0 [some (.inr (.inr 294)), none] [] h := by
  intro h0
  refine ar_iconst (pc := 0) (z := 0) (by decide +kernel) (by unfold am_i32; omega) ?_
  refine ar_istore_n (pc := 1) (i := 1) (k0 := 1) (ls2 := [some (.inr (.inr 294)), some (.inl 0)]) (by decide +kernel) rfl (by decide) rfl ?_
  exact H h0
theorem B_X7_isValidNow_2 {d : Nat} {Q : Int → am_H → Prop} {h : am_H} {v1 : Int} (H : (8 ≤ v1 → ((h 294 46) = 0 ∨ (h 294 46) = 1) ∧ (Q (h 294 46) h)) ∧ (v1 < 8 → cf d M_X7_has [.inl (h 294 32), .inl v1] h (fun r3 h4 => (r3 = 0 → wf (d + 1) M_X7_isValidNow Q 30 [some (.inr (.inr 294)), some (.inl v1)] [] h4) ∧ (¬ r3 = 0 → (0 ≤ v1) ∧ ((v1 < 24) ∧ (((h4 315 v1) = 0 → wf (d + 1) M_X7_isValidNow Q 30 [some (.inr (.inr 294)), some (.inl v1)] [] h4) ∧ (¬ (h4 315 v1) = 0 → Q 0 h4))))))) : wf (d + 1) M_X7_isValidNow Q 2 [some (.inr (.inr 294)), some (.inl v1)] [] h := by
  intro h0
  refine ar_iload_n (pc := 2) (i := 1) (k0 := 1) (by decide +kernel) rfl rfl ?_
  refine ar_bipush (pc := 3) (z := 8) (by decide +kernel) (by omega) ?_
  refine ar_icmp_ge (pc := 5) (x := v1) (y := 8) (tgt := 36) (off := 31) (by decide +kernel) (by decide) (fun c1 => ?_) (fun c1 => ?_)
  · replace H := H.1 c1
    refine ar_aload_n (pc := 36) (i := 0) (k0 := 0) (by decide +kernel) rfl rfl ?_
    refine ar_getV (pc := 37) (a := 294) (v := .inl (h 294 46)) 7 46 (by decide +kernel) k_294 rfl (by decide) wf_RX7_391 rfl ?_
    obtain ⟨g2, H⟩ := H
    exact ar_zret (pc := 40) (x := (h 294 46)) (by decide +kernel) rfl rfl g2 H
  · replace H := H.2 c1
    refine ar_aload_n (pc := 8) (i := 0) (k0 := 0) (by decide +kernel) rfl rfl ?_
    refine ar_getV (pc := 9) (a := 294) (v := .inl (h 294 32)) 7 32 (by decide +kernel) k_294 rfl (by decide) wf_RX7_351 rfl ?_
    refine ar_iload_n (pc := 12) (i := 1) (k0 := 1) (by decide +kernel) rfl rfl ?_
    refine ar_callS (pc := 13) (M2 := M_X7_has) (as := [.inl (h 294 32), .inl v1]) (n2 := 321) (st := []) (by decide +kernel) rfl wm_RX7_260 ws_yX7_has wz_RX7 wc_yX7_has ⟨by decide, by decide, rfl⟩ (by decide) (Nat.le_of_ble_eq_true rfl) (Nat.le_refl _) (Nat.le_refl _) (am_Cl_mono H (fun r3 h4 H => ?_))
    show am_Wp true (d + 1) M_X7_isValidNow 321 321 h0 Q 16 [some (.inr (.inr 294)), some (.inl v1)] [.inl r3] 321 h4
    refine ar_if_eq (pc := 16) (x := r3) (tgt := 30) (off := 14) (by decide +kernel) (by decide) (fun c5 => ?_) (fun c5 => ?_)
    · replace H := H.1 c5
      exact H h0
    · replace H := H.2 c5
      refine ar_aload_n (pc := 19) (i := 0) (k0 := 0) (by decide +kernel) rfl rfl ?_
      refine ar_getFV (pc := 20) (a := 294) (b := 315) 7 41 (by decide +kernel) k_294 rfl (by decide) wf_RX7_79 rfl (fun _ => rfl) rfl ?_
      refine ar_iload_n (pc := 23) (i := 1) (k0 := 1) (by decide +kernel) rfl rfl ?_
      obtain ⟨g6, H⟩ := H
      obtain ⟨g7, H⟩ := H
      refine ar_iald (pc := 24) (a := 315) (i := v1) (by decide +kernel) k_315 g6 (am_lt_eq g7 (l_315).symm) ?_
      refine ar_if_eq (pc := 25) (x := (h4 315 v1)) (tgt := 30) (off := 5) (by decide +kernel) (by decide) (fun c8 => ?_) (fun c8 => ?_)
      · replace H := H.1 c8
        exact H h0
      · replace H := H.2 c8
        refine ar_iconst (pc := 28) (z := 0) (by decide +kernel) (by unfold am_i32; omega) ?_
        exact ar_zret (pc := 29) (x := 0) (by decide +kernel) rfl rfl (by decide) H
theorem B_X7_isValidNow_30 {d : Nat} {Q : Int → am_H → Prop} {h : am_H} {v1 : Int} (H : wf (d + 1) M_X7_isValidNow Q 2 [some (.inr (.inr 294)), some (.inl (am_w32 (v1 + 1)))] [] h) : wf (d + 1) M_X7_isValidNow Q 30 [some (.inr (.inr 294)), some (.inl v1)] [] h := by
  intro h0
  refine ar_iinc (pc := 30) (i := 1) (z := 1) (x := v1) (ls2 := [some (.inr (.inr 294)), some (.inl (am_w32 (v1 + 1)))]) (by decide +kernel) rfl (by decide) rfl ?_
  refine ar_goto (pc := 33) (tgt := 2) (off := -31) (by decide +kernel) (by decide) ?_
  exact H h0

/-! ByteIntervalsModel.putAside()V -/
theorem B_X7_putAside_0 {d : Nat} {Q : Int → am_H → Prop} {h : am_H} (H : wf d M_X7_putAside Q 2 [some (.inr (.inr 294)), some (.inl 0)] [] h) : wf d M_X7_putAside Q 0 [some (.inr (.inr 294)), none] [] h := by
  intro h0
  refine ar_iconst (pc := 0) (z := 0) (by decide +kernel) (by unfold am_i32; omega) ?_
  refine ar_istore_n (pc := 1) (i := 1) (k0 := 1) (ls2 := [some (.inr (.inr 294)), some (.inl 0)]) (by decide +kernel) rfl (by decide) rfl ?_
  exact H h0
theorem B_X7_putAside_2 {d : Nat} {Q : Int → am_H → Prop} {h : am_H} {v1 : Int} (H : (40 ≤ v1 → Q 0 h) ∧ (v1 < 40 → (0 ≤ (am_w32 (8 + v1))) ∧ (((am_w32 (8 + v1)) < 2159) ∧ ((0 ≤ v1) ∧ (wf d M_X7_putAside Q 2 [some (.inr (.inr 294)), some (.inl (am_w32 (v1 + 1)))] [] (am_up h 317 v1 (h 295 (am_w32 (8 + v1))))))))) : wf d M_X7_putAside Q 2 [some (.inr (.inr 294)), some (.inl v1)] [] h := by
  intro h0
  refine ar_iload_n (pc := 2) (i := 1) (k0 := 1) (by decide +kernel) rfl rfl ?_
  refine ar_bipush (pc := 3) (z := 40) (by decide +kernel) (by omega) ?_
  refine ar_icmp_ge (pc := 5) (x := v1) (y := 40) (tgt := 29) (off := 24) (by decide +kernel) (by decide) (fun c1 => ?_) (fun c1 => ?_)
  · replace H := H.1 c1
    exact ar_vret (pc := 29) (by decide +kernel) rfl rfl H
  · replace H := H.2 c1
    refine ar_aload_n (pc := 8) (i := 0) (k0 := 0) (by decide +kernel) rfl rfl ?_
    refine ar_getFV (pc := 9) (a := 294) (b := 317) 7 48 (by decide +kernel) k_294 rfl (by decide) wf_RX7_85 rfl (fun _ => rfl) rfl ?_
    refine ar_iload_n (pc := 12) (i := 1) (k0 := 1) (by decide +kernel) rfl rfl ?_
    refine ar_aload_n (pc := 13) (i := 0) (k0 := 0) (by decide +kernel) rfl rfl ?_
    refine ar_getFV (pc := 14) (a := 294) (b := 295) 7 0 (by decide +kernel) k_294 rfl (by decide) wf_RX7_7 rfl (fun _ => rfl) rfl ?_
    refine ar_bipush (pc := 17) (z := 8) (by decide +kernel) (by omega) ?_
    refine ar_iload_n (pc := 19) (i := 1) (k0 := 1) (by decide +kernel) rfl rfl ?_
    refine ar_iadd (pc := 20) (x := 8) (y := v1) (by decide +kernel) ?_
    obtain ⟨g2, H⟩ := H
    obtain ⟨g3, H⟩ := H
    refine ar_iald (pc := 21) (a := 295) (i := (am_w32 (8 + v1))) (by decide +kernel) k_295 g2 (am_lt_eq g3 (l_295).symm) ?_
    obtain ⟨g4, H⟩ := H
    refine ar_iast (pc := 22) (a := 317) (i := v1) (z := (h 295 (am_w32 (8 + v1)))) (by decide +kernel) k_317 g4 (am_lt_eq c1 (l_317).symm) ?_
    refine ar_iinc (pc := 23) (i := 1) (z := 1) (x := v1) (ls2 := [some (.inr (.inr 294)), some (.inl (am_w32 (v1 + 1)))]) (by decide +kernel) rfl (by decide) rfl ?_
    refine ar_goto (pc := 26) (tgt := 2) (off := -24) (by decide +kernel) (by decide) ?_
    exact H h0

/-! ByteIntervalsModel.bringBack()V -/
theorem B_X7_bringBack_0 {d : Nat} {Q : Int → am_H → Prop} {h : am_H} (H : wf d M_X7_bringBack Q 2 [some (.inr (.inr 294)), some (.inl 0)] [] h) : wf d M_X7_bringBack Q 0 [some (.inr (.inr 294)), none] [] h := by
  intro h0
  refine ar_iconst (pc := 0) (z := 0) (by decide +kernel) (by unfold am_i32; omega) ?_
  refine ar_istore_n (pc := 1) (i := 1) (k0 := 1) (ls2 := [some (.inr (.inr 294)), some (.inl 0)]) (by decide +kernel) rfl (by decide) rfl ?_
  exact H h0
theorem B_X7_bringBack_2 {d : Nat} {Q : Int → am_H → Prop} {h : am_H} {v1 : Int} (H : (40 ≤ v1 → Q 0 h) ∧ (v1 < 40 → (0 ≤ v1) ∧ ((0 ≤ (am_w32 (8 + v1))) ∧ (((am_w32 (8 + v1)) < 2159) ∧ (wf d M_X7_bringBack Q 2 [some (.inr (.inr 294)), some (.inl (am_w32 (v1 + 1)))] [] (am_up h 295 (am_w32 (8 + v1)) (h 317 v1))))))) : wf d M_X7_bringBack Q 2 [some (.inr (.inr 294)), some (.inl v1)] [] h := by
  intro h0
  refine ar_iload_n (pc := 2) (i := 1) (k0 := 1) (by decide +kernel) rfl rfl ?_
  refine ar_bipush (pc := 3) (z := 40) (by decide +kernel) (by omega) ?_
  refine ar_icmp_ge (pc := 5) (x := v1) (y := 40) (tgt := 29) (off := 24) (by decide +kernel) (by decide) (fun c1 => ?_) (fun c1 => ?_)
  · replace H := H.1 c1
    exact ar_vret (pc := 29) (by decide +kernel) rfl rfl H
  · replace H := H.2 c1
    refine ar_aload_n (pc := 8) (i := 0) (k0 := 0) (by decide +kernel) rfl rfl ?_
    refine ar_getFV (pc := 9) (a := 294) (b := 295) 7 0 (by decide +kernel) k_294 rfl (by decide) wf_RX7_7 rfl (fun _ => rfl) rfl ?_
    refine ar_bipush (pc := 12) (z := 8) (by decide +kernel) (by omega) ?_
    refine ar_iload_n (pc := 14) (i := 1) (k0 := 1) (by decide +kernel) rfl rfl ?_
    refine ar_iadd (pc := 15) (x := 8) (y := v1) (by decide +kernel) ?_
    refine ar_aload_n (pc := 16) (i := 0) (k0 := 0) (by decide +kernel) rfl rfl ?_
    refine ar_getFV (pc := 17) (a := 294) (b := 317) 7 48 (by decide +kernel) k_294 rfl (by decide) wf_RX7_85 rfl (fun _ => rfl) rfl ?_
    refine ar_iload_n (pc := 20) (i := 1) (k0 := 1) (by decide +kernel) rfl rfl ?_
    obtain ⟨g2, H⟩ := H
    refine ar_iald (pc := 21) (a := 317) (i := v1) (by decide +kernel) k_317 g2 (am_lt_eq c1 (l_317).symm) ?_
    obtain ⟨g3, H⟩ := H
    obtain ⟨g4, H⟩ := H
    refine ar_iast (pc := 22) (a := 295) (i := (am_w32 (8 + v1))) (z := (h 317 v1)) (by decide +kernel) k_295 g3 (am_lt_eq g4 (l_295).symm) ?_
    refine ar_iinc (pc := 23) (i := 1) (z := 1) (x := v1) (ls2 := [some (.inr (.inr 294)), some (.inl (am_w32 (v1 + 1)))]) (by decide +kernel) rfl (by decide) rfl ?_
    refine ar_goto (pc := 26) (tgt := 2) (off := -24) (by decide +kernel) (by decide) ?_
    exact H h0

/-! ByteIntervalsModel.mendRound(I)Z -/
theorem B_X7_mendRound_0 {d : Nat} {Q : Int → am_H → Prop} {h : am_H} {v1 : Int} (H : cf d M_X7_readBy [.inr (.inr 294), .inl v1] h (fun _ h2 => wf (d + 1) M_X7_mendRound Q 7 [some (.inr (.inr 294)), some (.inl v1), some (.inl 0), none] [] h2)) : wf (d + 1) M_X7_mendRound Q 0 [some (.inr (.inr 294)), some (.inl v1), none, none] [] h := by
  intro h0
  refine ar_aload_n (pc := 0) (i := 0) (k0 := 0) (by decide +kernel) rfl rfl ?_
  refine ar_iload_n (pc := 1) (i := 1) (k0 := 1) (by decide +kernel) rfl rfl ?_
  refine ar_callV (pc := 2) (M2 := M_X7_readBy) (a := 294) (ci := 7) (as := [.inl v1]) (n2 := 321) (st := []) (by decide +kernel) rfl wm_RX7_427 wi_yX7_readBy wl_yX7_readBy k_294 rfl wz_RX7 wc_yX7_readBy ⟨by decide, by decide, rfl⟩ (by decide) (Nat.le_of_ble_eq_true rfl) (Nat.le_refl _) (Nat.le_refl _) (am_Cl_mono H (fun r1 h2 H => ?_))
  show am_Wp true (d + 1) M_X7_mendRound 321 321 h0 Q 5 [some (.inr (.inr 294)), some (.inl v1), none, none] [] 321 h2
  refine ar_iconst (pc := 5) (z := 0) (by decide +kernel) (by unfold am_i32; omega) ?_
  refine ar_istore_n (pc := 6) (i := 2) (k0 := 2) (ls2 := [some (.inr (.inr 294)), some (.inl v1), some (.inl 0), none]) (by decide +kernel) rfl (by decide) rfl ?_
  exact H h0
theorem B_X7_mendRound_7 {d : Nat} {Q : Int → am_H → Prop} {h : am_H} {v1 v2 : Int} (H : (40 ≤ v2 → wf (d + 1) M_X7_mendRound Q 36 [some (.inr (.inr 294)), some (.inl v1), some (.inl 0), none] [] h) ∧ (v2 < 40 → (0 ≤ (am_w32 (8 + v2))) ∧ (((am_w32 (8 + v2)) < 2159) ∧ ((0 ≤ v2) ∧ (wf (d + 1) M_X7_mendRound Q 7 [some (.inr (.inr 294)), some (.inl v1), some (.inl (am_w32 (v2 + 1))), none] [] (am_up h 318 v2 (h 295 (am_w32 (8 + v2))))))))) : wf (d + 1) M_X7_mendRound Q 7 [some (.inr (.inr 294)), some (.inl v1), some (.inl v2), none] [] h := by
  intro h0
  refine ar_iload_n (pc := 7) (i := 2) (k0 := 2) (by decide +kernel) rfl rfl ?_
  refine ar_bipush (pc := 8) (z := 40) (by decide +kernel) (by omega) ?_
  refine ar_icmp_ge (pc := 10) (x := v2) (y := 40) (tgt := 34) (off := 24) (by decide +kernel) (by decide) (fun c1 => ?_) (fun c1 => ?_)
  · replace H := H.1 c1
    refine ar_iconst (pc := 34) (z := 0) (by decide +kernel) (by unfold am_i32; omega) ?_
    refine ar_istore_n (pc := 35) (i := 2) (k0 := 2) (ls2 := [some (.inr (.inr 294)), some (.inl v1), some (.inl 0), none]) (by decide +kernel) rfl (by decide) rfl ?_
    exact H h0
  · replace H := H.2 c1
    refine ar_aload_n (pc := 13) (i := 0) (k0 := 0) (by decide +kernel) rfl rfl ?_
    refine ar_getFV (pc := 14) (a := 294) (b := 318) 7 49 (by decide +kernel) k_294 rfl (by decide) wf_RX7_88 rfl (fun _ => rfl) rfl ?_
    refine ar_iload_n (pc := 17) (i := 2) (k0 := 2) (by decide +kernel) rfl rfl ?_
    refine ar_aload_n (pc := 18) (i := 0) (k0 := 0) (by decide +kernel) rfl rfl ?_
    refine ar_getFV (pc := 19) (a := 294) (b := 295) 7 0 (by decide +kernel) k_294 rfl (by decide) wf_RX7_7 rfl (fun _ => rfl) rfl ?_
    refine ar_bipush (pc := 22) (z := 8) (by decide +kernel) (by omega) ?_
    refine ar_iload_n (pc := 24) (i := 2) (k0 := 2) (by decide +kernel) rfl rfl ?_
    refine ar_iadd (pc := 25) (x := 8) (y := v2) (by decide +kernel) ?_
    obtain ⟨g2, H⟩ := H
    obtain ⟨g3, H⟩ := H
    refine ar_iald (pc := 26) (a := 295) (i := (am_w32 (8 + v2))) (by decide +kernel) k_295 g2 (am_lt_eq g3 (l_295).symm) ?_
    obtain ⟨g4, H⟩ := H
    refine ar_iast (pc := 27) (a := 318) (i := v2) (z := (h 295 (am_w32 (8 + v2)))) (by decide +kernel) k_318 g4 (am_lt_eq c1 (l_318).symm) ?_
    refine ar_iinc (pc := 28) (i := 2) (z := 1) (x := v2) (ls2 := [some (.inr (.inr 294)), some (.inl v1), some (.inl (am_w32 (v2 + 1))), none]) (by decide +kernel) rfl (by decide) rfl ?_
    refine ar_goto (pc := 31) (tgt := 7) (off := -24) (by decide +kernel) (by decide) ?_
    exact H h0
theorem B_X7_mendRound_36 {d : Nat} {Q : Int → am_H → Prop} {h : am_H} {v1 v2 : Int} (H : ((h 294 31) ≤ v2 → wf (d + 1) M_X7_mendRound Q 108 [some (.inr (.inr 294)), none, some (.inl 0), none] [] h) ∧ (v2 < (h 294 31) → (0 ≤ v2) ∧ ((v2 < 8) ∧ ((0 ≤ (h 307 v2)) ∧ (((h 307 v2) < 8) ∧ (cf d M_X7_clauseAt [.inl v1, .inl (h 305 (h 307 v2))] h (fun r6 h7 => (0 ≤ r6) ∧ ((r6 < 3300) ∧ ((¬ (h7 297 r6) = 1 → wf (d + 1) M_X7_mendRound Q 100 [some (.inr (.inr 294)), some (.inl v1), some (.inl v2), none] [] h7) ∧ ((h7 297 r6) = 1 → ((h 307 v2) < 24) ∧ (((h7 315 (h 307 v2)) = 1 → wf (d + 1) M_X7_mendRound Q 100 [some (.inr (.inr 294)), some (.inl v1), some (.inl v2), none] [] h7) ∧ (¬ (h7 315 (h 307 v2)) = 1 → (0 ≤ (am_w32 (8 + (h7 313 (h 307 v2))))) ∧ (((am_w32 (8 + (h7 313 (h 307 v2)))) < 2159) ∧ (wf (d + 1) M_X7_mendRound Q 100 [some (.inr (.inr 294)), some (.inl v1), some (.inl v2), none] [] (am_up h7 295 (am_w32 (8 + (h7 313 (h 307 v2)))) (h7 312 (h 307 v2))))))))))))))))) : wf (d + 1) M_X7_mendRound Q 36 [some (.inr (.inr 294)), some (.inl v1), some (.inl v2), none] [] h := by
  intro h0
  refine ar_iload_n (pc := 36) (i := 2) (k0 := 2) (by decide +kernel) rfl rfl ?_
  refine ar_aload_n (pc := 37) (i := 0) (k0 := 0) (by decide +kernel) rfl rfl ?_
  refine ar_getV (pc := 38) (a := 294) (v := .inl (h 294 31)) 7 31 (by decide +kernel) k_294 rfl (by decide) wf_RX7_357 rfl ?_
  refine ar_icmp_ge (pc := 41) (x := v2) (y := (h 294 31)) (tgt := 106) (off := 65) (by decide +kernel) (by decide) (fun c1 => ?_) (fun c1 => ?_)
  · replace H := H.1 c1
    refine ar_iconst (pc := 106) (z := 0) (by decide +kernel) (by unfold am_i32; omega) ?_
    refine ar_istore_n (pc := 107) (i := 2) (k0 := 2) (ls2 := [some (.inr (.inr 294)), some (.inl v1), some (.inl 0), none]) (by decide +kernel) rfl (by decide) rfl ?_
    refine ar_forget [true, false, true, true] rfl ?_
    exact H h0
  · replace H := H.2 c1
    refine ar_aload_n (pc := 44) (i := 0) (k0 := 0) (by decide +kernel) rfl rfl ?_
    refine ar_getFV (pc := 45) (a := 294) (b := 307) 7 30 (by decide +kernel) k_294 rfl (by decide) wf_RX7_55 rfl (fun _ => rfl) rfl ?_
    refine ar_iload_n (pc := 48) (i := 2) (k0 := 2) (by decide +kernel) rfl rfl ?_
    obtain ⟨g2, H⟩ := H
    obtain ⟨g3, H⟩ := H
    refine ar_iald (pc := 49) (a := 307) (i := v2) (by decide +kernel) k_307 g2 (am_lt_eq g3 (l_307).symm) ?_
    refine ar_istore_n (pc := 50) (i := 3) (k0 := 3) (ls2 := [some (.inr (.inr 294)), some (.inl v1), some (.inl v2), some (.inl (h 307 v2))]) (by decide +kernel) rfl (by decide) rfl ?_
    refine ar_aload_n (pc := 51) (i := 0) (k0 := 0) (by decide +kernel) rfl rfl ?_
    refine ar_getFV (pc := 52) (a := 294) (b := 297) 7 2 (by decide +kernel) k_294 rfl (by decide) wf_RX7_16 rfl (fun _ => rfl) rfl ?_
    refine ar_iload_n (pc := 55) (i := 1) (k0 := 1) (by decide +kernel) rfl rfl ?_
    refine ar_aload_n (pc := 56) (i := 0) (k0 := 0) (by decide +kernel) rfl rfl ?_
    refine ar_getFV (pc := 57) (a := 294) (b := 305) 7 28 (by decide +kernel) k_294 rfl (by decide) wf_RX7_49 rfl (fun _ => rfl) rfl ?_
    refine ar_iload_n (pc := 60) (i := 3) (k0 := 3) (by decide +kernel) rfl rfl ?_
    obtain ⟨g4, H⟩ := H
    obtain ⟨g5, H⟩ := H
    refine ar_iald (pc := 61) (a := 305) (i := (h 307 v2)) (by decide +kernel) k_305 g4 (am_lt_eq g5 (l_305).symm) ?_
    refine ar_callS (pc := 62) (M2 := M_X7_clauseAt) (as := [.inl v1, .inl (h 305 (h 307 v2))]) (n2 := 321) (st := [.inr (.inr 297)]) (by decide +kernel) rfl wm_RX7_328 ws_yX7_clauseAt wz_RX7 wc_yX7_clauseAt ⟨by decide, by decide, rfl⟩ (by decide) (Nat.le_of_ble_eq_true rfl) (Nat.le_refl _) (Nat.le_refl _) (am_Cl_mono H (fun r6 h7 H => ?_))
    show am_Wp true (d + 1) M_X7_mendRound 321 321 h0 Q 65 [some (.inr (.inr 294)), some (.inl v1), some (.inl v2), some (.inl (h 307 v2))] [.inl r6, .inr (.inr 297)] 321 h7
    obtain ⟨g8, H⟩ := H
    obtain ⟨g9, H⟩ := H
    refine ar_iald (pc := 65) (a := 297) (i := r6) (by decide +kernel) k_297 g8 (am_lt_eq g9 (l_297).symm) ?_
    refine ar_iconst (pc := 66) (z := 1) (by decide +kernel) (by unfold am_i32; omega) ?_
    refine ar_icmp_ne (pc := 67) (x := (h7 297 r6)) (y := 1) (tgt := 100) (off := 33) (by decide +kernel) (by decide) (fun c10 => ?_) (fun c10 => ?_)
    · replace H := H.1 c10
      refine ar_forget [true, true, true, false] rfl ?_
      exact H h0
    · replace H := H.2 c10
      refine ar_aload_n (pc := 70) (i := 0) (k0 := 0) (by decide +kernel) rfl rfl ?_
      refine ar_getFV (pc := 71) (a := 294) (b := 315) 7 41 (by decide +kernel) k_294 rfl (by decide) wf_RX7_79 rfl (fun _ => rfl) rfl ?_
      refine ar_iload_n (pc := 74) (i := 3) (k0 := 3) (by decide +kernel) rfl rfl ?_
      obtain ⟨g11, H⟩ := H
      refine ar_iald (pc := 75) (a := 315) (i := (h 307 v2)) (by decide +kernel) k_315 g4 (am_lt_eq g11 (l_315).symm) ?_
      refine ar_iconst (pc := 76) (z := 1) (by decide +kernel) (by unfold am_i32; omega) ?_
      refine ar_icmp_eq (pc := 77) (x := (h7 315 (h 307 v2))) (y := 1) (tgt := 100) (off := 23) (by decide +kernel) (by decide) (fun c12 => ?_) (fun c12 => ?_)
      · replace H := H.1 c12
        refine ar_forget [true, true, true, false] rfl ?_
        exact H h0
      · replace H := H.2 c12
        refine ar_aload_n (pc := 80) (i := 0) (k0 := 0) (by decide +kernel) rfl rfl ?_
        refine ar_getFV (pc := 81) (a := 294) (b := 295) 7 0 (by decide +kernel) k_294 rfl (by decide) wf_RX7_7 rfl (fun _ => rfl) rfl ?_
        refine ar_bipush (pc := 84) (z := 8) (by decide +kernel) (by omega) ?_
        refine ar_aload_n (pc := 86) (i := 0) (k0 := 0) (by decide +kernel) rfl rfl ?_
        refine ar_getFV (pc := 87) (a := 294) (b := 313) 7 39 (by decide +kernel) k_294 rfl (by decide) wf_RX7_73 rfl (fun _ => rfl) rfl ?_
        refine ar_iload_n (pc := 90) (i := 3) (k0 := 3) (by decide +kernel) rfl rfl ?_
        refine ar_iald (pc := 91) (a := 313) (i := (h 307 v2)) (by decide +kernel) k_313 g4 (am_lt_eq g11 (l_313).symm) ?_
        refine ar_iadd (pc := 92) (x := 8) (y := (h7 313 (h 307 v2))) (by decide +kernel) ?_
        refine ar_aload_n (pc := 93) (i := 0) (k0 := 0) (by decide +kernel) rfl rfl ?_
        refine ar_getFV (pc := 94) (a := 294) (b := 312) 7 38 (by decide +kernel) k_294 rfl (by decide) wf_RX7_70 rfl (fun _ => rfl) rfl ?_
        refine ar_iload_n (pc := 97) (i := 3) (k0 := 3) (by decide +kernel) rfl rfl ?_
        refine ar_iald (pc := 98) (a := 312) (i := (h 307 v2)) (by decide +kernel) k_312 g4 (am_lt_eq g11 (l_312).symm) ?_
        obtain ⟨g13, H⟩ := H
        obtain ⟨g14, H⟩ := H
        refine ar_iast (pc := 99) (a := 295) (i := (am_w32 (8 + (h7 313 (h 307 v2))))) (z := (h7 312 (h 307 v2))) (by decide +kernel) k_295 g13 (am_lt_eq g14 (l_295).symm) ?_
        refine ar_forget [true, true, true, false] rfl ?_
        exact H h0
theorem B_X7_mendRound_100 {d : Nat} {Q : Int → am_H → Prop} {h : am_H} {v1 v2 : Int} (H : wf (d + 1) M_X7_mendRound Q 36 [some (.inr (.inr 294)), some (.inl v1), some (.inl (am_w32 (v2 + 1))), none] [] h) : wf (d + 1) M_X7_mendRound Q 100 [some (.inr (.inr 294)), some (.inl v1), some (.inl v2), none] [] h := by
  intro h0
  refine ar_iinc (pc := 100) (i := 2) (z := 1) (x := v2) (ls2 := [some (.inr (.inr 294)), some (.inl v1), some (.inl (am_w32 (v2 + 1))), none]) (by decide +kernel) rfl (by decide) rfl ?_
  refine ar_goto (pc := 103) (tgt := 36) (off := -67) (by decide +kernel) (by decide) ?_
  exact H h0
theorem B_X7_mendRound_108 {d : Nat} {Q : Int → am_H → Prop} {h : am_H} {v2 : Int} (H : (40 ≤ v2 → Q 0 h) ∧ (v2 < 40 → (0 ≤ (am_w32 (8 + v2))) ∧ (((am_w32 (8 + v2)) < 2159) ∧ ((0 ≤ v2) ∧ (((h 295 (am_w32 (8 + v2))) = (h 318 v2) → wf (d + 1) M_X7_mendRound Q 108 [some (.inr (.inr 294)), none, some (.inl (am_w32 (v2 + 1))), none] [] h) ∧ (¬ (h 295 (am_w32 (8 + v2))) = (h 318 v2) → Q 1 h)))))) : wf (d + 1) M_X7_mendRound Q 108 [some (.inr (.inr 294)), none, some (.inl v2), none] [] h := by
  intro h0
  refine ar_iload_n (pc := 108) (i := 2) (k0 := 2) (by decide +kernel) rfl rfl ?_
  refine ar_bipush (pc := 109) (z := 40) (by decide +kernel) (by omega) ?_
  refine ar_icmp_ge (pc := 111) (x := v2) (y := 40) (tgt := 140) (off := 29) (by decide +kernel) (by decide) (fun c1 => ?_) (fun c1 => ?_)
  · replace H := H.1 c1
    refine ar_iconst (pc := 140) (z := 0) (by decide +kernel) (by unfold am_i32; omega) ?_
    exact ar_zret (pc := 141) (x := 0) (by decide +kernel) rfl rfl (by decide) H
  · replace H := H.2 c1
    refine ar_aload_n (pc := 114) (i := 0) (k0 := 0) (by decide +kernel) rfl rfl ?_
    refine ar_getFV (pc := 115) (a := 294) (b := 295) 7 0 (by decide +kernel) k_294 rfl (by decide) wf_RX7_7 rfl (fun _ => rfl) rfl ?_
    refine ar_bipush (pc := 118) (z := 8) (by decide +kernel) (by omega) ?_
    refine ar_iload_n (pc := 120) (i := 2) (k0 := 2) (by decide +kernel) rfl rfl ?_
    refine ar_iadd (pc := 121) (x := 8) (y := v2) (by decide +kernel) ?_
    obtain ⟨g2, H⟩ := H
    obtain ⟨g3, H⟩ := H
    refine ar_iald (pc := 122) (a := 295) (i := (am_w32 (8 + v2))) (by decide +kernel) k_295 g2 (am_lt_eq g3 (l_295).symm) ?_
    refine ar_aload_n (pc := 123) (i := 0) (k0 := 0) (by decide +kernel) rfl rfl ?_
    refine ar_getFV (pc := 124) (a := 294) (b := 318) 7 49 (by decide +kernel) k_294 rfl (by decide) wf_RX7_88 rfl (fun _ => rfl) rfl ?_
    refine ar_iload_n (pc := 127) (i := 2) (k0 := 2) (by decide +kernel) rfl rfl ?_
    obtain ⟨g4, H⟩ := H
    refine ar_iald (pc := 128) (a := 318) (i := v2) (by decide +kernel) k_318 g4 (am_lt_eq c1 (l_318).symm) ?_
    refine ar_icmp_eq (pc := 129) (x := (h 295 (am_w32 (8 + v2)))) (y := (h 318 v2)) (tgt := 134) (off := 5) (by decide +kernel) (by decide) (fun c5 => ?_) (fun c5 => ?_)
    · replace H := H.1 c5
      refine ar_iinc (pc := 134) (i := 2) (z := 1) (x := v2) (ls2 := [some (.inr (.inr 294)), none, some (.inl (am_w32 (v2 + 1))), none]) (by decide +kernel) rfl (by decide) rfl ?_
      refine ar_goto (pc := 137) (tgt := 108) (off := -29) (by decide +kernel) (by decide) ?_
      exact H h0
    · replace H := H.2 c5
      refine ar_iconst (pc := 132) (z := 1) (by decide +kernel) (by unfold am_i32; omega) ?_
      exact ar_zret (pc := 133) (x := 1) (by decide +kernel) rfl rfl (by decide) H

/-! ByteIntervalsModel.hasSum(I)Z -/
theorem B_X7_hasSum_0 {d : Nat} {Q : Int → am_H → Prop} {h : am_H} {v1 : Int} (H : wf (d + 1) M_X7_hasSum Q 2 [some (.inr (.inr 294)), some (.inl v1), some (.inl 0)] [] h) : wf (d + 1) M_X7_hasSum Q 0 [some (.inr (.inr 294)), some (.inl v1), none] [] h := by
  intro h0
  refine ar_iconst (pc := 0) (z := 0) (by decide +kernel) (by unfold am_i32; omega) ?_
  refine ar_istore_n (pc := 1) (i := 2) (k0 := 2) (ls2 := [some (.inr (.inr 294)), some (.inl v1), some (.inl 0)]) (by decide +kernel) rfl (by decide) rfl ?_
  exact H h0
theorem B_X7_hasSum_2 {d : Nat} {Q : Int → am_H → Prop} {h : am_H} {v1 v2 : Int} (H : cf d M_X7_clauses [.inr (.inr 294), .inl v1] h (fun r1 h2 => (r1 ≤ v2 → Q 0 h2) ∧ (v2 < r1 → cf d M_X7_clauseAt [.inl v1, .inl v2] h2 (fun r4 h5 => (0 ≤ r4) ∧ ((r4 < 3300) ∧ ((¬ (h5 297 r4) = 1 → wf (d + 1) M_X7_hasSum Q 2 [some (.inr (.inr 294)), some (.inl v1), some (.inl (am_w32 (v2 + 1)))] [] h5) ∧ ((h5 297 r4) = 1 → Q 1 h5))))))) : wf (d + 1) M_X7_hasSum Q 2 [some (.inr (.inr 294)), some (.inl v1), some (.inl v2)] [] h := by
  intro h0
  refine ar_iload_n (pc := 2) (i := 2) (k0 := 2) (by decide +kernel) rfl rfl ?_
  refine ar_aload_n (pc := 3) (i := 0) (k0 := 0) (by decide +kernel) rfl rfl ?_
  refine ar_iload_n (pc := 4) (i := 1) (k0 := 1) (by decide +kernel) rfl rfl ?_
  refine ar_callV (pc := 5) (M2 := M_X7_clauses) (a := 294) (ci := 7) (as := [.inl v1]) (n2 := 321) (st := [.inl v2]) (by decide +kernel) rfl wm_RX7_335 wi_yX7_clauses wl_yX7_clauses k_294 rfl wz_RX7 wc_yX7_clauses ⟨by decide, by decide, rfl⟩ (by decide) (Nat.le_of_ble_eq_true rfl) (Nat.le_refl _) (Nat.le_refl _) (am_Cl_mono H (fun r1 h2 H => ?_))
  show am_Wp true (d + 1) M_X7_hasSum 321 321 h0 Q 8 [some (.inr (.inr 294)), some (.inl v1), some (.inl v2)] [.inl r1, .inl v2] 321 h2
  refine ar_icmp_ge (pc := 8) (x := v2) (y := r1) (tgt := 33) (off := 25) (by decide +kernel) (by decide) (fun c3 => ?_) (fun c3 => ?_)
  · replace H := H.1 c3
    refine ar_iconst (pc := 33) (z := 0) (by decide +kernel) (by unfold am_i32; omega) ?_
    exact ar_zret (pc := 34) (x := 0) (by decide +kernel) rfl rfl (by decide) H
  · replace H := H.2 c3
    refine ar_aload_n (pc := 11) (i := 0) (k0 := 0) (by decide +kernel) rfl rfl ?_
    refine ar_getFV (pc := 12) (a := 294) (b := 297) 7 2 (by decide +kernel) k_294 rfl (by decide) wf_RX7_16 rfl (fun _ => rfl) rfl ?_
    refine ar_iload_n (pc := 15) (i := 1) (k0 := 1) (by decide +kernel) rfl rfl ?_
    refine ar_iload_n (pc := 16) (i := 2) (k0 := 2) (by decide +kernel) rfl rfl ?_
    refine ar_callS (pc := 17) (M2 := M_X7_clauseAt) (as := [.inl v1, .inl v2]) (n2 := 321) (st := [.inr (.inr 297)]) (by decide +kernel) rfl wm_RX7_328 ws_yX7_clauseAt wz_RX7 wc_yX7_clauseAt ⟨by decide, by decide, rfl⟩ (by decide) (Nat.le_of_ble_eq_true rfl) (Nat.le_refl _) (Nat.le_refl _) (am_Cl_mono H (fun r4 h5 H => ?_))
    show am_Wp true (d + 1) M_X7_hasSum 321 321 h0 Q 20 [some (.inr (.inr 294)), some (.inl v1), some (.inl v2)] [.inl r4, .inr (.inr 297)] 321 h5
    obtain ⟨g6, H⟩ := H
    obtain ⟨g7, H⟩ := H
    refine ar_iald (pc := 20) (a := 297) (i := r4) (by decide +kernel) k_297 g6 (am_lt_eq g7 (l_297).symm) ?_
    refine ar_iconst (pc := 21) (z := 1) (by decide +kernel) (by unfold am_i32; omega) ?_
    refine ar_icmp_ne (pc := 22) (x := (h5 297 r4)) (y := 1) (tgt := 27) (off := 5) (by decide +kernel) (by decide) (fun c8 => ?_) (fun c8 => ?_)
    · replace H := H.1 c8
      refine ar_iinc (pc := 27) (i := 2) (z := 1) (x := v2) (ls2 := [some (.inr (.inr 294)), some (.inl v1), some (.inl (am_w32 (v2 + 1)))]) (by decide +kernel) rfl (by decide) rfl ?_
      refine ar_goto (pc := 30) (tgt := 2) (off := -28) (by decide +kernel) (by decide) ?_
      exact H h0
    · replace H := H.2 c8
      refine ar_iconst (pc := 25) (z := 1) (by decide +kernel) (by unfold am_i32; omega) ?_
      exact ar_zret (pc := 26) (x := 1) (by decide +kernel) rfl rfl (by decide) H

/-! ByteIntervalsModel.mendNow(I)I -/
theorem B_X7_mendNow_0 {d : Nat} {Q : Int → am_H → Prop} {h : am_H} {v1 : Int} (H : (v1 < 0 → Q (-1) h) ∧ (0 ≤ v1 → cf d M_X7_hasSum [.inr (.inr 294), .inl v1] h (fun r2 h3 => (¬ r2 = 0 → cf d M_X7_layOrder [.inr (.inr 294), .inl v1] h3 (fun _ h6 => cf d M_X7_putAside [.inr (.inr 294)] h6 (fun _ h8 => wf (d + 1) M_X7_mendNow Q 25 [some (.inr (.inr 294)), some (.inl v1), some (.inl 0), none, none] [] h8))) ∧ (r2 = 0 → Q (-1) h3)))) : wf (d + 1) M_X7_mendNow Q 0 [some (.inr (.inr 294)), some (.inl v1), none, none, none] [] h := by
  intro h0
  refine ar_iload_n (pc := 0) (i := 1) (k0 := 1) (by decide +kernel) rfl rfl ?_
  refine ar_if_lt (pc := 1) (x := v1) (tgt := 12) (off := 11) (by decide +kernel) (by decide) (fun c1 => ?_) (fun c1 => ?_)
  · replace H := H.1 c1
    refine ar_iconst (pc := 12) (z := (-1)) (by decide +kernel) (by unfold am_i32; omega) ?_
    exact ar_iret (pc := 13) (x := (-1)) (by decide +kernel) rfl rfl H
  · replace H := H.2 c1
    refine ar_aload_n (pc := 4) (i := 0) (k0 := 0) (by decide +kernel) rfl rfl ?_
    refine ar_iload_n (pc := 5) (i := 1) (k0 := 1) (by decide +kernel) rfl rfl ?_
    refine ar_callV (pc := 6) (M2 := M_X7_hasSum) (a := 294) (ci := 7) (as := [.inl v1]) (n2 := 321) (st := []) (by decide +kernel) rfl wm_RX7_430 wi_yX7_hasSum wl_yX7_hasSum k_294 rfl wz_RX7 wc_yX7_hasSum ⟨by decide, by decide, rfl⟩ (by decide) (Nat.le_of_ble_eq_true rfl) (Nat.le_refl _) (Nat.le_refl _) (am_Cl_mono H (fun r2 h3 H => ?_))
    show am_Wp true (d + 1) M_X7_mendNow 321 321 h0 Q 9 [some (.inr (.inr 294)), some (.inl v1), none, none, none] [.inl r2] 321 h3
    refine ar_if_ne (pc := 9) (x := r2) (tgt := 14) (off := 5) (by decide +kernel) (by decide) (fun c4 => ?_) (fun c4 => ?_)
    · replace H := H.1 c4
      refine ar_aload_n (pc := 14) (i := 0) (k0 := 0) (by decide +kernel) rfl rfl ?_
      refine ar_iload_n (pc := 15) (i := 1) (k0 := 1) (by decide +kernel) rfl rfl ?_
      refine ar_callV (pc := 16) (M2 := M_X7_layOrder) (a := 294) (ci := 7) (as := [.inl v1]) (n2 := 321) (st := []) (by decide +kernel) rfl wm_RX7_424 wi_yX7_layOrder wl_yX7_layOrder k_294 rfl wz_RX7 wc_yX7_layOrder ⟨by decide, by decide, rfl⟩ (by decide) (Nat.le_of_ble_eq_true rfl) (Nat.le_refl _) (Nat.le_refl _) (am_Cl_mono H (fun r5 h6 H => ?_))
      show am_Wp true (d + 1) M_X7_mendNow 321 321 h0 Q 19 [some (.inr (.inr 294)), some (.inl v1), none, none, none] [] 321 h6
      refine ar_aload_n (pc := 19) (i := 0) (k0 := 0) (by decide +kernel) rfl rfl ?_
      refine ar_callV (pc := 20) (M2 := M_X7_putAside) (a := 294) (ci := 7) (as := []) (n2 := 321) (st := []) (by decide +kernel) rfl wm_RX7_433 wi_yX7_putAside wl_yX7_putAside k_294 rfl wz_RX7 wc_yX7_putAside ⟨by decide, by decide, rfl⟩ (by decide) (Nat.le_of_ble_eq_true rfl) (Nat.le_refl _) (Nat.le_refl _) (am_Cl_mono H (fun r7 h8 H => ?_))
      show am_Wp true (d + 1) M_X7_mendNow 321 321 h0 Q 23 [some (.inr (.inr 294)), some (.inl v1), none, none, none] [] 321 h8
      refine ar_iconst (pc := 23) (z := 0) (by decide +kernel) (by unfold am_i32; omega) ?_
      refine ar_istore_n (pc := 24) (i := 2) (k0 := 2) (ls2 := [some (.inr (.inr 294)), some (.inl v1), some (.inl 0), none, none]) (by decide +kernel) rfl (by decide) rfl ?_
      exact H h0
    · replace H := H.2 c4
      refine ar_iconst (pc := 12) (z := (-1)) (by decide +kernel) (by unfold am_i32; omega) ?_
      exact ar_iret (pc := 13) (x := (-1)) (by decide +kernel) rfl rfl H
theorem B_X7_mendNow_25 {d : Nat} {Q : Int → am_H → Prop} {h : am_H} {v1 v2 : Int} (H : (8 ≤ v2 → wf (d + 1) M_X7_mendNow Q 45 [some (.inr (.inr 294)), none, some (.inl v2), none, none] [] h) ∧ (v2 < 8 → cf d M_X7_mendRound [.inr (.inr 294), .inl v1] h (fun r2 h3 => (r2 = 0 → wf (d + 1) M_X7_mendNow Q 45 [some (.inr (.inr 294)), none, some (.inl v2), none, none] [] h3) ∧ (¬ r2 = 0 → wf (d + 1) M_X7_mendNow Q 25 [some (.inr (.inr 294)), some (.inl v1), some (.inl (am_w32 (v2 + 1))), none, none] [] h3)))) : wf (d + 1) M_X7_mendNow Q 25 [some (.inr (.inr 294)), some (.inl v1), some (.inl v2), none, none] [] h := by
  intro h0
  refine ar_iload_n (pc := 25) (i := 2) (k0 := 2) (by decide +kernel) rfl rfl ?_
  refine ar_bipush (pc := 26) (z := 8) (by decide +kernel) (by omega) ?_
  refine ar_icmp_ge (pc := 28) (x := v2) (y := 8) (tgt := 45) (off := 17) (by decide +kernel) (by decide) (fun c1 => ?_) (fun c1 => ?_)
  · replace H := H.1 c1
    refine ar_forget [true, false, true, true, true] rfl ?_
    exact H h0
  · replace H := H.2 c1
    refine ar_aload_n (pc := 31) (i := 0) (k0 := 0) (by decide +kernel) rfl rfl ?_
    refine ar_iload_n (pc := 32) (i := 1) (k0 := 1) (by decide +kernel) rfl rfl ?_
    refine ar_callV (pc := 33) (M2 := M_X7_mendRound) (a := 294) (ci := 7) (as := [.inl v1]) (n2 := 321) (st := []) (by decide +kernel) rfl wm_RX7_436 wi_yX7_mendRound wl_yX7_mendRound k_294 rfl wz_RX7 wc_yX7_mendRound ⟨by decide, by decide, rfl⟩ (by decide) (Nat.le_of_ble_eq_true rfl) (Nat.le_refl _) (Nat.le_refl _) (am_Cl_mono H (fun r2 h3 H => ?_))
    show am_Wp true (d + 1) M_X7_mendNow 321 321 h0 Q 36 [some (.inr (.inr 294)), some (.inl v1), some (.inl v2), none, none] [.inl r2] 321 h3
    refine ar_if_eq (pc := 36) (x := r2) (tgt := 45) (off := 9) (by decide +kernel) (by decide) (fun c4 => ?_) (fun c4 => ?_)
    · replace H := H.1 c4
      refine ar_forget [true, false, true, true, true] rfl ?_
      exact H h0
    · replace H := H.2 c4
      refine ar_iinc (pc := 39) (i := 2) (z := 1) (x := v2) (ls2 := [some (.inr (.inr 294)), some (.inl v1), some (.inl (am_w32 (v2 + 1))), none, none]) (by decide +kernel) rfl (by decide) rfl ?_
      refine ar_goto (pc := 42) (tgt := 25) (off := -17) (by decide +kernel) (by decide) ?_
      exact H h0
theorem B_X7_mendNow_45 {d : Nat} {Q : Int → am_H → Prop} {h : am_H} {v2 : Int} (H : (¬ v2 = 8 → wf (d + 1) M_X7_mendNow Q 62 [some (.inr (.inr 294)), none, none, some (.inl 0), some (.inl 0)] [] h) ∧ (v2 = 8 → cf d M_X7_bringBack [.inr (.inr 294)] h (fun _ h3 => Q (-1) h3))) : wf (d + 1) M_X7_mendNow Q 45 [some (.inr (.inr 294)), none, some (.inl v2), none, none] [] h := by
  intro h0
  refine ar_iload_n (pc := 45) (i := 2) (k0 := 2) (by decide +kernel) rfl rfl ?_
  refine ar_bipush (pc := 46) (z := 8) (by decide +kernel) (by omega) ?_
  refine ar_icmp_ne (pc := 48) (x := v2) (y := 8) (tgt := 57) (off := 9) (by decide +kernel) (by decide) (fun c1 => ?_) (fun c1 => ?_)
  · replace H := H.1 c1
    refine ar_iconst (pc := 57) (z := 0) (by decide +kernel) (by unfold am_i32; omega) ?_
    refine ar_istore_n (pc := 58) (i := 3) (k0 := 3) (ls2 := [some (.inr (.inr 294)), none, some (.inl v2), some (.inl 0), none]) (by decide +kernel) rfl (by decide) rfl ?_
    refine ar_iconst (pc := 59) (z := 0) (by decide +kernel) (by unfold am_i32; omega) ?_
    refine ar_istore (pc := 60) (i := 4) (ls2 := [some (.inr (.inr 294)), none, some (.inl v2), some (.inl 0), some (.inl 0)]) (by decide +kernel) (by decide) rfl ?_
    refine ar_forget [true, true, false, true, true] rfl ?_
    exact H h0
  · replace H := H.2 c1
    refine ar_aload_n (pc := 51) (i := 0) (k0 := 0) (by decide +kernel) rfl rfl ?_
    refine ar_callV (pc := 52) (M2 := M_X7_bringBack) (a := 294) (ci := 7) (as := []) (n2 := 321) (st := []) (by decide +kernel) rfl wm_RX7_439 wi_yX7_bringBack wl_yX7_bringBack k_294 rfl wz_RX7 wc_yX7_bringBack ⟨by decide, by decide, rfl⟩ (by decide) (Nat.le_of_ble_eq_true rfl) (Nat.le_refl _) (Nat.le_refl _) (am_Cl_mono H (fun r2 h3 H => ?_))
    show am_Wp true (d + 1) M_X7_mendNow 321 321 h0 Q 55 [some (.inr (.inr 294)), none, some (.inl v2), none, none] [] 321 h3
    refine ar_iconst (pc := 55) (z := (-1)) (by decide +kernel) (by unfold am_i32; omega) ?_
    exact ar_iret (pc := 56) (x := (-1)) (by decide +kernel) rfl rfl H
theorem B_X7_mendNow_62 {d : Nat} {Q : Int → am_H → Prop} {h : am_H} {v3 v4 : Int} (H : (40 ≤ v4 → Q v3 h) ∧ (v4 < 40 → (0 ≤ (am_w32 (8 + v4))) ∧ (((am_w32 (8 + v4)) < 2159) ∧ ((0 ≤ v4) ∧ (((h 295 (am_w32 (8 + v4))) = (h 317 v4) → wf (d + 1) M_X7_mendNow Q 95 [some (.inr (.inr 294)), none, none, none, some (.inl v4)] [.inl 0, .inl v3] h) ∧ (¬ (h 295 (am_w32 (8 + v4))) = (h 317 v4) → wf (d + 1) M_X7_mendNow Q 95 [some (.inr (.inr 294)), none, none, none, some (.inl v4)] [.inl 1, .inl v3] h)))))) : wf (d + 1) M_X7_mendNow Q 62 [some (.inr (.inr 294)), none, none, some (.inl v3), some (.inl v4)] [] h := by
  intro h0
  refine ar_iload (pc := 62) (i := 4) (by decide +kernel) rfl ?_
  refine ar_bipush (pc := 64) (z := 40) (by decide +kernel) (by omega) ?_
  refine ar_icmp_ge (pc := 66) (x := v4) (y := 40) (tgt := 103) (off := 37) (by decide +kernel) (by decide) (fun c1 => ?_) (fun c1 => ?_)
  · replace H := H.1 c1
    refine ar_iload_n (pc := 103) (i := 3) (k0 := 3) (by decide +kernel) rfl rfl ?_
    exact ar_iret (pc := 104) (x := v3) (by decide +kernel) rfl rfl H
  · replace H := H.2 c1
    refine ar_iload_n (pc := 69) (i := 3) (k0 := 3) (by decide +kernel) rfl rfl ?_
    refine ar_aload_n (pc := 70) (i := 0) (k0 := 0) (by decide +kernel) rfl rfl ?_
    refine ar_getFV (pc := 71) (a := 294) (b := 295) 7 0 (by decide +kernel) k_294 rfl (by decide) wf_RX7_7 rfl (fun _ => rfl) rfl ?_
    refine ar_bipush (pc := 74) (z := 8) (by decide +kernel) (by omega) ?_
    refine ar_iload (pc := 76) (i := 4) (by decide +kernel) rfl ?_
    refine ar_iadd (pc := 78) (x := 8) (y := v4) (by decide +kernel) ?_
    obtain ⟨g2, H⟩ := H
    obtain ⟨g3, H⟩ := H
    refine ar_iald (pc := 79) (a := 295) (i := (am_w32 (8 + v4))) (by decide +kernel) k_295 g2 (am_lt_eq g3 (l_295).symm) ?_
    refine ar_aload_n (pc := 80) (i := 0) (k0 := 0) (by decide +kernel) rfl rfl ?_
    refine ar_getFV (pc := 81) (a := 294) (b := 317) 7 48 (by decide +kernel) k_294 rfl (by decide) wf_RX7_85 rfl (fun _ => rfl) rfl ?_
    refine ar_iload (pc := 84) (i := 4) (by decide +kernel) rfl ?_
    obtain ⟨g4, H⟩ := H
    refine ar_iald (pc := 86) (a := 317) (i := v4) (by decide +kernel) k_317 g4 (am_lt_eq c1 (l_317).symm) ?_
    refine ar_icmp_eq (pc := 87) (x := (h 295 (am_w32 (8 + v4)))) (y := (h 317 v4)) (tgt := 94) (off := 7) (by decide +kernel) (by decide) (fun c5 => ?_) (fun c5 => ?_)
    · replace H := H.1 c5
      refine ar_iconst (pc := 94) (z := 0) (by decide +kernel) (by unfold am_i32; omega) ?_
      refine ar_forget [true, true, true, false, true] rfl ?_
      exact H h0
    · replace H := H.2 c5
      refine ar_iconst (pc := 90) (z := 1) (by decide +kernel) (by unfold am_i32; omega) ?_
      refine ar_goto (pc := 91) (tgt := 95) (off := 4) (by decide +kernel) (by decide) ?_
      refine ar_forget [true, true, true, false, true] rfl ?_
      exact H h0
theorem B_X7_mendNow_95 {d : Nat} {Q : Int → am_H → Prop} {h : am_H} {v4 s0 s1 : Int} (H : wf (d + 1) M_X7_mendNow Q 62 [some (.inr (.inr 294)), none, none, some (.inl (am_w32 (s0 + s1))), some (.inl (am_w32 (v4 + 1)))] [] h) : wf (d + 1) M_X7_mendNow Q 95 [some (.inr (.inr 294)), none, none, none, some (.inl v4)] [.inl s1, .inl s0] h := by
  intro h0
  refine ar_iadd (pc := 95) (x := s0) (y := s1) (by decide +kernel) ?_
  refine ar_istore_n (pc := 96) (i := 3) (k0 := 3) (ls2 := [some (.inr (.inr 294)), none, none, some (.inl (am_w32 (s0 + s1))), some (.inl v4)]) (by decide +kernel) rfl (by decide) rfl ?_
  refine ar_iinc (pc := 97) (i := 4) (z := 1) (x := v4) (ls2 := [some (.inr (.inr 294)), none, none, some (.inl (am_w32 (s0 + s1))), some (.inl (am_w32 (v4 + 1)))]) (by decide +kernel) rfl (by decide) rfl ?_
  refine ar_goto (pc := 100) (tgt := 62) (off := -38) (by decide +kernel) (by decide) ?_
  exact H h0

/-! ByteIntervalsModel.write(III)V -/
theorem B_X7_write_0 {d : Nat} {Q : Int → am_H → Prop} {h : am_H} {v1 v2 v3 : Int} (H : (¬ (h 294 50) = 0 → (¬ (h 295 7) = 25 → wf d M_X7_write Q 71 [some (.inr (.inr 294)), some (.inl v1), some (.inl v2), some (.inl v3), none] [] h) ∧ ((h 295 7) = 25 → wf d M_X7_write Q 23 [some (.inr (.inr 294)), some (.inl v1), some (.inl v2), some (.inl v3), some (.inl 1)] [] h)) ∧ ((h 294 50) = 0 → Q 0 h)) : wf d M_X7_write Q 0 [some (.inr (.inr 294)), some (.inl v1), some (.inl v2), some (.inl v3), none] [] h := by
  intro h0
  refine ar_aload_n (pc := 0) (i := 0) (k0 := 0) (by decide +kernel) rfl rfl ?_
  refine ar_getV (pc := 1) (a := 294) (v := .inl (h 294 50)) 7 50 (by decide +kernel) k_294 rfl (by decide) wf_RX7_91 rfl ?_
  refine ar_if_ne (pc := 4) (x := (h 294 50)) (tgt := 8) (off := 4) (by decide +kernel) (by decide) (fun c1 => ?_) (fun c1 => ?_)
  · replace H := H.1 c1
    refine ar_aload_n (pc := 8) (i := 0) (k0 := 0) (by decide +kernel) rfl rfl ?_
    refine ar_getFV (pc := 9) (a := 294) (b := 295) 7 0 (by decide +kernel) k_294 rfl (by decide) wf_RX7_7 rfl (fun _ => rfl) rfl ?_
    refine ar_bipush (pc := 12) (z := 7) (by decide +kernel) (by omega) ?_
    refine ar_iald (pc := 14) (a := 295) (i := 7) (by decide +kernel) k_295 (by decide) (am_lt_eq (b := 2159) (by decide) (l_295).symm) ?_
    refine ar_bipush (pc := 15) (z := 25) (by decide +kernel) (by omega) ?_
    refine ar_icmp_ne (pc := 17) (x := (h 295 7)) (y := 25) (tgt := 71) (off := 54) (by decide +kernel) (by decide) (fun c2 => ?_) (fun c2 => ?_)
    · replace H := H.1 c2
      exact H h0
    · replace H := H.2 c2
      refine ar_iconst (pc := 20) (z := 1) (by decide +kernel) (by unfold am_i32; omega) ?_
      refine ar_istore (pc := 21) (i := 4) (ls2 := [some (.inr (.inr 294)), some (.inl v1), some (.inl v2), some (.inl v3), some (.inl 1)]) (by decide +kernel) (by decide) rfl ?_
      exact H h0
  · replace H := H.2 c1
    exact ar_vret (pc := 7) (by decide +kernel) rfl rfl H
theorem B_X7_write_23 {d : Nat} {Q : Int → am_H → Prop} {h : am_H} {v1 v2 v3 v4 : Int} (H : (25 ≤ v4 → wf d M_X7_write Q 71 [some (.inr (.inr 294)), some (.inl v1), some (.inl v2), some (.inl v3), none] [] (am_up h 295 7 (am_w32 ((h 295 7) - 1)))) ∧ (v4 < 25 → (0 ≤ (am_w32 (2134 + v4))) ∧ (((am_w32 (2134 + v4)) < 2159) ∧ ((0 ≤ (am_w32 ((am_w32 (2134 + v4)) - 1))) ∧ (((am_w32 ((am_w32 (2134 + v4)) - 1)) < 2159) ∧ (wf d M_X7_write Q 23 [some (.inr (.inr 294)), some (.inl v1), some (.inl v2), some (.inl v3), some (.inl (am_w32 (v4 + 1)))] [] (am_up h 295 (am_w32 ((am_w32 (2134 + v4)) - 1)) (h 295 (am_w32 (2134 + v4)))))))))) : wf d M_X7_write Q 23 [some (.inr (.inr 294)), some (.inl v1), some (.inl v2), some (.inl v3), some (.inl v4)] [] h := by
  intro h0
  refine ar_iload (pc := 23) (i := 4) (by decide +kernel) rfl ?_
  refine ar_bipush (pc := 25) (z := 25) (by decide +kernel) (by omega) ?_
  refine ar_icmp_ge (pc := 27) (x := v4) (y := 25) (tgt := 60) (off := 33) (by decide +kernel) (by decide) (fun c1 => ?_) (fun c1 => ?_)
  · replace H := H.1 c1
    refine ar_aload_n (pc := 60) (i := 0) (k0 := 0) (by decide +kernel) rfl rfl ?_
    refine ar_getFV (pc := 61) (a := 294) (b := 295) 7 0 (by decide +kernel) k_294 rfl (by decide) wf_RX7_7 rfl (fun _ => rfl) rfl ?_
    refine ar_bipush (pc := 64) (z := 7) (by decide +kernel) (by omega) ?_
    refine ar_dup2 (pc := 66) (by decide +kernel) trivial trivial ?_
    refine ar_iald (pc := 67) (a := 295) (i := 7) (by decide +kernel) k_295 (by decide) (am_lt_eq (b := 2159) (by decide) (l_295).symm) ?_
    refine ar_iconst (pc := 68) (z := 1) (by decide +kernel) (by unfold am_i32; omega) ?_
    refine ar_isub (pc := 69) (x := (h 295 7)) (y := 1) (by decide +kernel) ?_
    refine ar_iast (pc := 70) (a := 295) (i := 7) (z := (am_w32 ((h 295 7) - 1))) (by decide +kernel) k_295 (by decide) (am_lt_eq (b := 2159) (by decide) (l_295).symm) ?_
    refine ar_forget [true, true, true, true, false] rfl ?_
    exact H h0
  · replace H := H.2 c1
    refine ar_aload_n (pc := 30) (i := 0) (k0 := 0) (by decide +kernel) rfl rfl ?_
    refine ar_getFV (pc := 31) (a := 294) (b := 295) 7 0 (by decide +kernel) k_294 rfl (by decide) wf_RX7_7 rfl (fun _ => rfl) rfl ?_
    refine ar_sipush (pc := 34) (z := 2134) (by decide +kernel) (by omega) ?_
    refine ar_iload (pc := 37) (i := 4) (by decide +kernel) rfl ?_
    refine ar_iadd (pc := 39) (x := 2134) (y := v4) (by decide +kernel) ?_
    refine ar_iconst (pc := 40) (z := 1) (by decide +kernel) (by unfold am_i32; omega) ?_
    refine ar_isub (pc := 41) (x := (am_w32 (2134 + v4))) (y := 1) (by decide +kernel) ?_
    refine ar_aload_n (pc := 42) (i := 0) (k0 := 0) (by decide +kernel) rfl rfl ?_
    refine ar_getFV (pc := 43) (a := 294) (b := 295) 7 0 (by decide +kernel) k_294 rfl (by decide) wf_RX7_7 rfl (fun _ => rfl) rfl ?_
    refine ar_sipush (pc := 46) (z := 2134) (by decide +kernel) (by omega) ?_
    refine ar_iload (pc := 49) (i := 4) (by decide +kernel) rfl ?_
    refine ar_iadd (pc := 51) (x := 2134) (y := v4) (by decide +kernel) ?_
    obtain ⟨g2, H⟩ := H
    obtain ⟨g3, H⟩ := H
    refine ar_iald (pc := 52) (a := 295) (i := (am_w32 (2134 + v4))) (by decide +kernel) k_295 g2 (am_lt_eq g3 (l_295).symm) ?_
    obtain ⟨g4, H⟩ := H
    obtain ⟨g5, H⟩ := H
    refine ar_iast (pc := 53) (a := 295) (i := (am_w32 ((am_w32 (2134 + v4)) - 1))) (z := (h 295 (am_w32 (2134 + v4)))) (by decide +kernel) k_295 g4 (am_lt_eq g5 (l_295).symm) ?_
    refine ar_iinc (pc := 54) (i := 4) (z := 1) (x := v4) (ls2 := [some (.inr (.inr 294)), some (.inl v1), some (.inl v2), some (.inl v3), some (.inl (am_w32 (v4 + 1)))]) (by decide +kernel) rfl (by decide) rfl ?_
    refine ar_goto (pc := 57) (tgt := 23) (off := -34) (by decide +kernel) (by decide) ?_
    exact H h0
theorem B_X7_write_71 {d : Nat} {Q : Int → am_H → Prop} {h : am_H} {v1 v2 v3 : Int} (H : (0 ≤ (am_w32 (2134 + (h 295 7)))) ∧ (((am_w32 (2134 + (h 295 7))) < 2159) ∧ (Q 0 (am_up (am_up h 295 (am_w32 (2134 + (h 295 7))) (am_w32 ((am_w32 ((am_w32 ((am_w32 ((am_w32 ((am_w32 ((h 295 4) * 4)) + v1)) * 41)) + v2)) * 256)) + v3))) 295 7 (am_w32 (((am_up h 295 (am_w32 (2134 + (h 295 7))) (am_w32 ((am_w32 ((am_w32 ((am_w32 ((am_w32 ((am_w32 ((h 295 4) * 4)) + v1)) * 41)) + v2)) * 256)) + v3))) 295 7) + 1)))))) : wf d M_X7_write Q 71 [some (.inr (.inr 294)), some (.inl v1), some (.inl v2), some (.inl v3), none] [] h := by
  intro h0
  refine ar_aload_n (pc := 71) (i := 0) (k0 := 0) (by decide +kernel) rfl rfl ?_
  refine ar_getFV (pc := 72) (a := 294) (b := 295) 7 0 (by decide +kernel) k_294 rfl (by decide) wf_RX7_7 rfl (fun _ => rfl) rfl ?_
  refine ar_sipush (pc := 75) (z := 2134) (by decide +kernel) (by omega) ?_
  refine ar_aload_n (pc := 78) (i := 0) (k0 := 0) (by decide +kernel) rfl rfl ?_
  refine ar_getFV (pc := 79) (a := 294) (b := 295) 7 0 (by decide +kernel) k_294 rfl (by decide) wf_RX7_7 rfl (fun _ => rfl) rfl ?_
  refine ar_bipush (pc := 82) (z := 7) (by decide +kernel) (by omega) ?_
  refine ar_iald (pc := 84) (a := 295) (i := 7) (by decide +kernel) k_295 (by decide) (am_lt_eq (b := 2159) (by decide) (l_295).symm) ?_
  refine ar_iadd (pc := 85) (x := 2134) (y := (h 295 7)) (by decide +kernel) ?_
  refine ar_aload_n (pc := 86) (i := 0) (k0 := 0) (by decide +kernel) rfl rfl ?_
  refine ar_getFV (pc := 87) (a := 294) (b := 295) 7 0 (by decide +kernel) k_294 rfl (by decide) wf_RX7_7 rfl (fun _ => rfl) rfl ?_
  refine ar_iconst (pc := 90) (z := 4) (by decide +kernel) (by unfold am_i32; omega) ?_
  refine ar_iald (pc := 91) (a := 295) (i := 4) (by decide +kernel) k_295 (by decide) (am_lt_eq (b := 2159) (by decide) (l_295).symm) ?_
  refine ar_iconst (pc := 92) (z := 4) (by decide +kernel) (by unfold am_i32; omega) ?_
  refine ar_imul (pc := 93) (x := (h 295 4)) (y := 4) (by decide +kernel) ?_
  refine ar_iload_n (pc := 94) (i := 1) (k0 := 1) (by decide +kernel) rfl rfl ?_
  refine ar_iadd (pc := 95) (x := (am_w32 ((h 295 4) * 4))) (y := v1) (by decide +kernel) ?_
  refine ar_bipush (pc := 96) (z := 41) (by decide +kernel) (by omega) ?_
  refine ar_imul (pc := 98) (x := (am_w32 ((am_w32 ((h 295 4) * 4)) + v1))) (y := 41) (by decide +kernel) ?_
  refine ar_iload_n (pc := 99) (i := 2) (k0 := 2) (by decide +kernel) rfl rfl ?_
  refine ar_iadd (pc := 100) (x := (am_w32 ((am_w32 ((am_w32 ((h 295 4) * 4)) + v1)) * 41))) (y := v2) (by decide +kernel) ?_
  refine ar_sipush (pc := 101) (z := 256) (by decide +kernel) (by omega) ?_
  refine ar_imul (pc := 104) (x := (am_w32 ((am_w32 ((am_w32 ((am_w32 ((h 295 4) * 4)) + v1)) * 41)) + v2))) (y := 256) (by decide +kernel) ?_
  refine ar_iload_n (pc := 105) (i := 3) (k0 := 3) (by decide +kernel) rfl rfl ?_
  refine ar_iadd (pc := 106) (x := (am_w32 ((am_w32 ((am_w32 ((am_w32 ((am_w32 ((h 295 4) * 4)) + v1)) * 41)) + v2)) * 256))) (y := v3) (by decide +kernel) ?_
  obtain ⟨g1, H⟩ := H
  obtain ⟨g2, H⟩ := H
  refine ar_iast (pc := 107) (a := 295) (i := (am_w32 (2134 + (h 295 7)))) (z := (am_w32 ((am_w32 ((am_w32 ((am_w32 ((am_w32 ((am_w32 ((h 295 4) * 4)) + v1)) * 41)) + v2)) * 256)) + v3))) (by decide +kernel) k_295 g1 (am_lt_eq g2 (l_295).symm) ?_
  refine ar_aload_n (pc := 108) (i := 0) (k0 := 0) (by decide +kernel) rfl rfl ?_
  refine ar_getFV (pc := 109) (a := 294) (b := 295) 7 0 (by decide +kernel) k_294 rfl (by decide) wf_RX7_7 rfl (fun _ => rfl) rfl ?_
  refine ar_bipush (pc := 112) (z := 7) (by decide +kernel) (by omega) ?_
  refine ar_dup2 (pc := 114) (by decide +kernel) trivial trivial ?_
  refine ar_iald (pc := 115) (a := 295) (i := 7) (by decide +kernel) k_295 (by decide) (am_lt_eq (b := 2159) (by decide) (l_295).symm) ?_
  refine ar_iconst (pc := 116) (z := 1) (by decide +kernel) (by unfold am_i32; omega) ?_
  refine ar_iadd (pc := 117) (x := ((am_up h 295 (am_w32 (2134 + (h 295 7))) (am_w32 ((am_w32 ((am_w32 ((am_w32 ((am_w32 ((am_w32 ((h 295 4) * 4)) + v1)) * 41)) + v2)) * 256)) + v3))) 295 7)) (y := 1) (by decide +kernel) ?_
  refine ar_iast (pc := 118) (a := 295) (i := 7) (z := (am_w32 (((am_up h 295 (am_w32 (2134 + (h 295 7))) (am_w32 ((am_w32 ((am_w32 ((am_w32 ((am_w32 ((am_w32 ((h 295 4) * 4)) + v1)) * 41)) + v2)) * 256)) + v3))) 295 7) + 1))) (by decide +kernel) k_295 (by decide) (am_lt_eq (b := 2159) (by decide) (l_295).symm) ?_
  exact ar_vret (pc := 119) (by decide +kernel) rfl rfl H

/-! ByteIntervalsModel.drawnBy(I)I -/
theorem B_X7_drawnBy_0 {d : Nat} {Q : Int → am_H → Prop} {h : am_H} {v1 : Int} (H : (v1 ≠ 0) ∧ (cf d M_X7_anew [.inr (.inr 294)] h (fun _ h3 => Q (am_w32 ((h 295 5).tmod v1)) h3))) : wf (d + 1) M_X7_drawnBy Q 0 [some (.inr (.inr 294)), some (.inl v1), none] [] h := by
  intro h0
  refine ar_aload_n (pc := 0) (i := 0) (k0 := 0) (by decide +kernel) rfl rfl ?_
  refine ar_getFV (pc := 1) (a := 294) (b := 295) 7 0 (by decide +kernel) k_294 rfl (by decide) wf_RX7_7 rfl (fun _ => rfl) rfl ?_
  refine ar_iconst (pc := 4) (z := 5) (by decide +kernel) (by unfold am_i32; omega) ?_
  refine ar_iald (pc := 5) (a := 295) (i := 5) (by decide +kernel) k_295 (by decide) (am_lt_eq (b := 2159) (by decide) (l_295).symm) ?_
  refine ar_iload_n (pc := 6) (i := 1) (k0 := 1) (by decide +kernel) rfl rfl ?_
  obtain ⟨g1, H⟩ := H
  refine ar_irem (pc := 7) (x := (h 295 5)) (y := v1) (by decide +kernel) g1 ?_
  refine ar_istore_n (pc := 8) (i := 2) (k0 := 2) (ls2 := [some (.inr (.inr 294)), some (.inl v1), some (.inl (am_w32 ((h 295 5).tmod v1)))]) (by decide +kernel) rfl (by decide) rfl ?_
  refine ar_aload_n (pc := 9) (i := 0) (k0 := 0) (by decide +kernel) rfl rfl ?_
  refine ar_callV (pc := 10) (M2 := M_X7_anew) (a := 294) (ci := 7) (as := []) (n2 := 321) (st := []) (by decide +kernel) rfl wm_RX7_442 wi_yX7_anew wl_yX7_anew k_294 rfl wz_RX7 wc_yX7_anew ⟨by decide, by decide, rfl⟩ (by decide) (Nat.le_of_ble_eq_true rfl) (Nat.le_refl _) (Nat.le_refl _) (am_Cl_mono H (fun r2 h3 H => ?_))
  show am_Wp true (d + 1) M_X7_drawnBy 321 321 h0 Q 13 [some (.inr (.inr 294)), some (.inl v1), some (.inl (am_w32 ((h 295 5).tmod v1)))] [] 321 h3
  refine ar_iload_n (pc := 13) (i := 2) (k0 := 2) (by decide +kernel) rfl rfl ?_
  exact ar_iret (pc := 14) (x := (am_w32 ((h 295 5).tmod v1))) (by decide +kernel) rfl rfl H

/-! ByteIntervalsModel.anew()V -/
theorem B_X7_anew_0 {d : Nat} {Q : Int → am_H → Prop} {h : am_H} (H : Q 0 (am_up h 295 5 (am_l2i (am_w64 ((am_w64 ((am_w64 ((h 295 5) * 743)) + 607)).tmod 31079))))) : wf d M_X7_anew Q 0 [some (.inr (.inr 294))] [] h := by
  intro h0
  refine ar_aload_n (pc := 0) (i := 0) (k0 := 0) (by decide +kernel) rfl rfl ?_
  refine ar_getFV (pc := 1) (a := 294) (b := 295) 7 0 (by decide +kernel) k_294 rfl (by decide) wf_RX7_7 rfl (fun _ => rfl) rfl ?_
  refine ar_iconst (pc := 4) (z := 5) (by decide +kernel) (by unfold am_i32; omega) ?_
  refine ar_aload_n (pc := 5) (i := 0) (k0 := 0) (by decide +kernel) rfl rfl ?_
  refine ar_getFV (pc := 6) (a := 294) (b := 295) 7 0 (by decide +kernel) k_294 rfl (by decide) wf_RX7_7 rfl (fun _ => rfl) rfl ?_
  refine ar_iconst (pc := 9) (z := 5) (by decide +kernel) (by unfold am_i32; omega) ?_
  refine ar_iald (pc := 10) (a := 295) (i := 5) (by decide +kernel) k_295 (by decide) (am_lt_eq (b := 2159) (by decide) (l_295).symm) ?_
  refine ar_i2l (pc := 11) (x := (h 295 5)) (by decide +kernel) ?_
  refine ar_ldc2 (pc := 12) (z := 743) (by decide +kernel) wk_RX7_445 (by unfold am_i64; omega) ?_
  refine ar_lmul (pc := 15) (x := (h 295 5)) (y := 743) (by decide +kernel) ?_
  refine ar_ldc2 (pc := 16) (z := 607) (by decide +kernel) wk_RX7_447 (by unfold am_i64; omega) ?_
  refine ar_ladd (pc := 19) (x := (am_w64 ((h 295 5) * 743))) (y := 607) (by decide +kernel) ?_
  refine ar_ldc2 (pc := 20) (z := 31079) (by decide +kernel) wk_RX7_449 (by unfold am_i64; omega) ?_
  refine ar_lrem (pc := 23) (x := (am_w64 ((am_w64 ((h 295 5) * 743)) + 607))) (y := 31079) (by decide +kernel) (by decide) ?_
  refine ar_l2i (pc := 24) (x := (am_w64 ((am_w64 ((am_w64 ((h 295 5) * 743)) + 607)).tmod 31079))) (by decide +kernel) ?_
  refine ar_iast (pc := 25) (a := 295) (i := 5) (z := (am_l2i (am_w64 ((am_w64 ((am_w64 ((h 295 5) * 743)) + 607)).tmod 31079)))) (by decide +kernel) k_295 (by decide) (am_lt_eq (b := 2159) (by decide) (l_295).symm) ?_
  exact ar_vret (pc := 26) (by decide +kernel) rfl rfl H

/-! ByteIntervalsModel.canSet(II)Z -/
theorem B_X7_canSet_0 {d : Nat} {Q : Int → am_H → Prop} {h : am_H} {v1 v2 : Int} (H : cf d M_X7_isPlace [.inr (.inr 294), .inl v1] h (fun r1 h2 => (r1 = 0 → Q 0 h2) ∧ (¬ r1 = 0 → cf d M_X7_isIn [.inl v2, .inl 0, .inl 255] h2 (fun r4 h5 => (r4 = 0 → Q 0 h5) ∧ (¬ r4 = 0 → (0 ≤ (am_w32 (8 + v1))) ∧ (((am_w32 (8 + v1)) < 2159) ∧ (((h5 295 (am_w32 (8 + v1))) = v2 → Q 0 h5) ∧ (¬ (h5 295 (am_w32 (8 + v1))) = v2 → Q 1 h5)))))))) : wf (d + 1) M_X7_canSet Q 0 [some (.inr (.inr 294)), some (.inl v1), some (.inl v2)] [] h := by
  intro h0
  refine ar_aload_n (pc := 0) (i := 0) (k0 := 0) (by decide +kernel) rfl rfl ?_
  refine ar_iload_n (pc := 1) (i := 1) (k0 := 1) (by decide +kernel) rfl rfl ?_
  refine ar_callV (pc := 2) (M2 := M_X7_isPlace) (a := 294) (ci := 7) (as := [.inl v1]) (n2 := 321) (st := []) (by decide +kernel) rfl wm_RX7_451 wi_yX7_isPlace wl_yX7_isPlace k_294 rfl wz_RX7 wc_yX7_isPlace ⟨by decide, by decide, rfl⟩ (by decide) (Nat.le_of_ble_eq_true rfl) (Nat.le_refl _) (Nat.le_refl _) (am_Cl_mono H (fun r1 h2 H => ?_))
  show am_Wp true (d + 1) M_X7_canSet 321 321 h0 Q 5 [some (.inr (.inr 294)), some (.inl v1), some (.inl v2)] [.inl r1] 321 h2
  refine ar_if_eq (pc := 5) (x := r1) (tgt := 36) (off := 31) (by decide +kernel) (by decide) (fun c3 => ?_) (fun c3 => ?_)
  · replace H := H.1 c3
    refine ar_iconst (pc := 36) (z := 0) (by decide +kernel) (by unfold am_i32; omega) ?_
    exact ar_zret (pc := 37) (x := 0) (by decide +kernel) rfl rfl (by decide) H
  · replace H := H.2 c3
    refine ar_iload_n (pc := 8) (i := 2) (k0 := 2) (by decide +kernel) rfl rfl ?_
    refine ar_iconst (pc := 9) (z := 0) (by decide +kernel) (by unfold am_i32; omega) ?_
    refine ar_sipush (pc := 10) (z := 255) (by decide +kernel) (by omega) ?_
    refine ar_callS (pc := 13) (M2 := M_X7_isIn) (as := [.inl v2, .inl 0, .inl 255]) (n2 := 321) (st := []) (by decide +kernel) rfl wm_RX7_108 ws_yX7_isIn wz_RX7 wc_yX7_isIn ⟨by decide, by decide, rfl⟩ (by decide) (Nat.le_of_ble_eq_true rfl) (Nat.le_refl _) (Nat.le_refl _) (am_Cl_mono H (fun r4 h5 H => ?_))
    show am_Wp true (d + 1) M_X7_canSet 321 321 h0 Q 16 [some (.inr (.inr 294)), some (.inl v1), some (.inl v2)] [.inl r4] 321 h5
    refine ar_if_eq (pc := 16) (x := r4) (tgt := 36) (off := 20) (by decide +kernel) (by decide) (fun c6 => ?_) (fun c6 => ?_)
    · replace H := H.1 c6
      refine ar_iconst (pc := 36) (z := 0) (by decide +kernel) (by unfold am_i32; omega) ?_
      exact ar_zret (pc := 37) (x := 0) (by decide +kernel) rfl rfl (by decide) H
    · replace H := H.2 c6
      refine ar_aload_n (pc := 19) (i := 0) (k0 := 0) (by decide +kernel) rfl rfl ?_
      refine ar_getFV (pc := 20) (a := 294) (b := 295) 7 0 (by decide +kernel) k_294 rfl (by decide) wf_RX7_7 rfl (fun _ => rfl) rfl ?_
      refine ar_bipush (pc := 23) (z := 8) (by decide +kernel) (by omega) ?_
      refine ar_iload_n (pc := 25) (i := 1) (k0 := 1) (by decide +kernel) rfl rfl ?_
      refine ar_iadd (pc := 26) (x := 8) (y := v1) (by decide +kernel) ?_
      obtain ⟨g7, H⟩ := H
      obtain ⟨g8, H⟩ := H
      refine ar_iald (pc := 27) (a := 295) (i := (am_w32 (8 + v1))) (by decide +kernel) k_295 g7 (am_lt_eq g8 (l_295).symm) ?_
      refine ar_iload_n (pc := 28) (i := 2) (k0 := 2) (by decide +kernel) rfl rfl ?_
      refine ar_icmp_eq (pc := 29) (x := (h5 295 (am_w32 (8 + v1)))) (y := v2) (tgt := 36) (off := 7) (by decide +kernel) (by decide) (fun c9 => ?_) (fun c9 => ?_)
      · replace H := H.1 c9
        refine ar_iconst (pc := 36) (z := 0) (by decide +kernel) (by unfold am_i32; omega) ?_
        exact ar_zret (pc := 37) (x := 0) (by decide +kernel) rfl rfl (by decide) H
      · replace H := H.2 c9
        refine ar_iconst (pc := 32) (z := 1) (by decide +kernel) (by unfold am_i32; omega) ?_
        refine ar_goto (pc := 33) (tgt := 37) (off := 4) (by decide +kernel) (by decide) ?_
        exact ar_zret (pc := 37) (x := 1) (by decide +kernel) rfl rfl (by decide) H

/-! ByteIntervalsModel.setNow(II)V -/
theorem B_X7_setNow_0 {d : Nat} {Q : Int → am_H → Prop} {h : am_H} {v1 v2 : Int} (H : (0 ≤ (am_w32 (8 + v1))) ∧ (((am_w32 (8 + v1)) < 2159) ∧ (cf d M_X7_write [.inr (.inr 294), .inl 0, .inl v1, .inl v2] (am_up h 295 (am_w32 (8 + v1)) v2) (fun _ h4 => Q 0 h4)))) : wf (d + 1) M_X7_setNow Q 0 [some (.inr (.inr 294)), some (.inl v1), some (.inl v2)] [] h := by
  intro h0
  refine ar_aload_n (pc := 0) (i := 0) (k0 := 0) (by decide +kernel) rfl rfl ?_
  refine ar_getFV (pc := 1) (a := 294) (b := 295) 7 0 (by decide +kernel) k_294 rfl (by decide) wf_RX7_7 rfl (fun _ => rfl) rfl ?_
  refine ar_bipush (pc := 4) (z := 8) (by decide +kernel) (by omega) ?_
  refine ar_iload_n (pc := 6) (i := 1) (k0 := 1) (by decide +kernel) rfl rfl ?_
  refine ar_iadd (pc := 7) (x := 8) (y := v1) (by decide +kernel) ?_
  refine ar_iload_n (pc := 8) (i := 2) (k0 := 2) (by decide +kernel) rfl rfl ?_
  obtain ⟨g1, H⟩ := H
  obtain ⟨g2, H⟩ := H
  refine ar_iast (pc := 9) (a := 295) (i := (am_w32 (8 + v1))) (z := v2) (by decide +kernel) k_295 g1 (am_lt_eq g2 (l_295).symm) ?_
  refine ar_aload_n (pc := 10) (i := 0) (k0 := 0) (by decide +kernel) rfl rfl ?_
  refine ar_iconst (pc := 11) (z := 0) (by decide +kernel) (by unfold am_i32; omega) ?_
  refine ar_iload_n (pc := 12) (i := 1) (k0 := 1) (by decide +kernel) rfl rfl ?_
  refine ar_iload_n (pc := 13) (i := 2) (k0 := 2) (by decide +kernel) rfl rfl ?_
  refine ar_callV (pc := 14) (M2 := M_X7_write) (a := 294) (ci := 7) (as := [.inl 0, .inl v1, .inl v2]) (n2 := 321) (st := []) (by decide +kernel) rfl wm_RX7_454 wi_yX7_write wl_yX7_write k_294 rfl wz_RX7 wc_yX7_write ⟨by decide, by decide, rfl⟩ (by decide) (Nat.le_of_ble_eq_true rfl) (Nat.le_refl _) (Nat.le_refl _) (am_Cl_mono H (fun r3 h4 H => ?_))
  show am_Wp true (d + 1) M_X7_setNow 321 321 h0 Q 17 [some (.inr (.inr 294)), some (.inl v1), some (.inl v2)] [] 321 h4
  exact ar_vret (pc := 17) (by decide +kernel) rfl rfl H

/-! ByteIntervalsModel.canSize(I)Z -/
theorem B_X7_canSize_0 {d : Nat} {Q : Int → am_H → Prop} {h : am_H} {v1 : Int} (H : cf d M_X7_isIn [.inl v1, .inl 0, .inl 40] h (fun r1 h2 => (r1 = 0 → Q 0 h2) ∧ (¬ r1 = 0 → (v1 = (h2 295 6) → Q 0 h2) ∧ (¬ v1 = (h2 295 6) → Q 1 h2)))) : wf (d + 1) M_X7_canSize Q 0 [some (.inr (.inr 294)), some (.inl v1)] [] h := by
  intro h0
  refine ar_iload_n (pc := 0) (i := 1) (k0 := 1) (by decide +kernel) rfl rfl ?_
  refine ar_iconst (pc := 1) (z := 0) (by decide +kernel) (by unfold am_i32; omega) ?_
  refine ar_bipush (pc := 2) (z := 40) (by decide +kernel) (by omega) ?_
  refine ar_callS (pc := 4) (M2 := M_X7_isIn) (as := [.inl v1, .inl 0, .inl 40]) (n2 := 321) (st := []) (by decide +kernel) rfl wm_RX7_108 ws_yX7_isIn wz_RX7 wc_yX7_isIn ⟨by decide, by decide, rfl⟩ (by decide) (Nat.le_of_ble_eq_true rfl) (Nat.le_refl _) (Nat.le_refl _) (am_Cl_mono H (fun r1 h2 H => ?_))
  show am_Wp true (d + 1) M_X7_canSize 321 321 h0 Q 7 [some (.inr (.inr 294)), some (.inl v1)] [.inl r1] 321 h2
  refine ar_if_eq (pc := 7) (x := r1) (tgt := 25) (off := 18) (by decide +kernel) (by decide) (fun c3 => ?_) (fun c3 => ?_)
  · replace H := H.1 c3
    refine ar_iconst (pc := 25) (z := 0) (by decide +kernel) (by unfold am_i32; omega) ?_
    exact ar_zret (pc := 26) (x := 0) (by decide +kernel) rfl rfl (by decide) H
  · replace H := H.2 c3
    refine ar_iload_n (pc := 10) (i := 1) (k0 := 1) (by decide +kernel) rfl rfl ?_
    refine ar_aload_n (pc := 11) (i := 0) (k0 := 0) (by decide +kernel) rfl rfl ?_
    refine ar_getFV (pc := 12) (a := 294) (b := 295) 7 0 (by decide +kernel) k_294 rfl (by decide) wf_RX7_7 rfl (fun _ => rfl) rfl ?_
    refine ar_bipush (pc := 15) (z := 6) (by decide +kernel) (by omega) ?_
    refine ar_iald (pc := 17) (a := 295) (i := 6) (by decide +kernel) k_295 (by decide) (am_lt_eq (b := 2159) (by decide) (l_295).symm) ?_
    refine ar_icmp_eq (pc := 18) (x := v1) (y := (h2 295 6)) (tgt := 25) (off := 7) (by decide +kernel) (by decide) (fun c4 => ?_) (fun c4 => ?_)
    · replace H := H.1 c4
      refine ar_iconst (pc := 25) (z := 0) (by decide +kernel) (by unfold am_i32; omega) ?_
      exact ar_zret (pc := 26) (x := 0) (by decide +kernel) rfl rfl (by decide) H
    · replace H := H.2 c4
      refine ar_iconst (pc := 21) (z := 1) (by decide +kernel) (by unfold am_i32; omega) ?_
      refine ar_goto (pc := 22) (tgt := 26) (off := 4) (by decide +kernel) (by decide) ?_
      exact ar_zret (pc := 26) (x := 1) (by decide +kernel) rfl rfl (by decide) H

/-! ByteIntervalsModel.cutTo(I)V -/
theorem B_X7_cutTo_0 {d : Nat} {Q : Int → am_H → Prop} {h : am_H} {v1 : Int} (H : wf d M_X7_cutTo Q 10 [some (.inr (.inr 294)), none, some (.inl v1)] [] (am_up h 295 6 v1)) : wf d M_X7_cutTo Q 0 [some (.inr (.inr 294)), some (.inl v1), none] [] h := by
  intro h0
  refine ar_aload_n (pc := 0) (i := 0) (k0 := 0) (by decide +kernel) rfl rfl ?_
  refine ar_getFV (pc := 1) (a := 294) (b := 295) 7 0 (by decide +kernel) k_294 rfl (by decide) wf_RX7_7 rfl (fun _ => rfl) rfl ?_
  refine ar_bipush (pc := 4) (z := 6) (by decide +kernel) (by omega) ?_
  refine ar_iload_n (pc := 6) (i := 1) (k0 := 1) (by decide +kernel) rfl rfl ?_
  refine ar_iast (pc := 7) (a := 295) (i := 6) (z := v1) (by decide +kernel) k_295 (by decide) (am_lt_eq (b := 2159) (by decide) (l_295).symm) ?_
  refine ar_iload_n (pc := 8) (i := 1) (k0 := 1) (by decide +kernel) rfl rfl ?_
  refine ar_istore_n (pc := 9) (i := 2) (k0 := 2) (ls2 := [some (.inr (.inr 294)), some (.inl v1), some (.inl v1)]) (by decide +kernel) rfl (by decide) rfl ?_
  refine ar_forget [true, false, true] rfl ?_
  exact H h0
theorem B_X7_cutTo_10 {d : Nat} {Q : Int → am_H → Prop} {h : am_H} {v2 : Int} (H : (40 ≤ v2 → Q 0 h) ∧ (v2 < 40 → (0 ≤ (am_w32 (8 + v2))) ∧ (((am_w32 (8 + v2)) < 2159) ∧ (wf d M_X7_cutTo Q 10 [some (.inr (.inr 294)), none, some (.inl (am_w32 (v2 + 1)))] [] (am_up h 295 (am_w32 (8 + v2)) 0))))) : wf d M_X7_cutTo Q 10 [some (.inr (.inr 294)), none, some (.inl v2)] [] h := by
  intro h0
  refine ar_iload_n (pc := 10) (i := 2) (k0 := 2) (by decide +kernel) rfl rfl ?_
  refine ar_bipush (pc := 11) (z := 40) (by decide +kernel) (by omega) ?_
  refine ar_icmp_ge (pc := 13) (x := v2) (y := 40) (tgt := 32) (off := 19) (by decide +kernel) (by decide) (fun c1 => ?_) (fun c1 => ?_)
  · replace H := H.1 c1
    exact ar_vret (pc := 32) (by decide +kernel) rfl rfl H
  · replace H := H.2 c1
    refine ar_aload_n (pc := 16) (i := 0) (k0 := 0) (by decide +kernel) rfl rfl ?_
    refine ar_getFV (pc := 17) (a := 294) (b := 295) 7 0 (by decide +kernel) k_294 rfl (by decide) wf_RX7_7 rfl (fun _ => rfl) rfl ?_
    refine ar_bipush (pc := 20) (z := 8) (by decide +kernel) (by omega) ?_
    refine ar_iload_n (pc := 22) (i := 2) (k0 := 2) (by decide +kernel) rfl rfl ?_
    refine ar_iadd (pc := 23) (x := 8) (y := v2) (by decide +kernel) ?_
    refine ar_iconst (pc := 24) (z := 0) (by decide +kernel) (by unfold am_i32; omega) ?_
    obtain ⟨g2, H⟩ := H
    obtain ⟨g3, H⟩ := H
    refine ar_iast (pc := 25) (a := 295) (i := (am_w32 (8 + v2))) (z := 0) (by decide +kernel) k_295 g2 (am_lt_eq g3 (l_295).symm) ?_
    refine ar_iinc (pc := 26) (i := 2) (z := 1) (x := v2) (ls2 := [some (.inr (.inr 294)), none, some (.inl (am_w32 (v2 + 1)))]) (by decide +kernel) rfl (by decide) rfl ?_
    refine ar_goto (pc := 29) (tgt := 10) (off := -19) (by decide +kernel) (by decide) ?_
    exact H h0

/-! ByteIntervalsModel.sizeNow(I)V -/
theorem B_X7_sizeNow_0 {d : Nat} {Q : Int → am_H → Prop} {h : am_H} {v1 : Int} (H : cf d M_X7_cutTo [.inr (.inr 294), .inl v1] h (fun _ h2 => cf d M_X7_write [.inr (.inr 294), .inl 1, .inl v1, .inl 0] h2 (fun _ h4 => Q 0 h4))) : wf (d + 1) M_X7_sizeNow Q 0 [some (.inr (.inr 294)), some (.inl v1)] [] h := by
  intro h0
  refine ar_aload_n (pc := 0) (i := 0) (k0 := 0) (by decide +kernel) rfl rfl ?_
  refine ar_iload_n (pc := 1) (i := 1) (k0 := 1) (by decide +kernel) rfl rfl ?_
  refine ar_callV (pc := 2) (M2 := M_X7_cutTo) (a := 294) (ci := 7) (as := [.inl v1]) (n2 := 321) (st := []) (by decide +kernel) rfl wm_RX7_457 wi_yX7_cutTo wl_yX7_cutTo k_294 rfl wz_RX7 wc_yX7_cutTo ⟨by decide, by decide, rfl⟩ (by decide) (Nat.le_of_ble_eq_true rfl) (Nat.le_refl _) (Nat.le_refl _) (am_Cl_mono H (fun r1 h2 H => ?_))
  show am_Wp true (d + 1) M_X7_sizeNow 321 321 h0 Q 5 [some (.inr (.inr 294)), some (.inl v1)] [] 321 h2
  refine ar_aload_n (pc := 5) (i := 0) (k0 := 0) (by decide +kernel) rfl rfl ?_
  refine ar_iconst (pc := 6) (z := 1) (by decide +kernel) (by unfold am_i32; omega) ?_
  refine ar_iload_n (pc := 7) (i := 1) (k0 := 1) (by decide +kernel) rfl rfl ?_
  refine ar_iconst (pc := 8) (z := 0) (by decide +kernel) (by unfold am_i32; omega) ?_
  refine ar_callV (pc := 9) (M2 := M_X7_write) (a := 294) (ci := 7) (as := [.inl 1, .inl v1, .inl 0]) (n2 := 321) (st := []) (by decide +kernel) rfl wm_RX7_454 wi_yX7_write wl_yX7_write k_294 rfl wz_RX7 wc_yX7_write ⟨by decide, by decide, rfl⟩ (by decide) (Nat.le_of_ble_eq_true rfl) (Nat.le_refl _) (Nat.le_refl _) (am_Cl_mono H (fun r3 h4 H => ?_))
  show am_Wp true (d + 1) M_X7_sizeNow 321 321 h0 Q 12 [some (.inr (.inr 294)), some (.inl v1)] [] 321 h4
  exact ar_vret (pc := 12) (by decide +kernel) rfl rfl H

/-! ByteIntervalsModel.pass()V -/
theorem B_X7_pass_0 {d : Nat} {Q : Int → am_H → Prop} {h : am_H} (H : ((h 295 6) ≤ 0 → wf (d + 1) M_X7_pass Q 83 [some (.inr (.inr 294)), none, none] [] h) ∧ (0 < (h 295 6) → cf d M_X7_drawnBy [.inr (.inr 294), .inl (h 295 6)] h (fun r2 h3 => cf d M_X7_drawnBy [.inr (.inr 294), .inl 8] h3 (fun r4 h5 => cf d M_X7_drawnBy [.inr (.inr 294), .inl 10] h5 (fun r6 h7 => cf d M_X7_rotsNow [.inr (.inr 294), .inl r2] h7 (fun r8 h9 => (r8 ≤ r6 → wf (d + 1) M_X7_pass Q 83 [some (.inr (.inr 294)), none, none] [] h9) ∧ (r6 < r8 → (0 ≤ (am_w32 (8 + r2))) ∧ (((am_w32 (8 + r2)) < 2159) ∧ (cf d M_X7_write [.inr (.inr 294), .inl 3, .inl r2, .inl (am_ixor (h9 295 (am_w32 (8 + r2))) (am_ishl 1 r4))] (am_up (am_up h9 295 (am_w32 (8 + r2)) (am_ixor (h9 295 (am_w32 (8 + r2))) (am_ishl 1 r4))) 294 51 (am_w32 ((h9 294 51) + 1))) (fun _ h14 => wf (d + 1) M_X7_pass Q 83 [some (.inr (.inr 294)), none, none] [] h14)))))))))) : wf (d + 1) M_X7_pass Q 0 [some (.inr (.inr 294)), none, none] [] h := by
  intro h0
  refine ar_aload_n (pc := 0) (i := 0) (k0 := 0) (by decide +kernel) rfl rfl ?_
  refine ar_getFV (pc := 1) (a := 294) (b := 295) 7 0 (by decide +kernel) k_294 rfl (by decide) wf_RX7_7 rfl (fun _ => rfl) rfl ?_
  refine ar_bipush (pc := 4) (z := 6) (by decide +kernel) (by omega) ?_
  refine ar_iald (pc := 6) (a := 295) (i := 6) (by decide +kernel) k_295 (by decide) (am_lt_eq (b := 2159) (by decide) (l_295).symm) ?_
  refine ar_if_le (pc := 7) (x := (h 295 6)) (tgt := 83) (off := 76) (by decide +kernel) (by decide) (fun c1 => ?_) (fun c1 => ?_)
  · replace H := H.1 c1
    exact H h0
  · replace H := H.2 c1
    refine ar_aload_n (pc := 10) (i := 0) (k0 := 0) (by decide +kernel) rfl rfl ?_
    refine ar_aload_n (pc := 11) (i := 0) (k0 := 0) (by decide +kernel) rfl rfl ?_
    refine ar_getFV (pc := 12) (a := 294) (b := 295) 7 0 (by decide +kernel) k_294 rfl (by decide) wf_RX7_7 rfl (fun _ => rfl) rfl ?_
    refine ar_bipush (pc := 15) (z := 6) (by decide +kernel) (by omega) ?_
    refine ar_iald (pc := 17) (a := 295) (i := 6) (by decide +kernel) k_295 (by decide) (am_lt_eq (b := 2159) (by decide) (l_295).symm) ?_
    refine ar_callV (pc := 18) (M2 := M_X7_drawnBy) (a := 294) (ci := 7) (as := [.inl (h 295 6)]) (n2 := 321) (st := []) (by decide +kernel) rfl wm_RX7_460 wi_yX7_drawnBy wl_yX7_drawnBy k_294 rfl wz_RX7 wc_yX7_drawnBy ⟨by decide, by decide, rfl⟩ (by decide) (Nat.le_of_ble_eq_true rfl) (Nat.le_refl _) (Nat.le_refl _) (am_Cl_mono H (fun r2 h3 H => ?_))
    show am_Wp true (d + 1) M_X7_pass 321 321 h0 Q 21 [some (.inr (.inr 294)), none, none] [.inl r2] 321 h3
    refine ar_istore_n (pc := 21) (i := 1) (k0 := 1) (ls2 := [some (.inr (.inr 294)), some (.inl r2), none]) (by decide +kernel) rfl (by decide) rfl ?_
    refine ar_aload_n (pc := 22) (i := 0) (k0 := 0) (by decide +kernel) rfl rfl ?_
    refine ar_bipush (pc := 23) (z := 8) (by decide +kernel) (by omega) ?_
    refine ar_callV (pc := 25) (M2 := M_X7_drawnBy) (a := 294) (ci := 7) (as := [.inl 8]) (n2 := 321) (st := []) (by decide +kernel) rfl wm_RX7_460 wi_yX7_drawnBy wl_yX7_drawnBy k_294 rfl wz_RX7 wc_yX7_drawnBy ⟨by decide, by decide, rfl⟩ (by decide) (Nat.le_of_ble_eq_true rfl) (Nat.le_refl _) (Nat.le_refl _) (am_Cl_mono H (fun r4 h5 H => ?_))
    show am_Wp true (d + 1) M_X7_pass 321 321 h0 Q 28 [some (.inr (.inr 294)), some (.inl r2), none] [.inl r4] 321 h5
    refine ar_istore_n (pc := 28) (i := 2) (k0 := 2) (ls2 := [some (.inr (.inr 294)), some (.inl r2), some (.inl r4)]) (by decide +kernel) rfl (by decide) rfl ?_
    refine ar_aload_n (pc := 29) (i := 0) (k0 := 0) (by decide +kernel) rfl rfl ?_
    refine ar_bipush (pc := 30) (z := 10) (by decide +kernel) (by omega) ?_
    refine ar_callV (pc := 32) (M2 := M_X7_drawnBy) (a := 294) (ci := 7) (as := [.inl 10]) (n2 := 321) (st := []) (by decide +kernel) rfl wm_RX7_460 wi_yX7_drawnBy wl_yX7_drawnBy k_294 rfl wz_RX7 wc_yX7_drawnBy ⟨by decide, by decide, rfl⟩ (by decide) (Nat.le_of_ble_eq_true rfl) (Nat.le_refl _) (Nat.le_refl _) (am_Cl_mono H (fun r6 h7 H => ?_))
    show am_Wp true (d + 1) M_X7_pass 321 321 h0 Q 35 [some (.inr (.inr 294)), some (.inl r2), some (.inl r4)] [.inl r6] 321 h7
    refine ar_aload_n (pc := 35) (i := 0) (k0 := 0) (by decide +kernel) rfl rfl ?_
    refine ar_iload_n (pc := 36) (i := 1) (k0 := 1) (by decide +kernel) rfl rfl ?_
    refine ar_callV (pc := 37) (M2 := M_X7_rotsNow) (a := 294) (ci := 7) (as := [.inl r2]) (n2 := 321) (st := [.inl r6]) (by decide +kernel) rfl wm_RX7_463 wi_yX7_rotsNow wl_yX7_rotsNow k_294 rfl wz_RX7 wc_yX7_rotsNow ⟨by decide, by decide, rfl⟩ (by decide) (Nat.le_of_ble_eq_true rfl) (Nat.le_refl _) (Nat.le_refl _) (am_Cl_mono H (fun r8 h9 H => ?_))
    show am_Wp true (d + 1) M_X7_pass 321 321 h0 Q 40 [some (.inr (.inr 294)), some (.inl r2), some (.inl r4)] [.inl r8, .inl r6] 321 h9
    refine ar_icmp_ge (pc := 40) (x := r6) (y := r8) (tgt := 83) (off := 43) (by decide +kernel) (by decide) (fun c10 => ?_) (fun c10 => ?_)
    · replace H := H.1 c10
      refine ar_forget [true, false, false] rfl ?_
      exact H h0
    · replace H := H.2 c10
      refine ar_aload_n (pc := 43) (i := 0) (k0 := 0) (by decide +kernel) rfl rfl ?_
      refine ar_getFV (pc := 44) (a := 294) (b := 295) 7 0 (by decide +kernel) k_294 rfl (by decide) wf_RX7_7 rfl (fun _ => rfl) rfl ?_
      refine ar_bipush (pc := 47) (z := 8) (by decide +kernel) (by omega) ?_
      refine ar_iload_n (pc := 49) (i := 1) (k0 := 1) (by decide +kernel) rfl rfl ?_
      refine ar_iadd (pc := 50) (x := 8) (y := r2) (by decide +kernel) ?_
      refine ar_dup2 (pc := 51) (by decide +kernel) trivial trivial ?_
      obtain ⟨g11, H⟩ := H
      obtain ⟨g12, H⟩ := H
      refine ar_iald (pc := 52) (a := 295) (i := (am_w32 (8 + r2))) (by decide +kernel) k_295 g11 (am_lt_eq g12 (l_295).symm) ?_
      refine ar_iconst (pc := 53) (z := 1) (by decide +kernel) (by unfold am_i32; omega) ?_
      refine ar_iload_n (pc := 54) (i := 2) (k0 := 2) (by decide +kernel) rfl rfl ?_
      refine ar_ishl (pc := 55) (x := 1) (y := r4) (by decide +kernel) ?_
      refine ar_ixor (pc := 56) (x := (h9 295 (am_w32 (8 + r2)))) (y := (am_ishl 1 r4)) (by decide +kernel) ?_
      refine ar_iast (pc := 57) (a := 295) (i := (am_w32 (8 + r2))) (z := (am_ixor (h9 295 (am_w32 (8 + r2))) (am_ishl 1 r4))) (by decide +kernel) k_295 g11 (am_lt_eq g12 (l_295).symm) ?_
      refine ar_aload_n (pc := 58) (i := 0) (k0 := 0) (by decide +kernel) rfl rfl ?_
      refine ar_dup (pc := 59) (by decide +kernel) trivial ?_
      refine ar_getV (pc := 60) (a := 294) (v := .inl (h9 294 51)) 7 51 (by decide +kernel) k_294 rfl (by decide) wf_RX7_466 (by first | rfl | (simp [am_tv, am_ty, tyX7, am_up, am_cp]; done) | (simp [am_tv, am_ty, tyX7, am_up, am_cp] <;> intros <;> omega)) ?_
      refine ar_iconst (pc := 63) (z := 1) (by decide +kernel) (by unfold am_i32; omega) ?_
      refine ar_iadd (pc := 64) (x := (h9 294 51)) (y := 1) (by decide +kernel) ?_
      refine ar_putI (pc := 65) (a := 294) (z := (am_w32 ((h9 294 51) + 1))) 7 51 (by decide +kernel) k_294 rfl (by decide) rfl (fun _ => rfl) rfl wf_RX7_466 ?_
      refine ar_aload_n (pc := 68) (i := 0) (k0 := 0) (by decide +kernel) rfl rfl ?_
      refine ar_iconst (pc := 69) (z := 3) (by decide +kernel) (by unfold am_i32; omega) ?_
      refine ar_iload_n (pc := 70) (i := 1) (k0 := 1) (by decide +kernel) rfl rfl ?_
      refine ar_aload_n (pc := 71) (i := 0) (k0 := 0) (by decide +kernel) rfl rfl ?_
      refine ar_getFV (pc := 72) (a := 294) (b := 295) 7 0 (by decide +kernel) k_294 rfl (by decide) wf_RX7_7 rfl (fun _ => rfl) rfl ?_
      refine ar_bipush (pc := 75) (z := 8) (by decide +kernel) (by omega) ?_
      refine ar_iload_n (pc := 77) (i := 1) (k0 := 1) (by decide +kernel) rfl rfl ?_
      refine ar_iadd (pc := 78) (x := 8) (y := r2) (by decide +kernel) ?_
      refine ar_ialdV (pc := 79) (a := 295) (i := (am_w32 (8 + r2))) (v := (am_ixor (h9 295 (am_w32 (8 + r2))) (am_ishl 1 r4))) (by first | rfl | (simp [am_up, am_cp]; done) | (simp [am_up, am_cp] <;> intros <;> omega)) (by decide +kernel) k_295 g11 (am_lt_eq g12 (l_295).symm) ?_
      refine ar_callV (pc := 80) (M2 := M_X7_write) (a := 294) (ci := 7) (as := [.inl 3, .inl r2, .inl (am_ixor (h9 295 (am_w32 (8 + r2))) (am_ishl 1 r4))]) (n2 := 321) (st := []) (by decide +kernel) rfl wm_RX7_454 wi_yX7_write wl_yX7_write k_294 rfl wz_RX7 wc_yX7_write ⟨by decide, by decide, rfl⟩ (by decide) (Nat.le_of_ble_eq_true rfl) (Nat.le_refl _) (Nat.le_refl _) (am_Cl_mono H (fun r13 h14 H => ?_))
      show am_Wp true (d + 1) M_X7_pass 321 321 h0 Q 83 [some (.inr (.inr 294)), some (.inl r2), some (.inl r4)] [] 321 h14
      refine ar_forget [true, false, false] rfl ?_
      exact H h0
theorem B_X7_pass_83 {d : Nat} {Q : Int → am_H → Prop} {h : am_H} (H : Q 0 (am_up h 295 4 (am_w32 ((h 295 4) + 1)))) : wf (d + 1) M_X7_pass Q 83 [some (.inr (.inr 294)), none, none] [] h := by
  intro h0
  refine ar_aload_n (pc := 83) (i := 0) (k0 := 0) (by decide +kernel) rfl rfl ?_
  refine ar_getFV (pc := 84) (a := 294) (b := 295) 7 0 (by decide +kernel) k_294 rfl (by decide) wf_RX7_7 rfl (fun _ => rfl) rfl ?_
  refine ar_iconst (pc := 87) (z := 4) (by decide +kernel) (by unfold am_i32; omega) ?_
  refine ar_dup2 (pc := 88) (by decide +kernel) trivial trivial ?_
  refine ar_iald (pc := 89) (a := 295) (i := 4) (by decide +kernel) k_295 (by decide) (am_lt_eq (b := 2159) (by decide) (l_295).symm) ?_
  refine ar_iconst (pc := 90) (z := 1) (by decide +kernel) (by unfold am_i32; omega) ?_
  refine ar_iadd (pc := 91) (x := (h 295 4)) (y := 1) (by decide +kernel) ?_
  refine ar_iast (pc := 92) (a := 295) (i := 4) (z := (am_w32 ((h 295 4) + 1))) (by decide +kernel) k_295 (by decide) (am_lt_eq (b := 2159) (by decide) (l_295).symm) ?_
  exact ar_vret (pc := 93) (by decide +kernel) rfl rfl H

/-! ByteIntervalsModel.keep()V -/
theorem B_X7_keep_0 {d : Nat} {Q : Int → am_H → Prop} {h : am_H} (H : (¬ (h 295 2) = 30 → wf d M_X7_keep Q 55 [some (.inr (.inr 294)), none, none] [] h) ∧ ((h 295 2) = 30 → wf d M_X7_keep Q 13 [some (.inr (.inr 294)), some (.inl 0), none] [] h)) : wf d M_X7_keep Q 0 [some (.inr (.inr 294)), none, none] [] h := by
  intro h0
  refine ar_aload_n (pc := 0) (i := 0) (k0 := 0) (by decide +kernel) rfl rfl ?_
  refine ar_getFV (pc := 1) (a := 294) (b := 295) 7 0 (by decide +kernel) k_294 rfl (by decide) wf_RX7_7 rfl (fun _ => rfl) rfl ?_
  refine ar_iconst (pc := 4) (z := 2) (by decide +kernel) (by unfold am_i32; omega) ?_
  refine ar_iald (pc := 5) (a := 295) (i := 2) (by decide +kernel) k_295 (by decide) (am_lt_eq (b := 2159) (by decide) (l_295).symm) ?_
  refine ar_bipush (pc := 6) (z := 30) (by decide +kernel) (by omega) ?_
  refine ar_icmp_ne (pc := 8) (x := (h 295 2)) (y := 30) (tgt := 55) (off := 47) (by decide +kernel) (by decide) (fun c1 => ?_) (fun c1 => ?_)
  · replace H := H.1 c1
    exact H h0
  · replace H := H.2 c1
    refine ar_iconst (pc := 11) (z := 0) (by decide +kernel) (by unfold am_i32; omega) ?_
    refine ar_istore_n (pc := 12) (i := 1) (k0 := 1) (ls2 := [some (.inr (.inr 294)), some (.inl 0), none]) (by decide +kernel) rfl (by decide) rfl ?_
    exact H h0
theorem B_X7_keep_13 {d : Nat} {Q : Int → am_H → Prop} {h : am_H} {v1 : Int} (H : (2001 ≤ v1 → wf d M_X7_keep Q 55 [some (.inr (.inr 294)), none, none] [] (am_up h 295 2 (am_w32 ((h 295 2) - 1)))) ∧ (v1 < 2001 → (0 ≤ (am_w32 (133 + v1))) ∧ (((am_w32 (133 + v1)) < 2159) ∧ ((0 ≤ (am_w32 (64 + v1))) ∧ (((am_w32 (64 + v1)) < 2159) ∧ (wf d M_X7_keep Q 13 [some (.inr (.inr 294)), some (.inl (am_w32 (v1 + 1))), none] [] (am_up h 295 (am_w32 (64 + v1)) (h 295 (am_w32 (133 + v1)))))))))) : wf d M_X7_keep Q 13 [some (.inr (.inr 294)), some (.inl v1), none] [] h := by
  intro h0
  refine ar_iload_n (pc := 13) (i := 1) (k0 := 1) (by decide +kernel) rfl rfl ?_
  refine ar_sipush (pc := 14) (z := 2001) (by decide +kernel) (by omega) ?_
  refine ar_icmp_ge (pc := 17) (x := v1) (y := 2001) (tgt := 45) (off := 28) (by decide +kernel) (by decide) (fun c1 => ?_) (fun c1 => ?_)
  · replace H := H.1 c1
    refine ar_aload_n (pc := 45) (i := 0) (k0 := 0) (by decide +kernel) rfl rfl ?_
    refine ar_getFV (pc := 46) (a := 294) (b := 295) 7 0 (by decide +kernel) k_294 rfl (by decide) wf_RX7_7 rfl (fun _ => rfl) rfl ?_
    refine ar_iconst (pc := 49) (z := 2) (by decide +kernel) (by unfold am_i32; omega) ?_
    refine ar_dup2 (pc := 50) (by decide +kernel) trivial trivial ?_
    refine ar_iald (pc := 51) (a := 295) (i := 2) (by decide +kernel) k_295 (by decide) (am_lt_eq (b := 2159) (by decide) (l_295).symm) ?_
    refine ar_iconst (pc := 52) (z := 1) (by decide +kernel) (by unfold am_i32; omega) ?_
    refine ar_isub (pc := 53) (x := (h 295 2)) (y := 1) (by decide +kernel) ?_
    refine ar_iast (pc := 54) (a := 295) (i := 2) (z := (am_w32 ((h 295 2) - 1))) (by decide +kernel) k_295 (by decide) (am_lt_eq (b := 2159) (by decide) (l_295).symm) ?_
    refine ar_forget [true, false, true] rfl ?_
    exact H h0
  · replace H := H.2 c1
    refine ar_aload_n (pc := 20) (i := 0) (k0 := 0) (by decide +kernel) rfl rfl ?_
    refine ar_getFV (pc := 21) (a := 294) (b := 295) 7 0 (by decide +kernel) k_294 rfl (by decide) wf_RX7_7 rfl (fun _ => rfl) rfl ?_
    refine ar_bipush (pc := 24) (z := 64) (by decide +kernel) (by omega) ?_
    refine ar_iload_n (pc := 26) (i := 1) (k0 := 1) (by decide +kernel) rfl rfl ?_
    refine ar_iadd (pc := 27) (x := 64) (y := v1) (by decide +kernel) ?_
    refine ar_aload_n (pc := 28) (i := 0) (k0 := 0) (by decide +kernel) rfl rfl ?_
    refine ar_getFV (pc := 29) (a := 294) (b := 295) 7 0 (by decide +kernel) k_294 rfl (by decide) wf_RX7_7 rfl (fun _ => rfl) rfl ?_
    refine ar_sipush (pc := 32) (z := 133) (by decide +kernel) (by omega) ?_
    refine ar_iload_n (pc := 35) (i := 1) (k0 := 1) (by decide +kernel) rfl rfl ?_
    refine ar_iadd (pc := 36) (x := 133) (y := v1) (by decide +kernel) ?_
    obtain ⟨g2, H⟩ := H
    obtain ⟨g3, H⟩ := H
    refine ar_iald (pc := 37) (a := 295) (i := (am_w32 (133 + v1))) (by decide +kernel) k_295 g2 (am_lt_eq g3 (l_295).symm) ?_
    obtain ⟨g4, H⟩ := H
    obtain ⟨g5, H⟩ := H
    refine ar_iast (pc := 38) (a := 295) (i := (am_w32 (64 + v1))) (z := (h 295 (am_w32 (133 + v1)))) (by decide +kernel) k_295 g4 (am_lt_eq g5 (l_295).symm) ?_
    refine ar_iinc (pc := 39) (i := 1) (z := 1) (x := v1) (ls2 := [some (.inr (.inr 294)), some (.inl (am_w32 (v1 + 1))), none]) (by decide +kernel) rfl (by decide) rfl ?_
    refine ar_goto (pc := 42) (tgt := 13) (off := -29) (by decide +kernel) (by decide) ?_
    exact H h0
theorem B_X7_keep_55 {d : Nat} {Q : Int → am_H → Prop} {h : am_H} (H : wf d M_X7_keep Q 70 [some (.inr (.inr 294)), some (.inl (am_w32 (64 + (am_w32 (69 * (h 295 2)))))), some (.inl 0)] [] h) : wf d M_X7_keep Q 55 [some (.inr (.inr 294)), none, none] [] h := by
  intro h0
  refine ar_bipush (pc := 55) (z := 64) (by decide +kernel) (by omega) ?_
  refine ar_bipush (pc := 57) (z := 69) (by decide +kernel) (by omega) ?_
  refine ar_aload_n (pc := 59) (i := 0) (k0 := 0) (by decide +kernel) rfl rfl ?_
  refine ar_getFV (pc := 60) (a := 294) (b := 295) 7 0 (by decide +kernel) k_294 rfl (by decide) wf_RX7_7 rfl (fun _ => rfl) rfl ?_
  refine ar_iconst (pc := 63) (z := 2) (by decide +kernel) (by unfold am_i32; omega) ?_
  refine ar_iald (pc := 64) (a := 295) (i := 2) (by decide +kernel) k_295 (by decide) (am_lt_eq (b := 2159) (by decide) (l_295).symm) ?_
  refine ar_imul (pc := 65) (x := 69) (y := (h 295 2)) (by decide +kernel) ?_
  refine ar_iadd (pc := 66) (x := 64) (y := (am_w32 (69 * (h 295 2)))) (by decide +kernel) ?_
  refine ar_istore_n (pc := 67) (i := 1) (k0 := 1) (ls2 := [some (.inr (.inr 294)), some (.inl (am_w32 (64 + (am_w32 (69 * (h 295 2)))))), none]) (by decide +kernel) rfl (by decide) rfl ?_
  refine ar_iconst (pc := 68) (z := 0) (by decide +kernel) (by unfold am_i32; omega) ?_
  refine ar_istore_n (pc := 69) (i := 2) (k0 := 2) (ls2 := [some (.inr (.inr 294)), some (.inl (am_w32 (64 + (am_w32 (69 * (h 295 2)))))), some (.inl 0)]) (by decide +kernel) rfl (by decide) rfl ?_
  exact H h0
theorem B_X7_keep_70 {d : Nat} {Q : Int → am_H → Prop} {h : am_H} {v1 v2 : Int} (H : (44 ≤ v2 → wf d M_X7_keep Q 100 [some (.inr (.inr 294)), some (.inl v1), some (.inl 0)] [] h) ∧ (v2 < 44 → (0 ≤ (am_w32 (4 + v2))) ∧ (((am_w32 (4 + v2)) < 2159) ∧ ((0 ≤ (am_w32 (v1 + v2))) ∧ (((am_w32 (v1 + v2)) < 2159) ∧ (wf d M_X7_keep Q 70 [some (.inr (.inr 294)), some (.inl v1), some (.inl (am_w32 (v2 + 1)))] [] (am_up h 295 (am_w32 (v1 + v2)) (h 295 (am_w32 (4 + v2)))))))))) : wf d M_X7_keep Q 70 [some (.inr (.inr 294)), some (.inl v1), some (.inl v2)] [] h := by
  intro h0
  refine ar_iload_n (pc := 70) (i := 2) (k0 := 2) (by decide +kernel) rfl rfl ?_
  refine ar_bipush (pc := 71) (z := 44) (by decide +kernel) (by omega) ?_
  refine ar_icmp_ge (pc := 73) (x := v2) (y := 44) (tgt := 98) (off := 25) (by decide +kernel) (by decide) (fun c1 => ?_) (fun c1 => ?_)
  · replace H := H.1 c1
    refine ar_iconst (pc := 98) (z := 0) (by decide +kernel) (by unfold am_i32; omega) ?_
    refine ar_istore_n (pc := 99) (i := 2) (k0 := 2) (ls2 := [some (.inr (.inr 294)), some (.inl v1), some (.inl 0)]) (by decide +kernel) rfl (by decide) rfl ?_
    exact H h0
  · replace H := H.2 c1
    refine ar_aload_n (pc := 76) (i := 0) (k0 := 0) (by decide +kernel) rfl rfl ?_
    refine ar_getFV (pc := 77) (a := 294) (b := 295) 7 0 (by decide +kernel) k_294 rfl (by decide) wf_RX7_7 rfl (fun _ => rfl) rfl ?_
    refine ar_iload_n (pc := 80) (i := 1) (k0 := 1) (by decide +kernel) rfl rfl ?_
    refine ar_iload_n (pc := 81) (i := 2) (k0 := 2) (by decide +kernel) rfl rfl ?_
    refine ar_iadd (pc := 82) (x := v1) (y := v2) (by decide +kernel) ?_
    refine ar_aload_n (pc := 83) (i := 0) (k0 := 0) (by decide +kernel) rfl rfl ?_
    refine ar_getFV (pc := 84) (a := 294) (b := 295) 7 0 (by decide +kernel) k_294 rfl (by decide) wf_RX7_7 rfl (fun _ => rfl) rfl ?_
    refine ar_iconst (pc := 87) (z := 4) (by decide +kernel) (by unfold am_i32; omega) ?_
    refine ar_iload_n (pc := 88) (i := 2) (k0 := 2) (by decide +kernel) rfl rfl ?_
    refine ar_iadd (pc := 89) (x := 4) (y := v2) (by decide +kernel) ?_
    obtain ⟨g2, H⟩ := H
    obtain ⟨g3, H⟩ := H
    refine ar_iald (pc := 90) (a := 295) (i := (am_w32 (4 + v2))) (by decide +kernel) k_295 g2 (am_lt_eq g3 (l_295).symm) ?_
    obtain ⟨g4, H⟩ := H
    obtain ⟨g5, H⟩ := H
    refine ar_iast (pc := 91) (a := 295) (i := (am_w32 (v1 + v2))) (z := (h 295 (am_w32 (4 + v2)))) (by decide +kernel) k_295 g4 (am_lt_eq g5 (l_295).symm) ?_
    refine ar_iinc (pc := 92) (i := 2) (z := 1) (x := v2) (ls2 := [some (.inr (.inr 294)), some (.inl v1), some (.inl (am_w32 (v2 + 1)))]) (by decide +kernel) rfl (by decide) rfl ?_
    refine ar_goto (pc := 95) (tgt := 70) (off := -25) (by decide +kernel) (by decide) ?_
    exact H h0
theorem B_X7_keep_100 {d : Nat} {Q : Int → am_H → Prop} {h : am_H} {v1 v2 : Int} (H : (25 ≤ v2 → Q 0 (am_up h 295 2 (am_w32 ((h 295 2) + 1)))) ∧ (v2 < 25 → (0 ≤ (am_w32 (2134 + v2))) ∧ (((am_w32 (2134 + v2)) < 2159) ∧ ((0 ≤ (am_w32 ((am_w32 (v1 + 44)) + v2))) ∧ (((am_w32 ((am_w32 (v1 + 44)) + v2)) < 2159) ∧ (wf d M_X7_keep Q 100 [some (.inr (.inr 294)), some (.inl v1), some (.inl (am_w32 (v2 + 1)))] [] (am_up h 295 (am_w32 ((am_w32 (v1 + 44)) + v2)) (h 295 (am_w32 (2134 + v2)))))))))) : wf d M_X7_keep Q 100 [some (.inr (.inr 294)), some (.inl v1), some (.inl v2)] [] h := by
  intro h0
  refine ar_iload_n (pc := 100) (i := 2) (k0 := 2) (by decide +kernel) rfl rfl ?_
  refine ar_bipush (pc := 101) (z := 25) (by decide +kernel) (by omega) ?_
  refine ar_icmp_ge (pc := 103) (x := v2) (y := 25) (tgt := 133) (off := 30) (by decide +kernel) (by decide) (fun c1 => ?_) (fun c1 => ?_)
  · replace H := H.1 c1
    refine ar_aload_n (pc := 133) (i := 0) (k0 := 0) (by decide +kernel) rfl rfl ?_
    refine ar_getFV (pc := 134) (a := 294) (b := 295) 7 0 (by decide +kernel) k_294 rfl (by decide) wf_RX7_7 rfl (fun _ => rfl) rfl ?_
    refine ar_iconst (pc := 137) (z := 2) (by decide +kernel) (by unfold am_i32; omega) ?_
    refine ar_dup2 (pc := 138) (by decide +kernel) trivial trivial ?_
    refine ar_iald (pc := 139) (a := 295) (i := 2) (by decide +kernel) k_295 (by decide) (am_lt_eq (b := 2159) (by decide) (l_295).symm) ?_
    refine ar_iconst (pc := 140) (z := 1) (by decide +kernel) (by unfold am_i32; omega) ?_
    refine ar_iadd (pc := 141) (x := (h 295 2)) (y := 1) (by decide +kernel) ?_
    refine ar_iast (pc := 142) (a := 295) (i := 2) (z := (am_w32 ((h 295 2) + 1))) (by decide +kernel) k_295 (by decide) (am_lt_eq (b := 2159) (by decide) (l_295).symm) ?_
    exact ar_vret (pc := 143) (by decide +kernel) rfl rfl H
  · replace H := H.2 c1
    refine ar_aload_n (pc := 106) (i := 0) (k0 := 0) (by decide +kernel) rfl rfl ?_
    refine ar_getFV (pc := 107) (a := 294) (b := 295) 7 0 (by decide +kernel) k_294 rfl (by decide) wf_RX7_7 rfl (fun _ => rfl) rfl ?_
    refine ar_iload_n (pc := 110) (i := 1) (k0 := 1) (by decide +kernel) rfl rfl ?_
    refine ar_bipush (pc := 111) (z := 44) (by decide +kernel) (by omega) ?_
    refine ar_iadd (pc := 113) (x := v1) (y := 44) (by decide +kernel) ?_
    refine ar_iload_n (pc := 114) (i := 2) (k0 := 2) (by decide +kernel) rfl rfl ?_
    refine ar_iadd (pc := 115) (x := (am_w32 (v1 + 44))) (y := v2) (by decide +kernel) ?_
    refine ar_aload_n (pc := 116) (i := 0) (k0 := 0) (by decide +kernel) rfl rfl ?_
    refine ar_getFV (pc := 117) (a := 294) (b := 295) 7 0 (by decide +kernel) k_294 rfl (by decide) wf_RX7_7 rfl (fun _ => rfl) rfl ?_
    refine ar_sipush (pc := 120) (z := 2134) (by decide +kernel) (by omega) ?_
    refine ar_iload_n (pc := 123) (i := 2) (k0 := 2) (by decide +kernel) rfl rfl ?_
    refine ar_iadd (pc := 124) (x := 2134) (y := v2) (by decide +kernel) ?_
    obtain ⟨g2, H⟩ := H
    obtain ⟨g3, H⟩ := H
    refine ar_iald (pc := 125) (a := 295) (i := (am_w32 (2134 + v2))) (by decide +kernel) k_295 g2 (am_lt_eq g3 (l_295).symm) ?_
    obtain ⟨g4, H⟩ := H
    obtain ⟨g5, H⟩ := H
    refine ar_iast (pc := 126) (a := 295) (i := (am_w32 ((am_w32 (v1 + 44)) + v2))) (z := (h 295 (am_w32 (2134 + v2)))) (by decide +kernel) k_295 g4 (am_lt_eq g5 (l_295).symm) ?_
    refine ar_iinc (pc := 127) (i := 2) (z := 1) (x := v2) (ls2 := [some (.inr (.inr 294)), some (.inl v1), some (.inl (am_w32 (v2 + 1)))]) (by decide +kernel) rfl (by decide) rfl ?_
    refine ar_goto (pc := 130) (tgt := 100) (off := -30) (by decide +kernel) (by decide) ?_
    exact H h0

/-! ByteIntervalsModel.undo()I -/
theorem B_X7_undo_0 {d : Nat} {Q : Int → am_H → Prop} {h : am_H} (H : (¬ (h 295 2) = 0 → wf d M_X7_undo Q 36 [some (.inr (.inr 294)), some (.inl (am_w32 (64 + (am_w32 (69 * (am_w32 ((h 295 2) - 1))))))), some (.inl 0)] [] (am_up h 295 2 (am_w32 ((h 295 2) - 1)))) ∧ ((h 295 2) = 0 → Q (-1) h)) : wf d M_X7_undo Q 0 [some (.inr (.inr 294)), none, none] [] h := by
  intro h0
  refine ar_aload_n (pc := 0) (i := 0) (k0 := 0) (by decide +kernel) rfl rfl ?_
  refine ar_getFV (pc := 1) (a := 294) (b := 295) 7 0 (by decide +kernel) k_294 rfl (by decide) wf_RX7_7 rfl (fun _ => rfl) rfl ?_
  refine ar_iconst (pc := 4) (z := 2) (by decide +kernel) (by unfold am_i32; omega) ?_
  refine ar_iald (pc := 5) (a := 295) (i := 2) (by decide +kernel) k_295 (by decide) (am_lt_eq (b := 2159) (by decide) (l_295).symm) ?_
  refine ar_if_ne (pc := 6) (x := (h 295 2)) (tgt := 11) (off := 5) (by decide +kernel) (by decide) (fun c1 => ?_) (fun c1 => ?_)
  · replace H := H.1 c1
    refine ar_aload_n (pc := 11) (i := 0) (k0 := 0) (by decide +kernel) rfl rfl ?_
    refine ar_getFV (pc := 12) (a := 294) (b := 295) 7 0 (by decide +kernel) k_294 rfl (by decide) wf_RX7_7 rfl (fun _ => rfl) rfl ?_
    refine ar_iconst (pc := 15) (z := 2) (by decide +kernel) (by unfold am_i32; omega) ?_
    refine ar_dup2 (pc := 16) (by decide +kernel) trivial trivial ?_
    refine ar_iald (pc := 17) (a := 295) (i := 2) (by decide +kernel) k_295 (by decide) (am_lt_eq (b := 2159) (by decide) (l_295).symm) ?_
    refine ar_iconst (pc := 18) (z := 1) (by decide +kernel) (by unfold am_i32; omega) ?_
    refine ar_isub (pc := 19) (x := (h 295 2)) (y := 1) (by decide +kernel) ?_
    refine ar_iast (pc := 20) (a := 295) (i := 2) (z := (am_w32 ((h 295 2) - 1))) (by decide +kernel) k_295 (by decide) (am_lt_eq (b := 2159) (by decide) (l_295).symm) ?_
    refine ar_bipush (pc := 21) (z := 64) (by decide +kernel) (by omega) ?_
    refine ar_bipush (pc := 23) (z := 69) (by decide +kernel) (by omega) ?_
    refine ar_aload_n (pc := 25) (i := 0) (k0 := 0) (by decide +kernel) rfl rfl ?_
    refine ar_getFV (pc := 26) (a := 294) (b := 295) 7 0 (by decide +kernel) k_294 rfl (by decide) wf_RX7_7 rfl (fun _ => rfl) rfl ?_
    refine ar_iconst (pc := 29) (z := 2) (by decide +kernel) (by unfold am_i32; omega) ?_
    refine ar_ialdV (pc := 30) (a := 295) (i := 2) (v := (am_w32 ((h 295 2) - 1))) (by first | rfl | (simp [am_up, am_cp]; done) | (simp [am_up, am_cp] <;> intros <;> omega)) (by decide +kernel) k_295 (by decide) (am_lt_eq (b := 2159) (by decide) (l_295).symm) ?_
    refine ar_imul (pc := 31) (x := 69) (y := (am_w32 ((h 295 2) - 1))) (by decide +kernel) ?_
    refine ar_iadd (pc := 32) (x := 64) (y := (am_w32 (69 * (am_w32 ((h 295 2) - 1))))) (by decide +kernel) ?_
    refine ar_istore_n (pc := 33) (i := 1) (k0 := 1) (ls2 := [some (.inr (.inr 294)), some (.inl (am_w32 (64 + (am_w32 (69 * (am_w32 ((h 295 2) - 1))))))), none]) (by decide +kernel) rfl (by decide) rfl ?_
    refine ar_iconst (pc := 34) (z := 0) (by decide +kernel) (by unfold am_i32; omega) ?_
    refine ar_istore_n (pc := 35) (i := 2) (k0 := 2) (ls2 := [some (.inr (.inr 294)), some (.inl (am_w32 (64 + (am_w32 (69 * (am_w32 ((h 295 2) - 1))))))), some (.inl 0)]) (by decide +kernel) rfl (by decide) rfl ?_
    exact H h0
  · replace H := H.2 c1
    refine ar_iconst (pc := 9) (z := (-1)) (by decide +kernel) (by unfold am_i32; omega) ?_
    exact ar_iret (pc := 10) (x := (-1)) (by decide +kernel) rfl rfl H
theorem B_X7_undo_36 {d : Nat} {Q : Int → am_H → Prop} {h : am_H} {v1 v2 : Int} (H : (44 ≤ v2 → wf d M_X7_undo Q 66 [some (.inr (.inr 294)), some (.inl v1), some (.inl 0)] [] h) ∧ (v2 < 44 → (0 ≤ (am_w32 (v1 + v2))) ∧ (((am_w32 (v1 + v2)) < 2159) ∧ ((0 ≤ (am_w32 (4 + v2))) ∧ (((am_w32 (4 + v2)) < 2159) ∧ (wf d M_X7_undo Q 36 [some (.inr (.inr 294)), some (.inl v1), some (.inl (am_w32 (v2 + 1)))] [] (am_up h 295 (am_w32 (4 + v2)) (h 295 (am_w32 (v1 + v2)))))))))) : wf d M_X7_undo Q 36 [some (.inr (.inr 294)), some (.inl v1), some (.inl v2)] [] h := by
  intro h0
  refine ar_iload_n (pc := 36) (i := 2) (k0 := 2) (by decide +kernel) rfl rfl ?_
  refine ar_bipush (pc := 37) (z := 44) (by decide +kernel) (by omega) ?_
  refine ar_icmp_ge (pc := 39) (x := v2) (y := 44) (tgt := 64) (off := 25) (by decide +kernel) (by decide) (fun c1 => ?_) (fun c1 => ?_)
  · replace H := H.1 c1
    refine ar_iconst (pc := 64) (z := 0) (by decide +kernel) (by unfold am_i32; omega) ?_
    refine ar_istore_n (pc := 65) (i := 2) (k0 := 2) (ls2 := [some (.inr (.inr 294)), some (.inl v1), some (.inl 0)]) (by decide +kernel) rfl (by decide) rfl ?_
    exact H h0
  · replace H := H.2 c1
    refine ar_aload_n (pc := 42) (i := 0) (k0 := 0) (by decide +kernel) rfl rfl ?_
    refine ar_getFV (pc := 43) (a := 294) (b := 295) 7 0 (by decide +kernel) k_294 rfl (by decide) wf_RX7_7 rfl (fun _ => rfl) rfl ?_
    refine ar_iconst (pc := 46) (z := 4) (by decide +kernel) (by unfold am_i32; omega) ?_
    refine ar_iload_n (pc := 47) (i := 2) (k0 := 2) (by decide +kernel) rfl rfl ?_
    refine ar_iadd (pc := 48) (x := 4) (y := v2) (by decide +kernel) ?_
    refine ar_aload_n (pc := 49) (i := 0) (k0 := 0) (by decide +kernel) rfl rfl ?_
    refine ar_getFV (pc := 50) (a := 294) (b := 295) 7 0 (by decide +kernel) k_294 rfl (by decide) wf_RX7_7 rfl (fun _ => rfl) rfl ?_
    refine ar_iload_n (pc := 53) (i := 1) (k0 := 1) (by decide +kernel) rfl rfl ?_
    refine ar_iload_n (pc := 54) (i := 2) (k0 := 2) (by decide +kernel) rfl rfl ?_
    refine ar_iadd (pc := 55) (x := v1) (y := v2) (by decide +kernel) ?_
    obtain ⟨g2, H⟩ := H
    obtain ⟨g3, H⟩ := H
    refine ar_iald (pc := 56) (a := 295) (i := (am_w32 (v1 + v2))) (by decide +kernel) k_295 g2 (am_lt_eq g3 (l_295).symm) ?_
    obtain ⟨g4, H⟩ := H
    obtain ⟨g5, H⟩ := H
    refine ar_iast (pc := 57) (a := 295) (i := (am_w32 (4 + v2))) (z := (h 295 (am_w32 (v1 + v2)))) (by decide +kernel) k_295 g4 (am_lt_eq g5 (l_295).symm) ?_
    refine ar_iinc (pc := 58) (i := 2) (z := 1) (x := v2) (ls2 := [some (.inr (.inr 294)), some (.inl v1), some (.inl (am_w32 (v2 + 1)))]) (by decide +kernel) rfl (by decide) rfl ?_
    refine ar_goto (pc := 61) (tgt := 36) (off := -25) (by decide +kernel) (by decide) ?_
    exact H h0
theorem B_X7_undo_66 {d : Nat} {Q : Int → am_H → Prop} {h : am_H} {v1 v2 : Int} (H : (25 ≤ v2 → Q (h 295 2) h) ∧ (v2 < 25 → (0 ≤ (am_w32 ((am_w32 (v1 + 44)) + v2))) ∧ (((am_w32 ((am_w32 (v1 + 44)) + v2)) < 2159) ∧ ((0 ≤ (am_w32 (2134 + v2))) ∧ (((am_w32 (2134 + v2)) < 2159) ∧ (wf d M_X7_undo Q 66 [some (.inr (.inr 294)), some (.inl v1), some (.inl (am_w32 (v2 + 1)))] [] (am_up h 295 (am_w32 (2134 + v2)) (h 295 (am_w32 ((am_w32 (v1 + 44)) + v2)))))))))) : wf d M_X7_undo Q 66 [some (.inr (.inr 294)), some (.inl v1), some (.inl v2)] [] h := by
  intro h0
  refine ar_iload_n (pc := 66) (i := 2) (k0 := 2) (by decide +kernel) rfl rfl ?_
  refine ar_bipush (pc := 67) (z := 25) (by decide +kernel) (by omega) ?_
  refine ar_icmp_ge (pc := 69) (x := v2) (y := 25) (tgt := 99) (off := 30) (by decide +kernel) (by decide) (fun c1 => ?_) (fun c1 => ?_)
  · replace H := H.1 c1
    refine ar_aload_n (pc := 99) (i := 0) (k0 := 0) (by decide +kernel) rfl rfl ?_
    refine ar_getFV (pc := 100) (a := 294) (b := 295) 7 0 (by decide +kernel) k_294 rfl (by decide) wf_RX7_7 rfl (fun _ => rfl) rfl ?_
    refine ar_iconst (pc := 103) (z := 2) (by decide +kernel) (by unfold am_i32; omega) ?_
    refine ar_iald (pc := 104) (a := 295) (i := 2) (by decide +kernel) k_295 (by decide) (am_lt_eq (b := 2159) (by decide) (l_295).symm) ?_
    exact ar_iret (pc := 105) (x := (h 295 2)) (by decide +kernel) rfl rfl H
  · replace H := H.2 c1
    refine ar_aload_n (pc := 72) (i := 0) (k0 := 0) (by decide +kernel) rfl rfl ?_
    refine ar_getFV (pc := 73) (a := 294) (b := 295) 7 0 (by decide +kernel) k_294 rfl (by decide) wf_RX7_7 rfl (fun _ => rfl) rfl ?_
    refine ar_sipush (pc := 76) (z := 2134) (by decide +kernel) (by omega) ?_
    refine ar_iload_n (pc := 79) (i := 2) (k0 := 2) (by decide +kernel) rfl rfl ?_
    refine ar_iadd (pc := 80) (x := 2134) (y := v2) (by decide +kernel) ?_
    refine ar_aload_n (pc := 81) (i := 0) (k0 := 0) (by decide +kernel) rfl rfl ?_
    refine ar_getFV (pc := 82) (a := 294) (b := 295) 7 0 (by decide +kernel) k_294 rfl (by decide) wf_RX7_7 rfl (fun _ => rfl) rfl ?_
    refine ar_iload_n (pc := 85) (i := 1) (k0 := 1) (by decide +kernel) rfl rfl ?_
    refine ar_bipush (pc := 86) (z := 44) (by decide +kernel) (by omega) ?_
    refine ar_iadd (pc := 88) (x := v1) (y := 44) (by decide +kernel) ?_
    refine ar_iload_n (pc := 89) (i := 2) (k0 := 2) (by decide +kernel) rfl rfl ?_
    refine ar_iadd (pc := 90) (x := (am_w32 (v1 + 44))) (y := v2) (by decide +kernel) ?_
    obtain ⟨g2, H⟩ := H
    obtain ⟨g3, H⟩ := H
    refine ar_iald (pc := 91) (a := 295) (i := (am_w32 ((am_w32 (v1 + 44)) + v2))) (by decide +kernel) k_295 g2 (am_lt_eq g3 (l_295).symm) ?_
    obtain ⟨g4, H⟩ := H
    obtain ⟨g5, H⟩ := H
    refine ar_iast (pc := 92) (a := 295) (i := (am_w32 (2134 + v2))) (z := (h 295 (am_w32 ((am_w32 (v1 + 44)) + v2)))) (by decide +kernel) k_295 g4 (am_lt_eq g5 (l_295).symm) ?_
    refine ar_iinc (pc := 93) (i := 2) (z := 1) (x := v2) (ls2 := [some (.inr (.inr 294)), some (.inl v1), some (.inl (am_w32 (v2 + 1)))]) (by decide +kernel) rfl (by decide) rfl ?_
    refine ar_goto (pc := 96) (tgt := 66) (off := -30) (by decide +kernel) (by decide) ?_
    exact H h0

/-! ByteIntervalsModel.set(II)Z -/
theorem B_X7_set_0 {d : Nat} {Q : Int → am_H → Prop} {h : am_H} {v1 v2 : Int} (H : cf d M_X7_canSet [.inr (.inr 294), .inl v1, .inl v2] h (fun r1 h2 => (¬ r1 = 0 → cf d M_X7_keep [.inr (.inr 294)] h2 (fun _ h5 => cf d M_X7_setNow [.inr (.inr 294), .inl v1, .inl v2] h5 (fun _ h7 => Q 1 h7))) ∧ (r1 = 0 → Q 0 h2))) : wf (d + 1) M_X7_set Q 0 [some (.inr (.inr 294)), some (.inl v1), some (.inl v2)] [] h := by
  intro h0
  refine ar_aload_n (pc := 0) (i := 0) (k0 := 0) (by decide +kernel) rfl rfl ?_
  refine ar_iload_n (pc := 1) (i := 1) (k0 := 1) (by decide +kernel) rfl rfl ?_
  refine ar_iload_n (pc := 2) (i := 2) (k0 := 2) (by decide +kernel) rfl rfl ?_
  refine ar_callV (pc := 3) (M2 := M_X7_canSet) (a := 294) (ci := 7) (as := [.inl v1, .inl v2]) (n2 := 321) (st := []) (by decide +kernel) rfl wm_RX7_469 wi_yX7_canSet wl_yX7_canSet k_294 rfl wz_RX7 wc_yX7_canSet ⟨by decide, by decide, rfl⟩ (by decide) (Nat.le_of_ble_eq_true rfl) (Nat.le_refl _) (Nat.le_refl _) (am_Cl_mono H (fun r1 h2 H => ?_))
  show am_Wp true (d + 1) M_X7_set 321 321 h0 Q 6 [some (.inr (.inr 294)), some (.inl v1), some (.inl v2)] [.inl r1] 321 h2
  refine ar_if_ne (pc := 6) (x := r1) (tgt := 11) (off := 5) (by decide +kernel) (by decide) (fun c3 => ?_) (fun c3 => ?_)
  · replace H := H.1 c3
    refine ar_aload_n (pc := 11) (i := 0) (k0 := 0) (by decide +kernel) rfl rfl ?_
    refine ar_callV (pc := 12) (M2 := M_X7_keep) (a := 294) (ci := 7) (as := []) (n2 := 321) (st := []) (by decide +kernel) rfl wm_RX7_472 wi_yX7_keep wl_yX7_keep k_294 rfl wz_RX7 wc_yX7_keep ⟨by decide, by decide, rfl⟩ (by decide) (Nat.le_of_ble_eq_true rfl) (Nat.le_refl _) (Nat.le_refl _) (am_Cl_mono H (fun r4 h5 H => ?_))
    show am_Wp true (d + 1) M_X7_set 321 321 h0 Q 15 [some (.inr (.inr 294)), some (.inl v1), some (.inl v2)] [] 321 h5
    refine ar_aload_n (pc := 15) (i := 0) (k0 := 0) (by decide +kernel) rfl rfl ?_
    refine ar_iload_n (pc := 16) (i := 1) (k0 := 1) (by decide +kernel) rfl rfl ?_
    refine ar_iload_n (pc := 17) (i := 2) (k0 := 2) (by decide +kernel) rfl rfl ?_
    refine ar_callV (pc := 18) (M2 := M_X7_setNow) (a := 294) (ci := 7) (as := [.inl v1, .inl v2]) (n2 := 321) (st := []) (by decide +kernel) rfl wm_RX7_475 wi_yX7_setNow wl_yX7_setNow k_294 rfl wz_RX7 wc_yX7_setNow ⟨by decide, by decide, rfl⟩ (by decide) (Nat.le_of_ble_eq_true rfl) (Nat.le_refl _) (Nat.le_refl _) (am_Cl_mono H (fun r6 h7 H => ?_))
    show am_Wp true (d + 1) M_X7_set 321 321 h0 Q 21 [some (.inr (.inr 294)), some (.inl v1), some (.inl v2)] [] 321 h7
    refine ar_iconst (pc := 21) (z := 1) (by decide +kernel) (by unfold am_i32; omega) ?_
    exact ar_zret (pc := 22) (x := 1) (by decide +kernel) rfl rfl (by decide) H
  · replace H := H.2 c3
    refine ar_iconst (pc := 9) (z := 0) (by decide +kernel) (by unfold am_i32; omega) ?_
    exact ar_zret (pc := 10) (x := 0) (by decide +kernel) rfl rfl (by decide) H

/-! ByteIntervalsModel.size(I)Z -/
theorem B_X7_size_0 {d : Nat} {Q : Int → am_H → Prop} {h : am_H} {v1 : Int} (H : cf d M_X7_canSize [.inr (.inr 294), .inl v1] h (fun r1 h2 => (¬ r1 = 0 → cf d M_X7_keep [.inr (.inr 294)] h2 (fun _ h5 => cf d M_X7_sizeNow [.inr (.inr 294), .inl v1] h5 (fun _ h7 => Q 1 h7))) ∧ (r1 = 0 → Q 0 h2))) : wf (d + 1) M_X7_size Q 0 [some (.inr (.inr 294)), some (.inl v1)] [] h := by
  intro h0
  refine ar_aload_n (pc := 0) (i := 0) (k0 := 0) (by decide +kernel) rfl rfl ?_
  refine ar_iload_n (pc := 1) (i := 1) (k0 := 1) (by decide +kernel) rfl rfl ?_
  refine ar_callV (pc := 2) (M2 := M_X7_canSize) (a := 294) (ci := 7) (as := [.inl v1]) (n2 := 321) (st := []) (by decide +kernel) rfl wm_RX7_478 wi_yX7_canSize wl_yX7_canSize k_294 rfl wz_RX7 wc_yX7_canSize ⟨by decide, by decide, rfl⟩ (by decide) (Nat.le_of_ble_eq_true rfl) (Nat.le_refl _) (Nat.le_refl _) (am_Cl_mono H (fun r1 h2 H => ?_))
  show am_Wp true (d + 1) M_X7_size 321 321 h0 Q 5 [some (.inr (.inr 294)), some (.inl v1)] [.inl r1] 321 h2
  refine ar_if_ne (pc := 5) (x := r1) (tgt := 10) (off := 5) (by decide +kernel) (by decide) (fun c3 => ?_) (fun c3 => ?_)
  · replace H := H.1 c3
    refine ar_aload_n (pc := 10) (i := 0) (k0 := 0) (by decide +kernel) rfl rfl ?_
    refine ar_callV (pc := 11) (M2 := M_X7_keep) (a := 294) (ci := 7) (as := []) (n2 := 321) (st := []) (by decide +kernel) rfl wm_RX7_472 wi_yX7_keep wl_yX7_keep k_294 rfl wz_RX7 wc_yX7_keep ⟨by decide, by decide, rfl⟩ (by decide) (Nat.le_of_ble_eq_true rfl) (Nat.le_refl _) (Nat.le_refl _) (am_Cl_mono H (fun r4 h5 H => ?_))
    show am_Wp true (d + 1) M_X7_size 321 321 h0 Q 14 [some (.inr (.inr 294)), some (.inl v1)] [] 321 h5
    refine ar_aload_n (pc := 14) (i := 0) (k0 := 0) (by decide +kernel) rfl rfl ?_
    refine ar_iload_n (pc := 15) (i := 1) (k0 := 1) (by decide +kernel) rfl rfl ?_
    refine ar_callV (pc := 16) (M2 := M_X7_sizeNow) (a := 294) (ci := 7) (as := [.inl v1]) (n2 := 321) (st := []) (by decide +kernel) rfl wm_RX7_481 wi_yX7_sizeNow wl_yX7_sizeNow k_294 rfl wz_RX7 wc_yX7_sizeNow ⟨by decide, by decide, rfl⟩ (by decide) (Nat.le_of_ble_eq_true rfl) (Nat.le_refl _) (Nat.le_refl _) (am_Cl_mono H (fun r6 h7 H => ?_))
    show am_Wp true (d + 1) M_X7_size 321 321 h0 Q 19 [some (.inr (.inr 294)), some (.inl v1)] [] 321 h7
    refine ar_iconst (pc := 19) (z := 1) (by decide +kernel) (by unfold am_i32; omega) ?_
    exact ar_zret (pc := 20) (x := 1) (by decide +kernel) rfl rfl (by decide) H
  · replace H := H.2 c3
    refine ar_iconst (pc := 8) (z := 0) (by decide +kernel) (by unfold am_i32; omega) ?_
    exact ar_zret (pc := 9) (x := 0) (by decide +kernel) rfl rfl (by decide) H

/-! ByteIntervalsModel.mend()I -/
theorem B_X7_mend_0 {d : Nat} {Q : Int → am_H → Prop} {h : am_H} (H : cf d M_X7_mendNow [.inr (.inr 294), .inl (h 295 1)] h (fun r1 h2 => (¬ r1 = (-1) → cf d M_X7_bringBack [.inr (.inr 294)] h2 (fun _ h5 => cf d M_X7_keep [.inr (.inr 294)] h5 (fun _ h7 => cf d M_X7_mendNow [.inr (.inr 294), .inl (h7 295 1)] h7 (fun r8 h9 => cf d M_X7_write [.inr (.inr 294), .inl 2, .inl r8, .inl 0] h9 (fun _ h11 => Q r8 h11))))) ∧ (r1 = (-1) → Q (-1) h2))) : wf (d + 1) M_X7_mend Q 0 [some (.inr (.inr 294)), none] [] h := by
  intro h0
  refine ar_aload_n (pc := 0) (i := 0) (k0 := 0) (by decide +kernel) rfl rfl ?_
  refine ar_aload_n (pc := 1) (i := 0) (k0 := 0) (by decide +kernel) rfl rfl ?_
  refine ar_getFV (pc := 2) (a := 294) (b := 295) 7 0 (by decide +kernel) k_294 rfl (by decide) wf_RX7_7 rfl (fun _ => rfl) rfl ?_
  refine ar_iconst (pc := 5) (z := 1) (by decide +kernel) (by unfold am_i32; omega) ?_
  refine ar_iald (pc := 6) (a := 295) (i := 1) (by decide +kernel) k_295 (by decide) (am_lt_eq (b := 2159) (by decide) (l_295).symm) ?_
  refine ar_callV (pc := 7) (M2 := M_X7_mendNow) (a := 294) (ci := 7) (as := [.inl (h 295 1)]) (n2 := 321) (st := []) (by decide +kernel) rfl wm_RX7_484 wi_yX7_mendNow wl_yX7_mendNow k_294 rfl wz_RX7 wc_yX7_mendNow ⟨by decide, by decide, rfl⟩ (by decide) (Nat.le_of_ble_eq_true rfl) (Nat.le_refl _) (Nat.le_refl _) (am_Cl_mono H (fun r1 h2 H => ?_))
  show am_Wp true (d + 1) M_X7_mend 321 321 h0 Q 10 [some (.inr (.inr 294)), none] [.inl r1] 321 h2
  refine ar_iconst (pc := 10) (z := (-1)) (by decide +kernel) (by unfold am_i32; omega) ?_
  refine ar_icmp_ne (pc := 11) (x := r1) (y := (-1)) (tgt := 16) (off := 5) (by decide +kernel) (by decide) (fun c3 => ?_) (fun c3 => ?_)
  · replace H := H.1 c3
    refine ar_aload_n (pc := 16) (i := 0) (k0 := 0) (by decide +kernel) rfl rfl ?_
    refine ar_callV (pc := 17) (M2 := M_X7_bringBack) (a := 294) (ci := 7) (as := []) (n2 := 321) (st := []) (by decide +kernel) rfl wm_RX7_439 wi_yX7_bringBack wl_yX7_bringBack k_294 rfl wz_RX7 wc_yX7_bringBack ⟨by decide, by decide, rfl⟩ (by decide) (Nat.le_of_ble_eq_true rfl) (Nat.le_refl _) (Nat.le_refl _) (am_Cl_mono H (fun r4 h5 H => ?_))
    show am_Wp true (d + 1) M_X7_mend 321 321 h0 Q 20 [some (.inr (.inr 294)), none] [] 321 h5
    refine ar_aload_n (pc := 20) (i := 0) (k0 := 0) (by decide +kernel) rfl rfl ?_
    refine ar_callV (pc := 21) (M2 := M_X7_keep) (a := 294) (ci := 7) (as := []) (n2 := 321) (st := []) (by decide +kernel) rfl wm_RX7_472 wi_yX7_keep wl_yX7_keep k_294 rfl wz_RX7 wc_yX7_keep ⟨by decide, by decide, rfl⟩ (by decide) (Nat.le_of_ble_eq_true rfl) (Nat.le_refl _) (Nat.le_refl _) (am_Cl_mono H (fun r6 h7 H => ?_))
    show am_Wp true (d + 1) M_X7_mend 321 321 h0 Q 24 [some (.inr (.inr 294)), none] [] 321 h7
    refine ar_aload_n (pc := 24) (i := 0) (k0 := 0) (by decide +kernel) rfl rfl ?_
    refine ar_aload_n (pc := 25) (i := 0) (k0 := 0) (by decide +kernel) rfl rfl ?_
    refine ar_getFV (pc := 26) (a := 294) (b := 295) 7 0 (by decide +kernel) k_294 rfl (by decide) wf_RX7_7 rfl (fun _ => rfl) rfl ?_
    refine ar_iconst (pc := 29) (z := 1) (by decide +kernel) (by unfold am_i32; omega) ?_
    refine ar_iald (pc := 30) (a := 295) (i := 1) (by decide +kernel) k_295 (by decide) (am_lt_eq (b := 2159) (by decide) (l_295).symm) ?_
    refine ar_callV (pc := 31) (M2 := M_X7_mendNow) (a := 294) (ci := 7) (as := [.inl (h7 295 1)]) (n2 := 321) (st := []) (by decide +kernel) rfl wm_RX7_484 wi_yX7_mendNow wl_yX7_mendNow k_294 rfl wz_RX7 wc_yX7_mendNow ⟨by decide, by decide, rfl⟩ (by decide) (Nat.le_of_ble_eq_true rfl) (Nat.le_refl _) (Nat.le_refl _) (am_Cl_mono H (fun r8 h9 H => ?_))
    show am_Wp true (d + 1) M_X7_mend 321 321 h0 Q 34 [some (.inr (.inr 294)), none] [.inl r8] 321 h9
    refine ar_istore_n (pc := 34) (i := 1) (k0 := 1) (ls2 := [some (.inr (.inr 294)), some (.inl r8)]) (by decide +kernel) rfl (by decide) rfl ?_
    refine ar_aload_n (pc := 35) (i := 0) (k0 := 0) (by decide +kernel) rfl rfl ?_
    refine ar_iconst (pc := 36) (z := 2) (by decide +kernel) (by unfold am_i32; omega) ?_
    refine ar_iload_n (pc := 37) (i := 1) (k0 := 1) (by decide +kernel) rfl rfl ?_
    refine ar_iconst (pc := 38) (z := 0) (by decide +kernel) (by unfold am_i32; omega) ?_
    refine ar_callV (pc := 39) (M2 := M_X7_write) (a := 294) (ci := 7) (as := [.inl 2, .inl r8, .inl 0]) (n2 := 321) (st := []) (by decide +kernel) rfl wm_RX7_454 wi_yX7_write wl_yX7_write k_294 rfl wz_RX7 wc_yX7_write ⟨by decide, by decide, rfl⟩ (by decide) (Nat.le_of_ble_eq_true rfl) (Nat.le_refl _) (Nat.le_refl _) (am_Cl_mono H (fun r10 h11 H => ?_))
    show am_Wp true (d + 1) M_X7_mend 321 321 h0 Q 42 [some (.inr (.inr 294)), some (.inl r8)] [] 321 h11
    refine ar_iload_n (pc := 42) (i := 1) (k0 := 1) (by decide +kernel) rfl rfl ?_
    exact ar_iret (pc := 43) (x := r8) (by decide +kernel) rfl rfl H
  · replace H := H.2 c3
    refine ar_iconst (pc := 14) (z := (-1)) (by decide +kernel) (by unfold am_i32; omega) ?_
    exact ar_iret (pc := 15) (x := (-1)) (by decide +kernel) rfl rfl H

/-! ByteIntervalsModel.arePassed(I)Z -/
theorem B_X7_arePassed_0 {d : Nat} {Q : Int → am_H → Prop} {h : am_H} {v1 : Int} (H : wf (d + 1) M_X7_arePassed Q 7 [some (.inr (.inr 294)), some (.inl v1), some (.inl 0)] [] (am_up h 294 51 0)) : wf (d + 1) M_X7_arePassed Q 0 [some (.inr (.inr 294)), some (.inl v1), none] [] h := by
  intro h0
  refine ar_aload_n (pc := 0) (i := 0) (k0 := 0) (by decide +kernel) rfl rfl ?_
  refine ar_iconst (pc := 1) (z := 0) (by decide +kernel) (by unfold am_i32; omega) ?_
  refine ar_putI (pc := 2) (a := 294) (z := 0) 7 51 (by decide +kernel) k_294 rfl (by decide) rfl (fun _ => rfl) rfl wf_RX7_466 ?_
  refine ar_iconst (pc := 5) (z := 0) (by decide +kernel) (by unfold am_i32; omega) ?_
  refine ar_istore_n (pc := 6) (i := 2) (k0 := 2) (ls2 := [some (.inr (.inr 294)), some (.inl v1), some (.inl 0)]) (by decide +kernel) rfl (by decide) rfl ?_
  exact H h0
theorem B_X7_arePassed_7 {d : Nat} {Q : Int → am_H → Prop} {h : am_H} {v1 v2 : Int} (H : (v1 ≤ v2 → Q 1 h) ∧ (v2 < v1 → (¬ (h 295 4) = 9999 → cf d M_X7_keep [.inr (.inr 294)] h (fun _ h4 => cf d M_X7_pass [.inr (.inr 294)] h4 (fun _ h6 => wf (d + 1) M_X7_arePassed Q 7 [some (.inr (.inr 294)), some (.inl v1), some (.inl (am_w32 (v2 + 1)))] [] h6))) ∧ ((h 295 4) = 9999 → Q 0 h))) : wf (d + 1) M_X7_arePassed Q 7 [some (.inr (.inr 294)), some (.inl v1), some (.inl v2)] [] h := by
  intro h0
  refine ar_iload_n (pc := 7) (i := 2) (k0 := 2) (by decide +kernel) rfl rfl ?_
  refine ar_iload_n (pc := 8) (i := 1) (k0 := 1) (by decide +kernel) rfl rfl ?_
  refine ar_icmp_ge (pc := 9) (x := v2) (y := v1) (tgt := 40) (off := 31) (by decide +kernel) (by decide) (fun c1 => ?_) (fun c1 => ?_)
  · replace H := H.1 c1
    refine ar_iconst (pc := 40) (z := 1) (by decide +kernel) (by unfold am_i32; omega) ?_
    exact ar_zret (pc := 41) (x := 1) (by decide +kernel) rfl rfl (by decide) H
  · replace H := H.2 c1
    refine ar_aload_n (pc := 12) (i := 0) (k0 := 0) (by decide +kernel) rfl rfl ?_
    refine ar_getFV (pc := 13) (a := 294) (b := 295) 7 0 (by decide +kernel) k_294 rfl (by decide) wf_RX7_7 rfl (fun _ => rfl) rfl ?_
    refine ar_iconst (pc := 16) (z := 4) (by decide +kernel) (by unfold am_i32; omega) ?_
    refine ar_iald (pc := 17) (a := 295) (i := 4) (by decide +kernel) k_295 (by decide) (am_lt_eq (b := 2159) (by decide) (l_295).symm) ?_
    refine ar_sipush (pc := 18) (z := 9999) (by decide +kernel) (by omega) ?_
    refine ar_icmp_ne (pc := 21) (x := (h 295 4)) (y := 9999) (tgt := 26) (off := 5) (by decide +kernel) (by decide) (fun c2 => ?_) (fun c2 => ?_)
    · replace H := H.1 c2
      refine ar_aload_n (pc := 26) (i := 0) (k0 := 0) (by decide +kernel) rfl rfl ?_
      refine ar_callV (pc := 27) (M2 := M_X7_keep) (a := 294) (ci := 7) (as := []) (n2 := 321) (st := []) (by decide +kernel) rfl wm_RX7_472 wi_yX7_keep wl_yX7_keep k_294 rfl wz_RX7 wc_yX7_keep ⟨by decide, by decide, rfl⟩ (by decide) (Nat.le_of_ble_eq_true rfl) (Nat.le_refl _) (Nat.le_refl _) (am_Cl_mono H (fun r3 h4 H => ?_))
      show am_Wp true (d + 1) M_X7_arePassed 321 321 h0 Q 30 [some (.inr (.inr 294)), some (.inl v1), some (.inl v2)] [] 321 h4
      refine ar_aload_n (pc := 30) (i := 0) (k0 := 0) (by decide +kernel) rfl rfl ?_
      refine ar_callV (pc := 31) (M2 := M_X7_pass) (a := 294) (ci := 7) (as := []) (n2 := 321) (st := []) (by decide +kernel) rfl wm_RX7_487 wi_yX7_pass wl_yX7_pass k_294 rfl wz_RX7 wc_yX7_pass ⟨by decide, by decide, rfl⟩ (by decide) (Nat.le_of_ble_eq_true rfl) (Nat.le_refl _) (Nat.le_refl _) (am_Cl_mono H (fun r5 h6 H => ?_))
      show am_Wp true (d + 1) M_X7_arePassed 321 321 h0 Q 34 [some (.inr (.inr 294)), some (.inl v1), some (.inl v2)] [] 321 h6
      refine ar_iinc (pc := 34) (i := 2) (z := 1) (x := v2) (ls2 := [some (.inr (.inr 294)), some (.inl v1), some (.inl (am_w32 (v2 + 1)))]) (by decide +kernel) rfl (by decide) rfl ?_
      refine ar_goto (pc := 37) (tgt := 7) (off := -30) (by decide +kernel) (by decide) ?_
      exact H h0
    · replace H := H.2 c2
      refine ar_iconst (pc := 24) (z := 0) (by decide +kernel) (by unfold am_i32; omega) ?_
      exact ar_zret (pc := 25) (x := 0) (by decide +kernel) rfl rfl (by decide) H

/-! ByteIntervalsModel.day(I)I -/
theorem B_X7_day_0 {d : Nat} {Q : Int → am_H → Prop} {h : am_H} {v1 : Int} (H : cf d M_X7_isIn [.inl v1, .inl 1, .inl 60] h (fun r1 h2 => (r1 = 0 → Q (-1) h2) ∧ (¬ r1 = 0 → (9999 < (am_w32 ((h2 295 4) + v1)) → Q (-1) h2) ∧ ((am_w32 ((h2 295 4) + v1)) ≤ 9999 → cf d M_X7_arePassed [.inr (.inr 294), .inl v1] h2 (fun r5 h6 => (r5 = 0 → Q (-1) h6) ∧ (¬ r5 = 0 → Q (h6 294 51) h6)))))) : wf (d + 1) M_X7_day Q 0 [some (.inr (.inr 294)), some (.inl v1)] [] h := by
  intro h0
  refine ar_iload_n (pc := 0) (i := 1) (k0 := 1) (by decide +kernel) rfl rfl ?_
  refine ar_iconst (pc := 1) (z := 1) (by decide +kernel) (by unfold am_i32; omega) ?_
  refine ar_bipush (pc := 2) (z := 60) (by decide +kernel) (by omega) ?_
  refine ar_callS (pc := 4) (M2 := M_X7_isIn) (as := [.inl v1, .inl 1, .inl 60]) (n2 := 321) (st := []) (by decide +kernel) rfl wm_RX7_108 ws_yX7_isIn wz_RX7 wc_yX7_isIn ⟨by decide, by decide, rfl⟩ (by decide) (Nat.le_of_ble_eq_true rfl) (Nat.le_refl _) (Nat.le_refl _) (am_Cl_mono H (fun r1 h2 H => ?_))
  show am_Wp true (d + 1) M_X7_day 321 321 h0 Q 7 [some (.inr (.inr 294)), some (.inl v1)] [.inl r1] 321 h2
  refine ar_if_eq (pc := 7) (x := r1) (tgt := 39) (off := 32) (by decide +kernel) (by decide) (fun c3 => ?_) (fun c3 => ?_)
  · replace H := H.1 c3
    refine ar_iconst (pc := 39) (z := (-1)) (by decide +kernel) (by unfold am_i32; omega) ?_
    exact ar_iret (pc := 40) (x := (-1)) (by decide +kernel) rfl rfl H
  · replace H := H.2 c3
    refine ar_aload_n (pc := 10) (i := 0) (k0 := 0) (by decide +kernel) rfl rfl ?_
    refine ar_getFV (pc := 11) (a := 294) (b := 295) 7 0 (by decide +kernel) k_294 rfl (by decide) wf_RX7_7 rfl (fun _ => rfl) rfl ?_
    refine ar_iconst (pc := 14) (z := 4) (by decide +kernel) (by unfold am_i32; omega) ?_
    refine ar_iald (pc := 15) (a := 295) (i := 4) (by decide +kernel) k_295 (by decide) (am_lt_eq (b := 2159) (by decide) (l_295).symm) ?_
    refine ar_iload_n (pc := 16) (i := 1) (k0 := 1) (by decide +kernel) rfl rfl ?_
    refine ar_iadd (pc := 17) (x := (h2 295 4)) (y := v1) (by decide +kernel) ?_
    refine ar_sipush (pc := 18) (z := 9999) (by decide +kernel) (by omega) ?_
    refine ar_icmp_gt (pc := 21) (x := (am_w32 ((h2 295 4) + v1))) (y := 9999) (tgt := 39) (off := 18) (by decide +kernel) (by decide) (fun c4 => ?_) (fun c4 => ?_)
    · replace H := H.1 c4
      refine ar_iconst (pc := 39) (z := (-1)) (by decide +kernel) (by unfold am_i32; omega) ?_
      exact ar_iret (pc := 40) (x := (-1)) (by decide +kernel) rfl rfl H
    · replace H := H.2 c4
      refine ar_aload_n (pc := 24) (i := 0) (k0 := 0) (by decide +kernel) rfl rfl ?_
      refine ar_iload_n (pc := 25) (i := 1) (k0 := 1) (by decide +kernel) rfl rfl ?_
      refine ar_callV (pc := 26) (M2 := M_X7_arePassed) (a := 294) (ci := 7) (as := [.inl v1]) (n2 := 321) (st := []) (by decide +kernel) rfl wm_RX7_490 wi_yX7_arePassed wl_yX7_arePassed k_294 rfl wz_RX7 wc_yX7_arePassed ⟨by decide, by decide, rfl⟩ (by decide) (Nat.le_of_ble_eq_true rfl) (Nat.le_refl _) (Nat.le_refl _) (am_Cl_mono H (fun r5 h6 H => ?_))
      show am_Wp true (d + 1) M_X7_day 321 321 h0 Q 29 [some (.inr (.inr 294)), some (.inl v1)] [.inl r5] 321 h6
      refine ar_if_eq (pc := 29) (x := r5) (tgt := 39) (off := 10) (by decide +kernel) (by decide) (fun c7 => ?_) (fun c7 => ?_)
      · replace H := H.1 c7
        refine ar_iconst (pc := 39) (z := (-1)) (by decide +kernel) (by unfold am_i32; omega) ?_
        exact ar_iret (pc := 40) (x := (-1)) (by decide +kernel) rfl rfl H
      · replace H := H.2 c7
        refine ar_aload_n (pc := 32) (i := 0) (k0 := 0) (by decide +kernel) rfl rfl ?_
        refine ar_getV (pc := 33) (a := 294) (v := .inl (h6 294 51)) 7 51 (by decide +kernel) k_294 rfl (by decide) wf_RX7_466 rfl ?_
        refine ar_goto (pc := 36) (tgt := 40) (off := 4) (by decide +kernel) (by decide) ?_
        exact ar_iret (pc := 40) (x := (h6 294 51)) (by decide +kernel) rfl rfl H

/-! ByteIntervalsModel.isPlayed(I)Z -/
theorem B_X7_isPlayed_0 {d : Nat} {Q : Int → am_H → Prop} {h : am_H} {v1 : Int} (H : (0 ≤ (am_w32 (v1 + 1))) ∧ (((am_w32 (v1 + 1)) < 3300) ∧ ((0 ≤ v1) ∧ ((v1 < 3300) ∧ (((h 297 v1) < 5 ∨ 8 < (h 297 v1) → Q 1 h) ∧ ((h 297 v1) = 5 → (0 ≤ (am_w32 (v1 + 2))) ∧ (((am_w32 (v1 + 2)) < 3300) ∧ (cf d M_X7_set [.inr (.inr 294), .inl (h 297 (am_w32 (v1 + 1))), .inl (h 297 (am_w32 (v1 + 2)))] h (fun r8 h9 => (r8 = 0 ∨ r8 = 1) ∧ (Q r8 h9))))) ∧ ((h 297 v1) = 6 → cf d M_X7_size [.inr (.inr 294), .inl (h 297 (am_w32 (v1 + 1)))] h (fun r11 h12 => (r11 = 0 ∨ r11 = 1) ∧ (Q r11 h12))) ∧ ((h 297 v1) = 7 → cf d M_X7_mend [.inr (.inr 294)] h (fun r14 h15 => (r14 < 0 → Q 0 h15) ∧ (0 ≤ r14 → Q 1 h15))) ∧ ((h 297 v1) = 8 → cf d M_X7_arePassed [.inr (.inr 294), .inl (h 297 (am_w32 (v1 + 1)))] h (fun r17 h18 => (r17 = 0 ∨ r17 = 1) ∧ (Q r17 h18)))))))) : wf (d + 1) M_X7_isPlayed Q 0 [some (.inr (.inr 294)), some (.inl v1), none] [] h := by
  intro h0
  refine ar_aload_n (pc := 0) (i := 0) (k0 := 0) (by decide +kernel) rfl rfl ?_
  refine ar_getFV (pc := 1) (a := 294) (b := 297) 7 2 (by decide +kernel) k_294 rfl (by decide) wf_RX7_16 rfl (fun _ => rfl) rfl ?_
  refine ar_iload_n (pc := 4) (i := 1) (k0 := 1) (by decide +kernel) rfl rfl ?_
  refine ar_iconst (pc := 5) (z := 1) (by decide +kernel) (by unfold am_i32; omega) ?_
  refine ar_iadd (pc := 6) (x := v1) (y := 1) (by decide +kernel) ?_
  obtain ⟨g1, H⟩ := H
  obtain ⟨g2, H⟩ := H
  refine ar_iald (pc := 7) (a := 297) (i := (am_w32 (v1 + 1))) (by decide +kernel) k_297 g1 (am_lt_eq g2 (l_297).symm) ?_
  refine ar_istore_n (pc := 8) (i := 2) (k0 := 2) (ls2 := [some (.inr (.inr 294)), some (.inl v1), some (.inl (h 297 (am_w32 (v1 + 1))))]) (by decide +kernel) rfl (by decide) rfl ?_
  refine ar_aload_n (pc := 9) (i := 0) (k0 := 0) (by decide +kernel) rfl rfl ?_
  refine ar_getFV (pc := 10) (a := 294) (b := 297) 7 2 (by decide +kernel) k_294 rfl (by decide) wf_RX7_16 rfl (fun _ => rfl) rfl ?_
  refine ar_iload_n (pc := 13) (i := 1) (k0 := 1) (by decide +kernel) rfl rfl ?_
  obtain ⟨g3, H⟩ := H
  obtain ⟨g4, H⟩ := H
  refine ar_iald (pc := 14) (a := 297) (i := v1) (by decide +kernel) k_297 g3 (am_lt_eq g4 (l_297).symm) ?_
  refine ar_table (pc := 15) (dflt := 68) (lo := 5) (hi := 8) (offs := #[29, 43, 49, 62]) (len := 29) (x := (h 297 v1)) (dt := 83) [44, 58, 64, 77] (by decide +kernel) (by decide) (by decide) (by decide) (fun c5 => ?_) (And.intro (fun c5 => ?_) (And.intro (fun c5 => ?_) (And.intro (fun c5 => ?_) (And.intro (fun c5 => ?_) (True.intro)))))
  · replace H := H.1 c5
    refine ar_iconst (pc := 83) (z := 1) (by decide +kernel) (by unfold am_i32; omega) ?_
    exact ar_zret (pc := 84) (x := 1) (by decide +kernel) rfl rfl (by decide) H
  · replace H := H.2.1 c5
    refine ar_aload_n (pc := 44) (i := 0) (k0 := 0) (by decide +kernel) rfl rfl ?_
    refine ar_iload_n (pc := 45) (i := 2) (k0 := 2) (by decide +kernel) rfl rfl ?_
    refine ar_aload_n (pc := 46) (i := 0) (k0 := 0) (by decide +kernel) rfl rfl ?_
    refine ar_getFV (pc := 47) (a := 294) (b := 297) 7 2 (by decide +kernel) k_294 rfl (by decide) wf_RX7_16 rfl (fun _ => rfl) rfl ?_
    refine ar_iload_n (pc := 50) (i := 1) (k0 := 1) (by decide +kernel) rfl rfl ?_
    refine ar_iconst (pc := 51) (z := 2) (by decide +kernel) (by unfold am_i32; omega) ?_
    refine ar_iadd (pc := 52) (x := v1) (y := 2) (by decide +kernel) ?_
    obtain ⟨g6, H⟩ := H
    obtain ⟨g7, H⟩ := H
    refine ar_iald (pc := 53) (a := 297) (i := (am_w32 (v1 + 2))) (by decide +kernel) k_297 g6 (am_lt_eq g7 (l_297).symm) ?_
    refine ar_callV (pc := 54) (M2 := M_X7_set) (a := 294) (ci := 7) (as := [.inl (h 297 (am_w32 (v1 + 1))), .inl (h 297 (am_w32 (v1 + 2)))]) (n2 := 321) (st := []) (by decide +kernel) rfl wm_RX7_493 wi_yX7_set wl_yX7_set k_294 rfl wz_RX7 wc_yX7_set ⟨by decide, by decide, rfl⟩ (by decide) (Nat.le_of_ble_eq_true rfl) (Nat.le_refl _) (Nat.le_refl _) (am_Cl_mono H (fun r8 h9 H => ?_))
    show am_Wp true (d + 1) M_X7_isPlayed 321 321 h0 Q 57 [some (.inr (.inr 294)), some (.inl v1), some (.inl (h 297 (am_w32 (v1 + 1))))] [.inl r8] 321 h9
    obtain ⟨g10, H⟩ := H
    exact ar_zret (pc := 57) (x := r8) (by decide +kernel) rfl rfl g10 H
  · replace H := H.2.2.1 c5
    refine ar_aload_n (pc := 58) (i := 0) (k0 := 0) (by decide +kernel) rfl rfl ?_
    refine ar_iload_n (pc := 59) (i := 2) (k0 := 2) (by decide +kernel) rfl rfl ?_
    refine ar_callV (pc := 60) (M2 := M_X7_size) (a := 294) (ci := 7) (as := [.inl (h 297 (am_w32 (v1 + 1)))]) (n2 := 321) (st := []) (by decide +kernel) rfl wm_RX7_496 wi_yX7_size wl_yX7_size k_294 rfl wz_RX7 wc_yX7_size ⟨by decide, by decide, rfl⟩ (by decide) (Nat.le_of_ble_eq_true rfl) (Nat.le_refl _) (Nat.le_refl _) (am_Cl_mono H (fun r11 h12 H => ?_))
    show am_Wp true (d + 1) M_X7_isPlayed 321 321 h0 Q 63 [some (.inr (.inr 294)), some (.inl v1), some (.inl (h 297 (am_w32 (v1 + 1))))] [.inl r11] 321 h12
    obtain ⟨g13, H⟩ := H
    exact ar_zret (pc := 63) (x := r11) (by decide +kernel) rfl rfl g13 H
  · replace H := H.2.2.2.1 c5
    refine ar_aload_n (pc := 64) (i := 0) (k0 := 0) (by decide +kernel) rfl rfl ?_
    refine ar_callV (pc := 65) (M2 := M_X7_mend) (a := 294) (ci := 7) (as := []) (n2 := 321) (st := []) (by decide +kernel) rfl wm_RX7_499 wi_yX7_mend wl_yX7_mend k_294 rfl wz_RX7 wc_yX7_mend ⟨by decide, by decide, rfl⟩ (by decide) (Nat.le_of_ble_eq_true rfl) (Nat.le_refl _) (Nat.le_refl _) (am_Cl_mono H (fun r14 h15 H => ?_))
    show am_Wp true (d + 1) M_X7_isPlayed 321 321 h0 Q 68 [some (.inr (.inr 294)), some (.inl v1), some (.inl (h 297 (am_w32 (v1 + 1))))] [.inl r14] 321 h15
    refine ar_if_lt (pc := 68) (x := r14) (tgt := 75) (off := 7) (by decide +kernel) (by decide) (fun c16 => ?_) (fun c16 => ?_)
    · replace H := H.1 c16
      refine ar_iconst (pc := 75) (z := 0) (by decide +kernel) (by unfold am_i32; omega) ?_
      exact ar_zret (pc := 76) (x := 0) (by decide +kernel) rfl rfl (by decide) H
    · replace H := H.2 c16
      refine ar_iconst (pc := 71) (z := 1) (by decide +kernel) (by unfold am_i32; omega) ?_
      refine ar_goto (pc := 72) (tgt := 76) (off := 4) (by decide +kernel) (by decide) ?_
      exact ar_zret (pc := 76) (x := 1) (by decide +kernel) rfl rfl (by decide) H
  · replace H := H.2.2.2.2 c5
    refine ar_aload_n (pc := 77) (i := 0) (k0 := 0) (by decide +kernel) rfl rfl ?_
    refine ar_iload_n (pc := 78) (i := 2) (k0 := 2) (by decide +kernel) rfl rfl ?_
    refine ar_callV (pc := 79) (M2 := M_X7_arePassed) (a := 294) (ci := 7) (as := [.inl (h 297 (am_w32 (v1 + 1)))]) (n2 := 321) (st := []) (by decide +kernel) rfl wm_RX7_490 wi_yX7_arePassed wl_yX7_arePassed k_294 rfl wz_RX7 wc_yX7_arePassed ⟨by decide, by decide, rfl⟩ (by decide) (Nat.le_of_ble_eq_true rfl) (Nat.le_refl _) (Nat.le_refl _) (am_Cl_mono H (fun r17 h18 H => ?_))
    show am_Wp true (d + 1) M_X7_isPlayed 321 321 h0 Q 82 [some (.inr (.inr 294)), some (.inl v1), some (.inl (h 297 (am_w32 (v1 + 1))))] [.inl r17] 321 h18
    obtain ⟨g19, H⟩ := H
    exact ar_zret (pc := 82) (x := r17) (by decide +kernel) rfl rfl g19 H

/-! ByteIntervalsModel.played(I)I -/
theorem B_X7_played_0 {d : Nat} {Q : Int → am_H → Prop} {h : am_H} {v1 : Int} (H : cf d M_X7_isText [.inr (.inr 294), .inl v1] h (fun r1 h2 => (¬ r1 = 0 → wf (d + 1) M_X7_played Q 13 [some (.inr (.inr 294)), some (.inl v1), some (.inl 0)] [] h2) ∧ (r1 = 0 → Q (-2) h2))) : wf (d + 1) M_X7_played Q 0 [some (.inr (.inr 294)), some (.inl v1), none] [] h := by
  intro h0
  refine ar_aload_n (pc := 0) (i := 0) (k0 := 0) (by decide +kernel) rfl rfl ?_
  refine ar_iload_n (pc := 1) (i := 1) (k0 := 1) (by decide +kernel) rfl rfl ?_
  refine ar_callV (pc := 2) (M2 := M_X7_isText) (a := 294) (ci := 7) (as := [.inl v1]) (n2 := 321) (st := []) (by decide +kernel) rfl wm_RX7_502 wi_yX7_isText wl_yX7_isText k_294 rfl wz_RX7 wc_yX7_isText ⟨by decide, by decide, rfl⟩ (by decide) (Nat.le_of_ble_eq_true rfl) (Nat.le_refl _) (Nat.le_refl _) (am_Cl_mono H (fun r1 h2 H => ?_))
  show am_Wp true (d + 1) M_X7_played 321 321 h0 Q 5 [some (.inr (.inr 294)), some (.inl v1), none] [.inl r1] 321 h2
  refine ar_if_ne (pc := 5) (x := r1) (tgt := 11) (off := 6) (by decide +kernel) (by decide) (fun c3 => ?_) (fun c3 => ?_)
  · replace H := H.1 c3
    refine ar_iconst (pc := 11) (z := 0) (by decide +kernel) (by unfold am_i32; omega) ?_
    refine ar_istore_n (pc := 12) (i := 2) (k0 := 2) (ls2 := [some (.inr (.inr 294)), some (.inl v1), some (.inl 0)]) (by decide +kernel) rfl (by decide) rfl ?_
    exact H h0
  · replace H := H.2 c3
    refine ar_bipush (pc := 8) (z := (-2)) (by decide +kernel) (by omega) ?_
    exact ar_iret (pc := 10) (x := (-2)) (by decide +kernel) rfl rfl H
theorem B_X7_played_13 {d : Nat} {Q : Int → am_H → Prop} {h : am_H} {v1 v2 : Int} (H : cf d M_X7_clauses [.inr (.inr 294), .inl v1] h (fun r1 h2 => (r1 ≤ v2 → Q (-1) h2) ∧ (v2 < r1 → cf d M_X7_clauseAt [.inl v1, .inl v2] h2 (fun r4 h5 => cf d M_X7_isPlayed [.inr (.inr 294), .inl r4] h5 (fun r6 h7 => (¬ r6 = 0 → wf (d + 1) M_X7_played Q 13 [some (.inr (.inr 294)), some (.inl v1), some (.inl (am_w32 (v2 + 1)))] [] h7) ∧ (r6 = 0 → Q v2 h7)))))) : wf (d + 1) M_X7_played Q 13 [some (.inr (.inr 294)), some (.inl v1), some (.inl v2)] [] h := by
  intro h0
  refine ar_iload_n (pc := 13) (i := 2) (k0 := 2) (by decide +kernel) rfl rfl ?_
  refine ar_aload_n (pc := 14) (i := 0) (k0 := 0) (by decide +kernel) rfl rfl ?_
  refine ar_iload_n (pc := 15) (i := 1) (k0 := 1) (by decide +kernel) rfl rfl ?_
  refine ar_callV (pc := 16) (M2 := M_X7_clauses) (a := 294) (ci := 7) (as := [.inl v1]) (n2 := 321) (st := [.inl v2]) (by decide +kernel) rfl wm_RX7_335 wi_yX7_clauses wl_yX7_clauses k_294 rfl wz_RX7 wc_yX7_clauses ⟨by decide, by decide, rfl⟩ (by decide) (Nat.le_of_ble_eq_true rfl) (Nat.le_refl _) (Nat.le_refl _) (am_Cl_mono H (fun r1 h2 H => ?_))
  show am_Wp true (d + 1) M_X7_played 321 321 h0 Q 19 [some (.inr (.inr 294)), some (.inl v1), some (.inl v2)] [.inl r1, .inl v2] 321 h2
  refine ar_icmp_ge (pc := 19) (x := v2) (y := r1) (tgt := 42) (off := 23) (by decide +kernel) (by decide) (fun c3 => ?_) (fun c3 => ?_)
  · replace H := H.1 c3
    refine ar_iconst (pc := 42) (z := (-1)) (by decide +kernel) (by unfold am_i32; omega) ?_
    exact ar_iret (pc := 43) (x := (-1)) (by decide +kernel) rfl rfl H
  · replace H := H.2 c3
    refine ar_aload_n (pc := 22) (i := 0) (k0 := 0) (by decide +kernel) rfl rfl ?_
    refine ar_iload_n (pc := 23) (i := 1) (k0 := 1) (by decide +kernel) rfl rfl ?_
    refine ar_iload_n (pc := 24) (i := 2) (k0 := 2) (by decide +kernel) rfl rfl ?_
    refine ar_callS (pc := 25) (M2 := M_X7_clauseAt) (as := [.inl v1, .inl v2]) (n2 := 321) (st := [.inr (.inr 294)]) (by decide +kernel) rfl wm_RX7_328 ws_yX7_clauseAt wz_RX7 wc_yX7_clauseAt ⟨by decide, by decide, rfl⟩ (by decide) (Nat.le_of_ble_eq_true rfl) (Nat.le_refl _) (Nat.le_refl _) (am_Cl_mono H (fun r4 h5 H => ?_))
    show am_Wp true (d + 1) M_X7_played 321 321 h0 Q 28 [some (.inr (.inr 294)), some (.inl v1), some (.inl v2)] [.inl r4, .inr (.inr 294)] 321 h5
    refine ar_callV (pc := 28) (M2 := M_X7_isPlayed) (a := 294) (ci := 7) (as := [.inl r4]) (n2 := 321) (st := []) (by decide +kernel) rfl wm_RX7_505 wi_yX7_isPlayed wl_yX7_isPlayed k_294 rfl wz_RX7 wc_yX7_isPlayed ⟨by decide, by decide, rfl⟩ (by decide) (Nat.le_of_ble_eq_true rfl) (Nat.le_refl _) (Nat.le_refl _) (am_Cl_mono H (fun r6 h7 H => ?_))
    show am_Wp true (d + 1) M_X7_played 321 321 h0 Q 31 [some (.inr (.inr 294)), some (.inl v1), some (.inl v2)] [.inl r6] 321 h7
    refine ar_if_ne (pc := 31) (x := r6) (tgt := 36) (off := 5) (by decide +kernel) (by decide) (fun c8 => ?_) (fun c8 => ?_)
    · replace H := H.1 c8
      refine ar_iinc (pc := 36) (i := 2) (z := 1) (x := v2) (ls2 := [some (.inr (.inr 294)), some (.inl v1), some (.inl (am_w32 (v2 + 1)))]) (by decide +kernel) rfl (by decide) rfl ?_
      refine ar_goto (pc := 39) (tgt := 13) (off := -26) (by decide +kernel) (by decide) ?_
      exact H h0
    · replace H := H.2 c8
      refine ar_iload_n (pc := 34) (i := 2) (k0 := 2) (by decide +kernel) rfl rfl ?_
      exact ar_iret (pc := 35) (x := v2) (by decide +kernel) rfl rfl H

/-! ByteIntervalsModel.happens(I)V -/
theorem B_X7_happens_0 {d : Nat} {Q : Int → am_H → Prop} {h : am_H} {v1 : Int} (H : ((am_w32 (v1.tmod 6)) < 0 ∨ 2 < (am_w32 (v1.tmod 6)) → (9999 ≤ (h 295 4) → Q 0 h) ∧ ((h 295 4) < 9999 → cf d M_X7_pass [.inr (.inr 294)] h (fun _ h4 => Q 0 h4))) ∧ ((am_w32 (v1.tmod 6)) = 0 → cf d M_X7_canSet [.inr (.inr 294), .inl (am_w32 ((am_w32 (v1.tdiv 6)).tmod 40)), .inl (am_w32 (v1.tmod 256))] h (fun r5 h6 => (r5 = 0 → Q 0 h6) ∧ (¬ r5 = 0 → cf d M_X7_setNow [.inr (.inr 294), .inl (am_w32 ((am_w32 (v1.tdiv 6)).tmod 40)), .inl (am_w32 (v1.tmod 256))] h6 (fun _ h9 => Q 0 h9)))) ∧ ((am_w32 (v1.tmod 6)) = 1 → (¬ (am_w32 (v1.tmod 4)) = 3 → Q 0 h) ∧ ((am_w32 (v1.tmod 4)) = 3 → cf d M_X7_canSize [.inr (.inr 294), .inl (am_w32 ((am_w32 (v1.tdiv 6)).tmod 41))] h (fun r11 h12 => (r11 = 0 → Q 0 h12) ∧ (¬ r11 = 0 → cf d M_X7_sizeNow [.inr (.inr 294), .inl (am_w32 ((am_w32 (v1.tdiv 6)).tmod 41))] h12 (fun _ h15 => Q 0 h15))))) ∧ ((am_w32 (v1.tmod 6)) = 2 → (¬ (am_w32 (v1.tmod 4)) = 0 → wf (d + 1) M_X7_happens Q 125 [some (.inr (.inr 294)), none, none] [.inl (-1)] h) ∧ ((am_w32 (v1.tmod 4)) = 0 → cf d M_X7_mendNow [.inr (.inr 294), .inl (h 295 1)] h (fun r17 h18 => wf (d + 1) M_X7_happens Q 125 [some (.inr (.inr 294)), none, none] [.inl r17] h18)))) : wf (d + 1) M_X7_happens Q 0 [some (.inr (.inr 294)), some (.inl v1), none] [] h := by
  intro h0
  refine ar_iload_n (pc := 0) (i := 1) (k0 := 1) (by decide +kernel) rfl rfl ?_
  refine ar_bipush (pc := 1) (z := 6) (by decide +kernel) (by omega) ?_
  refine ar_irem (pc := 3) (x := v1) (y := 6) (by decide +kernel) (by decide) ?_
  refine ar_table (pc := 4) (dflt := 137) (lo := 0) (hi := 2) (offs := #[28, 66, 101]) (len := 28) (x := (am_w32 (v1.tmod 6))) (dt := 141) [32, 70, 105] (by decide +kernel) (by decide) (by decide) (by decide) (fun c1 => ?_) (And.intro (fun c1 => ?_) (And.intro (fun c1 => ?_) (And.intro (fun c1 => ?_) (True.intro))))
  · replace H := H.1 c1
    refine ar_aload_n (pc := 141) (i := 0) (k0 := 0) (by decide +kernel) rfl rfl ?_
    refine ar_getFV (pc := 142) (a := 294) (b := 295) 7 0 (by decide +kernel) k_294 rfl (by decide) wf_RX7_7 rfl (fun _ => rfl) rfl ?_
    refine ar_iconst (pc := 145) (z := 4) (by decide +kernel) (by unfold am_i32; omega) ?_
    refine ar_iald (pc := 146) (a := 295) (i := 4) (by decide +kernel) k_295 (by decide) (am_lt_eq (b := 2159) (by decide) (l_295).symm) ?_
    refine ar_sipush (pc := 147) (z := 9999) (by decide +kernel) (by omega) ?_
    refine ar_icmp_ge (pc := 150) (x := (h 295 4)) (y := 9999) (tgt := 157) (off := 7) (by decide +kernel) (by decide) (fun c2 => ?_) (fun c2 => ?_)
    · replace H := H.1 c2
      exact ar_vret (pc := 157) (by decide +kernel) rfl rfl H
    · replace H := H.2 c2
      refine ar_aload_n (pc := 153) (i := 0) (k0 := 0) (by decide +kernel) rfl rfl ?_
      refine ar_callV (pc := 154) (M2 := M_X7_pass) (a := 294) (ci := 7) (as := []) (n2 := 321) (st := []) (by decide +kernel) rfl wm_RX7_487 wi_yX7_pass wl_yX7_pass k_294 rfl wz_RX7 wc_yX7_pass ⟨by decide, by decide, rfl⟩ (by decide) (Nat.le_of_ble_eq_true rfl) (Nat.le_refl _) (Nat.le_refl _) (am_Cl_mono H (fun r3 h4 H => ?_))
      show am_Wp true (d + 1) M_X7_happens 321 321 h0 Q 157 [some (.inr (.inr 294)), some (.inl v1), none] [] 321 h4
      exact ar_vret (pc := 157) (by decide +kernel) rfl rfl H
  · replace H := H.2.1 c1
    refine ar_aload_n (pc := 32) (i := 0) (k0 := 0) (by decide +kernel) rfl rfl ?_
    refine ar_iload_n (pc := 33) (i := 1) (k0 := 1) (by decide +kernel) rfl rfl ?_
    refine ar_bipush (pc := 34) (z := 6) (by decide +kernel) (by omega) ?_
    refine ar_idiv (pc := 36) (x := v1) (y := 6) (by decide +kernel) (by decide) ?_
    refine ar_bipush (pc := 37) (z := 40) (by decide +kernel) (by omega) ?_
    refine ar_irem (pc := 39) (x := (am_w32 (v1.tdiv 6))) (y := 40) (by decide +kernel) (by decide) ?_
    refine ar_iload_n (pc := 40) (i := 1) (k0 := 1) (by decide +kernel) rfl rfl ?_
    refine ar_sipush (pc := 41) (z := 256) (by decide +kernel) (by omega) ?_
    refine ar_irem (pc := 44) (x := v1) (y := 256) (by decide +kernel) (by decide) ?_
    refine ar_callV (pc := 45) (M2 := M_X7_canSet) (a := 294) (ci := 7) (as := [.inl (am_w32 ((am_w32 (v1.tdiv 6)).tmod 40)), .inl (am_w32 (v1.tmod 256))]) (n2 := 321) (st := []) (by decide +kernel) rfl wm_RX7_469 wi_yX7_canSet wl_yX7_canSet k_294 rfl wz_RX7 wc_yX7_canSet ⟨by decide, by decide, rfl⟩ (by decide) (Nat.le_of_ble_eq_true rfl) (Nat.le_refl _) (Nat.le_refl _) (am_Cl_mono H (fun r5 h6 H => ?_))
    show am_Wp true (d + 1) M_X7_happens 321 321 h0 Q 48 [some (.inr (.inr 294)), some (.inl v1), none] [.inl r5] 321 h6
    refine ar_if_eq (pc := 48) (x := r5) (tgt := 157) (off := 109) (by decide +kernel) (by decide) (fun c7 => ?_) (fun c7 => ?_)
    · replace H := H.1 c7
      exact ar_vret (pc := 157) (by decide +kernel) rfl rfl H
    · replace H := H.2 c7
      refine ar_aload_n (pc := 51) (i := 0) (k0 := 0) (by decide +kernel) rfl rfl ?_
      refine ar_iload_n (pc := 52) (i := 1) (k0 := 1) (by decide +kernel) rfl rfl ?_
      refine ar_bipush (pc := 53) (z := 6) (by decide +kernel) (by omega) ?_
      refine ar_idiv (pc := 55) (x := v1) (y := 6) (by decide +kernel) (by decide) ?_
      refine ar_bipush (pc := 56) (z := 40) (by decide +kernel) (by omega) ?_
      refine ar_irem (pc := 58) (x := (am_w32 (v1.tdiv 6))) (y := 40) (by decide +kernel) (by decide) ?_
      refine ar_iload_n (pc := 59) (i := 1) (k0 := 1) (by decide +kernel) rfl rfl ?_
      refine ar_sipush (pc := 60) (z := 256) (by decide +kernel) (by omega) ?_
      refine ar_irem (pc := 63) (x := v1) (y := 256) (by decide +kernel) (by decide) ?_
      refine ar_callV (pc := 64) (M2 := M_X7_setNow) (a := 294) (ci := 7) (as := [.inl (am_w32 ((am_w32 (v1.tdiv 6)).tmod 40)), .inl (am_w32 (v1.tmod 256))]) (n2 := 321) (st := []) (by decide +kernel) rfl wm_RX7_475 wi_yX7_setNow wl_yX7_setNow k_294 rfl wz_RX7 wc_yX7_setNow ⟨by decide, by decide, rfl⟩ (by decide) (Nat.le_of_ble_eq_true rfl) (Nat.le_refl _) (Nat.le_refl _) (am_Cl_mono H (fun r8 h9 H => ?_))
      show am_Wp true (d + 1) M_X7_happens 321 321 h0 Q 67 [some (.inr (.inr 294)), some (.inl v1), none] [] 321 h9
      refine ar_goto (pc := 67) (tgt := 157) (off := 90) (by decide +kernel) (by decide) ?_
      exact ar_vret (pc := 157) (by decide +kernel) rfl rfl H
  · replace H := H.2.2.1 c1
    refine ar_iload_n (pc := 70) (i := 1) (k0 := 1) (by decide +kernel) rfl rfl ?_
    refine ar_iconst (pc := 71) (z := 4) (by decide +kernel) (by unfold am_i32; omega) ?_
    refine ar_irem (pc := 72) (x := v1) (y := 4) (by decide +kernel) (by decide) ?_
    refine ar_iconst (pc := 73) (z := 3) (by decide +kernel) (by unfold am_i32; omega) ?_
    refine ar_icmp_ne (pc := 74) (x := (am_w32 (v1.tmod 4))) (y := 3) (tgt := 157) (off := 83) (by decide +kernel) (by decide) (fun c10 => ?_) (fun c10 => ?_)
    · replace H := H.1 c10
      exact ar_vret (pc := 157) (by decide +kernel) rfl rfl H
    · replace H := H.2 c10
      refine ar_aload_n (pc := 77) (i := 0) (k0 := 0) (by decide +kernel) rfl rfl ?_
      refine ar_iload_n (pc := 78) (i := 1) (k0 := 1) (by decide +kernel) rfl rfl ?_
      refine ar_bipush (pc := 79) (z := 6) (by decide +kernel) (by omega) ?_
      refine ar_idiv (pc := 81) (x := v1) (y := 6) (by decide +kernel) (by decide) ?_
      refine ar_bipush (pc := 82) (z := 41) (by decide +kernel) (by omega) ?_
      refine ar_irem (pc := 84) (x := (am_w32 (v1.tdiv 6))) (y := 41) (by decide +kernel) (by decide) ?_
      refine ar_callV (pc := 85) (M2 := M_X7_canSize) (a := 294) (ci := 7) (as := [.inl (am_w32 ((am_w32 (v1.tdiv 6)).tmod 41))]) (n2 := 321) (st := []) (by decide +kernel) rfl wm_RX7_478 wi_yX7_canSize wl_yX7_canSize k_294 rfl wz_RX7 wc_yX7_canSize ⟨by decide, by decide, rfl⟩ (by decide) (Nat.le_of_ble_eq_true rfl) (Nat.le_refl _) (Nat.le_refl _) (am_Cl_mono H (fun r11 h12 H => ?_))
      show am_Wp true (d + 1) M_X7_happens 321 321 h0 Q 88 [some (.inr (.inr 294)), some (.inl v1), none] [.inl r11] 321 h12
      refine ar_if_eq (pc := 88) (x := r11) (tgt := 157) (off := 69) (by decide +kernel) (by decide) (fun c13 => ?_) (fun c13 => ?_)
      · replace H := H.1 c13
        exact ar_vret (pc := 157) (by decide +kernel) rfl rfl H
      · replace H := H.2 c13
        refine ar_aload_n (pc := 91) (i := 0) (k0 := 0) (by decide +kernel) rfl rfl ?_
        refine ar_iload_n (pc := 92) (i := 1) (k0 := 1) (by decide +kernel) rfl rfl ?_
        refine ar_bipush (pc := 93) (z := 6) (by decide +kernel) (by omega) ?_
        refine ar_idiv (pc := 95) (x := v1) (y := 6) (by decide +kernel) (by decide) ?_
        refine ar_bipush (pc := 96) (z := 41) (by decide +kernel) (by omega) ?_
        refine ar_irem (pc := 98) (x := (am_w32 (v1.tdiv 6))) (y := 41) (by decide +kernel) (by decide) ?_
        refine ar_callV (pc := 99) (M2 := M_X7_sizeNow) (a := 294) (ci := 7) (as := [.inl (am_w32 ((am_w32 (v1.tdiv 6)).tmod 41))]) (n2 := 321) (st := []) (by decide +kernel) rfl wm_RX7_481 wi_yX7_sizeNow wl_yX7_sizeNow k_294 rfl wz_RX7 wc_yX7_sizeNow ⟨by decide, by decide, rfl⟩ (by decide) (Nat.le_of_ble_eq_true rfl) (Nat.le_refl _) (Nat.le_refl _) (am_Cl_mono H (fun r14 h15 H => ?_))
        show am_Wp true (d + 1) M_X7_happens 321 321 h0 Q 102 [some (.inr (.inr 294)), some (.inl v1), none] [] 321 h15
        refine ar_goto (pc := 102) (tgt := 157) (off := 55) (by decide +kernel) (by decide) ?_
        exact ar_vret (pc := 157) (by decide +kernel) rfl rfl H
  · replace H := H.2.2.2 c1
    refine ar_iload_n (pc := 105) (i := 1) (k0 := 1) (by decide +kernel) rfl rfl ?_
    refine ar_iconst (pc := 106) (z := 4) (by decide +kernel) (by unfold am_i32; omega) ?_
    refine ar_irem (pc := 107) (x := v1) (y := 4) (by decide +kernel) (by decide) ?_
    refine ar_if_ne (pc := 108) (x := (am_w32 (v1.tmod 4))) (tgt := 124) (off := 16) (by decide +kernel) (by decide) (fun c16 => ?_) (fun c16 => ?_)
    · replace H := H.1 c16
      refine ar_iconst (pc := 124) (z := (-1)) (by decide +kernel) (by unfold am_i32; omega) ?_
      refine ar_forget [true, false, true] rfl ?_
      exact H h0
    · replace H := H.2 c16
      refine ar_aload_n (pc := 111) (i := 0) (k0 := 0) (by decide +kernel) rfl rfl ?_
      refine ar_aload_n (pc := 112) (i := 0) (k0 := 0) (by decide +kernel) rfl rfl ?_
      refine ar_getFV (pc := 113) (a := 294) (b := 295) 7 0 (by decide +kernel) k_294 rfl (by decide) wf_RX7_7 rfl (fun _ => rfl) rfl ?_
      refine ar_iconst (pc := 116) (z := 1) (by decide +kernel) (by unfold am_i32; omega) ?_
      refine ar_iald (pc := 117) (a := 295) (i := 1) (by decide +kernel) k_295 (by decide) (am_lt_eq (b := 2159) (by decide) (l_295).symm) ?_
      refine ar_callV (pc := 118) (M2 := M_X7_mendNow) (a := 294) (ci := 7) (as := [.inl (h 295 1)]) (n2 := 321) (st := []) (by decide +kernel) rfl wm_RX7_484 wi_yX7_mendNow wl_yX7_mendNow k_294 rfl wz_RX7 wc_yX7_mendNow ⟨by decide, by decide, rfl⟩ (by decide) (Nat.le_of_ble_eq_true rfl) (Nat.le_refl _) (Nat.le_refl _) (am_Cl_mono H (fun r17 h18 H => ?_))
      show am_Wp true (d + 1) M_X7_happens 321 321 h0 Q 121 [some (.inr (.inr 294)), some (.inl v1), none] [.inl r17] 321 h18
      refine ar_goto (pc := 121) (tgt := 125) (off := 4) (by decide +kernel) (by decide) ?_
      refine ar_forget [true, false, true] rfl ?_
      exact H h0
theorem B_X7_happens_125 {d : Nat} {Q : Int → am_H → Prop} {h : am_H} {s0 : Int} (H : (s0 = (-1) → Q 0 h) ∧ (¬ s0 = (-1) → cf d M_X7_write [.inr (.inr 294), .inl 2, .inl s0, .inl 0] h (fun _ h3 => Q 0 h3))) : wf (d + 1) M_X7_happens Q 125 [some (.inr (.inr 294)), none, none] [.inl s0] h := by
  intro h0
  refine ar_istore_n (pc := 125) (i := 2) (k0 := 2) (ls2 := [some (.inr (.inr 294)), none, some (.inl s0)]) (by decide +kernel) rfl (by decide) rfl ?_
  refine ar_iload_n (pc := 126) (i := 2) (k0 := 2) (by decide +kernel) rfl rfl ?_
  refine ar_iconst (pc := 127) (z := (-1)) (by decide +kernel) (by unfold am_i32; omega) ?_
  refine ar_icmp_eq (pc := 128) (x := s0) (y := (-1)) (tgt := 157) (off := 29) (by decide +kernel) (by decide) (fun c1 => ?_) (fun c1 => ?_)
  · replace H := H.1 c1
    exact ar_vret (pc := 157) (by decide +kernel) rfl rfl H
  · replace H := H.2 c1
    refine ar_aload_n (pc := 131) (i := 0) (k0 := 0) (by decide +kernel) rfl rfl ?_
    refine ar_iconst (pc := 132) (z := 2) (by decide +kernel) (by unfold am_i32; omega) ?_
    refine ar_iload_n (pc := 133) (i := 2) (k0 := 2) (by decide +kernel) rfl rfl ?_
    refine ar_iconst (pc := 134) (z := 0) (by decide +kernel) (by unfold am_i32; omega) ?_
    refine ar_callV (pc := 135) (M2 := M_X7_write) (a := 294) (ci := 7) (as := [.inl 2, .inl s0, .inl 0]) (n2 := 321) (st := []) (by decide +kernel) rfl wm_RX7_454 wi_yX7_write wl_yX7_write k_294 rfl wz_RX7 wc_yX7_write ⟨by decide, by decide, rfl⟩ (by decide) (Nat.le_of_ble_eq_true rfl) (Nat.le_refl _) (Nat.le_refl _) (am_Cl_mono H (fun r2 h3 H => ?_))
    show am_Wp true (d + 1) M_X7_happens 321 321 h0 Q 138 [some (.inr (.inr 294)), none, some (.inl s0)] [] 321 h3
    refine ar_goto (pc := 138) (tgt := 157) (off := 19) (by decide +kernel) (by decide) ?_
    exact ar_vret (pc := 157) (by decide +kernel) rfl rfl H

/-! ByteIntervalsModel.years(II)I -/
theorem B_X7_years_0 {d : Nat} {Q : Int → am_H → Prop} {h : am_H} {v1 v2 : Int} (H : cf d M_X7_isIn [.inl v1, .inl 0, .inl 9999] h (fun r1 h2 => (r1 = 0 → Q (-1) h2) ∧ (¬ r1 = 0 → cf d M_X7_isIn [.inl v2, .inl 1, .inl 40] h2 (fun r4 h5 => (¬ r4 = 0 → cf d M_X7_keep [.inr (.inr 294)] h5 (fun _ h8 => wf (d + 1) M_X7_years Q 42 [some (.inr (.inr 294)), none, some (.inl v2), some (.inl 0), none] [] (am_up h8 295 5 (am_w32 ((am_w32 (v1 * 2)) + 479))))) ∧ (r4 = 0 → Q (-1) h5))))) : wf (d + 1) M_X7_years Q 0 [some (.inr (.inr 294)), some (.inl v1), some (.inl v2), none, none] [] h := by
  intro h0
  refine ar_iload_n (pc := 0) (i := 1) (k0 := 1) (by decide +kernel) rfl rfl ?_
  refine ar_iconst (pc := 1) (z := 0) (by decide +kernel) (by unfold am_i32; omega) ?_
  refine ar_sipush (pc := 2) (z := 9999) (by decide +kernel) (by omega) ?_
  refine ar_callS (pc := 5) (M2 := M_X7_isIn) (as := [.inl v1, .inl 0, .inl 9999]) (n2 := 321) (st := []) (by decide +kernel) rfl wm_RX7_108 ws_yX7_isIn wz_RX7 wc_yX7_isIn ⟨by decide, by decide, rfl⟩ (by decide) (Nat.le_of_ble_eq_true rfl) (Nat.le_refl _) (Nat.le_refl _) (am_Cl_mono H (fun r1 h2 H => ?_))
  show am_Wp true (d + 1) M_X7_years 321 321 h0 Q 8 [some (.inr (.inr 294)), some (.inl v1), some (.inl v2), none, none] [.inl r1] 321 h2
  refine ar_if_eq (pc := 8) (x := r1) (tgt := 21) (off := 13) (by decide +kernel) (by decide) (fun c3 => ?_) (fun c3 => ?_)
  · replace H := H.1 c3
    refine ar_iconst (pc := 21) (z := (-1)) (by decide +kernel) (by unfold am_i32; omega) ?_
    exact ar_iret (pc := 22) (x := (-1)) (by decide +kernel) rfl rfl H
  · replace H := H.2 c3
    refine ar_iload_n (pc := 11) (i := 2) (k0 := 2) (by decide +kernel) rfl rfl ?_
    refine ar_iconst (pc := 12) (z := 1) (by decide +kernel) (by unfold am_i32; omega) ?_
    refine ar_bipush (pc := 13) (z := 40) (by decide +kernel) (by omega) ?_
    refine ar_callS (pc := 15) (M2 := M_X7_isIn) (as := [.inl v2, .inl 1, .inl 40]) (n2 := 321) (st := []) (by decide +kernel) rfl wm_RX7_108 ws_yX7_isIn wz_RX7 wc_yX7_isIn ⟨by decide, by decide, rfl⟩ (by decide) (Nat.le_of_ble_eq_true rfl) (Nat.le_refl _) (Nat.le_refl _) (am_Cl_mono H (fun r4 h5 H => ?_))
    show am_Wp true (d + 1) M_X7_years 321 321 h0 Q 18 [some (.inr (.inr 294)), some (.inl v1), some (.inl v2), none, none] [.inl r4] 321 h5
    refine ar_if_ne (pc := 18) (x := r4) (tgt := 23) (off := 5) (by decide +kernel) (by decide) (fun c6 => ?_) (fun c6 => ?_)
    · replace H := H.1 c6
      refine ar_aload_n (pc := 23) (i := 0) (k0 := 0) (by decide +kernel) rfl rfl ?_
      refine ar_callV (pc := 24) (M2 := M_X7_keep) (a := 294) (ci := 7) (as := []) (n2 := 321) (st := []) (by decide +kernel) rfl wm_RX7_472 wi_yX7_keep wl_yX7_keep k_294 rfl wz_RX7 wc_yX7_keep ⟨by decide, by decide, rfl⟩ (by decide) (Nat.le_of_ble_eq_true rfl) (Nat.le_refl _) (Nat.le_refl _) (am_Cl_mono H (fun r7 h8 H => ?_))
      show am_Wp true (d + 1) M_X7_years 321 321 h0 Q 27 [some (.inr (.inr 294)), some (.inl v1), some (.inl v2), none, none] [] 321 h8
      refine ar_aload_n (pc := 27) (i := 0) (k0 := 0) (by decide +kernel) rfl rfl ?_
      refine ar_getFV (pc := 28) (a := 294) (b := 295) 7 0 (by decide +kernel) k_294 rfl (by decide) wf_RX7_7 rfl (fun _ => rfl) rfl ?_
      refine ar_iconst (pc := 31) (z := 5) (by decide +kernel) (by unfold am_i32; omega) ?_
      refine ar_iload_n (pc := 32) (i := 1) (k0 := 1) (by decide +kernel) rfl rfl ?_
      refine ar_iconst (pc := 33) (z := 2) (by decide +kernel) (by unfold am_i32; omega) ?_
      refine ar_imul (pc := 34) (x := v1) (y := 2) (by decide +kernel) ?_
      refine ar_sipush (pc := 35) (z := 479) (by decide +kernel) (by omega) ?_
      refine ar_iadd (pc := 38) (x := (am_w32 (v1 * 2))) (y := 479) (by decide +kernel) ?_
      refine ar_iast (pc := 39) (a := 295) (i := 5) (z := (am_w32 ((am_w32 (v1 * 2)) + 479))) (by decide +kernel) k_295 (by decide) (am_lt_eq (b := 2159) (by decide) (l_295).symm) ?_
      refine ar_iconst (pc := 40) (z := 0) (by decide +kernel) (by unfold am_i32; omega) ?_
      refine ar_istore_n (pc := 41) (i := 3) (k0 := 3) (ls2 := [some (.inr (.inr 294)), some (.inl v1), some (.inl v2), some (.inl 0), none]) (by decide +kernel) rfl (by decide) rfl ?_
      refine ar_forget [true, false, true, true, true] rfl ?_
      exact H h0
    · replace H := H.2 c6
      refine ar_iconst (pc := 21) (z := (-1)) (by decide +kernel) (by unfold am_i32; omega) ?_
      exact ar_iret (pc := 22) (x := (-1)) (by decide +kernel) rfl rfl H
theorem B_X7_years_42 {d : Nat} {Q : Int → am_H → Prop} {h : am_H} {v2 v3 : Int} (H : (v2 ≤ v3 → Q (h 295 4) h) ∧ (v3 < v2 → cf d M_X7_anew [.inr (.inr 294)] h (fun _ h3 => cf d M_X7_happens [.inr (.inr 294), .inl (h 295 5)] h3 (fun _ h5 => wf (d + 1) M_X7_years Q 42 [some (.inr (.inr 294)), none, some (.inl v2), some (.inl (am_w32 (v3 + 1))), none] [] h5)))) : wf (d + 1) M_X7_years Q 42 [some (.inr (.inr 294)), none, some (.inl v2), some (.inl v3), none] [] h := by
  intro h0
  refine ar_iload_n (pc := 42) (i := 3) (k0 := 3) (by decide +kernel) rfl rfl ?_
  refine ar_iload_n (pc := 43) (i := 2) (k0 := 2) (by decide +kernel) rfl rfl ?_
  refine ar_icmp_ge (pc := 44) (x := v3) (y := v2) (tgt := 71) (off := 27) (by decide +kernel) (by decide) (fun c1 => ?_) (fun c1 => ?_)
  · replace H := H.1 c1
    refine ar_aload_n (pc := 71) (i := 0) (k0 := 0) (by decide +kernel) rfl rfl ?_
    refine ar_getFV (pc := 72) (a := 294) (b := 295) 7 0 (by decide +kernel) k_294 rfl (by decide) wf_RX7_7 rfl (fun _ => rfl) rfl ?_
    refine ar_iconst (pc := 75) (z := 4) (by decide +kernel) (by unfold am_i32; omega) ?_
    refine ar_iald (pc := 76) (a := 295) (i := 4) (by decide +kernel) k_295 (by decide) (am_lt_eq (b := 2159) (by decide) (l_295).symm) ?_
    exact ar_iret (pc := 77) (x := (h 295 4)) (by decide +kernel) rfl rfl H
  · replace H := H.2 c1
    refine ar_aload_n (pc := 47) (i := 0) (k0 := 0) (by decide +kernel) rfl rfl ?_
    refine ar_getFV (pc := 48) (a := 294) (b := 295) 7 0 (by decide +kernel) k_294 rfl (by decide) wf_RX7_7 rfl (fun _ => rfl) rfl ?_
    refine ar_iconst (pc := 51) (z := 5) (by decide +kernel) (by unfold am_i32; omega) ?_
    refine ar_iald (pc := 52) (a := 295) (i := 5) (by decide +kernel) k_295 (by decide) (am_lt_eq (b := 2159) (by decide) (l_295).symm) ?_
    refine ar_istore (pc := 53) (i := 4) (ls2 := [some (.inr (.inr 294)), none, some (.inl v2), some (.inl v3), some (.inl (h 295 5))]) (by decide +kernel) (by decide) rfl ?_
    refine ar_aload_n (pc := 55) (i := 0) (k0 := 0) (by decide +kernel) rfl rfl ?_
    refine ar_callV (pc := 56) (M2 := M_X7_anew) (a := 294) (ci := 7) (as := []) (n2 := 321) (st := []) (by decide +kernel) rfl wm_RX7_442 wi_yX7_anew wl_yX7_anew k_294 rfl wz_RX7 wc_yX7_anew ⟨by decide, by decide, rfl⟩ (by decide) (Nat.le_of_ble_eq_true rfl) (Nat.le_refl _) (Nat.le_refl _) (am_Cl_mono H (fun r2 h3 H => ?_))
    show am_Wp true (d + 1) M_X7_years 321 321 h0 Q 59 [some (.inr (.inr 294)), none, some (.inl v2), some (.inl v3), some (.inl (h 295 5))] [] 321 h3
    refine ar_aload_n (pc := 59) (i := 0) (k0 := 0) (by decide +kernel) rfl rfl ?_
    refine ar_iload (pc := 60) (i := 4) (by decide +kernel) rfl ?_
    refine ar_callV (pc := 62) (M2 := M_X7_happens) (a := 294) (ci := 7) (as := [.inl (h 295 5)]) (n2 := 321) (st := []) (by decide +kernel) rfl wm_RX7_508 wi_yX7_happens wl_yX7_happens k_294 rfl wz_RX7 wc_yX7_happens ⟨by decide, by decide, rfl⟩ (by decide) (Nat.le_of_ble_eq_true rfl) (Nat.le_refl _) (Nat.le_refl _) (am_Cl_mono H (fun r4 h5 H => ?_))
    show am_Wp true (d + 1) M_X7_years 321 321 h0 Q 65 [some (.inr (.inr 294)), none, some (.inl v2), some (.inl v3), some (.inl (h 295 5))] [] 321 h5
    refine ar_iinc (pc := 65) (i := 3) (z := 1) (x := v3) (ls2 := [some (.inr (.inr 294)), none, some (.inl v2), some (.inl (am_w32 (v3 + 1))), some (.inl (h 295 5))]) (by decide +kernel) rfl (by decide) rfl ?_
    refine ar_goto (pc := 68) (tgt := 42) (off := -26) (by decide +kernel) (by decide) ?_
    refine ar_forget [true, true, true, true, false] rfl ?_
    exact H h0

/-! ByteIntervalsModel.at(I)I -/
theorem B_X7_at_0 {d : Nat} {Q : Int → am_H → Prop} {h : am_H} {v1 : Int} (H : cf d M_X7_isIn [.inl v1, .inl 0, .inl 39] h (fun r1 h2 => (r1 = 0 → Q (-1) h2) ∧ (¬ r1 = 0 → (0 ≤ (am_w32 (8 + v1))) ∧ (((am_w32 (8 + v1)) < 2159) ∧ (Q (h2 295 (am_w32 (8 + v1))) h2))))) : wf (d + 1) M_X7_at Q 0 [some (.inr (.inr 294)), some (.inl v1)] [] h := by
  intro h0
  refine ar_iload_n (pc := 0) (i := 1) (k0 := 1) (by decide +kernel) rfl rfl ?_
  refine ar_iconst (pc := 1) (z := 0) (by decide +kernel) (by unfold am_i32; omega) ?_
  refine ar_bipush (pc := 2) (z := 39) (by decide +kernel) (by omega) ?_
  refine ar_callS (pc := 4) (M2 := M_X7_isIn) (as := [.inl v1, .inl 0, .inl 39]) (n2 := 321) (st := []) (by decide +kernel) rfl wm_RX7_108 ws_yX7_isIn wz_RX7 wc_yX7_isIn ⟨by decide, by decide, rfl⟩ (by decide) (Nat.le_of_ble_eq_true rfl) (Nat.le_refl _) (Nat.le_refl _) (am_Cl_mono H (fun r1 h2 H => ?_))
  show am_Wp true (d + 1) M_X7_at 321 321 h0 Q 7 [some (.inr (.inr 294)), some (.inl v1)] [.inl r1] 321 h2
  refine ar_if_eq (pc := 7) (x := r1) (tgt := 22) (off := 15) (by decide +kernel) (by decide) (fun c3 => ?_) (fun c3 => ?_)
  · replace H := H.1 c3
    refine ar_iconst (pc := 22) (z := (-1)) (by decide +kernel) (by unfold am_i32; omega) ?_
    exact ar_iret (pc := 23) (x := (-1)) (by decide +kernel) rfl rfl H
  · replace H := H.2 c3
    refine ar_aload_n (pc := 10) (i := 0) (k0 := 0) (by decide +kernel) rfl rfl ?_
    refine ar_getFV (pc := 11) (a := 294) (b := 295) 7 0 (by decide +kernel) k_294 rfl (by decide) wf_RX7_7 rfl (fun _ => rfl) rfl ?_
    refine ar_bipush (pc := 14) (z := 8) (by decide +kernel) (by omega) ?_
    refine ar_iload_n (pc := 16) (i := 1) (k0 := 1) (by decide +kernel) rfl rfl ?_
    refine ar_iadd (pc := 17) (x := 8) (y := v1) (by decide +kernel) ?_
    obtain ⟨g4, H⟩ := H
    obtain ⟨g5, H⟩ := H
    refine ar_iald (pc := 18) (a := 295) (i := (am_w32 (8 + v1))) (by decide +kernel) k_295 g4 (am_lt_eq g5 (l_295).symm) ?_
    refine ar_goto (pc := 19) (tgt := 23) (off := 4) (by decide +kernel) (by decide) ?_
    exact ar_iret (pc := 23) (x := (h2 295 (am_w32 (8 + v1)))) (by decide +kernel) rfl rfl H

/-! ByteIntervalsModel.is(I)I -/
theorem B_X7_is_0 {d : Nat} {Q : Int → am_H → Prop} {h : am_H} {v1 : Int} (H : cf d M_X7_isIn [.inl v1, .inl 0, .inl 2] h (fun r1 h2 => (r1 = 0 → (¬ v1 = 3 → Q (-2) h2) ∧ (v1 = 3 → cf d M_X7_bytesFrom [.inr (.inr 294), .inl 0, .inl (h2 295 6)] h2 (fun r5 h6 => Q r5 h6))) ∧ (¬ r1 = 0 → (0 ≤ (am_w32 (4 + v1))) ∧ (((am_w32 (4 + v1)) < 2159) ∧ (Q (h2 295 (am_w32 (4 + v1))) h2))))) : wf (d + 1) M_X7_is Q 0 [some (.inr (.inr 294)), some (.inl v1)] [] h := by
  intro h0
  refine ar_iload_n (pc := 0) (i := 1) (k0 := 1) (by decide +kernel) rfl rfl ?_
  refine ar_iconst (pc := 1) (z := 0) (by decide +kernel) (by unfold am_i32; omega) ?_
  refine ar_iconst (pc := 2) (z := 2) (by decide +kernel) (by unfold am_i32; omega) ?_
  refine ar_callS (pc := 3) (M2 := M_X7_isIn) (as := [.inl v1, .inl 0, .inl 2]) (n2 := 321) (st := []) (by decide +kernel) rfl wm_RX7_108 ws_yX7_isIn wz_RX7 wc_yX7_isIn ⟨by decide, by decide, rfl⟩ (by decide) (Nat.le_of_ble_eq_true rfl) (Nat.le_refl _) (Nat.le_refl _) (am_Cl_mono H (fun r1 h2 H => ?_))
  show am_Wp true (d + 1) M_X7_is 321 321 h0 Q 6 [some (.inr (.inr 294)), some (.inl v1)] [.inl r1] 321 h2
  refine ar_if_eq (pc := 6) (x := r1) (tgt := 20) (off := 14) (by decide +kernel) (by decide) (fun c3 => ?_) (fun c3 => ?_)
  · replace H := H.1 c3
    refine ar_iload_n (pc := 20) (i := 1) (k0 := 1) (by decide +kernel) rfl rfl ?_
    refine ar_iconst (pc := 21) (z := 3) (by decide +kernel) (by unfold am_i32; omega) ?_
    refine ar_icmp_ne (pc := 22) (x := v1) (y := 3) (tgt := 40) (off := 18) (by decide +kernel) (by decide) (fun c4 => ?_) (fun c4 => ?_)
    · replace H := H.1 c4
      refine ar_bipush (pc := 40) (z := (-2)) (by decide +kernel) (by omega) ?_
      exact ar_iret (pc := 42) (x := (-2)) (by decide +kernel) rfl rfl H
    · replace H := H.2 c4
      refine ar_aload_n (pc := 25) (i := 0) (k0 := 0) (by decide +kernel) rfl rfl ?_
      refine ar_iconst (pc := 26) (z := 0) (by decide +kernel) (by unfold am_i32; omega) ?_
      refine ar_aload_n (pc := 27) (i := 0) (k0 := 0) (by decide +kernel) rfl rfl ?_
      refine ar_getFV (pc := 28) (a := 294) (b := 295) 7 0 (by decide +kernel) k_294 rfl (by decide) wf_RX7_7 rfl (fun _ => rfl) rfl ?_
      refine ar_bipush (pc := 31) (z := 6) (by decide +kernel) (by omega) ?_
      refine ar_iald (pc := 33) (a := 295) (i := 6) (by decide +kernel) k_295 (by decide) (am_lt_eq (b := 2159) (by decide) (l_295).symm) ?_
      refine ar_callV (pc := 34) (M2 := M_X7_bytesFrom) (a := 294) (ci := 7) (as := [.inl 0, .inl (h2 295 6)]) (n2 := 321) (st := []) (by decide +kernel) rfl wm_RX7_385 wi_yX7_bytesFrom wl_yX7_bytesFrom k_294 rfl wz_RX7 wc_yX7_bytesFrom ⟨by decide, by decide, rfl⟩ (by decide) (Nat.le_of_ble_eq_true rfl) (Nat.le_refl _) (Nat.le_refl _) (am_Cl_mono H (fun r5 h6 H => ?_))
      show am_Wp true (d + 1) M_X7_is 321 321 h0 Q 37 [some (.inr (.inr 294)), some (.inl v1)] [.inl r5] 321 h6
      refine ar_goto (pc := 37) (tgt := 42) (off := 5) (by decide +kernel) (by decide) ?_
      exact ar_iret (pc := 42) (x := r5) (by decide +kernel) rfl rfl H
  · replace H := H.2 c3
    refine ar_aload_n (pc := 9) (i := 0) (k0 := 0) (by decide +kernel) rfl rfl ?_
    refine ar_getFV (pc := 10) (a := 294) (b := 295) 7 0 (by decide +kernel) k_294 rfl (by decide) wf_RX7_7 rfl (fun _ => rfl) rfl ?_
    refine ar_iconst (pc := 13) (z := 4) (by decide +kernel) (by unfold am_i32; omega) ?_
    refine ar_iload_n (pc := 14) (i := 1) (k0 := 1) (by decide +kernel) rfl rfl ?_
    refine ar_iadd (pc := 15) (x := 4) (y := v1) (by decide +kernel) ?_
    obtain ⟨g7, H⟩ := H
    obtain ⟨g8, H⟩ := H
    refine ar_iald (pc := 16) (a := 295) (i := (am_w32 (4 + v1))) (by decide +kernel) k_295 g7 (am_lt_eq g8 (l_295).symm) ?_
    refine ar_goto (pc := 17) (tgt := 42) (off := 25) (by decide +kernel) (by decide) ?_
    exact ar_iret (pc := 42) (x := (h2 295 (am_w32 (4 + v1)))) (by decide +kernel) rfl rfl H

/-! ByteIntervalsModel.lineOf(II)I -/
theorem B_X7_lineOf_0 {d : Nat} {Q : Int → am_H → Prop} {h : am_H} {v1 v2 : Int} (H : (0 ≤ (am_w32 (2134 + v1))) ∧ (((am_w32 (2134 + v1)) < 2159) ∧ ((¬ v2 = 0 → (¬ v2 = 1 → (¬ v2 = 2 → Q (am_w32 ((h 295 (am_w32 (2134 + v1))).tmod 256)) h) ∧ (v2 = 2 → Q (am_w32 ((am_w32 ((h 295 (am_w32 (2134 + v1))).tdiv 256)).tmod 41)) h)) ∧ (v2 = 1 → Q (am_w32 ((am_w32 ((h 295 (am_w32 (2134 + v1))).tdiv 10496)).tmod 4)) h)) ∧ (v2 = 0 → Q (am_w32 ((h 295 (am_w32 (2134 + v1))).tdiv 41984)) h)))) : wf d M_X7_lineOf Q 0 [some (.inr (.inr 294)), some (.inl v1), some (.inl v2), none] [] h := by
  intro h0
  refine ar_aload_n (pc := 0) (i := 0) (k0 := 0) (by decide +kernel) rfl rfl ?_
  refine ar_getFV (pc := 1) (a := 294) (b := 295) 7 0 (by decide +kernel) k_294 rfl (by decide) wf_RX7_7 rfl (fun _ => rfl) rfl ?_
  refine ar_sipush (pc := 4) (z := 2134) (by decide +kernel) (by omega) ?_
  refine ar_iload_n (pc := 7) (i := 1) (k0 := 1) (by decide +kernel) rfl rfl ?_
  refine ar_iadd (pc := 8) (x := 2134) (y := v1) (by decide +kernel) ?_
  obtain ⟨g1, H⟩ := H
  obtain ⟨g2, H⟩ := H
  refine ar_iald (pc := 9) (a := 295) (i := (am_w32 (2134 + v1))) (by decide +kernel) k_295 g1 (am_lt_eq g2 (l_295).symm) ?_
  refine ar_istore_n (pc := 10) (i := 3) (k0 := 3) (ls2 := [some (.inr (.inr 294)), some (.inl v1), some (.inl v2), some (.inl (h 295 (am_w32 (2134 + v1))))]) (by decide +kernel) rfl (by decide) rfl ?_
  refine ar_iload_n (pc := 11) (i := 2) (k0 := 2) (by decide +kernel) rfl rfl ?_
  refine ar_if_ne (pc := 12) (x := v2) (tgt := 23) (off := 11) (by decide +kernel) (by decide) (fun c3 => ?_) (fun c3 => ?_)
  · replace H := H.1 c3
    refine ar_iload_n (pc := 23) (i := 2) (k0 := 2) (by decide +kernel) rfl rfl ?_
    refine ar_iconst (pc := 24) (z := 1) (by decide +kernel) (by unfold am_i32; omega) ?_
    refine ar_icmp_ne (pc := 25) (x := v2) (y := 1) (tgt := 38) (off := 13) (by decide +kernel) (by decide) (fun c4 => ?_) (fun c4 => ?_)
    · replace H := H.1 c4
      refine ar_iload_n (pc := 38) (i := 2) (k0 := 2) (by decide +kernel) rfl rfl ?_
      refine ar_iconst (pc := 39) (z := 2) (by decide +kernel) (by unfold am_i32; omega) ?_
      refine ar_icmp_ne (pc := 40) (x := v2) (y := 2) (tgt := 54) (off := 14) (by decide +kernel) (by decide) (fun c5 => ?_) (fun c5 => ?_)
      · replace H := H.1 c5
        refine ar_iload_n (pc := 54) (i := 3) (k0 := 3) (by decide +kernel) rfl rfl ?_
        refine ar_sipush (pc := 55) (z := 256) (by decide +kernel) (by omega) ?_
        refine ar_irem (pc := 58) (x := (h 295 (am_w32 (2134 + v1)))) (y := 256) (by decide +kernel) (by decide) ?_
        exact ar_iret (pc := 59) (x := (am_w32 ((h 295 (am_w32 (2134 + v1))).tmod 256))) (by decide +kernel) rfl rfl H
      · replace H := H.2 c5
        refine ar_iload_n (pc := 43) (i := 3) (k0 := 3) (by decide +kernel) rfl rfl ?_
        refine ar_sipush (pc := 44) (z := 256) (by decide +kernel) (by omega) ?_
        refine ar_idiv (pc := 47) (x := (h 295 (am_w32 (2134 + v1)))) (y := 256) (by decide +kernel) (by decide) ?_
        refine ar_bipush (pc := 48) (z := 41) (by decide +kernel) (by omega) ?_
        refine ar_irem (pc := 50) (x := (am_w32 ((h 295 (am_w32 (2134 + v1))).tdiv 256))) (y := 41) (by decide +kernel) (by decide) ?_
        refine ar_goto (pc := 51) (tgt := 59) (off := 8) (by decide +kernel) (by decide) ?_
        exact ar_iret (pc := 59) (x := (am_w32 ((am_w32 ((h 295 (am_w32 (2134 + v1))).tdiv 256)).tmod 41))) (by decide +kernel) rfl rfl H
    · replace H := H.2 c4
      refine ar_iload_n (pc := 28) (i := 3) (k0 := 3) (by decide +kernel) rfl rfl ?_
      refine ar_sipush (pc := 29) (z := 10496) (by decide +kernel) (by omega) ?_
      refine ar_idiv (pc := 32) (x := (h 295 (am_w32 (2134 + v1)))) (y := 10496) (by decide +kernel) (by decide) ?_
      refine ar_iconst (pc := 33) (z := 4) (by decide +kernel) (by unfold am_i32; omega) ?_
      refine ar_irem (pc := 34) (x := (am_w32 ((h 295 (am_w32 (2134 + v1))).tdiv 10496))) (y := 4) (by decide +kernel) (by decide) ?_
      refine ar_goto (pc := 35) (tgt := 59) (off := 24) (by decide +kernel) (by decide) ?_
      exact ar_iret (pc := 59) (x := (am_w32 ((am_w32 ((h 295 (am_w32 (2134 + v1))).tdiv 10496)).tmod 4))) (by decide +kernel) rfl rfl H
  · replace H := H.2 c3
    refine ar_iload_n (pc := 15) (i := 3) (k0 := 3) (by decide +kernel) rfl rfl ?_
    refine ar_ldcw (pc := 16) (z := 41984) (by decide +kernel) wk_RX7_511 (by unfold am_i32; omega) ?_
    refine ar_idiv (pc := 19) (x := (h 295 (am_w32 (2134 + v1)))) (y := 41984) (by decide +kernel) (by decide) ?_
    refine ar_goto (pc := 20) (tgt := 59) (off := 39) (by decide +kernel) (by decide) ?_
    exact ar_iret (pc := 59) (x := (am_w32 ((h 295 (am_w32 (2134 + v1))).tdiv 41984))) (by decide +kernel) rfl rfl H

/-! ByteIntervalsModel.book(II)I -/
theorem B_X7_book_0 {d : Nat} {Q : Int → am_H → Prop} {h : am_H} {v1 v2 : Int} (H : (¬ v1 = (-1) → cf d M_X7_isIn [.inl v1, .inl 0, .inl (am_w32 ((h 295 7) - 1))] h (fun r2 h3 => (r2 = 0 → Q (-2) h3) ∧ (¬ r2 = 0 → cf d M_X7_isIn [.inl v2, .inl 0, .inl 3] h3 (fun r5 h6 => (r5 = 0 → Q (-2) h6) ∧ (¬ r5 = 0 → cf d M_X7_lineOf [.inr (.inr 294), .inl v1, .inl v2] h6 (fun r8 h9 => Q r8 h9)))))) ∧ (v1 = (-1) → Q (h 295 7) h)) : wf (d + 1) M_X7_book Q 0 [some (.inr (.inr 294)), some (.inl v1), some (.inl v2)] [] h := by
  intro h0
  refine ar_iload_n (pc := 0) (i := 1) (k0 := 1) (by decide +kernel) rfl rfl ?_
  refine ar_iconst (pc := 1) (z := (-1)) (by decide +kernel) (by unfold am_i32; omega) ?_
  refine ar_icmp_ne (pc := 2) (x := v1) (y := (-1)) (tgt := 13) (off := 11) (by decide +kernel) (by decide) (fun c1 => ?_) (fun c1 => ?_)
  · replace H := H.1 c1
    refine ar_iload_n (pc := 13) (i := 1) (k0 := 1) (by decide +kernel) rfl rfl ?_
    refine ar_iconst (pc := 14) (z := 0) (by decide +kernel) (by unfold am_i32; omega) ?_
    refine ar_aload_n (pc := 15) (i := 0) (k0 := 0) (by decide +kernel) rfl rfl ?_
    refine ar_getFV (pc := 16) (a := 294) (b := 295) 7 0 (by decide +kernel) k_294 rfl (by decide) wf_RX7_7 rfl (fun _ => rfl) rfl ?_
    refine ar_bipush (pc := 19) (z := 7) (by decide +kernel) (by omega) ?_
    refine ar_iald (pc := 21) (a := 295) (i := 7) (by decide +kernel) k_295 (by decide) (am_lt_eq (b := 2159) (by decide) (l_295).symm) ?_
    refine ar_iconst (pc := 22) (z := 1) (by decide +kernel) (by unfold am_i32; omega) ?_
    refine ar_isub (pc := 23) (x := (h 295 7)) (y := 1) (by decide +kernel) ?_
    refine ar_callS (pc := 24) (M2 := M_X7_isIn) (as := [.inl v1, .inl 0, .inl (am_w32 ((h 295 7) - 1))]) (n2 := 321) (st := []) (by decide +kernel) rfl wm_RX7_108 ws_yX7_isIn wz_RX7 wc_yX7_isIn ⟨by decide, by decide, rfl⟩ (by decide) (Nat.le_of_ble_eq_true rfl) (Nat.le_refl _) (Nat.le_refl _) (am_Cl_mono H (fun r2 h3 H => ?_))
    show am_Wp true (d + 1) M_X7_book 321 321 h0 Q 27 [some (.inr (.inr 294)), some (.inl v1), some (.inl v2)] [.inl r2] 321 h3
    refine ar_if_eq (pc := 27) (x := r2) (tgt := 48) (off := 21) (by decide +kernel) (by decide) (fun c4 => ?_) (fun c4 => ?_)
    · replace H := H.1 c4
      refine ar_bipush (pc := 48) (z := (-2)) (by decide +kernel) (by omega) ?_
      exact ar_iret (pc := 50) (x := (-2)) (by decide +kernel) rfl rfl H
    · replace H := H.2 c4
      refine ar_iload_n (pc := 30) (i := 2) (k0 := 2) (by decide +kernel) rfl rfl ?_
      refine ar_iconst (pc := 31) (z := 0) (by decide +kernel) (by unfold am_i32; omega) ?_
      refine ar_iconst (pc := 32) (z := 3) (by decide +kernel) (by unfold am_i32; omega) ?_
      refine ar_callS (pc := 33) (M2 := M_X7_isIn) (as := [.inl v2, .inl 0, .inl 3]) (n2 := 321) (st := []) (by decide +kernel) rfl wm_RX7_108 ws_yX7_isIn wz_RX7 wc_yX7_isIn ⟨by decide, by decide, rfl⟩ (by decide) (Nat.le_of_ble_eq_true rfl) (Nat.le_refl _) (Nat.le_refl _) (am_Cl_mono H (fun r5 h6 H => ?_))
      show am_Wp true (d + 1) M_X7_book 321 321 h0 Q 36 [some (.inr (.inr 294)), some (.inl v1), some (.inl v2)] [.inl r5] 321 h6
      refine ar_if_eq (pc := 36) (x := r5) (tgt := 48) (off := 12) (by decide +kernel) (by decide) (fun c7 => ?_) (fun c7 => ?_)
      · replace H := H.1 c7
        refine ar_bipush (pc := 48) (z := (-2)) (by decide +kernel) (by omega) ?_
        exact ar_iret (pc := 50) (x := (-2)) (by decide +kernel) rfl rfl H
      · replace H := H.2 c7
        refine ar_aload_n (pc := 39) (i := 0) (k0 := 0) (by decide +kernel) rfl rfl ?_
        refine ar_iload_n (pc := 40) (i := 1) (k0 := 1) (by decide +kernel) rfl rfl ?_
        refine ar_iload_n (pc := 41) (i := 2) (k0 := 2) (by decide +kernel) rfl rfl ?_
        refine ar_callV (pc := 42) (M2 := M_X7_lineOf) (a := 294) (ci := 7) (as := [.inl v1, .inl v2]) (n2 := 321) (st := []) (by decide +kernel) rfl wm_RX7_512 wi_yX7_lineOf wl_yX7_lineOf k_294 rfl wz_RX7 wc_yX7_lineOf ⟨by decide, by decide, rfl⟩ (by decide) (Nat.le_of_ble_eq_true rfl) (Nat.le_refl _) (Nat.le_refl _) (am_Cl_mono H (fun r8 h9 H => ?_))
        show am_Wp true (d + 1) M_X7_book 321 321 h0 Q 45 [some (.inr (.inr 294)), some (.inl v1), some (.inl v2)] [.inl r8] 321 h9
        refine ar_goto (pc := 45) (tgt := 50) (off := 5) (by decide +kernel) (by decide) ?_
        exact ar_iret (pc := 50) (x := r8) (by decide +kernel) rfl rfl H
  · replace H := H.2 c1
    refine ar_aload_n (pc := 5) (i := 0) (k0 := 0) (by decide +kernel) rfl rfl ?_
    refine ar_getFV (pc := 6) (a := 294) (b := 295) 7 0 (by decide +kernel) k_294 rfl (by decide) wf_RX7_7 rfl (fun _ => rfl) rfl ?_
    refine ar_bipush (pc := 9) (z := 7) (by decide +kernel) (by omega) ?_
    refine ar_iald (pc := 11) (a := 295) (i := 7) (by decide +kernel) k_295 (by decide) (am_lt_eq (b := 2159) (by decide) (l_295).symm) ?_
    exact ar_iret (pc := 12) (x := (h 295 7)) (by decide +kernel) rfl rfl H

/-! ByteIntervalsModel.ledger(I)I -/
theorem B_X7_ledger_0 {d : Nat} {Q : Int → am_H → Prop} {h : am_H} {v1 : Int} (H : cf d M_X7_isIn [.inl v1, .inl 0, .inl 3] h (fun r1 h2 => (¬ r1 = 0 → wf (d + 1) M_X7_ledger Q 16 [some (.inr (.inr 294)), some (.inl v1), some (.inl 0), some (.inl 0)] [] h2) ∧ (r1 = 0 → Q (-2) h2))) : wf (d + 1) M_X7_ledger Q 0 [some (.inr (.inr 294)), some (.inl v1), none, none] [] h := by
  intro h0
  refine ar_iload_n (pc := 0) (i := 1) (k0 := 1) (by decide +kernel) rfl rfl ?_
  refine ar_iconst (pc := 1) (z := 0) (by decide +kernel) (by unfold am_i32; omega) ?_
  refine ar_iconst (pc := 2) (z := 3) (by decide +kernel) (by unfold am_i32; omega) ?_
  refine ar_callS (pc := 3) (M2 := M_X7_isIn) (as := [.inl v1, .inl 0, .inl 3]) (n2 := 321) (st := []) (by decide +kernel) rfl wm_RX7_108 ws_yX7_isIn wz_RX7 wc_yX7_isIn ⟨by decide, by decide, rfl⟩ (by decide) (Nat.le_of_ble_eq_true rfl) (Nat.le_refl _) (Nat.le_refl _) (am_Cl_mono H (fun r1 h2 H => ?_))
  show am_Wp true (d + 1) M_X7_ledger 321 321 h0 Q 6 [some (.inr (.inr 294)), some (.inl v1), none, none] [.inl r1] 321 h2
  refine ar_if_ne (pc := 6) (x := r1) (tgt := 12) (off := 6) (by decide +kernel) (by decide) (fun c3 => ?_) (fun c3 => ?_)
  · replace H := H.1 c3
    refine ar_iconst (pc := 12) (z := 0) (by decide +kernel) (by unfold am_i32; omega) ?_
    refine ar_istore_n (pc := 13) (i := 2) (k0 := 2) (ls2 := [some (.inr (.inr 294)), some (.inl v1), some (.inl 0), none]) (by decide +kernel) rfl (by decide) rfl ?_
    refine ar_iconst (pc := 14) (z := 0) (by decide +kernel) (by unfold am_i32; omega) ?_
    refine ar_istore_n (pc := 15) (i := 3) (k0 := 3) (ls2 := [some (.inr (.inr 294)), some (.inl v1), some (.inl 0), some (.inl 0)]) (by decide +kernel) rfl (by decide) rfl ?_
    exact H h0
  · replace H := H.2 c3
    refine ar_bipush (pc := 9) (z := (-2)) (by decide +kernel) (by omega) ?_
    exact ar_iret (pc := 11) (x := (-2)) (by decide +kernel) rfl rfl H
theorem B_X7_ledger_16 {d : Nat} {Q : Int → am_H → Prop} {h : am_H} {v1 v2 v3 : Int} (H : ((h 295 7) ≤ v3 → Q v2 h) ∧ (v3 < (h 295 7) → cf d M_X7_lineOf [.inr (.inr 294), .inl v3, .inl 1] h (fun r2 h3 => (¬ r2 = v1 → wf (d + 1) M_X7_ledger Q 43 [some (.inr (.inr 294)), some (.inl v1), none, some (.inl v3)] [.inl 0, .inl v2] h3) ∧ (r2 = v1 → wf (d + 1) M_X7_ledger Q 43 [some (.inr (.inr 294)), some (.inl v1), none, some (.inl v3)] [.inl 1, .inl v2] h3)))) : wf (d + 1) M_X7_ledger Q 16 [some (.inr (.inr 294)), some (.inl v1), some (.inl v2), some (.inl v3)] [] h := by
  intro h0
  refine ar_iload_n (pc := 16) (i := 3) (k0 := 3) (by decide +kernel) rfl rfl ?_
  refine ar_aload_n (pc := 17) (i := 0) (k0 := 0) (by decide +kernel) rfl rfl ?_
  refine ar_getFV (pc := 18) (a := 294) (b := 295) 7 0 (by decide +kernel) k_294 rfl (by decide) wf_RX7_7 rfl (fun _ => rfl) rfl ?_
  refine ar_bipush (pc := 21) (z := 7) (by decide +kernel) (by omega) ?_
  refine ar_iald (pc := 23) (a := 295) (i := 7) (by decide +kernel) k_295 (by decide) (am_lt_eq (b := 2159) (by decide) (l_295).symm) ?_
  refine ar_icmp_ge (pc := 24) (x := v3) (y := (h 295 7)) (tgt := 51) (off := 27) (by decide +kernel) (by decide) (fun c1 => ?_) (fun c1 => ?_)
  · replace H := H.1 c1
    refine ar_iload_n (pc := 51) (i := 2) (k0 := 2) (by decide +kernel) rfl rfl ?_
    exact ar_iret (pc := 52) (x := v2) (by decide +kernel) rfl rfl H
  · replace H := H.2 c1
    refine ar_iload_n (pc := 27) (i := 2) (k0 := 2) (by decide +kernel) rfl rfl ?_
    refine ar_aload_n (pc := 28) (i := 0) (k0 := 0) (by decide +kernel) rfl rfl ?_
    refine ar_iload_n (pc := 29) (i := 3) (k0 := 3) (by decide +kernel) rfl rfl ?_
    refine ar_iconst (pc := 30) (z := 1) (by decide +kernel) (by unfold am_i32; omega) ?_
    refine ar_callV (pc := 31) (M2 := M_X7_lineOf) (a := 294) (ci := 7) (as := [.inl v3, .inl 1]) (n2 := 321) (st := [.inl v2]) (by decide +kernel) rfl wm_RX7_512 wi_yX7_lineOf wl_yX7_lineOf k_294 rfl wz_RX7 wc_yX7_lineOf ⟨by decide, by decide, rfl⟩ (by decide) (Nat.le_of_ble_eq_true rfl) (Nat.le_refl _) (Nat.le_refl _) (am_Cl_mono H (fun r2 h3 H => ?_))
    show am_Wp true (d + 1) M_X7_ledger 321 321 h0 Q 34 [some (.inr (.inr 294)), some (.inl v1), some (.inl v2), some (.inl v3)] [.inl r2, .inl v2] 321 h3
    refine ar_iload_n (pc := 34) (i := 1) (k0 := 1) (by decide +kernel) rfl rfl ?_
    refine ar_icmp_ne (pc := 35) (x := r2) (y := v1) (tgt := 42) (off := 7) (by decide +kernel) (by decide) (fun c4 => ?_) (fun c4 => ?_)
    · replace H := H.1 c4
      refine ar_iconst (pc := 42) (z := 0) (by decide +kernel) (by unfold am_i32; omega) ?_
      refine ar_forget [true, true, false, true] rfl ?_
      exact H h0
    · replace H := H.2 c4
      refine ar_iconst (pc := 38) (z := 1) (by decide +kernel) (by unfold am_i32; omega) ?_
      refine ar_goto (pc := 39) (tgt := 43) (off := 4) (by decide +kernel) (by decide) ?_
      refine ar_forget [true, true, false, true] rfl ?_
      exact H h0
theorem B_X7_ledger_43 {d : Nat} {Q : Int → am_H → Prop} {h : am_H} {v1 v3 s0 s1 : Int} (H : wf (d + 1) M_X7_ledger Q 16 [some (.inr (.inr 294)), some (.inl v1), some (.inl (am_w32 (s0 + s1))), some (.inl (am_w32 (v3 + 1)))] [] h) : wf (d + 1) M_X7_ledger Q 43 [some (.inr (.inr 294)), some (.inl v1), none, some (.inl v3)] [.inl s1, .inl s0] h := by
  intro h0
  refine ar_iadd (pc := 43) (x := s0) (y := s1) (by decide +kernel) ?_
  refine ar_istore_n (pc := 44) (i := 2) (k0 := 2) (ls2 := [some (.inr (.inr 294)), some (.inl v1), some (.inl (am_w32 (s0 + s1))), some (.inl v3)]) (by decide +kernel) rfl (by decide) rfl ?_
  refine ar_iinc (pc := 45) (i := 3) (z := 1) (x := v3) (ls2 := [some (.inr (.inr 294)), some (.inl v1), some (.inl (am_w32 (s0 + s1))), some (.inl (am_w32 (v3 + 1)))]) (by decide +kernel) rfl (by decide) rfl ?_
  refine ar_goto (pc := 48) (tgt := 16) (off := -32) (by decide +kernel) (by decide) ?_
  exact H h0

/-! ByteIntervalsModel.foretold(II)I -/
theorem B_X7_foretold_0 {d : Nat} {Q : Int → am_H → Prop} {h : am_H} {v1 v2 : Int} (H : cf d M_X7_isIn [.inl v1, .inl 1, .inl 60] h (fun r1 h2 => (r1 = 0 → Q (-1) h2) ∧ (¬ r1 = 0 → cf d M_X7_isIn [.inl v2, .inl 0, .inl 39] h2 (fun r4 h5 => (¬ r4 = 0 → wf (d + 1) M_X7_foretold Q 24 [some (.inr (.inr 294)), some (.inl v1), some (.inl v2), some (.inl 0), none] [] h5) ∧ (r4 = 0 → Q (-1) h5))))) : wf (d + 1) M_X7_foretold Q 0 [some (.inr (.inr 294)), some (.inl v1), some (.inl v2), none, none] [] h := by
  intro h0
  refine ar_iload_n (pc := 0) (i := 1) (k0 := 1) (by decide +kernel) rfl rfl ?_
  refine ar_iconst (pc := 1) (z := 1) (by decide +kernel) (by unfold am_i32; omega) ?_
  refine ar_bipush (pc := 2) (z := 60) (by decide +kernel) (by omega) ?_
  refine ar_callS (pc := 4) (M2 := M_X7_isIn) (as := [.inl v1, .inl 1, .inl 60]) (n2 := 321) (st := []) (by decide +kernel) rfl wm_RX7_108 ws_yX7_isIn wz_RX7 wc_yX7_isIn ⟨by decide, by decide, rfl⟩ (by decide) (Nat.le_of_ble_eq_true rfl) (Nat.le_refl _) (Nat.le_refl _) (am_Cl_mono H (fun r1 h2 H => ?_))
  show am_Wp true (d + 1) M_X7_foretold 321 321 h0 Q 7 [some (.inr (.inr 294)), some (.inl v1), some (.inl v2), none, none] [.inl r1] 321 h2
  refine ar_if_eq (pc := 7) (x := r1) (tgt := 20) (off := 13) (by decide +kernel) (by decide) (fun c3 => ?_) (fun c3 => ?_)
  · replace H := H.1 c3
    refine ar_iconst (pc := 20) (z := (-1)) (by decide +kernel) (by unfold am_i32; omega) ?_
    exact ar_iret (pc := 21) (x := (-1)) (by decide +kernel) rfl rfl H
  · replace H := H.2 c3
    refine ar_iload_n (pc := 10) (i := 2) (k0 := 2) (by decide +kernel) rfl rfl ?_
    refine ar_iconst (pc := 11) (z := 0) (by decide +kernel) (by unfold am_i32; omega) ?_
    refine ar_bipush (pc := 12) (z := 39) (by decide +kernel) (by omega) ?_
    refine ar_callS (pc := 14) (M2 := M_X7_isIn) (as := [.inl v2, .inl 0, .inl 39]) (n2 := 321) (st := []) (by decide +kernel) rfl wm_RX7_108 ws_yX7_isIn wz_RX7 wc_yX7_isIn ⟨by decide, by decide, rfl⟩ (by decide) (Nat.le_of_ble_eq_true rfl) (Nat.le_refl _) (Nat.le_refl _) (am_Cl_mono H (fun r4 h5 H => ?_))
    show am_Wp true (d + 1) M_X7_foretold 321 321 h0 Q 17 [some (.inr (.inr 294)), some (.inl v1), some (.inl v2), none, none] [.inl r4] 321 h5
    refine ar_if_ne (pc := 17) (x := r4) (tgt := 22) (off := 5) (by decide +kernel) (by decide) (fun c6 => ?_) (fun c6 => ?_)
    · replace H := H.1 c6
      refine ar_iconst (pc := 22) (z := 0) (by decide +kernel) (by unfold am_i32; omega) ?_
      refine ar_istore_n (pc := 23) (i := 3) (k0 := 3) (ls2 := [some (.inr (.inr 294)), some (.inl v1), some (.inl v2), some (.inl 0), none]) (by decide +kernel) rfl (by decide) rfl ?_
      exact H h0
    · replace H := H.2 c6
      refine ar_iconst (pc := 20) (z := (-1)) (by decide +kernel) (by unfold am_i32; omega) ?_
      exact ar_iret (pc := 21) (x := (-1)) (by decide +kernel) rfl rfl H
theorem B_X7_foretold_24 {d : Nat} {Q : Int → am_H → Prop} {h : am_H} {v1 v2 v3 : Int} (H : (44 ≤ v3 → wf (d + 1) M_X7_foretold Q 57 [some (.inr (.inr 294)), some (.inl v1), some (.inl v2), some (.inl 0), none] [] (am_up h 294 50 0)) ∧ (v3 < 44 → (0 ≤ (am_w32 (4 + v3))) ∧ (((am_w32 (4 + v3)) < 2159) ∧ ((0 ≤ v3) ∧ (wf (d + 1) M_X7_foretold Q 24 [some (.inr (.inr 294)), some (.inl v1), some (.inl v2), some (.inl (am_w32 (v3 + 1))), none] [] (am_up h 319 v3 (h 295 (am_w32 (4 + v3))))))))) : wf (d + 1) M_X7_foretold Q 24 [some (.inr (.inr 294)), some (.inl v1), some (.inl v2), some (.inl v3), none] [] h := by
  intro h0
  refine ar_iload_n (pc := 24) (i := 3) (k0 := 3) (by decide +kernel) rfl rfl ?_
  refine ar_bipush (pc := 25) (z := 44) (by decide +kernel) (by omega) ?_
  refine ar_icmp_ge (pc := 27) (x := v3) (y := 44) (tgt := 50) (off := 23) (by decide +kernel) (by decide) (fun c1 => ?_) (fun c1 => ?_)
  · replace H := H.1 c1
    refine ar_aload_n (pc := 50) (i := 0) (k0 := 0) (by decide +kernel) rfl rfl ?_
    refine ar_iconst (pc := 51) (z := 0) (by decide +kernel) (by unfold am_i32; omega) ?_
    refine ar_putZ (pc := 52) (a := 294) (z := 0) 7 50 (by decide +kernel) k_294 rfl (by decide) rfl (fun _ => rfl) rfl (by decide) wf_RX7_91 ?_
    refine ar_iconst (pc := 55) (z := 0) (by decide +kernel) (by unfold am_i32; omega) ?_
    refine ar_istore_n (pc := 56) (i := 3) (k0 := 3) (ls2 := [some (.inr (.inr 294)), some (.inl v1), some (.inl v2), some (.inl 0), none]) (by decide +kernel) rfl (by decide) rfl ?_
    exact H h0
  · replace H := H.2 c1
    refine ar_aload_n (pc := 30) (i := 0) (k0 := 0) (by decide +kernel) rfl rfl ?_
    refine ar_getFV (pc := 31) (a := 294) (b := 319) 7 52 (by decide +kernel) k_294 rfl (by decide) wf_RX7_95 rfl (fun _ => rfl) rfl ?_
    refine ar_iload_n (pc := 34) (i := 3) (k0 := 3) (by decide +kernel) rfl rfl ?_
    refine ar_aload_n (pc := 35) (i := 0) (k0 := 0) (by decide +kernel) rfl rfl ?_
    refine ar_getFV (pc := 36) (a := 294) (b := 295) 7 0 (by decide +kernel) k_294 rfl (by decide) wf_RX7_7 rfl (fun _ => rfl) rfl ?_
    refine ar_iconst (pc := 39) (z := 4) (by decide +kernel) (by unfold am_i32; omega) ?_
    refine ar_iload_n (pc := 40) (i := 3) (k0 := 3) (by decide +kernel) rfl rfl ?_
    refine ar_iadd (pc := 41) (x := 4) (y := v3) (by decide +kernel) ?_
    obtain ⟨g2, H⟩ := H
    obtain ⟨g3, H⟩ := H
    refine ar_iald (pc := 42) (a := 295) (i := (am_w32 (4 + v3))) (by decide +kernel) k_295 g2 (am_lt_eq g3 (l_295).symm) ?_
    obtain ⟨g4, H⟩ := H
    refine ar_iast (pc := 43) (a := 319) (i := v3) (z := (h 295 (am_w32 (4 + v3)))) (by decide +kernel) k_319 g4 (am_lt_eq c1 (l_319).symm) ?_
    refine ar_iinc (pc := 44) (i := 3) (z := 1) (x := v3) (ls2 := [some (.inr (.inr 294)), some (.inl v1), some (.inl v2), some (.inl (am_w32 (v3 + 1))), none]) (by decide +kernel) rfl (by decide) rfl ?_
    refine ar_goto (pc := 47) (tgt := 24) (off := -23) (by decide +kernel) (by decide) ?_
    exact H h0
theorem B_X7_foretold_57 {d : Nat} {Q : Int → am_H → Prop} {h : am_H} {v1 v2 v3 : Int} (H : (v1 ≤ v3 → (0 ≤ (am_w32 (8 + v2))) ∧ (((am_w32 (8 + v2)) < 2159) ∧ (wf (d + 1) M_X7_foretold Q 97 [some (.inr (.inr 294)), none, none, some (.inl (h 295 (am_w32 (8 + v2)))), some (.inl 0)] [] h))) ∧ (v3 < v1 → (9999 ≤ (h 295 4) → wf (d + 1) M_X7_foretold Q 78 [some (.inr (.inr 294)), some (.inl v1), some (.inl v2), some (.inl v3), none] [] h) ∧ ((h 295 4) < 9999 → cf d M_X7_pass [.inr (.inr 294)] h (fun _ h6 => wf (d + 1) M_X7_foretold Q 78 [some (.inr (.inr 294)), some (.inl v1), some (.inl v2), some (.inl v3), none] [] h6)))) : wf (d + 1) M_X7_foretold Q 57 [some (.inr (.inr 294)), some (.inl v1), some (.inl v2), some (.inl v3), none] [] h := by
  intro h0
  refine ar_iload_n (pc := 57) (i := 3) (k0 := 3) (by decide +kernel) rfl rfl ?_
  refine ar_iload_n (pc := 58) (i := 1) (k0 := 1) (by decide +kernel) rfl rfl ?_
  refine ar_icmp_ge (pc := 59) (x := v3) (y := v1) (tgt := 84) (off := 25) (by decide +kernel) (by decide) (fun c1 => ?_) (fun c1 => ?_)
  · replace H := H.1 c1
    refine ar_aload_n (pc := 84) (i := 0) (k0 := 0) (by decide +kernel) rfl rfl ?_
    refine ar_getFV (pc := 85) (a := 294) (b := 295) 7 0 (by decide +kernel) k_294 rfl (by decide) wf_RX7_7 rfl (fun _ => rfl) rfl ?_
    refine ar_bipush (pc := 88) (z := 8) (by decide +kernel) (by omega) ?_
    refine ar_iload_n (pc := 90) (i := 2) (k0 := 2) (by decide +kernel) rfl rfl ?_
    refine ar_iadd (pc := 91) (x := 8) (y := v2) (by decide +kernel) ?_
    obtain ⟨g2, H⟩ := H
    obtain ⟨g3, H⟩ := H
    refine ar_iald (pc := 92) (a := 295) (i := (am_w32 (8 + v2))) (by decide +kernel) k_295 g2 (am_lt_eq g3 (l_295).symm) ?_
    refine ar_istore_n (pc := 93) (i := 3) (k0 := 3) (ls2 := [some (.inr (.inr 294)), some (.inl v1), some (.inl v2), some (.inl (h 295 (am_w32 (8 + v2)))), none]) (by decide +kernel) rfl (by decide) rfl ?_
    refine ar_iconst (pc := 94) (z := 0) (by decide +kernel) (by unfold am_i32; omega) ?_
    refine ar_istore (pc := 95) (i := 4) (ls2 := [some (.inr (.inr 294)), some (.inl v1), some (.inl v2), some (.inl (h 295 (am_w32 (8 + v2)))), some (.inl 0)]) (by decide +kernel) (by decide) rfl ?_
    refine ar_forget [true, false, false, true, true] rfl ?_
    exact H h0
  · replace H := H.2 c1
    refine ar_aload_n (pc := 62) (i := 0) (k0 := 0) (by decide +kernel) rfl rfl ?_
    refine ar_getFV (pc := 63) (a := 294) (b := 295) 7 0 (by decide +kernel) k_294 rfl (by decide) wf_RX7_7 rfl (fun _ => rfl) rfl ?_
    refine ar_iconst (pc := 66) (z := 4) (by decide +kernel) (by unfold am_i32; omega) ?_
    refine ar_iald (pc := 67) (a := 295) (i := 4) (by decide +kernel) k_295 (by decide) (am_lt_eq (b := 2159) (by decide) (l_295).symm) ?_
    refine ar_sipush (pc := 68) (z := 9999) (by decide +kernel) (by omega) ?_
    refine ar_icmp_ge (pc := 71) (x := (h 295 4)) (y := 9999) (tgt := 78) (off := 7) (by decide +kernel) (by decide) (fun c4 => ?_) (fun c4 => ?_)
    · replace H := H.1 c4
      exact H h0
    · replace H := H.2 c4
      refine ar_aload_n (pc := 74) (i := 0) (k0 := 0) (by decide +kernel) rfl rfl ?_
      refine ar_callV (pc := 75) (M2 := M_X7_pass) (a := 294) (ci := 7) (as := []) (n2 := 321) (st := []) (by decide +kernel) rfl wm_RX7_487 wi_yX7_pass wl_yX7_pass k_294 rfl wz_RX7 wc_yX7_pass ⟨by decide, by decide, rfl⟩ (by decide) (Nat.le_of_ble_eq_true rfl) (Nat.le_refl _) (Nat.le_refl _) (am_Cl_mono H (fun r5 h6 H => ?_))
      show am_Wp true (d + 1) M_X7_foretold 321 321 h0 Q 78 [some (.inr (.inr 294)), some (.inl v1), some (.inl v2), some (.inl v3), none] [] 321 h6
      exact H h0
theorem B_X7_foretold_78 {d : Nat} {Q : Int → am_H → Prop} {h : am_H} {v1 v2 v3 : Int} (H : wf (d + 1) M_X7_foretold Q 57 [some (.inr (.inr 294)), some (.inl v1), some (.inl v2), some (.inl (am_w32 (v3 + 1))), none] [] h) : wf (d + 1) M_X7_foretold Q 78 [some (.inr (.inr 294)), some (.inl v1), some (.inl v2), some (.inl v3), none] [] h := by
  intro h0
  refine ar_iinc (pc := 78) (i := 3) (z := 1) (x := v3) (ls2 := [some (.inr (.inr 294)), some (.inl v1), some (.inl v2), some (.inl (am_w32 (v3 + 1))), none]) (by decide +kernel) rfl (by decide) rfl ?_
  refine ar_goto (pc := 81) (tgt := 57) (off := -24) (by decide +kernel) (by decide) ?_
  exact H h0
theorem B_X7_foretold_97 {d : Nat} {Q : Int → am_H → Prop} {h : am_H} {v3 v4 : Int} (H : (44 ≤ v4 → Q v3 (am_up h 294 50 1)) ∧ (v4 < 44 → (0 ≤ v4) ∧ ((0 ≤ (am_w32 (4 + v4))) ∧ (((am_w32 (4 + v4)) < 2159) ∧ (wf (d + 1) M_X7_foretold Q 97 [some (.inr (.inr 294)), none, none, some (.inl v3), some (.inl (am_w32 (v4 + 1)))] [] (am_up h 295 (am_w32 (4 + v4)) (h 319 v4))))))) : wf (d + 1) M_X7_foretold Q 97 [some (.inr (.inr 294)), none, none, some (.inl v3), some (.inl v4)] [] h := by
  intro h0
  refine ar_iload (pc := 97) (i := 4) (by decide +kernel) rfl ?_
  refine ar_bipush (pc := 99) (z := 44) (by decide +kernel) (by omega) ?_
  refine ar_icmp_ge (pc := 101) (x := v4) (y := 44) (tgt := 126) (off := 25) (by decide +kernel) (by decide) (fun c1 => ?_) (fun c1 => ?_)
  · replace H := H.1 c1
    refine ar_aload_n (pc := 126) (i := 0) (k0 := 0) (by decide +kernel) rfl rfl ?_
    refine ar_iconst (pc := 127) (z := 1) (by decide +kernel) (by unfold am_i32; omega) ?_
    refine ar_putZ (pc := 128) (a := 294) (z := 1) 7 50 (by decide +kernel) k_294 rfl (by decide) rfl (fun _ => rfl) rfl (by decide) wf_RX7_91 ?_
    refine ar_iload_n (pc := 131) (i := 3) (k0 := 3) (by decide +kernel) rfl rfl ?_
    exact ar_iret (pc := 132) (x := v3) (by decide +kernel) rfl rfl H
  · replace H := H.2 c1
    refine ar_aload_n (pc := 104) (i := 0) (k0 := 0) (by decide +kernel) rfl rfl ?_
    refine ar_getFV (pc := 105) (a := 294) (b := 295) 7 0 (by decide +kernel) k_294 rfl (by decide) wf_RX7_7 rfl (fun _ => rfl) rfl ?_
    refine ar_iconst (pc := 108) (z := 4) (by decide +kernel) (by unfold am_i32; omega) ?_
    refine ar_iload (pc := 109) (i := 4) (by decide +kernel) rfl ?_
    refine ar_iadd (pc := 111) (x := 4) (y := v4) (by decide +kernel) ?_
    refine ar_aload_n (pc := 112) (i := 0) (k0 := 0) (by decide +kernel) rfl rfl ?_
    refine ar_getFV (pc := 113) (a := 294) (b := 319) 7 52 (by decide +kernel) k_294 rfl (by decide) wf_RX7_95 rfl (fun _ => rfl) rfl ?_
    refine ar_iload (pc := 116) (i := 4) (by decide +kernel) rfl ?_
    obtain ⟨g2, H⟩ := H
    refine ar_iald (pc := 118) (a := 319) (i := v4) (by decide +kernel) k_319 g2 (am_lt_eq c1 (l_319).symm) ?_
    obtain ⟨g3, H⟩ := H
    obtain ⟨g4, H⟩ := H
    refine ar_iast (pc := 119) (a := 295) (i := (am_w32 (4 + v4))) (z := (h 319 v4)) (by decide +kernel) k_295 g3 (am_lt_eq g4 (l_295).symm) ?_
    refine ar_iinc (pc := 120) (i := 4) (z := 1) (x := v4) (ls2 := [some (.inr (.inr 294)), none, none, some (.inl v3), some (.inl (am_w32 (v4 + 1)))]) (by decide +kernel) rfl (by decide) rfl ?_
    refine ar_goto (pc := 123) (tgt := 97) (off := -26) (by decide +kernel) (by decide) ?_
    exact H h0

/-! ByteIntervalsModel.valid(I)Z -/
theorem B_X7_valid_0 {d : Nat} {Q : Int → am_H → Prop} {h : am_H} {v1 : Int} (H : cf d M_X7_isText [.inr (.inr 294), .inl v1] h (fun r1 h2 => (¬ r1 = 0 → cf d M_X7_read [.inr (.inr 294), .inl v1] h2 (fun _ h5 => cf d M_X7_isValidNow [.inr (.inr 294)] h5 (fun r6 h7 => (r6 = 0 ∨ r6 = 1) ∧ (Q r6 h7)))) ∧ (r1 = 0 → Q 0 h2))) : wf (d + 1) M_X7_valid Q 0 [some (.inr (.inr 294)), some (.inl v1)] [] h := by
  intro h0
  refine ar_aload_n (pc := 0) (i := 0) (k0 := 0) (by decide +kernel) rfl rfl ?_
  refine ar_iload_n (pc := 1) (i := 1) (k0 := 1) (by decide +kernel) rfl rfl ?_
  refine ar_callV (pc := 2) (M2 := M_X7_isText) (a := 294) (ci := 7) (as := [.inl v1]) (n2 := 321) (st := []) (by decide +kernel) rfl wm_RX7_502 wi_yX7_isText wl_yX7_isText k_294 rfl wz_RX7 wc_yX7_isText ⟨by decide, by decide, rfl⟩ (by decide) (Nat.le_of_ble_eq_true rfl) (Nat.le_refl _) (Nat.le_refl _) (am_Cl_mono H (fun r1 h2 H => ?_))
  show am_Wp true (d + 1) M_X7_valid 321 321 h0 Q 5 [some (.inr (.inr 294)), some (.inl v1)] [.inl r1] 321 h2
  refine ar_if_ne (pc := 5) (x := r1) (tgt := 10) (off := 5) (by decide +kernel) (by decide) (fun c3 => ?_) (fun c3 => ?_)
  · replace H := H.1 c3
    refine ar_aload_n (pc := 10) (i := 0) (k0 := 0) (by decide +kernel) rfl rfl ?_
    refine ar_iload_n (pc := 11) (i := 1) (k0 := 1) (by decide +kernel) rfl rfl ?_
    refine ar_callV (pc := 12) (M2 := M_X7_read) (a := 294) (ci := 7) (as := [.inl v1]) (n2 := 321) (st := []) (by decide +kernel) rfl wm_RX7_515 wi_yX7_read wl_yX7_read k_294 rfl wz_RX7 wc_yX7_read ⟨by decide, by decide, rfl⟩ (by decide) (Nat.le_of_ble_eq_true rfl) (Nat.le_refl _) (Nat.le_refl _) (am_Cl_mono H (fun r4 h5 H => ?_))
    show am_Wp true (d + 1) M_X7_valid 321 321 h0 Q 15 [some (.inr (.inr 294)), some (.inl v1)] [] 321 h5
    refine ar_aload_n (pc := 15) (i := 0) (k0 := 0) (by decide +kernel) rfl rfl ?_
    refine ar_callV (pc := 16) (M2 := M_X7_isValidNow) (a := 294) (ci := 7) (as := []) (n2 := 321) (st := []) (by decide +kernel) rfl wm_RX7_518 wi_yX7_isValidNow wl_yX7_isValidNow k_294 rfl wz_RX7 wc_yX7_isValidNow ⟨by decide, by decide, rfl⟩ (by decide) (Nat.le_of_ble_eq_true rfl) (Nat.le_refl _) (Nat.le_refl _) (am_Cl_mono H (fun r6 h7 H => ?_))
    show am_Wp true (d + 1) M_X7_valid 321 321 h0 Q 19 [some (.inr (.inr 294)), some (.inl v1)] [.inl r6] 321 h7
    obtain ⟨g8, H⟩ := H
    exact ar_zret (pc := 19) (x := r6) (by decide +kernel) rfl rfl g8 H
  · replace H := H.2 c3
    refine ar_iconst (pc := 8) (z := 0) (by decide +kernel) (by unfold am_i32; omega) ?_
    exact ar_zret (pc := 9) (x := 0) (by decide +kernel) rfl rfl (by decide) H

/-! ByteIntervalsModel.toldOf(II)I -/
theorem B_X7_toldOf_0 {d : Nat} {Q : Int → am_H → Prop} {h : am_H} {v1 v2 : Int} (H : (¬ v2 = 3 → (0 ≤ v1) ∧ ((v1 < 24) ∧ ((¬ (h 315 v1) = 3 → (¬ v2 = 0 → (¬ v2 = 1 → Q (h 314 v1) h) ∧ (v2 = 1 → Q (h 313 v1) h)) ∧ (v2 = 0 → Q (h 312 v1) h)) ∧ ((h 315 v1) = 3 → Q (-2) h)))) ∧ (v2 = 3 → (0 ≤ v1) ∧ ((v1 < 24) ∧ (Q (h 315 v1) h)))) : wf d M_X7_toldOf Q 0 [some (.inr (.inr 294)), some (.inl v1), some (.inl v2)] [] h := by
  intro h0
  refine ar_iload_n (pc := 0) (i := 2) (k0 := 2) (by decide +kernel) rfl rfl ?_
  refine ar_iconst (pc := 1) (z := 3) (by decide +kernel) (by unfold am_i32; omega) ?_
  refine ar_icmp_ne (pc := 2) (x := v2) (y := 3) (tgt := 12) (off := 10) (by decide +kernel) (by decide) (fun c1 => ?_) (fun c1 => ?_)
  · replace H := H.1 c1
    refine ar_aload_n (pc := 12) (i := 0) (k0 := 0) (by decide +kernel) rfl rfl ?_
    refine ar_getFV (pc := 13) (a := 294) (b := 315) 7 41 (by decide +kernel) k_294 rfl (by decide) wf_RX7_79 rfl (fun _ => rfl) rfl ?_
    refine ar_iload_n (pc := 16) (i := 1) (k0 := 1) (by decide +kernel) rfl rfl ?_
    obtain ⟨g2, H⟩ := H
    obtain ⟨g3, H⟩ := H
    refine ar_iald (pc := 17) (a := 315) (i := v1) (by decide +kernel) k_315 g2 (am_lt_eq g3 (l_315).symm) ?_
    refine ar_iconst (pc := 18) (z := 3) (by decide +kernel) (by unfold am_i32; omega) ?_
    refine ar_icmp_ne (pc := 19) (x := (h 315 v1)) (y := 3) (tgt := 27) (off := 8) (by decide +kernel) (by decide) (fun c4 => ?_) (fun c4 => ?_)
    · replace H := H.1 c4
      refine ar_iload_n (pc := 27) (i := 2) (k0 := 2) (by decide +kernel) rfl rfl ?_
      refine ar_if_ne (pc := 28) (x := v2) (tgt := 40) (off := 12) (by decide +kernel) (by decide) (fun c5 => ?_) (fun c5 => ?_)
      · replace H := H.1 c5
        refine ar_iload_n (pc := 40) (i := 2) (k0 := 2) (by decide +kernel) rfl rfl ?_
        refine ar_iconst (pc := 41) (z := 1) (by decide +kernel) (by unfold am_i32; omega) ?_
        refine ar_icmp_ne (pc := 42) (x := v2) (y := 1) (tgt := 54) (off := 12) (by decide +kernel) (by decide) (fun c6 => ?_) (fun c6 => ?_)
        · replace H := H.1 c6
          refine ar_aload_n (pc := 54) (i := 0) (k0 := 0) (by decide +kernel) rfl rfl ?_
          refine ar_getFV (pc := 55) (a := 294) (b := 314) 7 40 (by decide +kernel) k_294 rfl (by decide) wf_RX7_76 rfl (fun _ => rfl) rfl ?_
          refine ar_iload_n (pc := 58) (i := 1) (k0 := 1) (by decide +kernel) rfl rfl ?_
          refine ar_iald (pc := 59) (a := 314) (i := v1) (by decide +kernel) k_314 g2 (am_lt_eq g3 (l_314).symm) ?_
          exact ar_iret (pc := 60) (x := (h 314 v1)) (by decide +kernel) rfl rfl H
        · replace H := H.2 c6
          refine ar_aload_n (pc := 45) (i := 0) (k0 := 0) (by decide +kernel) rfl rfl ?_
          refine ar_getFV (pc := 46) (a := 294) (b := 313) 7 39 (by decide +kernel) k_294 rfl (by decide) wf_RX7_73 rfl (fun _ => rfl) rfl ?_
          refine ar_iload_n (pc := 49) (i := 1) (k0 := 1) (by decide +kernel) rfl rfl ?_
          refine ar_iald (pc := 50) (a := 313) (i := v1) (by decide +kernel) k_313 g2 (am_lt_eq g3 (l_313).symm) ?_
          refine ar_goto (pc := 51) (tgt := 60) (off := 9) (by decide +kernel) (by decide) ?_
          exact ar_iret (pc := 60) (x := (h 313 v1)) (by decide +kernel) rfl rfl H
      · replace H := H.2 c5
        refine ar_aload_n (pc := 31) (i := 0) (k0 := 0) (by decide +kernel) rfl rfl ?_
        refine ar_getFV (pc := 32) (a := 294) (b := 312) 7 38 (by decide +kernel) k_294 rfl (by decide) wf_RX7_70 rfl (fun _ => rfl) rfl ?_
        refine ar_iload_n (pc := 35) (i := 1) (k0 := 1) (by decide +kernel) rfl rfl ?_
        refine ar_iald (pc := 36) (a := 312) (i := v1) (by decide +kernel) k_312 g2 (am_lt_eq g3 (l_312).symm) ?_
        refine ar_goto (pc := 37) (tgt := 60) (off := 23) (by decide +kernel) (by decide) ?_
        exact ar_iret (pc := 60) (x := (h 312 v1)) (by decide +kernel) rfl rfl H
    · replace H := H.2 c4
      refine ar_bipush (pc := 22) (z := (-2)) (by decide +kernel) (by omega) ?_
      refine ar_goto (pc := 24) (tgt := 60) (off := 36) (by decide +kernel) (by decide) ?_
      exact ar_iret (pc := 60) (x := (-2)) (by decide +kernel) rfl rfl H
  · replace H := H.2 c1
    refine ar_aload_n (pc := 5) (i := 0) (k0 := 0) (by decide +kernel) rfl rfl ?_
    refine ar_getFV (pc := 6) (a := 294) (b := 315) 7 41 (by decide +kernel) k_294 rfl (by decide) wf_RX7_79 rfl (fun _ => rfl) rfl ?_
    refine ar_iload_n (pc := 9) (i := 1) (k0 := 1) (by decide +kernel) rfl rfl ?_
    obtain ⟨g7, H⟩ := H
    obtain ⟨g8, H⟩ := H
    refine ar_iald (pc := 10) (a := 315) (i := v1) (by decide +kernel) k_315 g7 (am_lt_eq g8 (l_315).symm) ?_
    exact ar_iret (pc := 11) (x := (h 315 v1)) (by decide +kernel) rfl rfl H

