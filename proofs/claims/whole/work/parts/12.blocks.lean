/-! ByteIntervals$Parser.parse([IILByteIntervals$Text;)I -/
theorem B_X1_parse_0 {d : Nat} {Q : Int → am_H → Prop} {h : am_H} {a1 v2 a3 : Int} (H : cf d M_J9_min_7cf53 [.inl v2, .inl 300] h (fun r1 h2 => cf d M_J9_max_7cf53 [.inl 0, .inl r1] h2 (fun r3 h4 => cf d M_X1_split [.inr (.inr 201), .inr (.inr a1), .inl r3] h4 (fun _ h6 => (am_kd 321 a3 = 15) ∧ (cf d M_X5_clear [.inr (.inr a3)] (am_up (am_up (am_up (am_up (am_up (am_up (am_up h6 201 5 0) 201 4 (h6 202 0)) 201 7 0) 201 9 0) 201 12 0) 201 13 (-1)) 201 6 a3) (fun _ h8 => wf (d + 1) M_X1_parse Q 66 [some (.inr (.inr 201)), none, none, none, some (.inl 0)] [] h8)))))) : wf (d + 1) M_X1_parse Q 0 [some (.inr (.inr 201)), some (.inr (.inr a1)), some (.inl v2), some (.inr (.inr a3)), none] [] h := by
  intro h0
  refine ar_aload_n (pc := 0) (i := 0) (k0 := 0) (by decide +kernel) rfl rfl ?_
  refine ar_aload_n (pc := 1) (i := 1) (k0 := 1) (by decide +kernel) rfl rfl ?_
  refine ar_iconst (pc := 2) (z := 0) (by decide +kernel) (by unfold am_i32; omega) ?_
  refine ar_iload_n (pc := 3) (i := 2) (k0 := 2) (by decide +kernel) rfl rfl ?_
  refine ar_sipush (pc := 4) (z := 300) (by decide +kernel) (by omega) ?_
  refine ar_callS (pc := 7) (M2 := M_J9_min_7cf53) (as := [.inl v2, .inl 300]) (n2 := 321) (st := [.inl 0, .inr (.inr a1), .inr (.inr 201)]) (by decide +kernel) rfl wm_RX1_28 ws_yJ9_min_7cf53 wz_RJ9 wc_yJ9_min_7cf53 ⟨by decide, by decide, rfl⟩ (by decide) (Nat.le_of_ble_eq_true rfl) (Nat.le_refl _) (Nat.le_refl _) (am_Cl_mono H (fun r1 h2 H => ?_))
  show am_Wp true (d + 1) M_X1_parse 321 321 h0 Q 10 [some (.inr (.inr 201)), some (.inr (.inr a1)), some (.inl v2), some (.inr (.inr a3)), none] [.inl r1, .inl 0, .inr (.inr a1), .inr (.inr 201)] 321 h2
  refine ar_callS (pc := 10) (M2 := M_J9_max_7cf53) (as := [.inl 0, .inl r1]) (n2 := 321) (st := [.inr (.inr a1), .inr (.inr 201)]) (by decide +kernel) rfl wm_RX1_34 ws_yJ9_max_7cf53 wz_RJ9 wc_yJ9_max_7cf53 ⟨by decide, by decide, rfl⟩ (by decide) (Nat.le_of_ble_eq_true rfl) (Nat.le_refl _) (Nat.le_refl _) (am_Cl_mono H (fun r3 h4 H => ?_))
  show am_Wp true (d + 1) M_X1_parse 321 321 h0 Q 13 [some (.inr (.inr 201)), some (.inr (.inr a1)), some (.inl v2), some (.inr (.inr a3)), none] [.inl r3, .inr (.inr a1), .inr (.inr 201)] 321 h4
  refine ar_callV (pc := 13) (M2 := M_X1_split) (a := 201) (ci := 1) (as := [.inr (.inr a1), .inl r3]) (n2 := 321) (st := []) (by decide +kernel) rfl wm_RX1_37 wi_yX1_split wl_yX1_split k_201 rfl wz_RX1 wc_yX1_split ⟨by decide, by decide, rfl⟩ (by decide) (Nat.le_of_ble_eq_true rfl) (Nat.le_refl _) (Nat.le_refl _) (am_Cl_mono H (fun r5 h6 H => ?_))
  show am_Wp true (d + 1) M_X1_parse 321 321 h0 Q 16 [some (.inr (.inr 201)), some (.inr (.inr a1)), some (.inl v2), some (.inr (.inr a3)), none] [] 321 h6
  refine ar_aload_n (pc := 16) (i := 0) (k0 := 0) (by decide +kernel) rfl rfl ?_
  refine ar_iconst (pc := 17) (z := 0) (by decide +kernel) (by unfold am_i32; omega) ?_
  refine ar_putI (pc := 18) (a := 201) (z := 0) 1 5 (by decide +kernel) k_201 rfl (by decide) rfl (fun _ => rfl) rfl wf_RX1_41 ?_
  refine ar_aload_n (pc := 21) (i := 0) (k0 := 0) (by decide +kernel) rfl rfl ?_
  refine ar_aload_n (pc := 22) (i := 0) (k0 := 0) (by decide +kernel) rfl rfl ?_
  refine ar_getFV (pc := 23) (a := 201) (b := 202) 1 0 (by decide +kernel) k_201 rfl (by decide) wf_RX1_9 rfl (fun _ => rfl) rfl ?_
  refine ar_iconst (pc := 26) (z := 0) (by decide +kernel) (by unfold am_i32; omega) ?_
  refine ar_ialdV (pc := 27) (a := 202) (i := 0) (v := (h6 202 0)) (by first | rfl | (simp [am_up, am_cp]; done) | (simp [am_up, am_cp] <;> intros <;> omega)) (by decide +kernel) k_202 (by decide) (am_lt_eq (b := 301) (by decide) (l_202).symm) ?_
  refine ar_putI (pc := 28) (a := 201) (z := (h6 202 0)) 1 4 (by decide +kernel) k_201 rfl (by decide) rfl (fun _ => rfl) rfl wf_RX1_45 ?_
  refine ar_aload_n (pc := 31) (i := 0) (k0 := 0) (by decide +kernel) rfl rfl ?_
  refine ar_iconst (pc := 32) (z := 0) (by decide +kernel) (by unfold am_i32; omega) ?_
  refine ar_putI (pc := 33) (a := 201) (z := 0) 1 7 (by decide +kernel) k_201 rfl (by decide) rfl (fun _ => rfl) rfl wf_RX1_48 ?_
  refine ar_aload_n (pc := 36) (i := 0) (k0 := 0) (by decide +kernel) rfl rfl ?_
  refine ar_iconst (pc := 37) (z := 0) (by decide +kernel) (by unfold am_i32; omega) ?_
  refine ar_putI (pc := 38) (a := 201) (z := 0) 1 9 (by decide +kernel) k_201 rfl (by decide) rfl (fun _ => rfl) rfl wf_RX1_51 ?_
  refine ar_aload_n (pc := 41) (i := 0) (k0 := 0) (by decide +kernel) rfl rfl ?_
  refine ar_iconst (pc := 42) (z := 0) (by decide +kernel) (by unfold am_i32; omega) ?_
  refine ar_putI (pc := 43) (a := 201) (z := 0) 1 12 (by decide +kernel) k_201 rfl (by decide) rfl (fun _ => rfl) rfl wf_RX1_54 ?_
  refine ar_aload_n (pc := 46) (i := 0) (k0 := 0) (by decide +kernel) rfl rfl ?_
  refine ar_iconst (pc := 47) (z := (-1)) (by decide +kernel) (by unfold am_i32; omega) ?_
  refine ar_putI (pc := 48) (a := 201) (z := (-1)) 1 13 (by decide +kernel) k_201 rfl (by decide) rfl (fun _ => rfl) rfl wf_RX1_57 ?_
  refine ar_aload_n (pc := 51) (i := 0) (k0 := 0) (by decide +kernel) rfl rfl ?_
  refine ar_aload_n (pc := 52) (i := 3) (k0 := 3) (by decide +kernel) rfl rfl ?_
  refine ar_putA (pc := 53) (a := 201) (z := a3) 1 6 (by decide +kernel) k_201 rfl (by decide) (Or.inl ⟨_, rfl⟩) (fun _ => rfl) rfl wf_RX1_24 ?_
  refine ar_aload_n (pc := 56) (i := 0) (k0 := 0) (by decide +kernel) rfl rfl ?_
  refine ar_getV (pc := 57) (a := 201) (v := .inr (.inr a3)) 1 6 (by decide +kernel) k_201 rfl (by decide) wf_RX1_24 (by first | rfl | (simp [am_tv, am_ty, tyX1, am_up, am_cp]; done) | (simp [am_tv, am_ty, tyX1, am_up, am_cp] <;> intros <;> omega)) ?_
  obtain ⟨g9, H⟩ := H
  refine ar_callVN (pc := 60) (M2 := M_X5_clear) (a := a3) (ci := 5) (as := []) (n2 := 321) (st := []) (by decide +kernel) rfl wn_RX1_60 wi_yX5_clear wl_yX5_clear g9 rfl wz_RX5 wc_yX5_clear ⟨by decide, by decide, rfl⟩ (by decide) (Nat.le_of_ble_eq_true rfl) (Nat.le_refl _) (Nat.le_refl _) (am_Cl_mono H (fun r7 h8 H => ?_))
  show am_Wp true (d + 1) M_X1_parse 321 321 h0 Q 63 [some (.inr (.inr 201)), some (.inr (.inr a1)), some (.inl v2), some (.inr (.inr a3)), none] [] 321 h8
  refine ar_iconst (pc := 63) (z := 0) (by decide +kernel) (by unfold am_i32; omega) ?_
  refine ar_istore (pc := 64) (i := 4) (ls2 := [some (.inr (.inr 201)), some (.inr (.inr a1)), some (.inl v2), some (.inr (.inr a3)), some (.inl 0)]) (by decide +kernel) (by decide) rfl ?_
  refine ar_forget [true, false, false, false, true] rfl ?_
  exact H h0
theorem B_X1_parse_66 {d : Nat} {Q : Int → am_H → Prop} {h : am_H} {v4 : Int} (H : (300 < v4 → wf (d + 1) M_X1_parse Q 127 [some (.inr (.inr 201)), none, none, none, none] [] h) ∧ (v4 ≤ 300 → ((h 201 4) = 66 → wf (d + 1) M_X1_parse Q 127 [some (.inr (.inr 201)), none, none, none, none] [] h) ∧ (¬ (h 201 4) = 66 → (¬ (h 201 12) = 0 → wf (d + 1) M_X1_parse Q 127 [some (.inr (.inr 201)), none, none, none, none] [] h) ∧ ((h 201 12) = 0 → cf d M_X1_readKind [.inr (.inr 201)] h (fun r4 h5 => (r4 = 0 → wf (d + 1) M_X1_parse Q 121 [some (.inr (.inr 201)), none, none, none, some (.inl v4)] [] h5) ∧ (¬ r4 = 0 → (am_kd 321 (h5 201 6) = 15) ∧ (cf d M_X1_readRest [.inr (.inr 201), .inl (am_w32 ((h5 (h5 201 6) 0) - 1))] h5 (fun r8 h9 => (r8 = 0 → wf (d + 1) M_X1_parse Q 121 [some (.inr (.inr 201)), none, none, none, some (.inl v4)] [] h9) ∧ (¬ r8 = 0 → cf d M_X1_take [.inr (.inr 201), .inl 187] h9 (fun _ h12 => wf (d + 1) M_X1_parse Q 121 [some (.inr (.inr 201)), none, none, none, some (.inl v4)] [] h12)))))))))) : wf (d + 1) M_X1_parse Q 66 [some (.inr (.inr 201)), none, none, none, some (.inl v4)] [] h := by
  intro h0
  refine ar_iload (pc := 66) (i := 4) (by decide +kernel) rfl ?_
  refine ar_sipush (pc := 68) (z := 300) (by decide +kernel) (by omega) ?_
  refine ar_icmp_gt (pc := 71) (x := v4) (y := 300) (tgt := 127) (off := 56) (by decide +kernel) (by decide) (fun c1 => ?_) (fun c1 => ?_)
  · replace H := H.1 c1
    refine ar_forget [true, true, true, true, false] rfl ?_
    exact H h0
  · replace H := H.2 c1
    refine ar_aload_n (pc := 74) (i := 0) (k0 := 0) (by decide +kernel) rfl rfl ?_
    refine ar_getV (pc := 75) (a := 201) (v := .inl (h 201 4)) 1 4 (by decide +kernel) k_201 rfl (by decide) wf_RX1_45 rfl ?_
    refine ar_bipush (pc := 78) (z := 66) (by decide +kernel) (by omega) ?_
    refine ar_icmp_eq (pc := 80) (x := (h 201 4)) (y := 66) (tgt := 127) (off := 47) (by decide +kernel) (by decide) (fun c2 => ?_) (fun c2 => ?_)
    · replace H := H.1 c2
      refine ar_forget [true, true, true, true, false] rfl ?_
      exact H h0
    · replace H := H.2 c2
      refine ar_aload_n (pc := 83) (i := 0) (k0 := 0) (by decide +kernel) rfl rfl ?_
      refine ar_getV (pc := 84) (a := 201) (v := .inl (h 201 12)) 1 12 (by decide +kernel) k_201 rfl (by decide) wf_RX1_54 rfl ?_
      refine ar_if_ne (pc := 87) (x := (h 201 12)) (tgt := 127) (off := 40) (by decide +kernel) (by decide) (fun c3 => ?_) (fun c3 => ?_)
      · replace H := H.1 c3
        refine ar_forget [true, true, true, true, false] rfl ?_
        exact H h0
      · replace H := H.2 c3
        refine ar_aload_n (pc := 90) (i := 0) (k0 := 0) (by decide +kernel) rfl rfl ?_
        refine ar_callV (pc := 91) (M2 := M_X1_readKind) (a := 201) (ci := 1) (as := []) (n2 := 321) (st := []) (by decide +kernel) rfl wm_RX1_63 wi_yX1_readKind wl_yX1_readKind k_201 rfl wz_RX1 wc_yX1_readKind ⟨by decide, by decide, rfl⟩ (by decide) (Nat.le_of_ble_eq_true rfl) (Nat.le_refl _) (Nat.le_refl _) (am_Cl_mono H (fun r4 h5 H => ?_))
        show am_Wp true (d + 1) M_X1_parse 321 321 h0 Q 94 [some (.inr (.inr 201)), none, none, none, some (.inl v4)] [.inl r4] 321 h5
        refine ar_if_eq (pc := 94) (x := r4) (tgt := 121) (off := 27) (by decide +kernel) (by decide) (fun c6 => ?_) (fun c6 => ?_)
        · replace H := H.1 c6
          exact H h0
        · replace H := H.2 c6
          refine ar_aload_n (pc := 97) (i := 0) (k0 := 0) (by decide +kernel) rfl rfl ?_
          refine ar_aload_n (pc := 98) (i := 0) (k0 := 0) (by decide +kernel) rfl rfl ?_
          refine ar_getV (pc := 99) (a := 201) (v := .inr (.inr (h5 201 6))) 1 6 (by decide +kernel) k_201 rfl (by decide) wf_RX1_24 rfl ?_
          obtain ⟨g7, H⟩ := H
          refine ar_getNV (pc := 102) (a := (h5 201 6)) (v := .inl (h5 (h5 201 6) 0)) 5 0 (by decide +kernel) g7 rfl (by decide) wg_RX1_67 rfl ?_
          refine ar_iconst (pc := 105) (z := 1) (by decide +kernel) (by unfold am_i32; omega) ?_
          refine ar_isub (pc := 106) (x := (h5 (h5 201 6) 0)) (y := 1) (by decide +kernel) ?_
          refine ar_callV (pc := 107) (M2 := M_X1_readRest) (a := 201) (ci := 1) (as := [.inl (am_w32 ((h5 (h5 201 6) 0) - 1))]) (n2 := 321) (st := []) (by decide +kernel) rfl wm_RX1_70 wi_yX1_readRest wl_yX1_readRest k_201 rfl wz_RX1 wc_yX1_readRest ⟨by decide, by decide, rfl⟩ (by decide) (Nat.le_of_ble_eq_true rfl) (Nat.le_refl _) (Nat.le_refl _) (am_Cl_mono H (fun r8 h9 H => ?_))
          show am_Wp true (d + 1) M_X1_parse 321 321 h0 Q 110 [some (.inr (.inr 201)), none, none, none, some (.inl v4)] [.inl r8] 321 h9
          refine ar_if_eq (pc := 110) (x := r8) (tgt := 121) (off := 11) (by decide +kernel) (by decide) (fun c10 => ?_) (fun c10 => ?_)
          · replace H := H.1 c10
            exact H h0
          · replace H := H.2 c10
            refine ar_aload_n (pc := 113) (i := 0) (k0 := 0) (by decide +kernel) rfl rfl ?_
            refine ar_sipush (pc := 114) (z := 187) (by decide +kernel) (by omega) ?_
            refine ar_callV (pc := 117) (M2 := M_X1_take) (a := 201) (ci := 1) (as := [.inl 187]) (n2 := 321) (st := []) (by decide +kernel) rfl wm_RX1_74 wi_yX1_take wl_yX1_take k_201 rfl wz_RX1 wc_yX1_take ⟨by decide, by decide, rfl⟩ (by decide) (Nat.le_of_ble_eq_true rfl) (Nat.le_refl _) (Nat.le_refl _) (am_Cl_mono H (fun r11 h12 H => ?_))
            show am_Wp true (d + 1) M_X1_parse 321 321 h0 Q 120 [some (.inr (.inr 201)), none, none, none, some (.inl v4)] [.inl r11] 321 h12
            refine ar_pop (pc := 120) (by decide +kernel) trivial ?_
            exact H h0
theorem B_X1_parse_121 {d : Nat} {Q : Int → am_H → Prop} {h : am_H} {v4 : Int} (H : wf (d + 1) M_X1_parse Q 66 [some (.inr (.inr 201)), none, none, none, some (.inl (am_w32 (v4 + 1)))] [] h) : wf (d + 1) M_X1_parse Q 121 [some (.inr (.inr 201)), none, none, none, some (.inl v4)] [] h := by
  intro h0
  refine ar_iinc (pc := 121) (i := 4) (z := 1) (x := v4) (ls2 := [some (.inr (.inr 201)), none, none, none, some (.inl (am_w32 (v4 + 1)))]) (by decide +kernel) rfl (by decide) rfl ?_
  refine ar_goto (pc := 124) (tgt := 66) (off := -58) (by decide +kernel) (by decide) ?_
  exact H h0
theorem B_X1_parse_127 {d : Nat} {Q : Int → am_H → Prop} {h : am_H} (H : (¬ (h 201 12) = 0 → wf (d + 1) M_X1_parse Q 141 [some (.inr (.inr 201)), none, none, none, none] [] h) ∧ ((h 201 12) = 0 → (am_kd 321 (h 201 6) = 15) ∧ (cf d M_X5_sort [.inr (.inr (h 201 6))] h (fun _ h3 => wf (d + 1) M_X1_parse Q 141 [some (.inr (.inr 201)), none, none, none, none] [] h3)))) : wf (d + 1) M_X1_parse Q 127 [some (.inr (.inr 201)), none, none, none, none] [] h := by
  intro h0
  refine ar_aload_n (pc := 127) (i := 0) (k0 := 0) (by decide +kernel) rfl rfl ?_
  refine ar_getV (pc := 128) (a := 201) (v := .inl (h 201 12)) 1 12 (by decide +kernel) k_201 rfl (by decide) wf_RX1_54 rfl ?_
  refine ar_if_ne (pc := 131) (x := (h 201 12)) (tgt := 141) (off := 10) (by decide +kernel) (by decide) (fun c1 => ?_) (fun c1 => ?_)
  · replace H := H.1 c1
    exact H h0
  · replace H := H.2 c1
    refine ar_aload_n (pc := 134) (i := 0) (k0 := 0) (by decide +kernel) rfl rfl ?_
    refine ar_getV (pc := 135) (a := 201) (v := .inr (.inr (h 201 6))) 1 6 (by decide +kernel) k_201 rfl (by decide) wf_RX1_24 rfl ?_
    obtain ⟨g4, H⟩ := H
    refine ar_callVN (pc := 138) (M2 := M_X5_sort) (a := (h 201 6)) (ci := 5) (as := []) (n2 := 321) (st := []) (by decide +kernel) rfl wn_RX1_77 wi_yX5_sort wl_yX5_sort g4 rfl wz_RX5 wc_yX5_sort ⟨by decide, by decide, rfl⟩ (by decide) (Nat.le_of_ble_eq_true rfl) (Nat.le_refl _) (Nat.le_refl _) (am_Cl_mono H (fun r2 h3 H => ?_))
    show am_Wp true (d + 1) M_X1_parse 321 321 h0 Q 141 [some (.inr (.inr 201)), none, none, none, none] [] 321 h3
    exact H h0
theorem B_X1_parse_141 {d : Nat} {Q : Int → am_H → Prop} {h : am_H} (H : Q (h 201 12) h) : wf (d + 1) M_X1_parse Q 141 [some (.inr (.inr 201)), none, none, none, none] [] h := by
  intro h0
  refine ar_aload_n (pc := 141) (i := 0) (k0 := 0) (by decide +kernel) rfl rfl ?_
  refine ar_getV (pc := 142) (a := 201) (v := .inl (h 201 12)) 1 12 (by decide +kernel) k_201 rfl (by decide) wf_RX1_54 rfl ?_
  exact ar_iret (pc := 145) (x := (h 201 12)) (by decide +kernel) rfl rfl H

/-! ByteIntervals$Parser.fail(I)Z -/
theorem B_X1_fail_0 {d : Nat} {Q : Int → am_H → Prop} {h : am_H} {v1 : Int} (H : (¬ (h 201 12) = 0 → Q 0 h) ∧ ((h 201 12) = 0 → ((h 201 5) < 0 → Q 0 h) ∧ (0 ≤ (h 201 5) → (301 ≤ (h 201 5) → Q 0 h) ∧ ((h 201 5) < 301 → Q 0 (am_up (am_up h 201 12 v1) 201 13 (h 203 (h 201 5))))))) : wf d M_X1_fail Q 0 [some (.inr (.inr 201)), some (.inl v1)] [] h := by
  intro h0
  refine ar_aload_n (pc := 0) (i := 0) (k0 := 0) (by decide +kernel) rfl rfl ?_
  refine ar_getV (pc := 1) (a := 201) (v := .inl (h 201 12)) 1 12 (by decide +kernel) k_201 rfl (by decide) wf_RX1_54 rfl ?_
  refine ar_if_ne (pc := 4) (x := (h 201 12)) (tgt := 44) (off := 40) (by decide +kernel) (by decide) (fun c1 => ?_) (fun c1 => ?_)
  · replace H := H.1 c1
    refine ar_iconst (pc := 44) (z := 0) (by decide +kernel) (by unfold am_i32; omega) ?_
    exact ar_zret (pc := 45) (x := 0) (by decide +kernel) rfl rfl (by decide) H
  · replace H := H.2 c1
    refine ar_aload_n (pc := 7) (i := 0) (k0 := 0) (by decide +kernel) rfl rfl ?_
    refine ar_getV (pc := 8) (a := 201) (v := .inl (h 201 5)) 1 5 (by decide +kernel) k_201 rfl (by decide) wf_RX1_41 rfl ?_
    refine ar_if_lt (pc := 11) (x := (h 201 5)) (tgt := 44) (off := 33) (by decide +kernel) (by decide) (fun c2 => ?_) (fun c2 => ?_)
    · replace H := H.1 c2
      refine ar_iconst (pc := 44) (z := 0) (by decide +kernel) (by unfold am_i32; omega) ?_
      exact ar_zret (pc := 45) (x := 0) (by decide +kernel) rfl rfl (by decide) H
    · replace H := H.2 c2
      refine ar_aload_n (pc := 14) (i := 0) (k0 := 0) (by decide +kernel) rfl rfl ?_
      refine ar_getV (pc := 15) (a := 201) (v := .inl (h 201 5)) 1 5 (by decide +kernel) k_201 rfl (by decide) wf_RX1_41 rfl ?_
      refine ar_aload_n (pc := 18) (i := 0) (k0 := 0) (by decide +kernel) rfl rfl ?_
      refine ar_getFV (pc := 19) (a := 201) (b := 203) 1 1 (by decide +kernel) k_201 rfl (by decide) wf_RX1_15 rfl (fun _ => rfl) rfl ?_
      refine ar_alen (pc := 22) (a := 203) (by decide +kernel) (by rw [k_203]; decide) ?_
      rw [l_203]
      refine ar_icmp_ge (pc := 23) (x := (h 201 5)) (y := 301) (tgt := 44) (off := 21) (by decide +kernel) (by decide) (fun c3 => ?_) (fun c3 => ?_)
      · replace H := H.1 c3
        refine ar_iconst (pc := 44) (z := 0) (by decide +kernel) (by unfold am_i32; omega) ?_
        exact ar_zret (pc := 45) (x := 0) (by decide +kernel) rfl rfl (by decide) H
      · replace H := H.2 c3
        refine ar_aload_n (pc := 26) (i := 0) (k0 := 0) (by decide +kernel) rfl rfl ?_
        refine ar_iload_n (pc := 27) (i := 1) (k0 := 1) (by decide +kernel) rfl rfl ?_
        refine ar_putI (pc := 28) (a := 201) (z := v1) 1 12 (by decide +kernel) k_201 rfl (by decide) rfl (fun _ => rfl) rfl wf_RX1_54 ?_
        refine ar_aload_n (pc := 31) (i := 0) (k0 := 0) (by decide +kernel) rfl rfl ?_
        refine ar_aload_n (pc := 32) (i := 0) (k0 := 0) (by decide +kernel) rfl rfl ?_
        refine ar_getFV (pc := 33) (a := 201) (b := 203) 1 1 (by decide +kernel) k_201 rfl (by decide) wf_RX1_15 rfl (fun _ => rfl) rfl ?_
        refine ar_aload_n (pc := 36) (i := 0) (k0 := 0) (by decide +kernel) rfl rfl ?_
        refine ar_getV (pc := 37) (a := 201) (v := .inl (h 201 5)) 1 5 (by decide +kernel) k_201 rfl (by decide) wf_RX1_41 (by first | rfl | (simp [am_tv, am_ty, tyX1, am_up, am_cp]; done) | (simp [am_tv, am_ty, tyX1, am_up, am_cp] <;> intros <;> omega)) ?_
        refine ar_ialdV (pc := 40) (a := 203) (i := (h 201 5)) (v := (h 203 (h 201 5))) (by first | rfl | (simp [am_up, am_cp]; done) | (simp [am_up, am_cp] <;> intros <;> omega)) (by decide +kernel) k_203 c2 (am_lt_eq c3 (l_203).symm) ?_
        refine ar_putI (pc := 41) (a := 201) (z := (h 203 (h 201 5))) 1 13 (by decide +kernel) k_201 rfl (by decide) rfl (fun _ => rfl) rfl wf_RX1_57 ?_
        refine ar_iconst (pc := 44) (z := 0) (by decide +kernel) (by unfold am_i32; omega) ?_
        exact ar_zret (pc := 45) (x := 0) (by decide +kernel) rfl rfl (by decide) H

/-! ByteIntervals$Parser.isLetter(I)Z -/
theorem B_X1_isLetter_0 {d : Nat} {Q : Int → am_H → Prop} {h : am_H} {v0 : Int} (H : (v0 < 97 → wf d M_X1_isLetter Q 12 [some (.inl v0)] [] h) ∧ (97 ≤ v0 → (v0 ≤ 122 → wf d M_X1_isLetter Q 24 [none] [] h) ∧ (122 < v0 → wf d M_X1_isLetter Q 12 [some (.inl v0)] [] h))) : wf d M_X1_isLetter Q 0 [some (.inl v0)] [] h := by
  intro h0
  refine ar_iload_n (pc := 0) (i := 0) (k0 := 0) (by decide +kernel) rfl rfl ?_
  refine ar_bipush (pc := 1) (z := 97) (by decide +kernel) (by omega) ?_
  refine ar_icmp_lt (pc := 3) (x := v0) (y := 97) (tgt := 12) (off := 9) (by decide +kernel) (by decide) (fun c1 => ?_) (fun c1 => ?_)
  · replace H := H.1 c1
    exact H h0
  · replace H := H.2 c1
    refine ar_iload_n (pc := 6) (i := 0) (k0 := 0) (by decide +kernel) rfl rfl ?_
    refine ar_bipush (pc := 7) (z := 122) (by decide +kernel) (by omega) ?_
    refine ar_icmp_le (pc := 9) (x := v0) (y := 122) (tgt := 24) (off := 15) (by decide +kernel) (by decide) (fun c2 => ?_) (fun c2 => ?_)
    · replace H := H.1 c2
      refine ar_forget [false] rfl ?_
      exact H h0
    · replace H := H.2 c2
      exact H h0
theorem B_X1_isLetter_12 {d : Nat} {Q : Int → am_H → Prop} {h : am_H} {v0 : Int} (H : (v0 < 65 → Q 0 h) ∧ (65 ≤ v0 → (90 < v0 → Q 0 h) ∧ (v0 ≤ 90 → wf d M_X1_isLetter Q 24 [none] [] h))) : wf d M_X1_isLetter Q 12 [some (.inl v0)] [] h := by
  intro h0
  refine ar_iload_n (pc := 12) (i := 0) (k0 := 0) (by decide +kernel) rfl rfl ?_
  refine ar_bipush (pc := 13) (z := 65) (by decide +kernel) (by omega) ?_
  refine ar_icmp_lt (pc := 15) (x := v0) (y := 65) (tgt := 28) (off := 13) (by decide +kernel) (by decide) (fun c1 => ?_) (fun c1 => ?_)
  · replace H := H.1 c1
    refine ar_iconst (pc := 28) (z := 0) (by decide +kernel) (by unfold am_i32; omega) ?_
    exact ar_zret (pc := 29) (x := 0) (by decide +kernel) rfl rfl (by decide) H
  · replace H := H.2 c1
    refine ar_iload_n (pc := 18) (i := 0) (k0 := 0) (by decide +kernel) rfl rfl ?_
    refine ar_bipush (pc := 19) (z := 90) (by decide +kernel) (by omega) ?_
    refine ar_icmp_gt (pc := 21) (x := v0) (y := 90) (tgt := 28) (off := 7) (by decide +kernel) (by decide) (fun c2 => ?_) (fun c2 => ?_)
    · replace H := H.1 c2
      refine ar_iconst (pc := 28) (z := 0) (by decide +kernel) (by unfold am_i32; omega) ?_
      exact ar_zret (pc := 29) (x := 0) (by decide +kernel) rfl rfl (by decide) H
    · replace H := H.2 c2
      refine ar_forget [false] rfl ?_
      exact H h0
theorem B_X1_isLetter_24 {d : Nat} {Q : Int → am_H → Prop} {h : am_H} (H : Q 1 h) : wf d M_X1_isLetter Q 24 [none] [] h := by
  intro h0
  refine ar_iconst (pc := 24) (z := 1) (by decide +kernel) (by unfold am_i32; omega) ?_
  refine ar_goto (pc := 25) (tgt := 29) (off := 4) (by decide +kernel) (by decide) ?_
  exact ar_zret (pc := 29) (x := 1) (by decide +kernel) rfl rfl (by decide) H

/-! ByteIntervals$Parser.isDigit(I)Z -/
theorem B_X1_isDigit_0 {d : Nat} {Q : Int → am_H → Prop} {h : am_H} {v0 : Int} (H : (v0 < 48 → Q 0 h) ∧ (48 ≤ v0 → (57 < v0 → Q 0 h) ∧ (v0 ≤ 57 → Q 1 h))) : wf d M_X1_isDigit Q 0 [some (.inl v0)] [] h := by
  intro h0
  refine ar_iload_n (pc := 0) (i := 0) (k0 := 0) (by decide +kernel) rfl rfl ?_
  refine ar_bipush (pc := 1) (z := 48) (by decide +kernel) (by omega) ?_
  refine ar_icmp_lt (pc := 3) (x := v0) (y := 48) (tgt := 16) (off := 13) (by decide +kernel) (by decide) (fun c1 => ?_) (fun c1 => ?_)
  · replace H := H.1 c1
    refine ar_iconst (pc := 16) (z := 0) (by decide +kernel) (by unfold am_i32; omega) ?_
    exact ar_zret (pc := 17) (x := 0) (by decide +kernel) rfl rfl (by decide) H
  · replace H := H.2 c1
    refine ar_iload_n (pc := 6) (i := 0) (k0 := 0) (by decide +kernel) rfl rfl ?_
    refine ar_bipush (pc := 7) (z := 57) (by decide +kernel) (by omega) ?_
    refine ar_icmp_gt (pc := 9) (x := v0) (y := 57) (tgt := 16) (off := 7) (by decide +kernel) (by decide) (fun c2 => ?_) (fun c2 => ?_)
    · replace H := H.1 c2
      refine ar_iconst (pc := 16) (z := 0) (by decide +kernel) (by unfold am_i32; omega) ?_
      exact ar_zret (pc := 17) (x := 0) (by decide +kernel) rfl rfl (by decide) H
    · replace H := H.2 c2
      refine ar_iconst (pc := 12) (z := 1) (by decide +kernel) (by unfold am_i32; omega) ?_
      refine ar_goto (pc := 13) (tgt := 17) (off := 4) (by decide +kernel) (by decide) ?_
      exact ar_zret (pc := 17) (x := 1) (by decide +kernel) rfl rfl (by decide) H

/-! ByteIntervals$Parser.split([II)V -/
theorem B_X1_split_0 {d : Nat} {Q : Int → am_H → Prop} {h : am_H} {a1 v2 : Int} (H : wf (d + 1) M_X1_split Q 7 [some (.inr (.inr 201)), some (.inr (.inr a1)), some (.inl v2), some (.inl 0), none, none, none] [] (am_up h 201 3 0)) : wf (d + 1) M_X1_split Q 0 [some (.inr (.inr 201)), some (.inr (.inr a1)), some (.inl v2), none, none, none, none] [] h := by
  intro h0
  refine ar_aload_n (pc := 0) (i := 0) (k0 := 0) (by decide +kernel) rfl rfl ?_
  refine ar_iconst (pc := 1) (z := 0) (by decide +kernel) (by unfold am_i32; omega) ?_
  refine ar_putI (pc := 2) (a := 201) (z := 0) 1 3 (by decide +kernel) k_201 rfl (by decide) rfl (fun _ => rfl) rfl wf_RX1_80 ?_
  refine ar_iconst (pc := 5) (z := 0) (by decide +kernel) (by unfold am_i32; omega) ?_
  refine ar_istore_n (pc := 6) (i := 3) (k0 := 3) (ls2 := [some (.inr (.inr 201)), some (.inr (.inr a1)), some (.inl v2), some (.inl 0), none, none, none]) (by decide +kernel) rfl (by decide) rfl ?_
  exact H h0
theorem B_X1_split_7 {d : Nat} {Q : Int → am_H → Prop} {h : am_H} {a1 v2 v3 : Int} (H : (v2 ≤ v3 → wf (d + 1) M_X1_split Q 243 [some (.inr (.inr 201)), none, some (.inl v2), none, none, none, none] [] h) ∧ (v3 < v2 → (am_kd 321 a1 = 0) ∧ (((am_ln a1) ≤ v3 → wf (d + 1) M_X1_split Q 243 [some (.inr (.inr 201)), none, some (.inl v2), none, none, none, none] [] h) ∧ (v3 < (am_ln a1) → (0 ≤ v3) ∧ ((v3 < am_ln a1) ∧ (cf d M_X1_isLetter [.inl (h a1 v3)] h (fun r6 h7 => (r6 = 0 → cf d M_X1_isDigit [.inl (h a1 v3)] h7 (fun r9 h10 => (r9 = 0 → ((h a1 v3) = 60 → wf (d + 1) M_X1_split Q 172 [some (.inr (.inr 201)), some (.inr (.inr a1)), some (.inl v2), some (.inl v3), some (.inl (h a1 v3)), some (.inl (am_w32 (v3 + 1))), none] [] h10) ∧ (¬ (h a1 v3) = 60 → (¬ (h a1 v3) = 62 → wf (d + 1) M_X1_split Q 212 [some (.inr (.inr 201)), some (.inr (.inr a1)), some (.inl v2), some (.inl v3), some (.inl (h a1 v3)), some (.inl (am_w32 (v3 + 1))), none] [] h10) ∧ ((h a1 v3) = 62 → wf (d + 1) M_X1_split Q 172 [some (.inr (.inr 201)), some (.inr (.inr a1)), some (.inl v2), some (.inl v3), some (.inl (h a1 v3)), some (.inl (am_w32 (v3 + 1))), none] [] h10))) ∧ (¬ r9 = 0 → wf (d + 1) M_X1_split Q 96 [some (.inr (.inr 201)), some (.inr (.inr a1)), some (.inl v2), some (.inl v3), none, some (.inl (am_w32 (v3 + 1))), some (.inl (am_w32 ((h a1 v3) - 48)))] [] h10))) ∧ (¬ r6 = 0 → wf (d + 1) M_X1_split Q 36 [some (.inr (.inr 201)), some (.inr (.inr a1)), some (.inl v2), some (.inl v3), none, some (.inl (am_w32 (v3 + 1))), none] [] h7)))))))) : wf (d + 1) M_X1_split Q 7 [some (.inr (.inr 201)), some (.inr (.inr a1)), some (.inl v2), some (.inl v3), none, none, none] [] h := by
  intro h0
  refine ar_iload_n (pc := 7) (i := 3) (k0 := 3) (by decide +kernel) rfl rfl ?_
  refine ar_iload_n (pc := 8) (i := 2) (k0 := 2) (by decide +kernel) rfl rfl ?_
  refine ar_icmp_ge (pc := 9) (x := v3) (y := v2) (tgt := 243) (off := 234) (by decide +kernel) (by decide) (fun c1 => ?_) (fun c1 => ?_)
  · replace H := H.1 c1
    refine ar_forget [true, false, true, false, true, true, true] rfl ?_
    exact H h0
  · replace H := H.2 c1
    refine ar_iload_n (pc := 12) (i := 3) (k0 := 3) (by decide +kernel) rfl rfl ?_
    refine ar_aload_n (pc := 13) (i := 1) (k0 := 1) (by decide +kernel) rfl rfl ?_
    obtain ⟨g2, H⟩ := H
    refine ar_alen (pc := 14) (a := a1) (by decide +kernel) (by rw [g2]; decide) ?_
    refine ar_icmp_ge (pc := 15) (x := v3) (y := (am_ln a1)) (tgt := 243) (off := 228) (by decide +kernel) (by decide) (fun c3 => ?_) (fun c3 => ?_)
    · replace H := H.1 c3
      refine ar_forget [true, false, true, false, true, true, true] rfl ?_
      exact H h0
    · replace H := H.2 c3
      refine ar_aload_n (pc := 18) (i := 1) (k0 := 1) (by decide +kernel) rfl rfl ?_
      refine ar_iload_n (pc := 19) (i := 3) (k0 := 3) (by decide +kernel) rfl rfl ?_
      obtain ⟨g4, H⟩ := H
      obtain ⟨g5, H⟩ := H
      refine ar_iald (pc := 20) (a := a1) (i := v3) (by decide +kernel) g2 g4 g5 ?_
      refine ar_istore (pc := 21) (i := 4) (ls2 := [some (.inr (.inr 201)), some (.inr (.inr a1)), some (.inl v2), some (.inl v3), some (.inl (h a1 v3)), none, none]) (by decide +kernel) (by decide) rfl ?_
      refine ar_iload_n (pc := 23) (i := 3) (k0 := 3) (by decide +kernel) rfl rfl ?_
      refine ar_iconst (pc := 24) (z := 1) (by decide +kernel) (by unfold am_i32; omega) ?_
      refine ar_iadd (pc := 25) (x := v3) (y := 1) (by decide +kernel) ?_
      refine ar_istore (pc := 26) (i := 5) (ls2 := [some (.inr (.inr 201)), some (.inr (.inr a1)), some (.inl v2), some (.inl v3), some (.inl (h a1 v3)), some (.inl (am_w32 (v3 + 1))), none]) (by decide +kernel) (by decide) rfl ?_
      refine ar_iload (pc := 28) (i := 4) (by decide +kernel) rfl ?_
      refine ar_callS (pc := 30) (M2 := M_X1_isLetter) (as := [.inl (h a1 v3)]) (n2 := 321) (st := []) (by decide +kernel) rfl wm_RX1_83 ws_yX1_isLetter wz_RX1 wc_yX1_isLetter ⟨by decide, by decide, rfl⟩ (by decide) (Nat.le_of_ble_eq_true rfl) (Nat.le_refl _) (Nat.le_refl _) (am_Cl_mono H (fun r6 h7 H => ?_))
      show am_Wp true (d + 1) M_X1_split 321 321 h0 Q 33 [some (.inr (.inr 201)), some (.inr (.inr a1)), some (.inl v2), some (.inl v3), some (.inl (h a1 v3)), some (.inl (am_w32 (v3 + 1))), none] [.inl r6] 321 h7
      refine ar_if_eq (pc := 33) (x := r6) (tgt := 81) (off := 48) (by decide +kernel) (by decide) (fun c8 => ?_) (fun c8 => ?_)
      · replace H := H.1 c8
        refine ar_iload (pc := 81) (i := 4) (by decide +kernel) rfl ?_
        refine ar_callS (pc := 83) (M2 := M_X1_isDigit) (as := [.inl (h a1 v3)]) (n2 := 321) (st := []) (by decide +kernel) rfl wm_RX1_94 ws_yX1_isDigit wz_RX1 wc_yX1_isDigit ⟨by decide, by decide, rfl⟩ (by decide) (Nat.le_of_ble_eq_true rfl) (Nat.le_refl _) (Nat.le_refl _) (am_Cl_mono H (fun r9 h10 H => ?_))
        show am_Wp true (d + 1) M_X1_split 321 321 h0 Q 86 [some (.inr (.inr 201)), some (.inr (.inr a1)), some (.inl v2), some (.inl v3), some (.inl (h a1 v3)), some (.inl (am_w32 (v3 + 1))), none] [.inl r9] 321 h10
        refine ar_if_eq (pc := 86) (x := r9) (tgt := 158) (off := 72) (by decide +kernel) (by decide) (fun c11 => ?_) (fun c11 => ?_)
        · replace H := H.1 c11
          refine ar_iload (pc := 158) (i := 4) (by decide +kernel) rfl ?_
          refine ar_bipush (pc := 160) (z := 60) (by decide +kernel) (by omega) ?_
          refine ar_icmp_eq (pc := 162) (x := (h a1 v3)) (y := 60) (tgt := 172) (off := 10) (by decide +kernel) (by decide) (fun c12 => ?_) (fun c12 => ?_)
          · replace H := H.1 c12
            exact H h0
          · replace H := H.2 c12
            refine ar_iload (pc := 165) (i := 4) (by decide +kernel) rfl ?_
            refine ar_bipush (pc := 167) (z := 62) (by decide +kernel) (by omega) ?_
            refine ar_icmp_ne (pc := 169) (x := (h a1 v3)) (y := 62) (tgt := 212) (off := 43) (by decide +kernel) (by decide) (fun c13 => ?_) (fun c13 => ?_)
            · replace H := H.1 c13
              exact H h0
            · replace H := H.2 c13
              exact H h0
        · replace H := H.2 c11
          refine ar_iload (pc := 89) (i := 4) (by decide +kernel) rfl ?_
          refine ar_bipush (pc := 91) (z := 48) (by decide +kernel) (by omega) ?_
          refine ar_isub (pc := 93) (x := (h a1 v3)) (y := 48) (by decide +kernel) ?_
          refine ar_istore (pc := 94) (i := 6) (ls2 := [some (.inr (.inr 201)), some (.inr (.inr a1)), some (.inl v2), some (.inl v3), some (.inl (h a1 v3)), some (.inl (am_w32 (v3 + 1))), some (.inl (am_w32 ((h a1 v3) - 48)))]) (by decide +kernel) (by decide) rfl ?_
          refine ar_forget [true, true, true, true, false, true, true] rfl ?_
          exact H h0
      · replace H := H.2 c8
        refine ar_forget [true, true, true, true, false, true, true] rfl ?_
        exact H h0
theorem B_X1_split_36 {d : Nat} {Q : Int → am_H → Prop} {h : am_H} {a1 v2 v3 v5 : Int} (H : (v2 ≤ v5 → wf (d + 1) M_X1_split Q 65 [some (.inr (.inr 201)), some (.inr (.inr a1)), some (.inl v2), some (.inl v3), none, some (.inl v5), none] [] h) ∧ (v5 < v2 → (am_kd 321 a1 = 0) ∧ (((am_ln a1) ≤ v5 → wf (d + 1) M_X1_split Q 65 [some (.inr (.inr 201)), some (.inr (.inr a1)), some (.inl v2), some (.inl v3), none, some (.inl v5), none] [] h) ∧ (v5 < (am_ln a1) → (0 ≤ v5) ∧ ((v5 < am_ln a1) ∧ (cf d M_X1_isLetter [.inl (h a1 v5)] h (fun r6 h7 => (r6 = 0 → wf (d + 1) M_X1_split Q 65 [some (.inr (.inr 201)), some (.inr (.inr a1)), some (.inl v2), some (.inl v3), none, some (.inl v5), none] [] h7) ∧ (¬ r6 = 0 → wf (d + 1) M_X1_split Q 36 [some (.inr (.inr 201)), some (.inr (.inr a1)), some (.inl v2), some (.inl v3), none, some (.inl (am_w32 (v5 + 1))), none] [] h7)))))))) : wf (d + 1) M_X1_split Q 36 [some (.inr (.inr 201)), some (.inr (.inr a1)), some (.inl v2), some (.inl v3), none, some (.inl v5), none] [] h := by
  intro h0
  refine ar_iload (pc := 36) (i := 5) (by decide +kernel) rfl ?_
  refine ar_iload_n (pc := 38) (i := 2) (k0 := 2) (by decide +kernel) rfl rfl ?_
  refine ar_icmp_ge (pc := 39) (x := v5) (y := v2) (tgt := 65) (off := 26) (by decide +kernel) (by decide) (fun c1 => ?_) (fun c1 => ?_)
  · replace H := H.1 c1
    exact H h0
  · replace H := H.2 c1
    refine ar_iload (pc := 42) (i := 5) (by decide +kernel) rfl ?_
    refine ar_aload_n (pc := 44) (i := 1) (k0 := 1) (by decide +kernel) rfl rfl ?_
    obtain ⟨g2, H⟩ := H
    refine ar_alen (pc := 45) (a := a1) (by decide +kernel) (by rw [g2]; decide) ?_
    refine ar_icmp_ge (pc := 46) (x := v5) (y := (am_ln a1)) (tgt := 65) (off := 19) (by decide +kernel) (by decide) (fun c3 => ?_) (fun c3 => ?_)
    · replace H := H.1 c3
      exact H h0
    · replace H := H.2 c3
      refine ar_aload_n (pc := 49) (i := 1) (k0 := 1) (by decide +kernel) rfl rfl ?_
      refine ar_iload (pc := 50) (i := 5) (by decide +kernel) rfl ?_
      obtain ⟨g4, H⟩ := H
      obtain ⟨g5, H⟩ := H
      refine ar_iald (pc := 52) (a := a1) (i := v5) (by decide +kernel) g2 g4 g5 ?_
      refine ar_callS (pc := 53) (M2 := M_X1_isLetter) (as := [.inl (h a1 v5)]) (n2 := 321) (st := []) (by decide +kernel) rfl wm_RX1_83 ws_yX1_isLetter wz_RX1 wc_yX1_isLetter ⟨by decide, by decide, rfl⟩ (by decide) (Nat.le_of_ble_eq_true rfl) (Nat.le_refl _) (Nat.le_refl _) (am_Cl_mono H (fun r6 h7 H => ?_))
      show am_Wp true (d + 1) M_X1_split 321 321 h0 Q 56 [some (.inr (.inr 201)), some (.inr (.inr a1)), some (.inl v2), some (.inl v3), none, some (.inl v5), none] [.inl r6] 321 h7
      refine ar_if_eq (pc := 56) (x := r6) (tgt := 65) (off := 9) (by decide +kernel) (by decide) (fun c8 => ?_) (fun c8 => ?_)
      · replace H := H.1 c8
        exact H h0
      · replace H := H.2 c8
        refine ar_iinc (pc := 59) (i := 5) (z := 1) (x := v5) (ls2 := [some (.inr (.inr 201)), some (.inr (.inr a1)), some (.inl v2), some (.inl v3), none, some (.inl (am_w32 (v5 + 1))), none]) (by decide +kernel) rfl (by decide) rfl ?_
        refine ar_goto (pc := 62) (tgt := 36) (off := -26) (by decide +kernel) (by decide) ?_
        exact H h0
theorem B_X1_split_65 {d : Nat} {Q : Int → am_H → Prop} {h : am_H} {a1 v2 v3 v5 : Int} (H : cf d M_X1_wordToken [.inr (.inr a1), .inl v3, .inl v5] h (fun r1 h2 => cf d M_X1_put [.inr (.inr 201), .inl r1, .inl v3, .inl 0] h2 (fun _ h4 => wf (d + 1) M_X1_split Q 237 [some (.inr (.inr 201)), some (.inr (.inr a1)), some (.inl v2), none, none, some (.inl v5), none] [] h4))) : wf (d + 1) M_X1_split Q 65 [some (.inr (.inr 201)), some (.inr (.inr a1)), some (.inl v2), some (.inl v3), none, some (.inl v5), none] [] h := by
  intro h0
  refine ar_aload_n (pc := 65) (i := 0) (k0 := 0) (by decide +kernel) rfl rfl ?_
  refine ar_aload_n (pc := 66) (i := 1) (k0 := 1) (by decide +kernel) rfl rfl ?_
  refine ar_iload_n (pc := 67) (i := 3) (k0 := 3) (by decide +kernel) rfl rfl ?_
  refine ar_iload (pc := 68) (i := 5) (by decide +kernel) rfl ?_
  refine ar_callS (pc := 70) (M2 := M_X1_wordToken) (as := [.inr (.inr a1), .inl v3, .inl v5]) (n2 := 321) (st := [.inr (.inr 201)]) (by decide +kernel) rfl wm_RX1_86 ws_yX1_wordToken wz_RX1 wc_yX1_wordToken ⟨by decide, by decide, rfl⟩ (by decide) (Nat.le_of_ble_eq_true rfl) (Nat.le_refl _) (Nat.le_refl _) (am_Cl_mono H (fun r1 h2 H => ?_))
  show am_Wp true (d + 1) M_X1_split 321 321 h0 Q 73 [some (.inr (.inr 201)), some (.inr (.inr a1)), some (.inl v2), some (.inl v3), none, some (.inl v5), none] [.inl r1, .inr (.inr 201)] 321 h2
  refine ar_iload_n (pc := 73) (i := 3) (k0 := 3) (by decide +kernel) rfl rfl ?_
  refine ar_iconst (pc := 74) (z := 0) (by decide +kernel) (by unfold am_i32; omega) ?_
  refine ar_callV (pc := 75) (M2 := M_X1_put) (a := 201) (ci := 1) (as := [.inl r1, .inl v3, .inl 0]) (n2 := 321) (st := []) (by decide +kernel) rfl wm_RX1_90 wi_yX1_put wl_yX1_put k_201 rfl wz_RX1 wc_yX1_put ⟨by decide, by decide, rfl⟩ (by decide) (Nat.le_of_ble_eq_true rfl) (Nat.le_refl _) (Nat.le_refl _) (am_Cl_mono H (fun r3 h4 H => ?_))
  show am_Wp true (d + 1) M_X1_split 321 321 h0 Q 78 [some (.inr (.inr 201)), some (.inr (.inr a1)), some (.inl v2), some (.inl v3), none, some (.inl v5), none] [] 321 h4
  refine ar_goto (pc := 78) (tgt := 237) (off := 159) (by decide +kernel) (by decide) ?_
  refine ar_forget [true, true, true, false, true, true, true] rfl ?_
  exact H h0
theorem B_X1_split_96 {d : Nat} {Q : Int → am_H → Prop} {h : am_H} {a1 v2 v3 v5 v6 : Int} (H : (v2 ≤ v5 → wf (d + 1) M_X1_split Q 146 [some (.inr (.inr 201)), some (.inr (.inr a1)), some (.inl v2), some (.inl v3), none, some (.inl v5), some (.inl v6)] [] h) ∧ (v5 < v2 → (am_kd 321 a1 = 0) ∧ (((am_ln a1) ≤ v5 → wf (d + 1) M_X1_split Q 146 [some (.inr (.inr 201)), some (.inr (.inr a1)), some (.inl v2), some (.inl v3), none, some (.inl v5), some (.inl v6)] [] h) ∧ (v5 < (am_ln a1) → (0 ≤ v5) ∧ ((v5 < am_ln a1) ∧ (cf d M_X1_isDigit [.inl (h a1 v5)] h (fun r6 h7 => (r6 = 0 → wf (d + 1) M_X1_split Q 146 [some (.inr (.inr 201)), some (.inr (.inr a1)), some (.inl v2), some (.inl v3), none, some (.inl v5), some (.inl v6)] [] h7) ∧ (¬ r6 = 0 → cf d M_J9_min_7cf53 [.inl (am_w32 ((am_w32 ((am_w32 (v6 * 10)) + (h7 a1 v5))) - 48)), .inl 10000] h7 (fun r9 h10 => wf (d + 1) M_X1_split Q 96 [some (.inr (.inr 201)), some (.inr (.inr a1)), some (.inl v2), some (.inl v3), none, some (.inl (am_w32 (v5 + 1))), some (.inl r9)] [] h10))))))))) : wf (d + 1) M_X1_split Q 96 [some (.inr (.inr 201)), some (.inr (.inr a1)), some (.inl v2), some (.inl v3), none, some (.inl v5), some (.inl v6)] [] h := by
  intro h0
  refine ar_iload (pc := 96) (i := 5) (by decide +kernel) rfl ?_
  refine ar_iload_n (pc := 98) (i := 2) (k0 := 2) (by decide +kernel) rfl rfl ?_
  refine ar_icmp_ge (pc := 99) (x := v5) (y := v2) (tgt := 146) (off := 47) (by decide +kernel) (by decide) (fun c1 => ?_) (fun c1 => ?_)
  · replace H := H.1 c1
    exact H h0
  · replace H := H.2 c1
    refine ar_iload (pc := 102) (i := 5) (by decide +kernel) rfl ?_
    refine ar_aload_n (pc := 104) (i := 1) (k0 := 1) (by decide +kernel) rfl rfl ?_
    obtain ⟨g2, H⟩ := H
    refine ar_alen (pc := 105) (a := a1) (by decide +kernel) (by rw [g2]; decide) ?_
    refine ar_icmp_ge (pc := 106) (x := v5) (y := (am_ln a1)) (tgt := 146) (off := 40) (by decide +kernel) (by decide) (fun c3 => ?_) (fun c3 => ?_)
    · replace H := H.1 c3
      exact H h0
    · replace H := H.2 c3
      refine ar_aload_n (pc := 109) (i := 1) (k0 := 1) (by decide +kernel) rfl rfl ?_
      refine ar_iload (pc := 110) (i := 5) (by decide +kernel) rfl ?_
      obtain ⟨g4, H⟩ := H
      obtain ⟨g5, H⟩ := H
      refine ar_iald (pc := 112) (a := a1) (i := v5) (by decide +kernel) g2 g4 g5 ?_
      refine ar_callS (pc := 113) (M2 := M_X1_isDigit) (as := [.inl (h a1 v5)]) (n2 := 321) (st := []) (by decide +kernel) rfl wm_RX1_94 ws_yX1_isDigit wz_RX1 wc_yX1_isDigit ⟨by decide, by decide, rfl⟩ (by decide) (Nat.le_of_ble_eq_true rfl) (Nat.le_refl _) (Nat.le_refl _) (am_Cl_mono H (fun r6 h7 H => ?_))
      show am_Wp true (d + 1) M_X1_split 321 321 h0 Q 116 [some (.inr (.inr 201)), some (.inr (.inr a1)), some (.inl v2), some (.inl v3), none, some (.inl v5), some (.inl v6)] [.inl r6] 321 h7
      refine ar_if_eq (pc := 116) (x := r6) (tgt := 146) (off := 30) (by decide +kernel) (by decide) (fun c8 => ?_) (fun c8 => ?_)
      · replace H := H.1 c8
        exact H h0
      · replace H := H.2 c8
        refine ar_iload (pc := 119) (i := 6) (by decide +kernel) rfl ?_
        refine ar_bipush (pc := 121) (z := 10) (by decide +kernel) (by omega) ?_
        refine ar_imul (pc := 123) (x := v6) (y := 10) (by decide +kernel) ?_
        refine ar_aload_n (pc := 124) (i := 1) (k0 := 1) (by decide +kernel) rfl rfl ?_
        refine ar_iload (pc := 125) (i := 5) (by decide +kernel) rfl ?_
        refine ar_iald (pc := 127) (a := a1) (i := v5) (by decide +kernel) g2 g4 g5 ?_
        refine ar_iadd (pc := 128) (x := (am_w32 (v6 * 10))) (y := (h7 a1 v5)) (by decide +kernel) ?_
        refine ar_bipush (pc := 129) (z := 48) (by decide +kernel) (by omega) ?_
        refine ar_isub (pc := 131) (x := (am_w32 ((am_w32 (v6 * 10)) + (h7 a1 v5)))) (y := 48) (by decide +kernel) ?_
        refine ar_sipush (pc := 132) (z := 10000) (by decide +kernel) (by omega) ?_
        refine ar_callS (pc := 135) (M2 := M_J9_min_7cf53) (as := [.inl (am_w32 ((am_w32 ((am_w32 (v6 * 10)) + (h7 a1 v5))) - 48)), .inl 10000]) (n2 := 321) (st := []) (by decide +kernel) rfl wm_RX1_28 ws_yJ9_min_7cf53 wz_RJ9 wc_yJ9_min_7cf53 ⟨by decide, by decide, rfl⟩ (by decide) (Nat.le_of_ble_eq_true rfl) (Nat.le_refl _) (Nat.le_refl _) (am_Cl_mono H (fun r9 h10 H => ?_))
        show am_Wp true (d + 1) M_X1_split 321 321 h0 Q 138 [some (.inr (.inr 201)), some (.inr (.inr a1)), some (.inl v2), some (.inl v3), none, some (.inl v5), some (.inl v6)] [.inl r9] 321 h10
        refine ar_istore (pc := 138) (i := 6) (ls2 := [some (.inr (.inr 201)), some (.inr (.inr a1)), some (.inl v2), some (.inl v3), none, some (.inl v5), some (.inl r9)]) (by decide +kernel) (by decide) rfl ?_
        refine ar_iinc (pc := 140) (i := 5) (z := 1) (x := v5) (ls2 := [some (.inr (.inr 201)), some (.inr (.inr a1)), some (.inl v2), some (.inl v3), none, some (.inl (am_w32 (v5 + 1))), some (.inl r9)]) (by decide +kernel) rfl (by decide) rfl ?_
        refine ar_goto (pc := 143) (tgt := 96) (off := -47) (by decide +kernel) (by decide) ?_
        exact H h0
theorem B_X1_split_146 {d : Nat} {Q : Int → am_H → Prop} {h : am_H} {a1 v2 v3 v5 v6 : Int} (H : cf d M_X1_put [.inr (.inr 201), .inl 64, .inl v3, .inl v6] h (fun _ h2 => wf (d + 1) M_X1_split Q 237 [some (.inr (.inr 201)), some (.inr (.inr a1)), some (.inl v2), none, none, some (.inl v5), none] [] h2)) : wf (d + 1) M_X1_split Q 146 [some (.inr (.inr 201)), some (.inr (.inr a1)), some (.inl v2), some (.inl v3), none, some (.inl v5), some (.inl v6)] [] h := by
  intro h0
  refine ar_aload_n (pc := 146) (i := 0) (k0 := 0) (by decide +kernel) rfl rfl ?_
  refine ar_bipush (pc := 147) (z := 64) (by decide +kernel) (by omega) ?_
  refine ar_iload_n (pc := 149) (i := 3) (k0 := 3) (by decide +kernel) rfl rfl ?_
  refine ar_iload (pc := 150) (i := 6) (by decide +kernel) rfl ?_
  refine ar_callV (pc := 152) (M2 := M_X1_put) (a := 201) (ci := 1) (as := [.inl 64, .inl v3, .inl v6]) (n2 := 321) (st := []) (by decide +kernel) rfl wm_RX1_90 wi_yX1_put wl_yX1_put k_201 rfl wz_RX1 wc_yX1_put ⟨by decide, by decide, rfl⟩ (by decide) (Nat.le_of_ble_eq_true rfl) (Nat.le_refl _) (Nat.le_refl _) (am_Cl_mono H (fun r1 h2 H => ?_))
  show am_Wp true (d + 1) M_X1_split 321 321 h0 Q 155 [some (.inr (.inr 201)), some (.inr (.inr a1)), some (.inl v2), some (.inl v3), none, some (.inl v5), some (.inl v6)] [] 321 h2
  refine ar_goto (pc := 155) (tgt := 237) (off := 82) (by decide +kernel) (by decide) ?_
  refine ar_forget [true, true, true, false, true, true, false] rfl ?_
  exact H h0
theorem B_X1_split_172 {d : Nat} {Q : Int → am_H → Prop} {h : am_H} {a1 v2 v3 v4 v5 : Int} (H : (v2 ≤ v5 → wf (d + 1) M_X1_split Q 212 [some (.inr (.inr 201)), some (.inr (.inr a1)), some (.inl v2), some (.inl v3), some (.inl v4), some (.inl v5), none] [] h) ∧ (v5 < v2 → (am_kd 321 a1 = 0) ∧ (((am_ln a1) ≤ v5 → wf (d + 1) M_X1_split Q 212 [some (.inr (.inr 201)), some (.inr (.inr a1)), some (.inl v2), some (.inl v3), some (.inl v4), some (.inl v5), none] [] h) ∧ (v5 < (am_ln a1) → (0 ≤ v5) ∧ ((v5 < am_ln a1) ∧ ((¬ (h a1 v5) = 61 → wf (d + 1) M_X1_split Q 212 [some (.inr (.inr 201)), some (.inr (.inr a1)), some (.inl v2), some (.inl v3), some (.inl v4), some (.inl v5), none] [] h) ∧ ((h a1 v5) = 61 → cf d M_X1_put [.inr (.inr 201), .inl (am_w32 (256 + v4)), .inl v3, .inl 0] h (fun _ h8 => wf (d + 1) M_X1_split Q 237 [some (.inr (.inr 201)), some (.inr (.inr a1)), some (.inl v2), none, none, some (.inl (am_w32 (v5 + 1))), none] [] h8)))))))) : wf (d + 1) M_X1_split Q 172 [some (.inr (.inr 201)), some (.inr (.inr a1)), some (.inl v2), some (.inl v3), some (.inl v4), some (.inl v5), none] [] h := by
  intro h0
  refine ar_iload (pc := 172) (i := 5) (by decide +kernel) rfl ?_
  refine ar_iload_n (pc := 174) (i := 2) (k0 := 2) (by decide +kernel) rfl rfl ?_
  refine ar_icmp_ge (pc := 175) (x := v5) (y := v2) (tgt := 212) (off := 37) (by decide +kernel) (by decide) (fun c1 => ?_) (fun c1 => ?_)
  · replace H := H.1 c1
    exact H h0
  · replace H := H.2 c1
    refine ar_iload (pc := 178) (i := 5) (by decide +kernel) rfl ?_
    refine ar_aload_n (pc := 180) (i := 1) (k0 := 1) (by decide +kernel) rfl rfl ?_
    obtain ⟨g2, H⟩ := H
    refine ar_alen (pc := 181) (a := a1) (by decide +kernel) (by rw [g2]; decide) ?_
    refine ar_icmp_ge (pc := 182) (x := v5) (y := (am_ln a1)) (tgt := 212) (off := 30) (by decide +kernel) (by decide) (fun c3 => ?_) (fun c3 => ?_)
    · replace H := H.1 c3
      exact H h0
    · replace H := H.2 c3
      refine ar_aload_n (pc := 185) (i := 1) (k0 := 1) (by decide +kernel) rfl rfl ?_
      refine ar_iload (pc := 186) (i := 5) (by decide +kernel) rfl ?_
      obtain ⟨g4, H⟩ := H
      obtain ⟨g5, H⟩ := H
      refine ar_iald (pc := 188) (a := a1) (i := v5) (by decide +kernel) g2 g4 g5 ?_
      refine ar_bipush (pc := 189) (z := 61) (by decide +kernel) (by omega) ?_
      refine ar_icmp_ne (pc := 191) (x := (h a1 v5)) (y := 61) (tgt := 212) (off := 21) (by decide +kernel) (by decide) (fun c6 => ?_) (fun c6 => ?_)
      · replace H := H.1 c6
        exact H h0
      · replace H := H.2 c6
        refine ar_aload_n (pc := 194) (i := 0) (k0 := 0) (by decide +kernel) rfl rfl ?_
        refine ar_sipush (pc := 195) (z := 256) (by decide +kernel) (by omega) ?_
        refine ar_iload (pc := 198) (i := 4) (by decide +kernel) rfl ?_
        refine ar_iadd (pc := 200) (x := 256) (y := v4) (by decide +kernel) ?_
        refine ar_iload_n (pc := 201) (i := 3) (k0 := 3) (by decide +kernel) rfl rfl ?_
        refine ar_iconst (pc := 202) (z := 0) (by decide +kernel) (by unfold am_i32; omega) ?_
        refine ar_callV (pc := 203) (M2 := M_X1_put) (a := 201) (ci := 1) (as := [.inl (am_w32 (256 + v4)), .inl v3, .inl 0]) (n2 := 321) (st := []) (by decide +kernel) rfl wm_RX1_90 wi_yX1_put wl_yX1_put k_201 rfl wz_RX1 wc_yX1_put ⟨by decide, by decide, rfl⟩ (by decide) (Nat.le_of_ble_eq_true rfl) (Nat.le_refl _) (Nat.le_refl _) (am_Cl_mono H (fun r7 h8 H => ?_))
        show am_Wp true (d + 1) M_X1_split 321 321 h0 Q 206 [some (.inr (.inr 201)), some (.inr (.inr a1)), some (.inl v2), some (.inl v3), some (.inl v4), some (.inl v5), none] [] 321 h8
        refine ar_iinc (pc := 206) (i := 5) (z := 1) (x := v5) (ls2 := [some (.inr (.inr 201)), some (.inr (.inr a1)), some (.inl v2), some (.inl v3), some (.inl v4), some (.inl (am_w32 (v5 + 1))), none]) (by decide +kernel) rfl (by decide) rfl ?_
        refine ar_goto (pc := 209) (tgt := 237) (off := 28) (by decide +kernel) (by decide) ?_
        refine ar_forget [true, true, true, false, false, true, true] rfl ?_
        exact H h0
theorem B_X1_split_212 {d : Nat} {Q : Int → am_H → Prop} {h : am_H} {a1 v2 v3 v4 v5 : Int} (H : (v4 = 32 → wf (d + 1) M_X1_split Q 237 [some (.inr (.inr 201)), some (.inr (.inr a1)), some (.inl v2), none, none, some (.inl v5), none] [] h) ∧ (¬ v4 = 32 → (v4 = 10 → wf (d + 1) M_X1_split Q 237 [some (.inr (.inr 201)), some (.inr (.inr a1)), some (.inl v2), none, none, some (.inl v5), none] [] h) ∧ (¬ v4 = 10 → cf d M_X1_signToken [.inl v4] h (fun r3 h4 => cf d M_X1_put [.inr (.inr 201), .inl r3, .inl v3, .inl 0] h4 (fun _ h6 => wf (d + 1) M_X1_split Q 237 [some (.inr (.inr 201)), some (.inr (.inr a1)), some (.inl v2), none, none, some (.inl v5), none] [] h6))))) : wf (d + 1) M_X1_split Q 212 [some (.inr (.inr 201)), some (.inr (.inr a1)), some (.inl v2), some (.inl v3), some (.inl v4), some (.inl v5), none] [] h := by
  intro h0
  refine ar_iload (pc := 212) (i := 4) (by decide +kernel) rfl ?_
  refine ar_bipush (pc := 214) (z := 32) (by decide +kernel) (by omega) ?_
  refine ar_icmp_eq (pc := 216) (x := v4) (y := 32) (tgt := 237) (off := 21) (by decide +kernel) (by decide) (fun c1 => ?_) (fun c1 => ?_)
  · replace H := H.1 c1
    refine ar_forget [true, true, true, false, false, true, true] rfl ?_
    exact H h0
  · replace H := H.2 c1
    refine ar_iload (pc := 219) (i := 4) (by decide +kernel) rfl ?_
    refine ar_bipush (pc := 221) (z := 10) (by decide +kernel) (by omega) ?_
    refine ar_icmp_eq (pc := 223) (x := v4) (y := 10) (tgt := 237) (off := 14) (by decide +kernel) (by decide) (fun c2 => ?_) (fun c2 => ?_)
    · replace H := H.1 c2
      refine ar_forget [true, true, true, false, false, true, true] rfl ?_
      exact H h0
    · replace H := H.2 c2
      refine ar_aload_n (pc := 226) (i := 0) (k0 := 0) (by decide +kernel) rfl rfl ?_
      refine ar_iload (pc := 227) (i := 4) (by decide +kernel) rfl ?_
      refine ar_callS (pc := 229) (M2 := M_X1_signToken) (as := [.inl v4]) (n2 := 321) (st := [.inr (.inr 201)]) (by decide +kernel) rfl wm_RX1_97 ws_yX1_signToken wz_RX1 wc_yX1_signToken ⟨by decide, by decide, rfl⟩ (by decide) (Nat.le_of_ble_eq_true rfl) (Nat.le_refl _) (Nat.le_refl _) (am_Cl_mono H (fun r3 h4 H => ?_))
      show am_Wp true (d + 1) M_X1_split 321 321 h0 Q 232 [some (.inr (.inr 201)), some (.inr (.inr a1)), some (.inl v2), some (.inl v3), some (.inl v4), some (.inl v5), none] [.inl r3, .inr (.inr 201)] 321 h4
      refine ar_iload_n (pc := 232) (i := 3) (k0 := 3) (by decide +kernel) rfl rfl ?_
      refine ar_iconst (pc := 233) (z := 0) (by decide +kernel) (by unfold am_i32; omega) ?_
      refine ar_callV (pc := 234) (M2 := M_X1_put) (a := 201) (ci := 1) (as := [.inl r3, .inl v3, .inl 0]) (n2 := 321) (st := []) (by decide +kernel) rfl wm_RX1_90 wi_yX1_put wl_yX1_put k_201 rfl wz_RX1 wc_yX1_put ⟨by decide, by decide, rfl⟩ (by decide) (Nat.le_of_ble_eq_true rfl) (Nat.le_refl _) (Nat.le_refl _) (am_Cl_mono H (fun r5 h6 H => ?_))
      show am_Wp true (d + 1) M_X1_split 321 321 h0 Q 237 [some (.inr (.inr 201)), some (.inr (.inr a1)), some (.inl v2), some (.inl v3), some (.inl v4), some (.inl v5), none] [] 321 h6
      refine ar_forget [true, true, true, false, false, true, true] rfl ?_
      exact H h0
theorem B_X1_split_237 {d : Nat} {Q : Int → am_H → Prop} {h : am_H} {a1 v2 v5 : Int} (H : wf (d + 1) M_X1_split Q 7 [some (.inr (.inr 201)), some (.inr (.inr a1)), some (.inl v2), some (.inl v5), none, none, none] [] h) : wf (d + 1) M_X1_split Q 237 [some (.inr (.inr 201)), some (.inr (.inr a1)), some (.inl v2), none, none, some (.inl v5), none] [] h := by
  intro h0
  refine ar_iload (pc := 237) (i := 5) (by decide +kernel) rfl ?_
  refine ar_istore_n (pc := 239) (i := 3) (k0 := 3) (ls2 := [some (.inr (.inr 201)), some (.inr (.inr a1)), some (.inl v2), some (.inl v5), none, some (.inl v5), none]) (by decide +kernel) rfl (by decide) rfl ?_
  refine ar_goto (pc := 240) (tgt := 7) (off := -233) (by decide +kernel) (by decide) ?_
  refine ar_forget [true, true, true, true, true, false, true] rfl ?_
  exact H h0
theorem B_X1_split_243 {d : Nat} {Q : Int → am_H → Prop} {h : am_H} {v2 : Int} (H : cf d M_X1_put [.inr (.inr 201), .inl 66, .inl v2, .inl 0] h (fun _ h2 => Q 0 h2)) : wf (d + 1) M_X1_split Q 243 [some (.inr (.inr 201)), none, some (.inl v2), none, none, none, none] [] h := by
  intro h0
  refine ar_aload_n (pc := 243) (i := 0) (k0 := 0) (by decide +kernel) rfl rfl ?_
  refine ar_bipush (pc := 244) (z := 66) (by decide +kernel) (by omega) ?_
  refine ar_iload_n (pc := 246) (i := 2) (k0 := 2) (by decide +kernel) rfl rfl ?_
  refine ar_iconst (pc := 247) (z := 0) (by decide +kernel) (by unfold am_i32; omega) ?_
  refine ar_callV (pc := 248) (M2 := M_X1_put) (a := 201) (ci := 1) (as := [.inl 66, .inl v2, .inl 0]) (n2 := 321) (st := []) (by decide +kernel) rfl wm_RX1_90 wi_yX1_put wl_yX1_put k_201 rfl wz_RX1 wc_yX1_put ⟨by decide, by decide, rfl⟩ (by decide) (Nat.le_of_ble_eq_true rfl) (Nat.le_refl _) (Nat.le_refl _) (am_Cl_mono H (fun r1 h2 H => ?_))
  show am_Wp true (d + 1) M_X1_split 321 321 h0 Q 251 [some (.inr (.inr 201)), none, some (.inl v2), none, none, none, none] [] 321 h2
  exact ar_vret (pc := 251) (by decide +kernel) rfl rfl H

/-! ByteIntervals$Parser.put(III)V -/
theorem B_X1_put_0 {d : Nat} {Q : Int → am_H → Prop} {h : am_H} {v1 v2 v3 : Int} (H : ((h 201 3) < 0 → Q 0 h) ∧ (0 ≤ (h 201 3) → (300 < (h 201 3) → Q 0 h) ∧ ((h 201 3) ≤ 300 → ((h 201 3) < 301) ∧ (Q 0 (am_up (am_up (am_up (am_up h 202 (h 201 3) v1) 203 (h 201 3) v2) 204 (h 201 3) v3) 201 3 (am_w32 ((h 201 3) + 1))))))) : wf d M_X1_put Q 0 [some (.inr (.inr 201)), some (.inl v1), some (.inl v2), some (.inl v3)] [] h := by
  intro h0
  refine ar_aload_n (pc := 0) (i := 0) (k0 := 0) (by decide +kernel) rfl rfl ?_
  refine ar_getV (pc := 1) (a := 201) (v := .inl (h 201 3)) 1 3 (by decide +kernel) k_201 rfl (by decide) wf_RX1_80 rfl ?_
  refine ar_if_lt (pc := 4) (x := (h 201 3)) (tgt := 57) (off := 53) (by decide +kernel) (by decide) (fun c1 => ?_) (fun c1 => ?_)
  · replace H := H.1 c1
    exact ar_vret (pc := 57) (by decide +kernel) rfl rfl H
  · replace H := H.2 c1
    refine ar_aload_n (pc := 7) (i := 0) (k0 := 0) (by decide +kernel) rfl rfl ?_
    refine ar_getV (pc := 8) (a := 201) (v := .inl (h 201 3)) 1 3 (by decide +kernel) k_201 rfl (by decide) wf_RX1_80 rfl ?_
    refine ar_sipush (pc := 11) (z := 300) (by decide +kernel) (by omega) ?_
    refine ar_icmp_gt (pc := 14) (x := (h 201 3)) (y := 300) (tgt := 57) (off := 43) (by decide +kernel) (by decide) (fun c2 => ?_) (fun c2 => ?_)
    · replace H := H.1 c2
      exact ar_vret (pc := 57) (by decide +kernel) rfl rfl H
    · replace H := H.2 c2
      refine ar_aload_n (pc := 17) (i := 0) (k0 := 0) (by decide +kernel) rfl rfl ?_
      refine ar_getFV (pc := 18) (a := 201) (b := 202) 1 0 (by decide +kernel) k_201 rfl (by decide) wf_RX1_9 rfl (fun _ => rfl) rfl ?_
      refine ar_aload_n (pc := 21) (i := 0) (k0 := 0) (by decide +kernel) rfl rfl ?_
      refine ar_getV (pc := 22) (a := 201) (v := .inl (h 201 3)) 1 3 (by decide +kernel) k_201 rfl (by decide) wf_RX1_80 rfl ?_
      refine ar_iload_n (pc := 25) (i := 1) (k0 := 1) (by decide +kernel) rfl rfl ?_
      obtain ⟨g3, H⟩ := H
      refine ar_iast (pc := 26) (a := 202) (i := (h 201 3)) (z := v1) (by decide +kernel) k_202 c1 (am_lt_eq g3 (l_202).symm) ?_
      refine ar_aload_n (pc := 27) (i := 0) (k0 := 0) (by decide +kernel) rfl rfl ?_
      refine ar_getFV (pc := 28) (a := 201) (b := 203) 1 1 (by decide +kernel) k_201 rfl (by decide) wf_RX1_15 rfl (fun _ => rfl) rfl ?_
      refine ar_aload_n (pc := 31) (i := 0) (k0 := 0) (by decide +kernel) rfl rfl ?_
      refine ar_getV (pc := 32) (a := 201) (v := .inl (h 201 3)) 1 3 (by decide +kernel) k_201 rfl (by decide) wf_RX1_80 (by first | rfl | (simp [am_tv, am_ty, tyX1, am_up, am_cp]; done) | (simp [am_tv, am_ty, tyX1, am_up, am_cp] <;> intros <;> omega)) ?_
      refine ar_iload_n (pc := 35) (i := 2) (k0 := 2) (by decide +kernel) rfl rfl ?_
      refine ar_iast (pc := 36) (a := 203) (i := (h 201 3)) (z := v2) (by decide +kernel) k_203 c1 (am_lt_eq g3 (l_203).symm) ?_
      refine ar_aload_n (pc := 37) (i := 0) (k0 := 0) (by decide +kernel) rfl rfl ?_
      refine ar_getFV (pc := 38) (a := 201) (b := 204) 1 2 (by decide +kernel) k_201 rfl (by decide) wf_RX1_18 rfl (fun _ => rfl) rfl ?_
      refine ar_aload_n (pc := 41) (i := 0) (k0 := 0) (by decide +kernel) rfl rfl ?_
      refine ar_getV (pc := 42) (a := 201) (v := .inl (h 201 3)) 1 3 (by decide +kernel) k_201 rfl (by decide) wf_RX1_80 (by first | rfl | (simp [am_tv, am_ty, tyX1, am_up, am_cp]; done) | (simp [am_tv, am_ty, tyX1, am_up, am_cp] <;> intros <;> omega)) ?_
      refine ar_iload_n (pc := 45) (i := 3) (k0 := 3) (by decide +kernel) rfl rfl ?_
      refine ar_iast (pc := 46) (a := 204) (i := (h 201 3)) (z := v3) (by decide +kernel) k_204 c1 (am_lt_eq g3 (l_204).symm) ?_
      refine ar_aload_n (pc := 47) (i := 0) (k0 := 0) (by decide +kernel) rfl rfl ?_
      refine ar_dup (pc := 48) (by decide +kernel) trivial ?_
      refine ar_getV (pc := 49) (a := 201) (v := .inl (h 201 3)) 1 3 (by decide +kernel) k_201 rfl (by decide) wf_RX1_80 (by first | rfl | (simp [am_tv, am_ty, tyX1, am_up, am_cp]; done) | (simp [am_tv, am_ty, tyX1, am_up, am_cp] <;> intros <;> omega)) ?_
      refine ar_iconst (pc := 52) (z := 1) (by decide +kernel) (by unfold am_i32; omega) ?_
      refine ar_iadd (pc := 53) (x := (h 201 3)) (y := 1) (by decide +kernel) ?_
      refine ar_putI (pc := 54) (a := 201) (z := (am_w32 ((h 201 3) + 1))) 1 3 (by decide +kernel) k_201 rfl (by decide) rfl (fun _ => rfl) rfl wf_RX1_80 ?_
      exact ar_vret (pc := 57) (by decide +kernel) rfl rfl H

/-! ByteIntervals$Parser.advance()Z -/
theorem B_X1_advance_0 {d : Nat} {Q : Int → am_H → Prop} {h : am_H} (H : ((h 201 5) < 0 → Q 1 h) ∧ (0 ≤ (h 201 5) → ((am_w32 ((h 201 3) - 1)) ≤ (h 201 5) → Q 1 h) ∧ ((h 201 5) < (am_w32 ((h 201 3) - 1)) → (300 ≤ (h 201 5) → Q 1 h) ∧ ((h 201 5) < 300 → (0 ≤ (am_w32 ((h 201 5) + 1))) ∧ (((am_w32 ((h 201 5) + 1)) < 301) ∧ (Q 1 (am_up (am_up h 201 5 (am_w32 ((h 201 5) + 1))) 201 4 (h 202 (am_w32 ((h 201 5) + 1)))))))))) : wf d M_X1_advance Q 0 [some (.inr (.inr 201))] [] h := by
  intro h0
  refine ar_aload_n (pc := 0) (i := 0) (k0 := 0) (by decide +kernel) rfl rfl ?_
  refine ar_getV (pc := 1) (a := 201) (v := .inl (h 201 5)) 1 5 (by decide +kernel) k_201 rfl (by decide) wf_RX1_41 rfl ?_
  refine ar_if_lt (pc := 4) (x := (h 201 5)) (tgt := 53) (off := 49) (by decide +kernel) (by decide) (fun c1 => ?_) (fun c1 => ?_)
  · replace H := H.1 c1
    refine ar_iconst (pc := 53) (z := 1) (by decide +kernel) (by unfold am_i32; omega) ?_
    exact ar_zret (pc := 54) (x := 1) (by decide +kernel) rfl rfl (by decide) H
  · replace H := H.2 c1
    refine ar_aload_n (pc := 7) (i := 0) (k0 := 0) (by decide +kernel) rfl rfl ?_
    refine ar_getV (pc := 8) (a := 201) (v := .inl (h 201 5)) 1 5 (by decide +kernel) k_201 rfl (by decide) wf_RX1_41 rfl ?_
    refine ar_aload_n (pc := 11) (i := 0) (k0 := 0) (by decide +kernel) rfl rfl ?_
    refine ar_getV (pc := 12) (a := 201) (v := .inl (h 201 3)) 1 3 (by decide +kernel) k_201 rfl (by decide) wf_RX1_80 rfl ?_
    refine ar_iconst (pc := 15) (z := 1) (by decide +kernel) (by unfold am_i32; omega) ?_
    refine ar_isub (pc := 16) (x := (h 201 3)) (y := 1) (by decide +kernel) ?_
    refine ar_icmp_ge (pc := 17) (x := (h 201 5)) (y := (am_w32 ((h 201 3) - 1))) (tgt := 53) (off := 36) (by decide +kernel) (by decide) (fun c2 => ?_) (fun c2 => ?_)
    · replace H := H.1 c2
      refine ar_iconst (pc := 53) (z := 1) (by decide +kernel) (by unfold am_i32; omega) ?_
      exact ar_zret (pc := 54) (x := 1) (by decide +kernel) rfl rfl (by decide) H
    · replace H := H.2 c2
      refine ar_aload_n (pc := 20) (i := 0) (k0 := 0) (by decide +kernel) rfl rfl ?_
      refine ar_getV (pc := 21) (a := 201) (v := .inl (h 201 5)) 1 5 (by decide +kernel) k_201 rfl (by decide) wf_RX1_41 rfl ?_
      refine ar_sipush (pc := 24) (z := 300) (by decide +kernel) (by omega) ?_
      refine ar_icmp_ge (pc := 27) (x := (h 201 5)) (y := 300) (tgt := 53) (off := 26) (by decide +kernel) (by decide) (fun c3 => ?_) (fun c3 => ?_)
      · replace H := H.1 c3
        refine ar_iconst (pc := 53) (z := 1) (by decide +kernel) (by unfold am_i32; omega) ?_
        exact ar_zret (pc := 54) (x := 1) (by decide +kernel) rfl rfl (by decide) H
      · replace H := H.2 c3
        refine ar_aload_n (pc := 30) (i := 0) (k0 := 0) (by decide +kernel) rfl rfl ?_
        refine ar_dup (pc := 31) (by decide +kernel) trivial ?_
        refine ar_getV (pc := 32) (a := 201) (v := .inl (h 201 5)) 1 5 (by decide +kernel) k_201 rfl (by decide) wf_RX1_41 rfl ?_
        refine ar_iconst (pc := 35) (z := 1) (by decide +kernel) (by unfold am_i32; omega) ?_
        refine ar_iadd (pc := 36) (x := (h 201 5)) (y := 1) (by decide +kernel) ?_
        refine ar_putI (pc := 37) (a := 201) (z := (am_w32 ((h 201 5) + 1))) 1 5 (by decide +kernel) k_201 rfl (by decide) rfl (fun _ => rfl) rfl wf_RX1_41 ?_
        refine ar_aload_n (pc := 40) (i := 0) (k0 := 0) (by decide +kernel) rfl rfl ?_
        refine ar_aload_n (pc := 41) (i := 0) (k0 := 0) (by decide +kernel) rfl rfl ?_
        refine ar_getFV (pc := 42) (a := 201) (b := 202) 1 0 (by decide +kernel) k_201 rfl (by decide) wf_RX1_9 rfl (fun _ => rfl) rfl ?_
        refine ar_aload_n (pc := 45) (i := 0) (k0 := 0) (by decide +kernel) rfl rfl ?_
        refine ar_getV (pc := 46) (a := 201) (v := .inl (am_w32 ((h 201 5) + 1))) 1 5 (by decide +kernel) k_201 rfl (by decide) wf_RX1_41 (by first | rfl | (simp [am_tv, am_ty, tyX1, am_up, am_cp]; done) | (simp [am_tv, am_ty, tyX1, am_up, am_cp] <;> intros <;> omega)) ?_
        obtain ⟨g4, H⟩ := H
        obtain ⟨g5, H⟩ := H
        refine ar_ialdV (pc := 49) (a := 202) (i := (am_w32 ((h 201 5) + 1))) (v := (h 202 (am_w32 ((h 201 5) + 1)))) (by first | rfl | (simp [am_up, am_cp]; done) | (simp [am_up, am_cp] <;> intros <;> omega)) (by decide +kernel) k_202 g4 (am_lt_eq g5 (l_202).symm) ?_
        refine ar_putI (pc := 50) (a := 201) (z := (h 202 (am_w32 ((h 201 5) + 1)))) 1 4 (by decide +kernel) k_201 rfl (by decide) rfl (fun _ => rfl) rfl wf_RX1_45 ?_
        refine ar_iconst (pc := 53) (z := 1) (by decide +kernel) (by unfold am_i32; omega) ?_
        exact ar_zret (pc := 54) (x := 1) (by decide +kernel) rfl rfl (by decide) H

/-! ByteIntervals$Parser.take(I)Z -/
theorem B_X1_take_0 {d : Nat} {Q : Int → am_H → Prop} {h : am_H} {v1 : Int} (H : (¬ (h 201 4) = v1 → cf d M_X1_fail [.inr (.inr 201), .inl 1] h (fun r2 h3 => (r2 = 0 ∨ r2 = 1) ∧ (Q r2 h3))) ∧ ((h 201 4) = v1 → cf d M_X1_advance [.inr (.inr 201)] h (fun r5 h6 => (r5 = 0 ∨ r5 = 1) ∧ (Q r5 h6)))) : wf (d + 1) M_X1_take Q 0 [some (.inr (.inr 201)), some (.inl v1)] [] h := by
  intro h0
  refine ar_aload_n (pc := 0) (i := 0) (k0 := 0) (by decide +kernel) rfl rfl ?_
  refine ar_getV (pc := 1) (a := 201) (v := .inl (h 201 4)) 1 4 (by decide +kernel) k_201 rfl (by decide) wf_RX1_45 rfl ?_
  refine ar_iload_n (pc := 4) (i := 1) (k0 := 1) (by decide +kernel) rfl rfl ?_
  refine ar_icmp_ne (pc := 5) (x := (h 201 4)) (y := v1) (tgt := 15) (off := 10) (by decide +kernel) (by decide) (fun c1 => ?_) (fun c1 => ?_)
  · replace H := H.1 c1
    refine ar_aload_n (pc := 15) (i := 0) (k0 := 0) (by decide +kernel) rfl rfl ?_
    refine ar_iconst (pc := 16) (z := 1) (by decide +kernel) (by unfold am_i32; omega) ?_
    refine ar_callV (pc := 17) (M2 := M_X1_fail) (a := 201) (ci := 1) (as := [.inl 1]) (n2 := 321) (st := []) (by decide +kernel) rfl wm_RX1_124 wi_yX1_fail wl_yX1_fail k_201 rfl wz_RX1 wc_yX1_fail ⟨by decide, by decide, rfl⟩ (by decide) (Nat.le_of_ble_eq_true rfl) (Nat.le_refl _) (Nat.le_refl _) (am_Cl_mono H (fun r2 h3 H => ?_))
    show am_Wp true (d + 1) M_X1_take 321 321 h0 Q 20 [some (.inr (.inr 201)), some (.inl v1)] [.inl r2] 321 h3
    obtain ⟨g4, H⟩ := H
    exact ar_zret (pc := 20) (x := r2) (by decide +kernel) rfl rfl g4 H
  · replace H := H.2 c1
    refine ar_aload_n (pc := 8) (i := 0) (k0 := 0) (by decide +kernel) rfl rfl ?_
    refine ar_callV (pc := 9) (M2 := M_X1_advance) (a := 201) (ci := 1) (as := []) (n2 := 321) (st := []) (by decide +kernel) rfl wm_RX1_121 wi_yX1_advance wl_yX1_advance k_201 rfl wz_RX1 wc_yX1_advance ⟨by decide, by decide, rfl⟩ (by decide) (Nat.le_of_ble_eq_true rfl) (Nat.le_refl _) (Nat.le_refl _) (am_Cl_mono H (fun r5 h6 H => ?_))
    show am_Wp true (d + 1) M_X1_take 321 321 h0 Q 12 [some (.inr (.inr 201)), some (.inl v1)] [.inl r5] 321 h6
    refine ar_goto (pc := 12) (tgt := 20) (off := 8) (by decide +kernel) (by decide) ?_
    obtain ⟨g7, H⟩ := H
    exact ar_zret (pc := 20) (x := r5) (by decide +kernel) rfl rfl g7 H

/-! ByteIntervals$Parser.numberHere()I -/
theorem B_X1_numberHere_0 {d : Nat} {Q : Int → am_H → Prop} {h : am_H} (H : (¬ (h 201 4) = 64 → Q (-1) h) ∧ ((h 201 4) = 64 → ((h 201 5) < 0 → Q (-1) h) ∧ (0 ≤ (h 201 5) → (300 < (h 201 5) → Q (-1) h) ∧ ((h 201 5) ≤ 300 → ((h 201 5) < 301) ∧ (Q (h 204 (h 201 5)) h))))) : wf d M_X1_numberHere Q 0 [some (.inr (.inr 201))] [] h := by
  intro h0
  refine ar_aload_n (pc := 0) (i := 0) (k0 := 0) (by decide +kernel) rfl rfl ?_
  refine ar_getV (pc := 1) (a := 201) (v := .inl (h 201 4)) 1 4 (by decide +kernel) k_201 rfl (by decide) wf_RX1_45 rfl ?_
  refine ar_bipush (pc := 4) (z := 64) (by decide +kernel) (by omega) ?_
  refine ar_icmp_ne (pc := 6) (x := (h 201 4)) (y := 64) (tgt := 38) (off := 32) (by decide +kernel) (by decide) (fun c1 => ?_) (fun c1 => ?_)
  · replace H := H.1 c1
    refine ar_iconst (pc := 38) (z := (-1)) (by decide +kernel) (by unfold am_i32; omega) ?_
    exact ar_iret (pc := 39) (x := (-1)) (by decide +kernel) rfl rfl H
  · replace H := H.2 c1
    refine ar_aload_n (pc := 9) (i := 0) (k0 := 0) (by decide +kernel) rfl rfl ?_
    refine ar_getV (pc := 10) (a := 201) (v := .inl (h 201 5)) 1 5 (by decide +kernel) k_201 rfl (by decide) wf_RX1_41 rfl ?_
    refine ar_if_lt (pc := 13) (x := (h 201 5)) (tgt := 38) (off := 25) (by decide +kernel) (by decide) (fun c2 => ?_) (fun c2 => ?_)
    · replace H := H.1 c2
      refine ar_iconst (pc := 38) (z := (-1)) (by decide +kernel) (by unfold am_i32; omega) ?_
      exact ar_iret (pc := 39) (x := (-1)) (by decide +kernel) rfl rfl H
    · replace H := H.2 c2
      refine ar_aload_n (pc := 16) (i := 0) (k0 := 0) (by decide +kernel) rfl rfl ?_
      refine ar_getV (pc := 17) (a := 201) (v := .inl (h 201 5)) 1 5 (by decide +kernel) k_201 rfl (by decide) wf_RX1_41 rfl ?_
      refine ar_sipush (pc := 20) (z := 300) (by decide +kernel) (by omega) ?_
      refine ar_icmp_gt (pc := 23) (x := (h 201 5)) (y := 300) (tgt := 38) (off := 15) (by decide +kernel) (by decide) (fun c3 => ?_) (fun c3 => ?_)
      · replace H := H.1 c3
        refine ar_iconst (pc := 38) (z := (-1)) (by decide +kernel) (by unfold am_i32; omega) ?_
        exact ar_iret (pc := 39) (x := (-1)) (by decide +kernel) rfl rfl H
      · replace H := H.2 c3
        refine ar_aload_n (pc := 26) (i := 0) (k0 := 0) (by decide +kernel) rfl rfl ?_
        refine ar_getFV (pc := 27) (a := 201) (b := 204) 1 2 (by decide +kernel) k_201 rfl (by decide) wf_RX1_18 rfl (fun _ => rfl) rfl ?_
        refine ar_aload_n (pc := 30) (i := 0) (k0 := 0) (by decide +kernel) rfl rfl ?_
        refine ar_getV (pc := 31) (a := 201) (v := .inl (h 201 5)) 1 5 (by decide +kernel) k_201 rfl (by decide) wf_RX1_41 rfl ?_
        obtain ⟨g4, H⟩ := H
        refine ar_iald (pc := 34) (a := 204) (i := (h 201 5)) (by decide +kernel) k_204 c2 (am_lt_eq g4 (l_204).symm) ?_
        refine ar_goto (pc := 35) (tgt := 39) (off := 4) (by decide +kernel) (by decide) ?_
        exact ar_iret (pc := 39) (x := (h 204 (h 201 5))) (by decide +kernel) rfl rfl H

/-! ByteIntervals$Parser.emit(II)I -/
theorem B_X1_emit_0 {d : Nat} {Q : Int → am_H → Prop} {h : am_H} {v1 v2 : Int} (H : ((h 201 7) < 0 → Q 0 h) ∧ (0 ≤ (h 201 7) → ((h 201 7) < 300 → (am_kd 321 (h 201 6) = 15) ∧ ((am_kd 321 ((h 201 6) + 4) = 0) ∧ (((h 201 7) < am_ln ((h 201 6) + 4)) ∧ (Q (h 201 7) (am_up (am_up h ((h 201 6) + 4) (h 201 7) (am_ior (am_ishl v2 5) v1)) 201 7 (am_w32 ((h 201 7) + 1))))))) ∧ (300 ≤ (h 201 7) → Q 0 h))) : wf d M_X1_emit Q 0 [some (.inr (.inr 201)), some (.inl v1), some (.inl v2), none] [] h := by
  intro h0
  refine ar_aload_n (pc := 0) (i := 0) (k0 := 0) (by decide +kernel) rfl rfl ?_
  refine ar_getV (pc := 1) (a := 201) (v := .inl (h 201 7)) 1 7 (by decide +kernel) k_201 rfl (by decide) wf_RX1_48 rfl ?_
  refine ar_istore_n (pc := 4) (i := 3) (k0 := 3) (ls2 := [some (.inr (.inr 201)), some (.inl v1), some (.inl v2), some (.inl (h 201 7))]) (by decide +kernel) rfl (by decide) rfl ?_
  refine ar_iload_n (pc := 5) (i := 3) (k0 := 3) (by decide +kernel) rfl rfl ?_
  refine ar_if_lt (pc := 6) (x := (h 201 7)) (tgt := 16) (off := 10) (by decide +kernel) (by decide) (fun c1 => ?_) (fun c1 => ?_)
  · replace H := H.1 c1
    refine ar_iconst (pc := 16) (z := 0) (by decide +kernel) (by unfold am_i32; omega) ?_
    exact ar_iret (pc := 17) (x := 0) (by decide +kernel) rfl rfl H
  · replace H := H.2 c1
    refine ar_iload_n (pc := 9) (i := 3) (k0 := 3) (by decide +kernel) rfl rfl ?_
    refine ar_sipush (pc := 10) (z := 300) (by decide +kernel) (by omega) ?_
    refine ar_icmp_lt (pc := 13) (x := (h 201 7)) (y := 300) (tgt := 18) (off := 5) (by decide +kernel) (by decide) (fun c2 => ?_) (fun c2 => ?_)
    · replace H := H.1 c2
      refine ar_aload_n (pc := 18) (i := 0) (k0 := 0) (by decide +kernel) rfl rfl ?_
      refine ar_getV (pc := 19) (a := 201) (v := .inr (.inr (h 201 6))) 1 6 (by decide +kernel) k_201 rfl (by decide) wf_RX1_24 rfl ?_
      obtain ⟨g3, H⟩ := H
      refine ar_getFNV (pc := 22) (a := (h 201 6)) (b := ((h 201 6) + 4)) 5 4 (by decide +kernel) g3 rfl (by decide) wg_RX1_127 rfl (fun _ => rfl) rfl ?_
      refine ar_iload_n (pc := 25) (i := 3) (k0 := 3) (by decide +kernel) rfl rfl ?_
      refine ar_iload_n (pc := 26) (i := 2) (k0 := 2) (by decide +kernel) rfl rfl ?_
      refine ar_iconst (pc := 27) (z := 5) (by decide +kernel) (by unfold am_i32; omega) ?_
      refine ar_ishl (pc := 28) (x := v2) (y := 5) (by decide +kernel) ?_
      refine ar_iload_n (pc := 29) (i := 1) (k0 := 1) (by decide +kernel) rfl rfl ?_
      refine ar_ior (pc := 30) (x := (am_ishl v2 5)) (y := v1) (by decide +kernel) ?_
      obtain ⟨g4, H⟩ := H
      obtain ⟨g5, H⟩ := H
      refine ar_iast (pc := 31) (a := ((h 201 6) + 4)) (i := (h 201 7)) (z := (am_ior (am_ishl v2 5) v1)) (by decide +kernel) g4 c1 g5 ?_
      refine ar_aload_n (pc := 32) (i := 0) (k0 := 0) (by decide +kernel) rfl rfl ?_
      refine ar_iload_n (pc := 33) (i := 3) (k0 := 3) (by decide +kernel) rfl rfl ?_
      refine ar_iconst (pc := 34) (z := 1) (by decide +kernel) (by unfold am_i32; omega) ?_
      refine ar_iadd (pc := 35) (x := (h 201 7)) (y := 1) (by decide +kernel) ?_
      refine ar_putI (pc := 36) (a := 201) (z := (am_w32 ((h 201 7) + 1))) 1 7 (by decide +kernel) k_201 rfl (by decide) rfl (fun _ => rfl) rfl wf_RX1_48 ?_
      refine ar_iload_n (pc := 39) (i := 3) (k0 := 3) (by decide +kernel) rfl rfl ?_
      exact ar_iret (pc := 40) (x := (h 201 7)) (by decide +kernel) rfl rfl H
    · replace H := H.2 c2
      refine ar_iconst (pc := 16) (z := 0) (by decide +kernel) (by unfold am_i32; omega) ?_
      exact ar_iret (pc := 17) (x := 0) (by decide +kernel) rfl rfl H

/-! ByteIntervals$Parser.readKind()Z -/
theorem B_X1_readKind_0 {d : Nat} {Q : Int → am_H → Prop} {h : am_H} (H : (am_kd 321 (h 201 6) = 15) ∧ (((h 201 4) < 0 → wf (d + 1) M_X1_readKind Q 24 [some (.inr (.inr 201)), none] [] h) ∧ (0 ≤ (h 201 4) → ((h 201 4) ≤ 8 → (¬ (h 201 4) = 4 → wf (d + 1) M_X1_readKind Q 55 [some (.inr (.inr 201)), some (.inl (h (h 201 6) 0))] [] h) ∧ ((h 201 4) = 4 → ((h (h 201 6) 5) = (-1) → wf (d + 1) M_X1_readKind Q 55 [some (.inr (.inr 201)), some (.inl (h (h 201 6) 0))] [] h) ∧ (¬ (h (h 201 6) 5) = (-1) → cf d M_X1_fail [.inr (.inr 201), .inl 4] h (fun r6 h7 => (r6 = 0 ∨ r6 = 1) ∧ (Q r6 h7))))) ∧ (8 < (h 201 4) → wf (d + 1) M_X1_readKind Q 24 [some (.inr (.inr 201)), none] [] h)))) : wf (d + 1) M_X1_readKind Q 0 [some (.inr (.inr 201)), none] [] h := by
  intro h0
  refine ar_aload_n (pc := 0) (i := 0) (k0 := 0) (by decide +kernel) rfl rfl ?_
  refine ar_getV (pc := 1) (a := 201) (v := .inr (.inr (h 201 6))) 1 6 (by decide +kernel) k_201 rfl (by decide) wf_RX1_24 rfl ?_
  obtain ⟨g1, H⟩ := H
  refine ar_getNV (pc := 4) (a := (h 201 6)) (v := .inl (h (h 201 6) 0)) 5 0 (by decide +kernel) g1 rfl (by decide) wg_RX1_67 rfl ?_
  refine ar_istore_n (pc := 7) (i := 1) (k0 := 1) (ls2 := [some (.inr (.inr 201)), some (.inl (h (h 201 6) 0))]) (by decide +kernel) rfl (by decide) rfl ?_
  refine ar_aload_n (pc := 8) (i := 0) (k0 := 0) (by decide +kernel) rfl rfl ?_
  refine ar_getV (pc := 9) (a := 201) (v := .inl (h 201 4)) 1 4 (by decide +kernel) k_201 rfl (by decide) wf_RX1_45 rfl ?_
  refine ar_if_lt (pc := 12) (x := (h 201 4)) (tgt := 24) (off := 12) (by decide +kernel) (by decide) (fun c2 => ?_) (fun c2 => ?_)
  · replace H := H.1 c2
    refine ar_forget [true, false] rfl ?_
    exact H h0
  · replace H := H.2 c2
    refine ar_aload_n (pc := 15) (i := 0) (k0 := 0) (by decide +kernel) rfl rfl ?_
    refine ar_getV (pc := 16) (a := 201) (v := .inl (h 201 4)) 1 4 (by decide +kernel) k_201 rfl (by decide) wf_RX1_45 rfl ?_
    refine ar_bipush (pc := 19) (z := 8) (by decide +kernel) (by omega) ?_
    refine ar_icmp_le (pc := 21) (x := (h 201 4)) (y := 8) (tgt := 30) (off := 9) (by decide +kernel) (by decide) (fun c3 => ?_) (fun c3 => ?_)
    · replace H := H.1 c3
      refine ar_aload_n (pc := 30) (i := 0) (k0 := 0) (by decide +kernel) rfl rfl ?_
      refine ar_getV (pc := 31) (a := 201) (v := .inl (h 201 4)) 1 4 (by decide +kernel) k_201 rfl (by decide) wf_RX1_45 rfl ?_
      refine ar_iconst (pc := 34) (z := 4) (by decide +kernel) (by unfold am_i32; omega) ?_
      refine ar_icmp_ne (pc := 35) (x := (h 201 4)) (y := 4) (tgt := 55) (off := 20) (by decide +kernel) (by decide) (fun c4 => ?_) (fun c4 => ?_)
      · replace H := H.1 c4
        exact H h0
      · replace H := H.2 c4
        refine ar_aload_n (pc := 38) (i := 0) (k0 := 0) (by decide +kernel) rfl rfl ?_
        refine ar_getV (pc := 39) (a := 201) (v := .inr (.inr (h 201 6))) 1 6 (by decide +kernel) k_201 rfl (by decide) wf_RX1_24 rfl ?_
        refine ar_getNV (pc := 42) (a := (h 201 6)) (v := .inl (h (h 201 6) 5)) 5 5 (by decide +kernel) g1 rfl (by decide) wg_RX1_130 rfl ?_
        refine ar_iconst (pc := 45) (z := (-1)) (by decide +kernel) (by unfold am_i32; omega) ?_
        refine ar_icmp_eq (pc := 46) (x := (h (h 201 6) 5)) (y := (-1)) (tgt := 55) (off := 9) (by decide +kernel) (by decide) (fun c5 => ?_) (fun c5 => ?_)
        · replace H := H.1 c5
          exact H h0
        · replace H := H.2 c5
          refine ar_aload_n (pc := 49) (i := 0) (k0 := 0) (by decide +kernel) rfl rfl ?_
          refine ar_iconst (pc := 50) (z := 4) (by decide +kernel) (by unfold am_i32; omega) ?_
          refine ar_callV (pc := 51) (M2 := M_X1_fail) (a := 201) (ci := 1) (as := [.inl 4]) (n2 := 321) (st := []) (by decide +kernel) rfl wm_RX1_124 wi_yX1_fail wl_yX1_fail k_201 rfl wz_RX1 wc_yX1_fail ⟨by decide, by decide, rfl⟩ (by decide) (Nat.le_of_ble_eq_true rfl) (Nat.le_refl _) (Nat.le_refl _) (am_Cl_mono H (fun r6 h7 H => ?_))
          show am_Wp true (d + 1) M_X1_readKind 321 321 h0 Q 54 [some (.inr (.inr 201)), some (.inl (h (h 201 6) 0))] [.inl r6] 321 h7
          obtain ⟨g8, H⟩ := H
          exact ar_zret (pc := 54) (x := r6) (by decide +kernel) rfl rfl g8 H
    · replace H := H.2 c3
      refine ar_forget [true, false] rfl ?_
      exact H h0
theorem B_X1_readKind_24 {d : Nat} {Q : Int → am_H → Prop} {h : am_H} (H : cf d M_X1_fail [.inr (.inr 201), .inl 1] h (fun r1 h2 => (r1 = 0 ∨ r1 = 1) ∧ (Q r1 h2))) : wf (d + 1) M_X1_readKind Q 24 [some (.inr (.inr 201)), none] [] h := by
  intro h0
  refine ar_aload_n (pc := 24) (i := 0) (k0 := 0) (by decide +kernel) rfl rfl ?_
  refine ar_iconst (pc := 25) (z := 1) (by decide +kernel) (by unfold am_i32; omega) ?_
  refine ar_callV (pc := 26) (M2 := M_X1_fail) (a := 201) (ci := 1) (as := [.inl 1]) (n2 := 321) (st := []) (by decide +kernel) rfl wm_RX1_124 wi_yX1_fail wl_yX1_fail k_201 rfl wz_RX1 wc_yX1_fail ⟨by decide, by decide, rfl⟩ (by decide) (Nat.le_of_ble_eq_true rfl) (Nat.le_refl _) (Nat.le_refl _) (am_Cl_mono H (fun r1 h2 H => ?_))
  show am_Wp true (d + 1) M_X1_readKind 321 321 h0 Q 29 [some (.inr (.inr 201)), none] [.inl r1] 321 h2
  obtain ⟨g3, H⟩ := H
  exact ar_zret (pc := 29) (x := r1) (by decide +kernel) rfl rfl g3 H
theorem B_X1_readKind_55 {d : Nat} {Q : Int → am_H → Prop} {h : am_H} {v1 : Int} (H : (v1 < 0 → wf (d + 1) M_X1_readKind Q 65 [some (.inr (.inr 201)), none] [] h) ∧ (0 ≤ v1 → (v1 < 24 → (am_kd 321 (h 201 6) = 15) ∧ ((am_kd 321 ((h 201 6) + 1) = 0) ∧ ((v1 < am_ln ((h 201 6) + 1)) ∧ ((am_kd 321 ((am_up (am_up h 201 8 (h 201 4)) ((h 201 6) + 1) v1 (h 201 4)) 201 6) = 15) ∧ ((am_kd 321 (((am_up (am_up h 201 8 (h 201 4)) ((h 201 6) + 1) v1 (h 201 4)) 201 6) + 2) = 0) ∧ ((v1 < am_ln (((am_up (am_up h 201 8 (h 201 4)) ((h 201 6) + 1) v1 (h 201 4)) 201 6) + 2)) ∧ ((am_kd 321 ((am_up (am_up (am_up h 201 8 (h 201 4)) ((h 201 6) + 1) v1 (h 201 4)) (((am_up (am_up h 201 8 (h 201 4)) ((h 201 6) + 1) v1 (h 201 4)) 201 6) + 2) v1 0) 201 6) = 15) ∧ ((am_kd 321 (((am_up (am_up (am_up h 201 8 (h 201 4)) ((h 201 6) + 1) v1 (h 201 4)) (((am_up (am_up h 201 8 (h 201 4)) ((h 201 6) + 1) v1 (h 201 4)) 201 6) + 2) v1 0) 201 6) + 3) = 0) ∧ ((v1 < am_ln (((am_up (am_up (am_up h 201 8 (h 201 4)) ((h 201 6) + 1) v1 (h 201 4)) (((am_up (am_up h 201 8 (h 201 4)) ((h 201 6) + 1) v1 (h 201 4)) 201 6) + 2) v1 0) 201 6) + 3)) ∧ ((am_kd 321 ((am_up (am_up (am_up (am_up h 201 8 (h 201 4)) ((h 201 6) + 1) v1 (h 201 4)) (((am_up (am_up h 201 8 (h 201 4)) ((h 201 6) + 1) v1 (h 201 4)) 201 6) + 2) v1 0) (((am_up (am_up (am_up h 201 8 (h 201 4)) ((h 201 6) + 1) v1 (h 201 4)) (((am_up (am_up h 201 8 (h 201 4)) ((h 201 6) + 1) v1 (h 201 4)) 201 6) + 2) v1 0) 201 6) + 3) v1 0) 201 6) = 15) ∧ (cf d M_X1_advance [.inr (.inr 201)] (am_up (am_up (am_up (am_up (am_up (am_up (am_up h 201 8 (h 201 4)) ((h 201 6) + 1) v1 (h 201 4)) (((am_up (am_up h 201 8 (h 201 4)) ((h 201 6) + 1) v1 (h 201 4)) 201 6) + 2) v1 0) (((am_up (am_up (am_up h 201 8 (h 201 4)) ((h 201 6) + 1) v1 (h 201 4)) (((am_up (am_up h 201 8 (h 201 4)) ((h 201 6) + 1) v1 (h 201 4)) 201 6) + 2) v1 0) 201 6) + 3) v1 0) ((am_up (am_up (am_up (am_up h 201 8 (h 201 4)) ((h 201 6) + 1) v1 (h 201 4)) (((am_up (am_up h 201 8 (h 201 4)) ((h 201 6) + 1) v1 (h 201 4)) 201 6) + 2) v1 0) (((am_up (am_up (am_up h 201 8 (h 201 4)) ((h 201 6) + 1) v1 (h 201 4)) (((am_up (am_up h 201 8 (h 201 4)) ((h 201 6) + 1) v1 (h 201 4)) 201 6) + 2) v1 0) 201 6) + 3) v1 0) 201 6) 0 (am_w32 (v1 + 1))) 201 10 0) 201 11 0) (fun r13 h14 => (r13 = 0 ∨ r13 = 1) ∧ (Q r13 h14))))))))))))) ∧ (24 ≤ v1 → wf (d + 1) M_X1_readKind Q 65 [some (.inr (.inr 201)), none] [] h))) : wf (d + 1) M_X1_readKind Q 55 [some (.inr (.inr 201)), some (.inl v1)] [] h := by
  intro h0
  refine ar_iload_n (pc := 55) (i := 1) (k0 := 1) (by decide +kernel) rfl rfl ?_
  refine ar_if_lt (pc := 56) (x := v1) (tgt := 65) (off := 9) (by decide +kernel) (by decide) (fun c1 => ?_) (fun c1 => ?_)
  · replace H := H.1 c1
    refine ar_forget [true, false] rfl ?_
    exact H h0
  · replace H := H.2 c1
    refine ar_iload_n (pc := 59) (i := 1) (k0 := 1) (by decide +kernel) rfl rfl ?_
    refine ar_bipush (pc := 60) (z := 24) (by decide +kernel) (by omega) ?_
    refine ar_icmp_lt (pc := 62) (x := v1) (y := 24) (tgt := 72) (off := 10) (by decide +kernel) (by decide) (fun c2 => ?_) (fun c2 => ?_)
    · replace H := H.1 c2
      refine ar_aload_n (pc := 72) (i := 0) (k0 := 0) (by decide +kernel) rfl rfl ?_
      refine ar_aload_n (pc := 73) (i := 0) (k0 := 0) (by decide +kernel) rfl rfl ?_
      refine ar_getV (pc := 74) (a := 201) (v := .inl (h 201 4)) 1 4 (by decide +kernel) k_201 rfl (by decide) wf_RX1_45 rfl ?_
      refine ar_putI (pc := 77) (a := 201) (z := (h 201 4)) 1 8 (by decide +kernel) k_201 rfl (by decide) rfl (fun _ => rfl) rfl wf_RX1_133 ?_
      refine ar_aload_n (pc := 80) (i := 0) (k0 := 0) (by decide +kernel) rfl rfl ?_
      refine ar_getV (pc := 81) (a := 201) (v := .inr (.inr (h 201 6))) 1 6 (by decide +kernel) k_201 rfl (by decide) wf_RX1_24 (by first | rfl | (simp [am_tv, am_ty, tyX1, am_up, am_cp]; done) | (simp [am_tv, am_ty, tyX1, am_up, am_cp] <;> intros <;> omega)) ?_
      obtain ⟨g3, H⟩ := H
      refine ar_getFNV (pc := 84) (a := (h 201 6)) (b := ((h 201 6) + 1)) 5 1 (by decide +kernel) g3 rfl (by decide) wg_RX1_136 rfl (fun _ => rfl) rfl ?_
      refine ar_iload_n (pc := 87) (i := 1) (k0 := 1) (by decide +kernel) rfl rfl ?_
      refine ar_aload_n (pc := 88) (i := 0) (k0 := 0) (by decide +kernel) rfl rfl ?_
      refine ar_getV (pc := 89) (a := 201) (v := .inl (h 201 4)) 1 8 (by decide +kernel) k_201 rfl (by decide) wf_RX1_133 (by first | rfl | (simp [am_tv, am_ty, tyX1, am_up, am_cp]; done) | (simp [am_tv, am_ty, tyX1, am_up, am_cp] <;> intros <;> omega)) ?_
      obtain ⟨g4, H⟩ := H
      obtain ⟨g5, H⟩ := H
      refine ar_iast (pc := 92) (a := ((h 201 6) + 1)) (i := v1) (z := (h 201 4)) (by decide +kernel) g4 c1 g5 ?_
      refine ar_aload_n (pc := 93) (i := 0) (k0 := 0) (by decide +kernel) rfl rfl ?_
      refine ar_getV (pc := 94) (a := 201) (v := .inr (.inr ((am_up (am_up h 201 8 (h 201 4)) ((h 201 6) + 1) v1 (h 201 4)) 201 6))) 1 6 (by decide +kernel) k_201 rfl (by decide) wf_RX1_24 rfl ?_
      obtain ⟨g6, H⟩ := H
      refine ar_getFNV (pc := 97) (a := ((am_up (am_up h 201 8 (h 201 4)) ((h 201 6) + 1) v1 (h 201 4)) 201 6)) (b := (((am_up (am_up h 201 8 (h 201 4)) ((h 201 6) + 1) v1 (h 201 4)) 201 6) + 2)) 5 2 (by decide +kernel) g6 rfl (by decide) wg_RX1_139 rfl (fun _ => rfl) rfl ?_
      refine ar_iload_n (pc := 100) (i := 1) (k0 := 1) (by decide +kernel) rfl rfl ?_
      refine ar_iconst (pc := 101) (z := 0) (by decide +kernel) (by unfold am_i32; omega) ?_
      obtain ⟨g7, H⟩ := H
      obtain ⟨g8, H⟩ := H
      refine ar_iast (pc := 102) (a := (((am_up (am_up h 201 8 (h 201 4)) ((h 201 6) + 1) v1 (h 201 4)) 201 6) + 2)) (i := v1) (z := 0) (by decide +kernel) g7 c1 g8 ?_
      refine ar_aload_n (pc := 103) (i := 0) (k0 := 0) (by decide +kernel) rfl rfl ?_
      refine ar_getV (pc := 104) (a := 201) (v := .inr (.inr ((am_up (am_up (am_up h 201 8 (h 201 4)) ((h 201 6) + 1) v1 (h 201 4)) (((am_up (am_up h 201 8 (h 201 4)) ((h 201 6) + 1) v1 (h 201 4)) 201 6) + 2) v1 0) 201 6))) 1 6 (by decide +kernel) k_201 rfl (by decide) wf_RX1_24 rfl ?_
      obtain ⟨g9, H⟩ := H
      refine ar_getFNV (pc := 107) (a := ((am_up (am_up (am_up h 201 8 (h 201 4)) ((h 201 6) + 1) v1 (h 201 4)) (((am_up (am_up h 201 8 (h 201 4)) ((h 201 6) + 1) v1 (h 201 4)) 201 6) + 2) v1 0) 201 6)) (b := (((am_up (am_up (am_up h 201 8 (h 201 4)) ((h 201 6) + 1) v1 (h 201 4)) (((am_up (am_up h 201 8 (h 201 4)) ((h 201 6) + 1) v1 (h 201 4)) 201 6) + 2) v1 0) 201 6) + 3)) 5 3 (by decide +kernel) g9 rfl (by decide) wg_RX1_142 rfl (fun _ => rfl) rfl ?_
      refine ar_iload_n (pc := 110) (i := 1) (k0 := 1) (by decide +kernel) rfl rfl ?_
      refine ar_iconst (pc := 111) (z := 0) (by decide +kernel) (by unfold am_i32; omega) ?_
      obtain ⟨g10, H⟩ := H
      obtain ⟨g11, H⟩ := H
      refine ar_iast (pc := 112) (a := (((am_up (am_up (am_up h 201 8 (h 201 4)) ((h 201 6) + 1) v1 (h 201 4)) (((am_up (am_up h 201 8 (h 201 4)) ((h 201 6) + 1) v1 (h 201 4)) 201 6) + 2) v1 0) 201 6) + 3)) (i := v1) (z := 0) (by decide +kernel) g10 c1 g11 ?_
      refine ar_aload_n (pc := 113) (i := 0) (k0 := 0) (by decide +kernel) rfl rfl ?_
      refine ar_getV (pc := 114) (a := 201) (v := .inr (.inr ((am_up (am_up (am_up (am_up h 201 8 (h 201 4)) ((h 201 6) + 1) v1 (h 201 4)) (((am_up (am_up h 201 8 (h 201 4)) ((h 201 6) + 1) v1 (h 201 4)) 201 6) + 2) v1 0) (((am_up (am_up (am_up h 201 8 (h 201 4)) ((h 201 6) + 1) v1 (h 201 4)) (((am_up (am_up h 201 8 (h 201 4)) ((h 201 6) + 1) v1 (h 201 4)) 201 6) + 2) v1 0) 201 6) + 3) v1 0) 201 6))) 1 6 (by decide +kernel) k_201 rfl (by decide) wf_RX1_24 rfl ?_
      refine ar_iload_n (pc := 117) (i := 1) (k0 := 1) (by decide +kernel) rfl rfl ?_
      refine ar_iconst (pc := 118) (z := 1) (by decide +kernel) (by unfold am_i32; omega) ?_
      refine ar_iadd (pc := 119) (x := v1) (y := 1) (by decide +kernel) ?_
      obtain ⟨g12, H⟩ := H
      refine ar_putIN (pc := 120) (a := ((am_up (am_up (am_up (am_up h 201 8 (h 201 4)) ((h 201 6) + 1) v1 (h 201 4)) (((am_up (am_up h 201 8 (h 201 4)) ((h 201 6) + 1) v1 (h 201 4)) 201 6) + 2) v1 0) (((am_up (am_up (am_up h 201 8 (h 201 4)) ((h 201 6) + 1) v1 (h 201 4)) (((am_up (am_up h 201 8 (h 201 4)) ((h 201 6) + 1) v1 (h 201 4)) 201 6) + 2) v1 0) 201 6) + 3) v1 0) 201 6)) (z := (am_w32 (v1 + 1))) 5 0 (by decide +kernel) g12 rfl (by decide) rfl (fun _ => rfl) rfl wg_RX1_67 ?_
      refine ar_aload_n (pc := 123) (i := 0) (k0 := 0) (by decide +kernel) rfl rfl ?_
      refine ar_iconst (pc := 124) (z := 0) (by decide +kernel) (by unfold am_i32; omega) ?_
      refine ar_putI (pc := 125) (a := 201) (z := 0) 1 10 (by decide +kernel) k_201 rfl (by decide) rfl (fun _ => rfl) rfl wf_RX1_145 ?_
      refine ar_aload_n (pc := 128) (i := 0) (k0 := 0) (by decide +kernel) rfl rfl ?_
      refine ar_iconst (pc := 129) (z := 0) (by decide +kernel) (by unfold am_i32; omega) ?_
      refine ar_putI (pc := 130) (a := 201) (z := 0) 1 11 (by decide +kernel) k_201 rfl (by decide) rfl (fun _ => rfl) rfl wf_RX1_148 ?_
      refine ar_aload_n (pc := 133) (i := 0) (k0 := 0) (by decide +kernel) rfl rfl ?_
      refine ar_callV (pc := 134) (M2 := M_X1_advance) (a := 201) (ci := 1) (as := []) (n2 := 321) (st := []) (by decide +kernel) rfl wm_RX1_121 wi_yX1_advance wl_yX1_advance k_201 rfl wz_RX1 wc_yX1_advance ⟨by decide, by decide, rfl⟩ (by decide) (Nat.le_of_ble_eq_true rfl) (Nat.le_refl _) (Nat.le_refl _) (am_Cl_mono H (fun r13 h14 H => ?_))
      show am_Wp true (d + 1) M_X1_readKind 321 321 h0 Q 137 [some (.inr (.inr 201)), some (.inl v1)] [.inl r13] 321 h14
      obtain ⟨g15, H⟩ := H
      exact ar_zret (pc := 137) (x := r13) (by decide +kernel) rfl rfl g15 H
    · replace H := H.2 c2
      refine ar_forget [true, false] rfl ?_
      exact H h0
theorem B_X1_readKind_65 {d : Nat} {Q : Int → am_H → Prop} {h : am_H} (H : cf d M_X1_fail [.inr (.inr 201), .inl 6] h (fun r1 h2 => (r1 = 0 ∨ r1 = 1) ∧ (Q r1 h2))) : wf (d + 1) M_X1_readKind Q 65 [some (.inr (.inr 201)), none] [] h := by
  intro h0
  refine ar_aload_n (pc := 65) (i := 0) (k0 := 0) (by decide +kernel) rfl rfl ?_
  refine ar_bipush (pc := 66) (z := 6) (by decide +kernel) (by omega) ?_
  refine ar_callV (pc := 68) (M2 := M_X1_fail) (a := 201) (ci := 1) (as := [.inl 6]) (n2 := 321) (st := []) (by decide +kernel) rfl wm_RX1_124 wi_yX1_fail wl_yX1_fail k_201 rfl wz_RX1 wc_yX1_fail ⟨by decide, by decide, rfl⟩ (by decide) (Nat.le_of_ble_eq_true rfl) (Nat.le_refl _) (Nat.le_refl _) (am_Cl_mono H (fun r1 h2 H => ?_))
  show am_Wp true (d + 1) M_X1_readKind 321 321 h0 Q 71 [some (.inr (.inr 201)), none] [.inl r1] 321 h2
  obtain ⟨g3, H⟩ := H
  exact ar_zret (pc := 71) (x := r1) (by decide +kernel) rfl rfl g3 H

/-! ByteIntervals$Parser.readRest(I)Z -/
theorem B_X1_readRest_0 {d : Nat} {Q : Int → am_H → Prop} {h : am_H} {v1 : Int} (H : (v1 < 0 → Q 0 h) ∧ (0 ≤ v1 → (v1 < 24 → ((h 201 8) < 3 ∨ 8 < (h 201 8) → cf d M_X1_readField [.inr (.inr 201)] h (fun r4 h5 => (r4 = 0 ∨ r4 = 1) ∧ (Q r4 h5))) ∧ ((h 201 8) = 3 → (am_kd 321 (h 201 6) = 15) ∧ ((am_kd 321 ((h 201 6) + 2) = 0) ∧ ((v1 < am_ln ((h 201 6) + 2)) ∧ (cf d M_X1_readEither [.inr (.inr 201)] (am_up h ((h 201 6) + 2) v1 (h 201 7)) (fun r10 h11 => (r10 = 0 → wf (d + 1) M_X1_readRest Q 90 [some (.inr (.inr 201)), some (.inl v1), none] [] h11) ∧ (¬ r10 = 0 → cf d M_X1_emit [.inr (.inr 201), .inl 24, .inl 0] h11 (fun r13 h14 => (r13 < 0 → wf (d + 1) M_X1_readRest Q 90 [some (.inr (.inr 201)), some (.inl v1), none] [] h14) ∧ (0 ≤ r13 → wf (d + 1) M_X1_readRest Q 91 [some (.inr (.inr 201)), some (.inl v1), none] [.inl 1] h14)))))))) ∧ ((h 201 8) = 4 → (am_kd 321 (h 201 6) = 15) ∧ (cf d M_X1_readSum [.inr (.inr 201)] (am_up h (h 201 6) 5 (h 201 7)) (fun r17 h18 => (r17 = 0 → Q 0 h18) ∧ (¬ r17 = 0 → cf d M_X1_emit [.inr (.inr 201), .inl 24, .inl 0] h18 (fun r20 h21 => (r20 < 0 → Q 0 h21) ∧ (0 ≤ r20 → Q 1 h21)))))) ∧ ((h 201 8) = 5 → (am_kd 321 (h 201 6) = 15) ∧ (cf d M_X1_readNumber [.inr (.inr 201), .inl 0, .inl 39, .inr (.inr ((h 201 6) + 2)), .inl v1] h (fun r24 h25 => (r24 = 0 → Q 0 h25) ∧ (¬ r24 = 0 → cf d M_X1_take [.inr (.inr 201), .inl 11] h25 (fun r27 h28 => (r27 = 0 → Q 0 h28) ∧ (¬ r27 = 0 → (am_kd 321 (h28 201 6) = 15) ∧ (cf d M_X1_readNumber [.inr (.inr 201), .inl 0, .inl 255, .inr (.inr ((h28 201 6) + 3)), .inl v1] h28 (fun r31 h32 => (r31 = 0 → Q 0 h32) ∧ (¬ r31 = 0 → Q 1 h32))))))))) ∧ ((h 201 8) = 6 → (am_kd 321 (h 201 6) = 15) ∧ (cf d M_X1_readNumber [.inr (.inr 201), .inl 0, .inl 40, .inr (.inr ((h 201 6) + 2)), .inl v1] h (fun r35 h36 => (r35 = 0 ∨ r35 = 1) ∧ (Q r35 h36)))) ∧ ((h 201 8) = 7 → Q 1 h) ∧ ((h 201 8) = 8 → (am_kd 321 (h 201 6) = 15) ∧ (cf d M_X1_readNumber [.inr (.inr 201), .inl 1, .inl 60, .inr (.inr ((h 201 6) + 2)), .inl v1] h (fun r39 h40 => (r39 = 0 ∨ r39 = 1) ∧ (Q r39 h40))))) ∧ (24 ≤ v1 → Q 0 h))) : wf (d + 1) M_X1_readRest Q 0 [some (.inr (.inr 201)), some (.inl v1), none] [] h := by
  intro h0
  refine ar_iload_n (pc := 0) (i := 1) (k0 := 1) (by decide +kernel) rfl rfl ?_
  refine ar_if_lt (pc := 1) (x := v1) (tgt := 10) (off := 9) (by decide +kernel) (by decide) (fun c1 => ?_) (fun c1 => ?_)
  · replace H := H.1 c1
    refine ar_iconst (pc := 10) (z := 0) (by decide +kernel) (by unfold am_i32; omega) ?_
    exact ar_zret (pc := 11) (x := 0) (by decide +kernel) rfl rfl (by decide) H
  · replace H := H.2 c1
    refine ar_iload_n (pc := 4) (i := 1) (k0 := 1) (by decide +kernel) rfl rfl ?_
    refine ar_bipush (pc := 5) (z := 24) (by decide +kernel) (by omega) ?_
    refine ar_icmp_lt (pc := 7) (x := v1) (y := 24) (tgt := 12) (off := 5) (by decide +kernel) (by decide) (fun c2 => ?_) (fun c2 => ?_)
    · replace H := H.1 c2
      refine ar_aload_n (pc := 12) (i := 0) (k0 := 0) (by decide +kernel) rfl rfl ?_
      refine ar_getV (pc := 13) (a := 201) (v := .inl (h 201 8)) 1 8 (by decide +kernel) k_201 rfl (by decide) wf_RX1_133 rfl ?_
      refine ar_table (pc := 16) (dflt := 211) (lo := 3) (hi := 8) (offs := #[40, 91, 125, 177, 193, 195]) (len := 40) (x := (h 201 8)) (dt := 227) [56, 107, 141, 193, 209, 211] (by decide +kernel) (by decide) (by decide) (by decide) (fun c3 => ?_) (And.intro (fun c3 => ?_) (And.intro (fun c3 => ?_) (And.intro (fun c3 => ?_) (And.intro (fun c3 => ?_) (And.intro (fun c3 => ?_) (And.intro (fun c3 => ?_) (True.intro)))))))
      · replace H := H.1 c3
        refine ar_aload_n (pc := 227) (i := 0) (k0 := 0) (by decide +kernel) rfl rfl ?_
        refine ar_callV (pc := 228) (M2 := M_X1_readField) (a := 201) (ci := 1) (as := []) (n2 := 321) (st := []) (by decide +kernel) rfl wm_RX1_164 wi_yX1_readField wl_yX1_readField k_201 rfl wz_RX1 wc_yX1_readField ⟨by decide, by decide, rfl⟩ (by decide) (Nat.le_of_ble_eq_true rfl) (Nat.le_refl _) (Nat.le_refl _) (am_Cl_mono H (fun r4 h5 H => ?_))
        show am_Wp true (d + 1) M_X1_readRest 321 321 h0 Q 231 [some (.inr (.inr 201)), some (.inl v1), none] [.inl r4] 321 h5
        obtain ⟨g6, H⟩ := H
        exact ar_zret (pc := 231) (x := r4) (by decide +kernel) rfl rfl g6 H
      · replace H := H.2.1 c3
        refine ar_aload_n (pc := 56) (i := 0) (k0 := 0) (by decide +kernel) rfl rfl ?_
        refine ar_getV (pc := 57) (a := 201) (v := .inr (.inr (h 201 6))) 1 6 (by decide +kernel) k_201 rfl (by decide) wf_RX1_24 rfl ?_
        obtain ⟨g7, H⟩ := H
        refine ar_getFNV (pc := 60) (a := (h 201 6)) (b := ((h 201 6) + 2)) 5 2 (by decide +kernel) g7 rfl (by decide) wg_RX1_139 rfl (fun _ => rfl) rfl ?_
        refine ar_iload_n (pc := 63) (i := 1) (k0 := 1) (by decide +kernel) rfl rfl ?_
        refine ar_aload_n (pc := 64) (i := 0) (k0 := 0) (by decide +kernel) rfl rfl ?_
        refine ar_getV (pc := 65) (a := 201) (v := .inl (h 201 7)) 1 7 (by decide +kernel) k_201 rfl (by decide) wf_RX1_48 rfl ?_
        obtain ⟨g8, H⟩ := H
        obtain ⟨g9, H⟩ := H
        refine ar_iast (pc := 68) (a := ((h 201 6) + 2)) (i := v1) (z := (h 201 7)) (by decide +kernel) g8 c1 g9 ?_
        refine ar_aload_n (pc := 69) (i := 0) (k0 := 0) (by decide +kernel) rfl rfl ?_
        refine ar_callV (pc := 70) (M2 := M_X1_readEither) (a := 201) (ci := 1) (as := []) (n2 := 321) (st := []) (by decide +kernel) rfl wm_RX1_151 wi_yX1_readEither wl_yX1_readEither k_201 rfl wz_RX1 wc_yX1_readEither ⟨by decide, by decide, rfl⟩ (by decide) (Nat.le_of_ble_eq_true rfl) (Nat.le_refl _) (Nat.le_refl _) (am_Cl_mono H (fun r10 h11 H => ?_))
        show am_Wp true (d + 1) M_X1_readRest 321 321 h0 Q 73 [some (.inr (.inr 201)), some (.inl v1), none] [.inl r10] 321 h11
        refine ar_if_eq (pc := 73) (x := r10) (tgt := 90) (off := 17) (by decide +kernel) (by decide) (fun c12 => ?_) (fun c12 => ?_)
        · replace H := H.1 c12
          exact H h0
        · replace H := H.2 c12
          refine ar_aload_n (pc := 76) (i := 0) (k0 := 0) (by decide +kernel) rfl rfl ?_
          refine ar_bipush (pc := 77) (z := 24) (by decide +kernel) (by omega) ?_
          refine ar_iconst (pc := 79) (z := 0) (by decide +kernel) (by unfold am_i32; omega) ?_
          refine ar_callV (pc := 80) (M2 := M_X1_emit) (a := 201) (ci := 1) (as := [.inl 24, .inl 0]) (n2 := 321) (st := []) (by decide +kernel) rfl wm_RX1_154 wi_yX1_emit wl_yX1_emit k_201 rfl wz_RX1 wc_yX1_emit ⟨by decide, by decide, rfl⟩ (by decide) (Nat.le_of_ble_eq_true rfl) (Nat.le_refl _) (Nat.le_refl _) (am_Cl_mono H (fun r13 h14 H => ?_))
          show am_Wp true (d + 1) M_X1_readRest 321 321 h0 Q 83 [some (.inr (.inr 201)), some (.inl v1), none] [.inl r13] 321 h14
          refine ar_if_lt (pc := 83) (x := r13) (tgt := 90) (off := 7) (by decide +kernel) (by decide) (fun c15 => ?_) (fun c15 => ?_)
          · replace H := H.1 c15
            exact H h0
          · replace H := H.2 c15
            refine ar_iconst (pc := 86) (z := 1) (by decide +kernel) (by unfold am_i32; omega) ?_
            refine ar_goto (pc := 87) (tgt := 91) (off := 4) (by decide +kernel) (by decide) ?_
            exact H h0
      · replace H := H.2.2.1 c3
        refine ar_aload_n (pc := 107) (i := 0) (k0 := 0) (by decide +kernel) rfl rfl ?_
        refine ar_getV (pc := 108) (a := 201) (v := .inr (.inr (h 201 6))) 1 6 (by decide +kernel) k_201 rfl (by decide) wf_RX1_24 rfl ?_
        refine ar_aload_n (pc := 111) (i := 0) (k0 := 0) (by decide +kernel) rfl rfl ?_
        refine ar_getV (pc := 112) (a := 201) (v := .inl (h 201 7)) 1 7 (by decide +kernel) k_201 rfl (by decide) wf_RX1_48 rfl ?_
        obtain ⟨g16, H⟩ := H
        refine ar_putIN (pc := 115) (a := (h 201 6)) (z := (h 201 7)) 5 5 (by decide +kernel) g16 rfl (by decide) rfl (fun _ => rfl) rfl wg_RX1_130 ?_
        refine ar_aload_n (pc := 118) (i := 0) (k0 := 0) (by decide +kernel) rfl rfl ?_
        refine ar_callV (pc := 119) (M2 := M_X1_readSum) (a := 201) (ci := 1) (as := []) (n2 := 321) (st := []) (by decide +kernel) rfl wm_RX1_157 wi_yX1_readSum wl_yX1_readSum k_201 rfl wz_RX1 wc_yX1_readSum ⟨by decide, by decide, rfl⟩ (by decide) (Nat.le_of_ble_eq_true rfl) (Nat.le_refl _) (Nat.le_refl _) (am_Cl_mono H (fun r17 h18 H => ?_))
        show am_Wp true (d + 1) M_X1_readRest 321 321 h0 Q 122 [some (.inr (.inr 201)), some (.inl v1), none] [.inl r17] 321 h18
        refine ar_if_eq (pc := 122) (x := r17) (tgt := 139) (off := 17) (by decide +kernel) (by decide) (fun c19 => ?_) (fun c19 => ?_)
        · replace H := H.1 c19
          refine ar_iconst (pc := 139) (z := 0) (by decide +kernel) (by unfold am_i32; omega) ?_
          exact ar_zret (pc := 140) (x := 0) (by decide +kernel) rfl rfl (by decide) H
        · replace H := H.2 c19
          refine ar_aload_n (pc := 125) (i := 0) (k0 := 0) (by decide +kernel) rfl rfl ?_
          refine ar_bipush (pc := 126) (z := 24) (by decide +kernel) (by omega) ?_
          refine ar_iconst (pc := 128) (z := 0) (by decide +kernel) (by unfold am_i32; omega) ?_
          refine ar_callV (pc := 129) (M2 := M_X1_emit) (a := 201) (ci := 1) (as := [.inl 24, .inl 0]) (n2 := 321) (st := []) (by decide +kernel) rfl wm_RX1_154 wi_yX1_emit wl_yX1_emit k_201 rfl wz_RX1 wc_yX1_emit ⟨by decide, by decide, rfl⟩ (by decide) (Nat.le_of_ble_eq_true rfl) (Nat.le_refl _) (Nat.le_refl _) (am_Cl_mono H (fun r20 h21 H => ?_))
          show am_Wp true (d + 1) M_X1_readRest 321 321 h0 Q 132 [some (.inr (.inr 201)), some (.inl v1), none] [.inl r20] 321 h21
          refine ar_if_lt (pc := 132) (x := r20) (tgt := 139) (off := 7) (by decide +kernel) (by decide) (fun c22 => ?_) (fun c22 => ?_)
          · replace H := H.1 c22
            refine ar_iconst (pc := 139) (z := 0) (by decide +kernel) (by unfold am_i32; omega) ?_
            exact ar_zret (pc := 140) (x := 0) (by decide +kernel) rfl rfl (by decide) H
          · replace H := H.2 c22
            refine ar_iconst (pc := 135) (z := 1) (by decide +kernel) (by unfold am_i32; omega) ?_
            refine ar_goto (pc := 136) (tgt := 140) (off := 4) (by decide +kernel) (by decide) ?_
            exact ar_zret (pc := 140) (x := 1) (by decide +kernel) rfl rfl (by decide) H
      · replace H := H.2.2.2.1 c3
        refine ar_aload_n (pc := 141) (i := 0) (k0 := 0) (by decide +kernel) rfl rfl ?_
        refine ar_iconst (pc := 142) (z := 0) (by decide +kernel) (by unfold am_i32; omega) ?_
        refine ar_bipush (pc := 143) (z := 39) (by decide +kernel) (by omega) ?_
        refine ar_aload_n (pc := 145) (i := 0) (k0 := 0) (by decide +kernel) rfl rfl ?_
        refine ar_getV (pc := 146) (a := 201) (v := .inr (.inr (h 201 6))) 1 6 (by decide +kernel) k_201 rfl (by decide) wf_RX1_24 rfl ?_
        obtain ⟨g23, H⟩ := H
        refine ar_getFNV (pc := 149) (a := (h 201 6)) (b := ((h 201 6) + 2)) 5 2 (by decide +kernel) g23 rfl (by decide) wg_RX1_139 rfl (fun _ => rfl) rfl ?_
        refine ar_iload_n (pc := 152) (i := 1) (k0 := 1) (by decide +kernel) rfl rfl ?_
        refine ar_callV (pc := 153) (M2 := M_X1_readNumber) (a := 201) (ci := 1) (as := [.inl 0, .inl 39, .inr (.inr ((h 201 6) + 2)), .inl v1]) (n2 := 321) (st := []) (by decide +kernel) rfl wm_RX1_160 wi_yX1_readNumber wl_yX1_readNumber k_201 rfl wz_RX1 wc_yX1_readNumber ⟨by decide, by decide, rfl⟩ (by decide) (Nat.le_of_ble_eq_true rfl) (Nat.le_refl _) (Nat.le_refl _) (am_Cl_mono H (fun r24 h25 H => ?_))
        show am_Wp true (d + 1) M_X1_readRest 321 321 h0 Q 156 [some (.inr (.inr 201)), some (.inl v1), none] [.inl r24] 321 h25
        refine ar_if_eq (pc := 156) (x := r24) (tgt := 191) (off := 35) (by decide +kernel) (by decide) (fun c26 => ?_) (fun c26 => ?_)
        · replace H := H.1 c26
          refine ar_iconst (pc := 191) (z := 0) (by decide +kernel) (by unfold am_i32; omega) ?_
          exact ar_zret (pc := 192) (x := 0) (by decide +kernel) rfl rfl (by decide) H
        · replace H := H.2 c26
          refine ar_aload_n (pc := 159) (i := 0) (k0 := 0) (by decide +kernel) rfl rfl ?_
          refine ar_bipush (pc := 160) (z := 11) (by decide +kernel) (by omega) ?_
          refine ar_callV (pc := 162) (M2 := M_X1_take) (a := 201) (ci := 1) (as := [.inl 11]) (n2 := 321) (st := []) (by decide +kernel) rfl wm_RX1_74 wi_yX1_take wl_yX1_take k_201 rfl wz_RX1 wc_yX1_take ⟨by decide, by decide, rfl⟩ (by decide) (Nat.le_of_ble_eq_true rfl) (Nat.le_refl _) (Nat.le_refl _) (am_Cl_mono H (fun r27 h28 H => ?_))
          show am_Wp true (d + 1) M_X1_readRest 321 321 h0 Q 165 [some (.inr (.inr 201)), some (.inl v1), none] [.inl r27] 321 h28
          refine ar_if_eq (pc := 165) (x := r27) (tgt := 191) (off := 26) (by decide +kernel) (by decide) (fun c29 => ?_) (fun c29 => ?_)
          · replace H := H.1 c29
            refine ar_iconst (pc := 191) (z := 0) (by decide +kernel) (by unfold am_i32; omega) ?_
            exact ar_zret (pc := 192) (x := 0) (by decide +kernel) rfl rfl (by decide) H
          · replace H := H.2 c29
            refine ar_aload_n (pc := 168) (i := 0) (k0 := 0) (by decide +kernel) rfl rfl ?_
            refine ar_iconst (pc := 169) (z := 0) (by decide +kernel) (by unfold am_i32; omega) ?_
            refine ar_sipush (pc := 170) (z := 255) (by decide +kernel) (by omega) ?_
            refine ar_aload_n (pc := 173) (i := 0) (k0 := 0) (by decide +kernel) rfl rfl ?_
            refine ar_getV (pc := 174) (a := 201) (v := .inr (.inr (h28 201 6))) 1 6 (by decide +kernel) k_201 rfl (by decide) wf_RX1_24 rfl ?_
            obtain ⟨g30, H⟩ := H
            refine ar_getFNV (pc := 177) (a := (h28 201 6)) (b := ((h28 201 6) + 3)) 5 3 (by decide +kernel) g30 rfl (by decide) wg_RX1_142 rfl (fun _ => rfl) rfl ?_
            refine ar_iload_n (pc := 180) (i := 1) (k0 := 1) (by decide +kernel) rfl rfl ?_
            refine ar_callV (pc := 181) (M2 := M_X1_readNumber) (a := 201) (ci := 1) (as := [.inl 0, .inl 255, .inr (.inr ((h28 201 6) + 3)), .inl v1]) (n2 := 321) (st := []) (by decide +kernel) rfl wm_RX1_160 wi_yX1_readNumber wl_yX1_readNumber k_201 rfl wz_RX1 wc_yX1_readNumber ⟨by decide, by decide, rfl⟩ (by decide) (Nat.le_of_ble_eq_true rfl) (Nat.le_refl _) (Nat.le_refl _) (am_Cl_mono H (fun r31 h32 H => ?_))
            show am_Wp true (d + 1) M_X1_readRest 321 321 h0 Q 184 [some (.inr (.inr 201)), some (.inl v1), none] [.inl r31] 321 h32
            refine ar_if_eq (pc := 184) (x := r31) (tgt := 191) (off := 7) (by decide +kernel) (by decide) (fun c33 => ?_) (fun c33 => ?_)
            · replace H := H.1 c33
              refine ar_iconst (pc := 191) (z := 0) (by decide +kernel) (by unfold am_i32; omega) ?_
              exact ar_zret (pc := 192) (x := 0) (by decide +kernel) rfl rfl (by decide) H
            · replace H := H.2 c33
              refine ar_iconst (pc := 187) (z := 1) (by decide +kernel) (by unfold am_i32; omega) ?_
              refine ar_goto (pc := 188) (tgt := 192) (off := 4) (by decide +kernel) (by decide) ?_
              exact ar_zret (pc := 192) (x := 1) (by decide +kernel) rfl rfl (by decide) H
      · replace H := H.2.2.2.2.1 c3
        refine ar_aload_n (pc := 193) (i := 0) (k0 := 0) (by decide +kernel) rfl rfl ?_
        refine ar_iconst (pc := 194) (z := 0) (by decide +kernel) (by unfold am_i32; omega) ?_
        refine ar_bipush (pc := 195) (z := 40) (by decide +kernel) (by omega) ?_
        refine ar_aload_n (pc := 197) (i := 0) (k0 := 0) (by decide +kernel) rfl rfl ?_
        refine ar_getV (pc := 198) (a := 201) (v := .inr (.inr (h 201 6))) 1 6 (by decide +kernel) k_201 rfl (by decide) wf_RX1_24 rfl ?_
        obtain ⟨g34, H⟩ := H
        refine ar_getFNV (pc := 201) (a := (h 201 6)) (b := ((h 201 6) + 2)) 5 2 (by decide +kernel) g34 rfl (by decide) wg_RX1_139 rfl (fun _ => rfl) rfl ?_
        refine ar_iload_n (pc := 204) (i := 1) (k0 := 1) (by decide +kernel) rfl rfl ?_
        refine ar_callV (pc := 205) (M2 := M_X1_readNumber) (a := 201) (ci := 1) (as := [.inl 0, .inl 40, .inr (.inr ((h 201 6) + 2)), .inl v1]) (n2 := 321) (st := []) (by decide +kernel) rfl wm_RX1_160 wi_yX1_readNumber wl_yX1_readNumber k_201 rfl wz_RX1 wc_yX1_readNumber ⟨by decide, by decide, rfl⟩ (by decide) (Nat.le_of_ble_eq_true rfl) (Nat.le_refl _) (Nat.le_refl _) (am_Cl_mono H (fun r35 h36 H => ?_))
        show am_Wp true (d + 1) M_X1_readRest 321 321 h0 Q 208 [some (.inr (.inr 201)), some (.inl v1), none] [.inl r35] 321 h36
        obtain ⟨g37, H⟩ := H
        exact ar_zret (pc := 208) (x := r35) (by decide +kernel) rfl rfl g37 H
      · replace H := H.2.2.2.2.2.1 c3
        refine ar_iconst (pc := 209) (z := 1) (by decide +kernel) (by unfold am_i32; omega) ?_
        exact ar_zret (pc := 210) (x := 1) (by decide +kernel) rfl rfl (by decide) H
      · replace H := H.2.2.2.2.2.2 c3
        refine ar_aload_n (pc := 211) (i := 0) (k0 := 0) (by decide +kernel) rfl rfl ?_
        refine ar_iconst (pc := 212) (z := 1) (by decide +kernel) (by unfold am_i32; omega) ?_
        refine ar_bipush (pc := 213) (z := 60) (by decide +kernel) (by omega) ?_
        refine ar_aload_n (pc := 215) (i := 0) (k0 := 0) (by decide +kernel) rfl rfl ?_
        refine ar_getV (pc := 216) (a := 201) (v := .inr (.inr (h 201 6))) 1 6 (by decide +kernel) k_201 rfl (by decide) wf_RX1_24 rfl ?_
        obtain ⟨g38, H⟩ := H
        refine ar_getFNV (pc := 219) (a := (h 201 6)) (b := ((h 201 6) + 2)) 5 2 (by decide +kernel) g38 rfl (by decide) wg_RX1_139 rfl (fun _ => rfl) rfl ?_
        refine ar_iload_n (pc := 222) (i := 1) (k0 := 1) (by decide +kernel) rfl rfl ?_
        refine ar_callV (pc := 223) (M2 := M_X1_readNumber) (a := 201) (ci := 1) (as := [.inl 1, .inl 60, .inr (.inr ((h 201 6) + 2)), .inl v1]) (n2 := 321) (st := []) (by decide +kernel) rfl wm_RX1_160 wi_yX1_readNumber wl_yX1_readNumber k_201 rfl wz_RX1 wc_yX1_readNumber ⟨by decide, by decide, rfl⟩ (by decide) (Nat.le_of_ble_eq_true rfl) (Nat.le_refl _) (Nat.le_refl _) (am_Cl_mono H (fun r39 h40 H => ?_))
        show am_Wp true (d + 1) M_X1_readRest 321 321 h0 Q 226 [some (.inr (.inr 201)), some (.inl v1), none] [.inl r39] 321 h40
        obtain ⟨g41, H⟩ := H
        exact ar_zret (pc := 226) (x := r39) (by decide +kernel) rfl rfl g41 H
    · replace H := H.2 c2
      refine ar_iconst (pc := 10) (z := 0) (by decide +kernel) (by unfold am_i32; omega) ?_
      exact ar_zret (pc := 11) (x := 0) (by decide +kernel) rfl rfl (by decide) H
theorem B_X1_readRest_90 {d : Nat} {Q : Int → am_H → Prop} {h : am_H} {v1 : Int} (H : wf (d + 1) M_X1_readRest Q 91 [some (.inr (.inr 201)), some (.inl v1), none] [.inl 0] h) : wf (d + 1) M_X1_readRest Q 90 [some (.inr (.inr 201)), some (.inl v1), none] [] h := by
  intro h0
  refine ar_iconst (pc := 90) (z := 0) (by decide +kernel) (by unfold am_i32; omega) ?_
  exact H h0
theorem B_X1_readRest_91 {d : Nat} {Q : Int → am_H → Prop} {h : am_H} {v1 s0 : Int} (H : (am_kd 321 (h 201 6) = 15) ∧ ((am_kd 321 ((h 201 6) + 3) = 0) ∧ ((0 ≤ v1) ∧ ((v1 < am_ln ((h 201 6) + 3)) ∧ ((s0 = 0 ∨ s0 = 1) ∧ (Q s0 (am_up h ((h 201 6) + 3) v1 (h 201 10)))))))) : wf (d + 1) M_X1_readRest Q 91 [some (.inr (.inr 201)), some (.inl v1), none] [.inl s0] h := by
  intro h0
  refine ar_istore_n (pc := 91) (i := 2) (k0 := 2) (ls2 := [some (.inr (.inr 201)), some (.inl v1), some (.inl s0)]) (by decide +kernel) rfl (by decide) rfl ?_
  refine ar_aload_n (pc := 92) (i := 0) (k0 := 0) (by decide +kernel) rfl rfl ?_
  refine ar_getV (pc := 93) (a := 201) (v := .inr (.inr (h 201 6))) 1 6 (by decide +kernel) k_201 rfl (by decide) wf_RX1_24 rfl ?_
  obtain ⟨g1, H⟩ := H
  refine ar_getFNV (pc := 96) (a := (h 201 6)) (b := ((h 201 6) + 3)) 5 3 (by decide +kernel) g1 rfl (by decide) wg_RX1_142 rfl (fun _ => rfl) rfl ?_
  refine ar_iload_n (pc := 99) (i := 1) (k0 := 1) (by decide +kernel) rfl rfl ?_
  refine ar_aload_n (pc := 100) (i := 0) (k0 := 0) (by decide +kernel) rfl rfl ?_
  refine ar_getV (pc := 101) (a := 201) (v := .inl (h 201 10)) 1 10 (by decide +kernel) k_201 rfl (by decide) wf_RX1_145 rfl ?_
  obtain ⟨g2, H⟩ := H
  obtain ⟨g3, H⟩ := H
  obtain ⟨g4, H⟩ := H
  refine ar_iast (pc := 104) (a := ((h 201 6) + 3)) (i := v1) (z := (h 201 10)) (by decide +kernel) g2 g3 g4 ?_
  refine ar_iload_n (pc := 105) (i := 2) (k0 := 2) (by decide +kernel) rfl rfl ?_
  obtain ⟨g5, H⟩ := H
  exact ar_zret (pc := 106) (x := s0) (by decide +kernel) rfl rfl g5 H

/-! ByteIntervals$Parser.readNumber(II[II)Z -/
theorem B_X1_readNumber_0 {d : Nat} {Q : Int → am_H → Prop} {h : am_H} {v1 v2 a3 v4 : Int} (H : cf d M_X1_numberHere [.inr (.inr 201)] h (fun r1 h2 => (¬ r1 = (-1) → (r1 < v1 → wf (d + 1) M_X1_readNumber Q 30 [some (.inr (.inr 201)), none, none, none, none, none] [] h2) ∧ (v1 ≤ r1 → (r1 ≤ v2 → (v4 < 0 → wf (d + 1) M_X1_readNumber Q 54 [some (.inr (.inr 201)), none, none, none, none, none] [] h2) ∧ (0 ≤ v4 → (am_kd 321 a3 = 0) ∧ (((am_ln a3) ≤ v4 → wf (d + 1) M_X1_readNumber Q 54 [some (.inr (.inr 201)), none, none, none, none, none] [] h2) ∧ (v4 < (am_ln a3) → (v4 < am_ln a3) ∧ (wf (d + 1) M_X1_readNumber Q 54 [some (.inr (.inr 201)), none, none, none, none, none] [] (am_up h2 a3 v4 r1)))))) ∧ (v2 < r1 → wf (d + 1) M_X1_readNumber Q 30 [some (.inr (.inr 201)), none, none, none, none, none] [] h2))) ∧ (r1 = (-1) → cf d M_X1_fail [.inr (.inr 201), .inl 1] h2 (fun r10 h11 => (r10 = 0 ∨ r10 = 1) ∧ (Q r10 h11))))) : wf (d + 1) M_X1_readNumber Q 0 [some (.inr (.inr 201)), some (.inl v1), some (.inl v2), some (.inr (.inr a3)), some (.inl v4), none] [] h := by
  intro h0
  refine ar_aload_n (pc := 0) (i := 0) (k0 := 0) (by decide +kernel) rfl rfl ?_
  refine ar_callV (pc := 1) (M2 := M_X1_numberHere) (a := 201) (ci := 1) (as := []) (n2 := 321) (st := []) (by decide +kernel) rfl wm_RX1_167 wi_yX1_numberHere wl_yX1_numberHere k_201 rfl wz_RX1 wc_yX1_numberHere ⟨by decide, by decide, rfl⟩ (by decide) (Nat.le_of_ble_eq_true rfl) (Nat.le_refl _) (Nat.le_refl _) (am_Cl_mono H (fun r1 h2 H => ?_))
  show am_Wp true (d + 1) M_X1_readNumber 321 321 h0 Q 4 [some (.inr (.inr 201)), some (.inl v1), some (.inl v2), some (.inr (.inr a3)), some (.inl v4), none] [.inl r1] 321 h2
  refine ar_istore (pc := 4) (i := 5) (ls2 := [some (.inr (.inr 201)), some (.inl v1), some (.inl v2), some (.inr (.inr a3)), some (.inl v4), some (.inl r1)]) (by decide +kernel) (by decide) rfl ?_
  refine ar_iload (pc := 6) (i := 5) (by decide +kernel) rfl ?_
  refine ar_iconst (pc := 8) (z := (-1)) (by decide +kernel) (by unfold am_i32; omega) ?_
  refine ar_icmp_ne (pc := 9) (x := r1) (y := (-1)) (tgt := 18) (off := 9) (by decide +kernel) (by decide) (fun c3 => ?_) (fun c3 => ?_)
  · replace H := H.1 c3
    refine ar_iload (pc := 18) (i := 5) (by decide +kernel) rfl ?_
    refine ar_iload_n (pc := 20) (i := 1) (k0 := 1) (by decide +kernel) rfl rfl ?_
    refine ar_icmp_lt (pc := 21) (x := r1) (y := v1) (tgt := 30) (off := 9) (by decide +kernel) (by decide) (fun c4 => ?_) (fun c4 => ?_)
    · replace H := H.1 c4
      refine ar_forget [true, false, false, false, false, false] rfl ?_
      exact H h0
    · replace H := H.2 c4
      refine ar_iload (pc := 24) (i := 5) (by decide +kernel) rfl ?_
      refine ar_iload_n (pc := 26) (i := 2) (k0 := 2) (by decide +kernel) rfl rfl ?_
      refine ar_icmp_le (pc := 27) (x := r1) (y := v2) (tgt := 36) (off := 9) (by decide +kernel) (by decide) (fun c5 => ?_) (fun c5 => ?_)
      · replace H := H.1 c5
        refine ar_iload (pc := 36) (i := 4) (by decide +kernel) rfl ?_
        refine ar_if_lt (pc := 38) (x := v4) (tgt := 54) (off := 16) (by decide +kernel) (by decide) (fun c6 => ?_) (fun c6 => ?_)
        · replace H := H.1 c6
          refine ar_forget [true, false, false, false, false, false] rfl ?_
          exact H h0
        · replace H := H.2 c6
          refine ar_iload (pc := 41) (i := 4) (by decide +kernel) rfl ?_
          refine ar_aload_n (pc := 43) (i := 3) (k0 := 3) (by decide +kernel) rfl rfl ?_
          obtain ⟨g7, H⟩ := H
          refine ar_alen (pc := 44) (a := a3) (by decide +kernel) (by rw [g7]; decide) ?_
          refine ar_icmp_ge (pc := 45) (x := v4) (y := (am_ln a3)) (tgt := 54) (off := 9) (by decide +kernel) (by decide) (fun c8 => ?_) (fun c8 => ?_)
          · replace H := H.1 c8
            refine ar_forget [true, false, false, false, false, false] rfl ?_
            exact H h0
          · replace H := H.2 c8
            refine ar_aload_n (pc := 48) (i := 3) (k0 := 3) (by decide +kernel) rfl rfl ?_
            refine ar_iload (pc := 49) (i := 4) (by decide +kernel) rfl ?_
            refine ar_iload (pc := 51) (i := 5) (by decide +kernel) rfl ?_
            obtain ⟨g9, H⟩ := H
            refine ar_iast (pc := 53) (a := a3) (i := v4) (z := r1) (by decide +kernel) g7 c6 g9 ?_
            refine ar_forget [true, false, false, false, false, false] rfl ?_
            exact H h0
      · replace H := H.2 c5
        refine ar_forget [true, false, false, false, false, false] rfl ?_
        exact H h0
  · replace H := H.2 c3
    refine ar_aload_n (pc := 12) (i := 0) (k0 := 0) (by decide +kernel) rfl rfl ?_
    refine ar_iconst (pc := 13) (z := 1) (by decide +kernel) (by unfold am_i32; omega) ?_
    refine ar_callV (pc := 14) (M2 := M_X1_fail) (a := 201) (ci := 1) (as := [.inl 1]) (n2 := 321) (st := []) (by decide +kernel) rfl wm_RX1_124 wi_yX1_fail wl_yX1_fail k_201 rfl wz_RX1 wc_yX1_fail ⟨by decide, by decide, rfl⟩ (by decide) (Nat.le_of_ble_eq_true rfl) (Nat.le_refl _) (Nat.le_refl _) (am_Cl_mono H (fun r10 h11 H => ?_))
    show am_Wp true (d + 1) M_X1_readNumber 321 321 h0 Q 17 [some (.inr (.inr 201)), some (.inl v1), some (.inl v2), some (.inr (.inr a3)), some (.inl v4), some (.inl r1)] [.inl r10] 321 h11
    obtain ⟨g12, H⟩ := H
    exact ar_zret (pc := 17) (x := r10) (by decide +kernel) rfl rfl g12 H
theorem B_X1_readNumber_30 {d : Nat} {Q : Int → am_H → Prop} {h : am_H} (H : cf d M_X1_fail [.inr (.inr 201), .inl 2] h (fun r1 h2 => (r1 = 0 ∨ r1 = 1) ∧ (Q r1 h2))) : wf (d + 1) M_X1_readNumber Q 30 [some (.inr (.inr 201)), none, none, none, none, none] [] h := by
  intro h0
  refine ar_aload_n (pc := 30) (i := 0) (k0 := 0) (by decide +kernel) rfl rfl ?_
  refine ar_iconst (pc := 31) (z := 2) (by decide +kernel) (by unfold am_i32; omega) ?_
  refine ar_callV (pc := 32) (M2 := M_X1_fail) (a := 201) (ci := 1) (as := [.inl 2]) (n2 := 321) (st := []) (by decide +kernel) rfl wm_RX1_124 wi_yX1_fail wl_yX1_fail k_201 rfl wz_RX1 wc_yX1_fail ⟨by decide, by decide, rfl⟩ (by decide) (Nat.le_of_ble_eq_true rfl) (Nat.le_refl _) (Nat.le_refl _) (am_Cl_mono H (fun r1 h2 H => ?_))
  show am_Wp true (d + 1) M_X1_readNumber 321 321 h0 Q 35 [some (.inr (.inr 201)), none, none, none, none, none] [.inl r1] 321 h2
  obtain ⟨g3, H⟩ := H
  exact ar_zret (pc := 35) (x := r1) (by decide +kernel) rfl rfl g3 H
theorem B_X1_readNumber_54 {d : Nat} {Q : Int → am_H → Prop} {h : am_H} (H : cf d M_X1_advance [.inr (.inr 201)] h (fun r1 h2 => (r1 = 0 ∨ r1 = 1) ∧ (Q r1 h2))) : wf (d + 1) M_X1_readNumber Q 54 [some (.inr (.inr 201)), none, none, none, none, none] [] h := by
  intro h0
  refine ar_aload_n (pc := 54) (i := 0) (k0 := 0) (by decide +kernel) rfl rfl ?_
  refine ar_callV (pc := 55) (M2 := M_X1_advance) (a := 201) (ci := 1) (as := []) (n2 := 321) (st := []) (by decide +kernel) rfl wm_RX1_121 wi_yX1_advance wl_yX1_advance k_201 rfl wz_RX1 wc_yX1_advance ⟨by decide, by decide, rfl⟩ (by decide) (Nat.le_of_ble_eq_true rfl) (Nat.le_refl _) (Nat.le_refl _) (am_Cl_mono H (fun r1 h2 H => ?_))
  show am_Wp true (d + 1) M_X1_readNumber 321 321 h0 Q 58 [some (.inr (.inr 201)), none, none, none, none, none] [.inl r1] 321 h2
  obtain ⟨g3, H⟩ := H
  exact ar_zret (pc := 58) (x := r1) (by decide +kernel) rfl rfl g3 H

/-! ByteIntervals$Parser.readField()Z -/
theorem B_X1_readField_0 {d : Nat} {Q : Int → am_H → Prop} {h : am_H} (H : cf d M_X6_isField [.inl (am_w32 ((h 201 4) - 32))] h (fun r1 h2 => (¬ r1 = 0 → (am_kd 321 (h2 201 6) = 15) ∧ (cf d M_X5_tells [.inr (.inr (h2 201 6)), .inl (am_w32 ((h 201 4) - 32))] h2 (fun r4 h5 => (r4 = 0 → (am_kd 321 (h5 201 6) = 15) ∧ ((am_kd 321 ((am_up h5 (h5 201 6) 6 (am_ior (h5 (h5 201 6) 6) (am_ishl 1 (am_w32 ((h 201 4) - 32))))) 201 6) = 15) ∧ ((am_kd 321 (((am_up h5 (h5 201 6) 6 (am_ior (h5 (h5 201 6) 6) (am_ishl 1 (am_w32 ((h 201 4) - 32))))) 201 6) + 5) = 0) ∧ ((0 ≤ (am_w32 ((h 201 4) - 32))) ∧ (((am_w32 ((h 201 4) - 32)) < am_ln (((am_up h5 (h5 201 6) 6 (am_ior (h5 (h5 201 6) 6) (am_ishl 1 (am_w32 ((h 201 4) - 32))))) 201 6) + 5)) ∧ (cf d M_X1_advance [.inr (.inr 201)] (am_up (am_up h5 (h5 201 6) 6 (am_ior (h5 (h5 201 6) 6) (am_ishl 1 (am_w32 ((h 201 4) - 32))))) (((am_up h5 (h5 201 6) 6 (am_ior (h5 (h5 201 6) 6) (am_ishl 1 (am_w32 ((h 201 4) - 32))))) 201 6) + 5) (am_w32 ((h 201 4) - 32)) ((am_up h5 (h5 201 6) 6 (am_ior (h5 (h5 201 6) 6) (am_ishl 1 (am_w32 ((h 201 4) - 32))))) 201 8)) (fun _ h14 => (am_kd 321 (h14 201 6) = 15) ∧ (cf d M_X1_readPart [.inr (.inr 201), .inl 9, .inr (.inr ((h14 201 6) + 6)), .inl (am_w32 ((h 201 4) - 32))] h14 (fun r16 h17 => (r16 = 0 → wf (d + 1) M_X1_readField Q 134 [some (.inr (.inr 201)), some (.inl (am_w32 ((h 201 4) - 32))), none] [] h17) ∧ (¬ r16 = 0 → (¬ (h17 201 8) = 1 → wf (d + 1) M_X1_readField Q 113 [some (.inr (.inr 201)), some (.inl (am_w32 ((h 201 4) - 32))), none] [] h17) ∧ ((h17 201 8) = 1 → (am_kd 321 (h17 201 6) = 15) ∧ (cf d M_X1_readPart [.inr (.inr 201), .inl 10, .inr (.inr ((h17 201 6) + 7)), .inl (am_w32 ((h 201 4) - 32))] h17 (fun r21 h22 => (r21 = 0 → wf (d + 1) M_X1_readField Q 134 [some (.inr (.inr 201)), some (.inl (am_w32 ((h 201 4) - 32))), none] [] h22) ∧ (¬ r21 = 0 → wf (d + 1) M_X1_readField Q 113 [some (.inr (.inr 201)), some (.inl (am_w32 ((h 201 4) - 32))), none] [] h22)))))))))))))) ∧ (¬ r4 = 0 → cf d M_X1_fail [.inr (.inr 201), .inl 4] h5 (fun r24 h25 => (r24 = 0 ∨ r24 = 1) ∧ (Q r24 h25)))))) ∧ (r1 = 0 → cf d M_X1_fail [.inr (.inr 201), .inl 1] h2 (fun r27 h28 => (r27 = 0 ∨ r27 = 1) ∧ (Q r27 h28))))) : wf (d + 1) M_X1_readField Q 0 [some (.inr (.inr 201)), none, none] [] h := by
  intro h0
  refine ar_aload_n (pc := 0) (i := 0) (k0 := 0) (by decide +kernel) rfl rfl ?_
  refine ar_getV (pc := 1) (a := 201) (v := .inl (h 201 4)) 1 4 (by decide +kernel) k_201 rfl (by decide) wf_RX1_45 rfl ?_
  refine ar_bipush (pc := 4) (z := 32) (by decide +kernel) (by omega) ?_
  refine ar_isub (pc := 6) (x := (h 201 4)) (y := 32) (by decide +kernel) ?_
  refine ar_istore_n (pc := 7) (i := 1) (k0 := 1) (ls2 := [some (.inr (.inr 201)), some (.inl (am_w32 ((h 201 4) - 32))), none]) (by decide +kernel) rfl (by decide) rfl ?_
  refine ar_iload_n (pc := 8) (i := 1) (k0 := 1) (by decide +kernel) rfl rfl ?_
  refine ar_callSN (pc := 9) (M2 := M_X6_isField) (as := [.inl (am_w32 ((h 201 4) - 32))]) (n2 := 321) (st := []) (by decide +kernel) rfl wn_RX1_108 ws_yX6_isField wz_RX6 wc_yX6_isField ⟨by decide, by decide, rfl⟩ (by decide) (Nat.le_of_ble_eq_true rfl) (Nat.le_refl _) (Nat.le_refl _) (am_Cl_mono H (fun r1 h2 H => ?_))
  show am_Wp true (d + 1) M_X1_readField 321 321 h0 Q 12 [some (.inr (.inr 201)), some (.inl (am_w32 ((h 201 4) - 32))), none] [.inl r1] 321 h2
  refine ar_if_ne (pc := 12) (x := r1) (tgt := 21) (off := 9) (by decide +kernel) (by decide) (fun c3 => ?_) (fun c3 => ?_)
  · replace H := H.1 c3
    refine ar_aload_n (pc := 21) (i := 0) (k0 := 0) (by decide +kernel) rfl rfl ?_
    refine ar_getV (pc := 22) (a := 201) (v := .inr (.inr (h2 201 6))) 1 6 (by decide +kernel) k_201 rfl (by decide) wf_RX1_24 rfl ?_
    refine ar_iload_n (pc := 25) (i := 1) (k0 := 1) (by decide +kernel) rfl rfl ?_
    obtain ⟨g6, H⟩ := H
    refine ar_callVN (pc := 26) (M2 := M_X5_tells) (a := (h2 201 6)) (ci := 5) (as := [.inl (am_w32 ((h 201 4) - 32))]) (n2 := 321) (st := []) (by decide +kernel) rfl wn_RX1_170 wi_yX5_tells wl_yX5_tells g6 rfl wz_RX5 wc_yX5_tells ⟨by decide, by decide, rfl⟩ (by decide) (Nat.le_of_ble_eq_true rfl) (Nat.le_refl _) (Nat.le_refl _) (am_Cl_mono H (fun r4 h5 H => ?_))
    show am_Wp true (d + 1) M_X1_readField 321 321 h0 Q 29 [some (.inr (.inr 201)), some (.inl (am_w32 ((h 201 4) - 32))), none] [.inl r4] 321 h5
    refine ar_if_eq (pc := 29) (x := r4) (tgt := 38) (off := 9) (by decide +kernel) (by decide) (fun c7 => ?_) (fun c7 => ?_)
    · replace H := H.1 c7
      refine ar_aload_n (pc := 38) (i := 0) (k0 := 0) (by decide +kernel) rfl rfl ?_
      refine ar_getV (pc := 39) (a := 201) (v := .inr (.inr (h5 201 6))) 1 6 (by decide +kernel) k_201 rfl (by decide) wf_RX1_24 rfl ?_
      refine ar_dup (pc := 42) (by decide +kernel) trivial ?_
      obtain ⟨g8, H⟩ := H
      refine ar_getNV (pc := 43) (a := (h5 201 6)) (v := .inl (h5 (h5 201 6) 6)) 5 6 (by decide +kernel) g8 rfl (by decide) wg_RX1_173 rfl ?_
      refine ar_iconst (pc := 46) (z := 1) (by decide +kernel) (by unfold am_i32; omega) ?_
      refine ar_iload_n (pc := 47) (i := 1) (k0 := 1) (by decide +kernel) rfl rfl ?_
      refine ar_ishl (pc := 48) (x := 1) (y := (am_w32 ((h 201 4) - 32))) (by decide +kernel) ?_
      refine ar_ior (pc := 49) (x := (h5 (h5 201 6) 6)) (y := (am_ishl 1 (am_w32 ((h 201 4) - 32)))) (by decide +kernel) ?_
      refine ar_putIN (pc := 50) (a := (h5 201 6)) (z := (am_ior (h5 (h5 201 6) 6) (am_ishl 1 (am_w32 ((h 201 4) - 32))))) 5 6 (by decide +kernel) g8 rfl (by decide) rfl (fun _ => rfl) rfl wg_RX1_173 ?_
      refine ar_aload_n (pc := 53) (i := 0) (k0 := 0) (by decide +kernel) rfl rfl ?_
      refine ar_getV (pc := 54) (a := 201) (v := .inr (.inr ((am_up h5 (h5 201 6) 6 (am_ior (h5 (h5 201 6) 6) (am_ishl 1 (am_w32 ((h 201 4) - 32))))) 201 6))) 1 6 (by decide +kernel) k_201 rfl (by decide) wf_RX1_24 rfl ?_
      obtain ⟨g9, H⟩ := H
      refine ar_getFNV (pc := 57) (a := ((am_up h5 (h5 201 6) 6 (am_ior (h5 (h5 201 6) 6) (am_ishl 1 (am_w32 ((h 201 4) - 32))))) 201 6)) (b := (((am_up h5 (h5 201 6) 6 (am_ior (h5 (h5 201 6) 6) (am_ishl 1 (am_w32 ((h 201 4) - 32))))) 201 6) + 5)) 5 7 (by decide +kernel) g9 rfl (by decide) wg_RX1_176 rfl (fun _ => rfl) rfl ?_
      refine ar_iload_n (pc := 60) (i := 1) (k0 := 1) (by decide +kernel) rfl rfl ?_
      refine ar_aload_n (pc := 61) (i := 0) (k0 := 0) (by decide +kernel) rfl rfl ?_
      refine ar_getV (pc := 62) (a := 201) (v := .inl ((am_up h5 (h5 201 6) 6 (am_ior (h5 (h5 201 6) 6) (am_ishl 1 (am_w32 ((h 201 4) - 32))))) 201 8)) 1 8 (by decide +kernel) k_201 rfl (by decide) wf_RX1_133 rfl ?_
      obtain ⟨g10, H⟩ := H
      obtain ⟨g11, H⟩ := H
      obtain ⟨g12, H⟩ := H
      refine ar_iast (pc := 65) (a := (((am_up h5 (h5 201 6) 6 (am_ior (h5 (h5 201 6) 6) (am_ishl 1 (am_w32 ((h 201 4) - 32))))) 201 6) + 5)) (i := (am_w32 ((h 201 4) - 32))) (z := ((am_up h5 (h5 201 6) 6 (am_ior (h5 (h5 201 6) 6) (am_ishl 1 (am_w32 ((h 201 4) - 32))))) 201 8)) (by decide +kernel) g10 g11 g12 ?_
      refine ar_aload_n (pc := 66) (i := 0) (k0 := 0) (by decide +kernel) rfl rfl ?_
      refine ar_callV (pc := 67) (M2 := M_X1_advance) (a := 201) (ci := 1) (as := []) (n2 := 321) (st := []) (by decide +kernel) rfl wm_RX1_121 wi_yX1_advance wl_yX1_advance k_201 rfl wz_RX1 wc_yX1_advance ⟨by decide, by decide, rfl⟩ (by decide) (Nat.le_of_ble_eq_true rfl) (Nat.le_refl _) (Nat.le_refl _) (am_Cl_mono H (fun r13 h14 H => ?_))
      show am_Wp true (d + 1) M_X1_readField 321 321 h0 Q 70 [some (.inr (.inr 201)), some (.inl (am_w32 ((h 201 4) - 32))), none] [.inl r13] 321 h14
      refine ar_pop (pc := 70) (by decide +kernel) trivial ?_
      refine ar_aload_n (pc := 71) (i := 0) (k0 := 0) (by decide +kernel) rfl rfl ?_
      refine ar_bipush (pc := 72) (z := 9) (by decide +kernel) (by omega) ?_
      refine ar_aload_n (pc := 74) (i := 0) (k0 := 0) (by decide +kernel) rfl rfl ?_
      refine ar_getV (pc := 75) (a := 201) (v := .inr (.inr (h14 201 6))) 1 6 (by decide +kernel) k_201 rfl (by decide) wf_RX1_24 rfl ?_
      obtain ⟨g15, H⟩ := H
      refine ar_getFNV (pc := 78) (a := (h14 201 6)) (b := ((h14 201 6) + 6)) 5 8 (by decide +kernel) g15 rfl (by decide) wg_RX1_179 rfl (fun _ => rfl) rfl ?_
      refine ar_iload_n (pc := 81) (i := 1) (k0 := 1) (by decide +kernel) rfl rfl ?_
      refine ar_callV (pc := 82) (M2 := M_X1_readPart) (a := 201) (ci := 1) (as := [.inl 9, .inr (.inr ((h14 201 6) + 6)), .inl (am_w32 ((h 201 4) - 32))]) (n2 := 321) (st := []) (by decide +kernel) rfl wm_RX1_182 wi_yX1_readPart wl_yX1_readPart k_201 rfl wz_RX1 wc_yX1_readPart ⟨by decide, by decide, rfl⟩ (by decide) (Nat.le_of_ble_eq_true rfl) (Nat.le_refl _) (Nat.le_refl _) (am_Cl_mono H (fun r16 h17 H => ?_))
      show am_Wp true (d + 1) M_X1_readField 321 321 h0 Q 85 [some (.inr (.inr 201)), some (.inl (am_w32 ((h 201 4) - 32))), none] [.inl r16] 321 h17
      refine ar_if_eq (pc := 85) (x := r16) (tgt := 134) (off := 49) (by decide +kernel) (by decide) (fun c18 => ?_) (fun c18 => ?_)
      · replace H := H.1 c18
        exact H h0
      · replace H := H.2 c18
        refine ar_aload_n (pc := 88) (i := 0) (k0 := 0) (by decide +kernel) rfl rfl ?_
        refine ar_getV (pc := 89) (a := 201) (v := .inl (h17 201 8)) 1 8 (by decide +kernel) k_201 rfl (by decide) wf_RX1_133 rfl ?_
        refine ar_iconst (pc := 92) (z := 1) (by decide +kernel) (by unfold am_i32; omega) ?_
        refine ar_icmp_ne (pc := 93) (x := (h17 201 8)) (y := 1) (tgt := 113) (off := 20) (by decide +kernel) (by decide) (fun c19 => ?_) (fun c19 => ?_)
        · replace H := H.1 c19
          exact H h0
        · replace H := H.2 c19
          refine ar_aload_n (pc := 96) (i := 0) (k0 := 0) (by decide +kernel) rfl rfl ?_
          refine ar_bipush (pc := 97) (z := 10) (by decide +kernel) (by omega) ?_
          refine ar_aload_n (pc := 99) (i := 0) (k0 := 0) (by decide +kernel) rfl rfl ?_
          refine ar_getV (pc := 100) (a := 201) (v := .inr (.inr (h17 201 6))) 1 6 (by decide +kernel) k_201 rfl (by decide) wf_RX1_24 rfl ?_
          obtain ⟨g20, H⟩ := H
          refine ar_getFNV (pc := 103) (a := (h17 201 6)) (b := ((h17 201 6) + 7)) 5 9 (by decide +kernel) g20 rfl (by decide) wg_RX1_186 rfl (fun _ => rfl) rfl ?_
          refine ar_iload_n (pc := 106) (i := 1) (k0 := 1) (by decide +kernel) rfl rfl ?_
          refine ar_callV (pc := 107) (M2 := M_X1_readPart) (a := 201) (ci := 1) (as := [.inl 10, .inr (.inr ((h17 201 6) + 7)), .inl (am_w32 ((h 201 4) - 32))]) (n2 := 321) (st := []) (by decide +kernel) rfl wm_RX1_182 wi_yX1_readPart wl_yX1_readPart k_201 rfl wz_RX1 wc_yX1_readPart ⟨by decide, by decide, rfl⟩ (by decide) (Nat.le_of_ble_eq_true rfl) (Nat.le_refl _) (Nat.le_refl _) (am_Cl_mono H (fun r21 h22 H => ?_))
          show am_Wp true (d + 1) M_X1_readField 321 321 h0 Q 110 [some (.inr (.inr 201)), some (.inl (am_w32 ((h 201 4) - 32))), none] [.inl r21] 321 h22
          refine ar_if_eq (pc := 110) (x := r21) (tgt := 134) (off := 24) (by decide +kernel) (by decide) (fun c23 => ?_) (fun c23 => ?_)
          · replace H := H.1 c23
            exact H h0
          · replace H := H.2 c23
            exact H h0
    · replace H := H.2 c7
      refine ar_aload_n (pc := 32) (i := 0) (k0 := 0) (by decide +kernel) rfl rfl ?_
      refine ar_iconst (pc := 33) (z := 4) (by decide +kernel) (by unfold am_i32; omega) ?_
      refine ar_callV (pc := 34) (M2 := M_X1_fail) (a := 201) (ci := 1) (as := [.inl 4]) (n2 := 321) (st := []) (by decide +kernel) rfl wm_RX1_124 wi_yX1_fail wl_yX1_fail k_201 rfl wz_RX1 wc_yX1_fail ⟨by decide, by decide, rfl⟩ (by decide) (Nat.le_of_ble_eq_true rfl) (Nat.le_refl _) (Nat.le_refl _) (am_Cl_mono H (fun r24 h25 H => ?_))
      show am_Wp true (d + 1) M_X1_readField 321 321 h0 Q 37 [some (.inr (.inr 201)), some (.inl (am_w32 ((h 201 4) - 32))), none] [.inl r24] 321 h25
      obtain ⟨g26, H⟩ := H
      exact ar_zret (pc := 37) (x := r24) (by decide +kernel) rfl rfl g26 H
  · replace H := H.2 c3
    refine ar_aload_n (pc := 15) (i := 0) (k0 := 0) (by decide +kernel) rfl rfl ?_
    refine ar_iconst (pc := 16) (z := 1) (by decide +kernel) (by unfold am_i32; omega) ?_
    refine ar_callV (pc := 17) (M2 := M_X1_fail) (a := 201) (ci := 1) (as := [.inl 1]) (n2 := 321) (st := []) (by decide +kernel) rfl wm_RX1_124 wi_yX1_fail wl_yX1_fail k_201 rfl wz_RX1 wc_yX1_fail ⟨by decide, by decide, rfl⟩ (by decide) (Nat.le_of_ble_eq_true rfl) (Nat.le_refl _) (Nat.le_refl _) (am_Cl_mono H (fun r27 h28 H => ?_))
    show am_Wp true (d + 1) M_X1_readField 321 321 h0 Q 20 [some (.inr (.inr 201)), some (.inl (am_w32 ((h 201 4) - 32))), none] [.inl r27] 321 h28
    obtain ⟨g29, H⟩ := H
    exact ar_zret (pc := 20) (x := r27) (by decide +kernel) rfl rfl g29 H
theorem B_X1_readField_113 {d : Nat} {Q : Int → am_H → Prop} {h : am_H} {v1 : Int} (H : (am_kd 321 (h 201 6) = 15) ∧ (cf d M_X1_readPart [.inr (.inr 201), .inl 11, .inr (.inr ((h 201 6) + 8)), .inl v1] h (fun r2 h3 => (r2 = 0 → wf (d + 1) M_X1_readField Q 134 [some (.inr (.inr 201)), some (.inl v1), none] [] h3) ∧ (¬ r2 = 0 → wf (d + 1) M_X1_readField Q 135 [some (.inr (.inr 201)), some (.inl v1), none] [.inl 1] h3)))) : wf (d + 1) M_X1_readField Q 113 [some (.inr (.inr 201)), some (.inl v1), none] [] h := by
  intro h0
  refine ar_aload_n (pc := 113) (i := 0) (k0 := 0) (by decide +kernel) rfl rfl ?_
  refine ar_bipush (pc := 114) (z := 11) (by decide +kernel) (by omega) ?_
  refine ar_aload_n (pc := 116) (i := 0) (k0 := 0) (by decide +kernel) rfl rfl ?_
  refine ar_getV (pc := 117) (a := 201) (v := .inr (.inr (h 201 6))) 1 6 (by decide +kernel) k_201 rfl (by decide) wf_RX1_24 rfl ?_
  obtain ⟨g1, H⟩ := H
  refine ar_getFNV (pc := 120) (a := (h 201 6)) (b := ((h 201 6) + 8)) 5 10 (by decide +kernel) g1 rfl (by decide) wg_RX1_189 rfl (fun _ => rfl) rfl ?_
  refine ar_iload_n (pc := 123) (i := 1) (k0 := 1) (by decide +kernel) rfl rfl ?_
  refine ar_callV (pc := 124) (M2 := M_X1_readPart) (a := 201) (ci := 1) (as := [.inl 11, .inr (.inr ((h 201 6) + 8)), .inl v1]) (n2 := 321) (st := []) (by decide +kernel) rfl wm_RX1_182 wi_yX1_readPart wl_yX1_readPart k_201 rfl wz_RX1 wc_yX1_readPart ⟨by decide, by decide, rfl⟩ (by decide) (Nat.le_of_ble_eq_true rfl) (Nat.le_refl _) (Nat.le_refl _) (am_Cl_mono H (fun r2 h3 H => ?_))
  show am_Wp true (d + 1) M_X1_readField 321 321 h0 Q 127 [some (.inr (.inr 201)), some (.inl v1), none] [.inl r2] 321 h3
  refine ar_if_eq (pc := 127) (x := r2) (tgt := 134) (off := 7) (by decide +kernel) (by decide) (fun c4 => ?_) (fun c4 => ?_)
  · replace H := H.1 c4
    exact H h0
  · replace H := H.2 c4
    refine ar_iconst (pc := 130) (z := 1) (by decide +kernel) (by unfold am_i32; omega) ?_
    refine ar_goto (pc := 131) (tgt := 135) (off := 4) (by decide +kernel) (by decide) ?_
    exact H h0
theorem B_X1_readField_134 {d : Nat} {Q : Int → am_H → Prop} {h : am_H} {v1 : Int} (H : wf (d + 1) M_X1_readField Q 135 [some (.inr (.inr 201)), some (.inl v1), none] [.inl 0] h) : wf (d + 1) M_X1_readField Q 134 [some (.inr (.inr 201)), some (.inl v1), none] [] h := by
  intro h0
  refine ar_iconst (pc := 134) (z := 0) (by decide +kernel) (by unfold am_i32; omega) ?_
  exact H h0
theorem B_X1_readField_135 {d : Nat} {Q : Int → am_H → Prop} {h : am_H} {v1 s0 : Int} (H : (am_kd 321 (h 201 6) = 15) ∧ ((am_kd 321 ((h 201 6) + 9) = 0) ∧ ((0 ≤ v1) ∧ ((v1 < am_ln ((h 201 6) + 9)) ∧ ((am_kd 321 ((am_up h ((h 201 6) + 9) v1 (h 201 10)) 201 6) = 15) ∧ ((am_kd 321 (((am_up h ((h 201 6) + 9) v1 (h 201 10)) 201 6) + 10) = 0) ∧ ((v1 < am_ln (((am_up h ((h 201 6) + 9) v1 (h 201 10)) 201 6) + 10)) ∧ ((s0 = 0 ∨ s0 = 1) ∧ (Q s0 (am_up (am_up h ((h 201 6) + 9) v1 (h 201 10)) (((am_up h ((h 201 6) + 9) v1 (h 201 10)) 201 6) + 10) v1 ((am_up h ((h 201 6) + 9) v1 (h 201 10)) 201 11))))))))))) : wf (d + 1) M_X1_readField Q 135 [some (.inr (.inr 201)), some (.inl v1), none] [.inl s0] h := by
  intro h0
  refine ar_istore_n (pc := 135) (i := 2) (k0 := 2) (ls2 := [some (.inr (.inr 201)), some (.inl v1), some (.inl s0)]) (by decide +kernel) rfl (by decide) rfl ?_
  refine ar_aload_n (pc := 136) (i := 0) (k0 := 0) (by decide +kernel) rfl rfl ?_
  refine ar_getV (pc := 137) (a := 201) (v := .inr (.inr (h 201 6))) 1 6 (by decide +kernel) k_201 rfl (by decide) wf_RX1_24 rfl ?_
  obtain ⟨g1, H⟩ := H
  refine ar_getFNV (pc := 140) (a := (h 201 6)) (b := ((h 201 6) + 9)) 5 11 (by decide +kernel) g1 rfl (by decide) wg_RX1_192 rfl (fun _ => rfl) rfl ?_
  refine ar_iload_n (pc := 143) (i := 1) (k0 := 1) (by decide +kernel) rfl rfl ?_
  refine ar_aload_n (pc := 144) (i := 0) (k0 := 0) (by decide +kernel) rfl rfl ?_
  refine ar_getV (pc := 145) (a := 201) (v := .inl (h 201 10)) 1 10 (by decide +kernel) k_201 rfl (by decide) wf_RX1_145 rfl ?_
  obtain ⟨g2, H⟩ := H
  obtain ⟨g3, H⟩ := H
  obtain ⟨g4, H⟩ := H
  refine ar_iast (pc := 148) (a := ((h 201 6) + 9)) (i := v1) (z := (h 201 10)) (by decide +kernel) g2 g3 g4 ?_
  refine ar_aload_n (pc := 149) (i := 0) (k0 := 0) (by decide +kernel) rfl rfl ?_
  refine ar_getV (pc := 150) (a := 201) (v := .inr (.inr ((am_up h ((h 201 6) + 9) v1 (h 201 10)) 201 6))) 1 6 (by decide +kernel) k_201 rfl (by decide) wf_RX1_24 rfl ?_
  obtain ⟨g5, H⟩ := H
  refine ar_getFNV (pc := 153) (a := ((am_up h ((h 201 6) + 9) v1 (h 201 10)) 201 6)) (b := (((am_up h ((h 201 6) + 9) v1 (h 201 10)) 201 6) + 10)) 5 12 (by decide +kernel) g5 rfl (by decide) wg_RX1_195 rfl (fun _ => rfl) rfl ?_
  refine ar_iload_n (pc := 156) (i := 1) (k0 := 1) (by decide +kernel) rfl rfl ?_
  refine ar_aload_n (pc := 157) (i := 0) (k0 := 0) (by decide +kernel) rfl rfl ?_
  refine ar_getV (pc := 158) (a := 201) (v := .inl ((am_up h ((h 201 6) + 9) v1 (h 201 10)) 201 11)) 1 11 (by decide +kernel) k_201 rfl (by decide) wf_RX1_148 rfl ?_
  obtain ⟨g6, H⟩ := H
  obtain ⟨g7, H⟩ := H
  refine ar_iast (pc := 161) (a := (((am_up h ((h 201 6) + 9) v1 (h 201 10)) 201 6) + 10)) (i := v1) (z := ((am_up h ((h 201 6) + 9) v1 (h 201 10)) 201 11)) (by decide +kernel) g6 g3 g7 ?_
  refine ar_iload_n (pc := 162) (i := 2) (k0 := 2) (by decide +kernel) rfl rfl ?_
  obtain ⟨g8, H⟩ := H
  exact ar_zret (pc := 163) (x := s0) (by decide +kernel) rfl rfl g8 H

