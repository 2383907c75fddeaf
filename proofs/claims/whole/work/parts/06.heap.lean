theorem am_narrow {n : Nat} {ρ : Int → Nat} {ty : FieldType} {z : Int} (hz : am_in n ty z) (ht : ty = .int ∨ ty = .long ∨ ty = .boolean ∨ (∃ C, ty = .object C) ∨ ∃ t, ty = .array t) : narrow ty (am_ft ρ ty z) = am_ft ρ ty z ∧ fits ty (am_ft ρ ty z) = true := by
  rcases ht with rfl | rfl | rfl | ⟨C, rfl⟩ | ⟨t, rfl⟩
  · exact ⟨rfl, rfl⟩
  · exact ⟨rfl, rfl⟩
  · rcases hz with rfl | rfl
    · show narrow .boolean (.int (Int32.ofInt 0)) = .int (Int32.ofInt 0) ∧ fits .boolean (.int (Int32.ofInt 0)) = true
      exact ⟨by decide, by decide⟩
    · show narrow .boolean (.int (Int32.ofInt 1)) = .int (Int32.ofInt 1) ∧ fits .boolean (.int (Int32.ofInt 1)) = true
      exact ⟨by decide, by decide⟩
  · show narrow _ (va_rf (am_rf ρ z)) = va_rf (am_rf ρ z) ∧ fits _ (va_rf (am_rf ρ z)) = true
    cases am_rf ρ z <;> exact ⟨rfl, rfl⟩
  · show narrow _ (va_rf (am_rf ρ z)) = va_rf (am_rf ρ z) ∧ fits _ (va_rf (am_rf ρ z)) = true
    cases am_rf ρ z <;> exact ⟨rfl, rfl⟩
theorem am_t_obj {n ci k : Nat} {a : Int} (ha : am_kd n a = 10 + ci) : am_t (am_kd n a) k = am_ty ci k := by
  rw [ha]
  unfold am_t
  split
  · omega
  · omega
  · omega
  · omega
  · omega
  · rw [show 10 + ci - 10 = ci by omega]; rfl
theorem am_fs_set {ρ : Int → Nat} {h : am_H} {a z : Int} {ci k N : Nat} : ((List.range N).map (fun j : Nat => am_ft ρ (am_ty ci j) (h a j))).set k (am_ft ρ (am_ty ci k) z) = (List.range N).map (fun j : Nat => am_ft ρ (am_ty ci j) (am_up h a k z a j)) := by
  apply List.ext_getElem?
  intro j
  by_cases hj : j < N
  · by_cases q : k = j
    · subst q
      rw [List.getElem?_set, if_pos rfl, if_pos (by simpa using hj), List.getElem?_map, List.getElem?_range hj, Option.map_some, am_up_at]
    · rw [List.getElem?_set_ne q, List.getElem?_map, List.getElem?_map, List.getElem?_range hj, Option.map_some, Option.map_some, am_up_ne (by omega)]
  · rw [List.getElem?_eq_none (by simp; omega), List.getElem?_eq_none (by simp; omega)]
theorem am_up_other {h : am_H} {a i z : Int} : ∀ b j : Int, b ≠ a → am_up h a i z b j = h b j := fun b j q => am_up_ne (fun z => q z.1)
theorem am_up_neg {h : am_H} {a i z : Int} (h1 : 1 ≤ a) : ∀ b j : Int, b < 0 → am_up h a i z b j = h b j := fun b j q => am_up_ne (fun z => by omega)
section AM_HEAP2
variable {fin : Bool} {d : Nat} {M : am_M} {n0 n1 : Nat} {h0 : am_H} {Q : Int → am_H → Prop} {pc : Nat} {ls : List (Option am_V)} {st : List am_V} {n : Nat} {h : am_H}
theorem ar_put {a z : Int} {ci k idx : Nat} {C : String} {T : u_T} {N : Nat} {v : am_V} (hd : decode M.2.1 pc = .ok (.putfield idx, 3)) (hv : v = am_tv (am_ty ci k) z) (ha : am_kd n a = 10 + ci) (hc : am_cl[ci]? = some (C, T, N)) (hk : k < N) (ht : am_ty ci k = .int ∨ am_ty ci k = .long ∨ am_ty ci k = .boolean ∨ (∃ C, am_ty ci k = .object C) ∨ ∃ t, am_ty ci k = .array t) (hoff : fin = true → am_off ci k = none) (hfin : (T k).2.2.2 = false) (hz : am_okV n v → am_in n (am_ty ci k) z) (hw : Cond.fieldLink M.1.cls idx (T k).1 (T k).2.1 (T k).2.2.1 ∈ am_gw) (kk : am_Wp fin d M n0 n1 h0 Q (pc + 3) ls st n (am_up h a k z)) : am_Wp fin d M n0 n1 h0 Q pc ls (v :: .inr (.inr a) :: st) n h := by
  intro p l e s m args below meth c H locs ρ ρ0 cA cA0 D A lm X hg hl hs ho
  have hci : ci < 8 := (List.getElem?_eq_some_iff.mp hc).1
  obtain ⟨h1, h2, h3⟩ := am_kd_sh ha (by omega)
  have hN := am_nf_of hc
  have he := am_wld_at (ρ := ρ) (cA := cA) (h := h) h1 h2
  rw [am_cellO h1 h3] at he
  have hz2 := hz (am_ok_hd hs)
  obtain ⟨e1, e2⟩ := am_narrow (ρ := ρ) hz2 ht
  have hty := am_ty_ok ci hci _ hc
  subst hv
  simp only [List.map_cons, am_tv_cv]
  simp only [am_cv, am_rf_some h1]
  refine va_put (ty := am_ty ci k) X.1.1 X.1.2.1 X.1.2.2.2.2.2.1 (am_lay hc) (am_ty ci) hty.1 hty.2 X.1.2.2.2.2.1 X.2.1.K X.2.1.2.2.1 X.2.1.2.2.2.1 X.2.2.1 _ he hc k hk (X.1.2.2.2.2.2.1 _ hw) (fun _ q => q) hfin (hty.1 k hk) e1 e2 (by simpa using by omega) hd (fun H1 locs1 gP gD gS => ?_)
  rw [am_fs_set] at gP gD
  have R2 := X.2.1.put (h2 := am_up h a k z) h1 h2 am_up_other (am_cellO h1 h3) gP gD (am_rg_up X.2.1.2.2.2.2.1 (fun _ => by rw [am_t_obj ha]; exact hz2)) (fun q => am_fin_up (X.2.1.2.2.2.2.2 q) (fun c k2 g1 g2 => by rw [ha] at g1; obtain rfl : ci = c := (by omega); obtain rfl : k2 = k := (by omega); exact hoff q) (by omega))
  exact kk p l e s m args below meth c H1 locs1 ρ ρ0 cA cA0 D A lm (X.put R2 gS (am_up_neg h1)) (fun b j q => (am_up_neg h1 b j q).trans (hg b j q)) hl (am_ok_tl (am_ok_tl hs)) ho
theorem ar_putN {a z : Int} {ci k idx : Nat} {C : String} {T : u_T} {N : Nat} {v : am_V} {host : String} (hd : decode M.2.1 pc = .ok (.putfield idx, 3)) (hv : v = am_tv (am_ty ci k) z) (ha : am_kd n a = 10 + ci) (hc : am_cl[ci]? = some (C, T, N)) (hk : k < N) (ht : am_ty ci k = .int ∨ am_ty ci k = .long ∨ am_ty ci k = .boolean ∨ (∃ C, am_ty ci k = .object C) ∨ ∃ t, am_ty ci k = .array t) (hoff : fin = true → am_off ci k = none) (hfin : (T k).2.2.2 = false) (hz : am_okV n v → am_in n (am_ty ci k) z) (hw : Cond.fieldLinkNest M.1.cls idx (T k).1 (T k).2.1 (T k).2.2.1 host ∈ lw_tbl) (kk : am_Wp fin d M n0 n1 h0 Q (pc + 3) ls st n (am_up h a k z)) : am_Wp fin d M n0 n1 h0 Q pc ls (v :: .inr (.inr a) :: st) n h := by
  intro p l e s m args below meth c H locs ρ ρ0 cA cA0 D A lm X hg hl hs ho
  have hci : ci < 8 := (List.getElem?_eq_some_iff.mp hc).1
  obtain ⟨h1, h2, h3⟩ := am_kd_sh ha (by omega)
  have hN := am_nf_of hc
  have he := am_wld_at (ρ := ρ) (cA := cA) (h := h) h1 h2
  rw [am_cellO h1 h3] at he
  have hz2 := hz (am_ok_hd hs)
  obtain ⟨e1, e2⟩ := am_narrow (ρ := ρ) hz2 ht
  have hty := am_ty_ok ci hci _ hc
  subst hv
  simp only [List.map_cons, am_tv_cv]
  simp only [am_cv, am_rf_some h1]
  refine va_putN (ty := am_ty ci k) X.1.1 X.1.2.1 X.1.2.2.2.2.2.1 (am_lay hc) (am_ty ci) hty.1 hty.2 X.1.2.2.2.2.1 X.2.1.K X.2.1.2.2.1 X.2.1.2.2.2.1 X.2.2.1 _ he hc k hk ((X.2.2.2.2.1.2.2.2.2.2.1 _ hw rfl).use rfl) (fun _ q => q) hfin (hty.1 k hk) e1 e2 (by simpa using by omega) hd (fun H1 locs1 gP gD gS => ?_)
  rw [am_fs_set] at gP gD
  have R2 := X.2.1.put (h2 := am_up h a k z) h1 h2 am_up_other (am_cellO h1 h3) gP gD (am_rg_up X.2.1.2.2.2.2.1 (fun _ => by rw [am_t_obj ha]; exact hz2)) (fun q => am_fin_up (X.2.1.2.2.2.2.2 q) (fun c k2 g1 g2 => by rw [ha] at g1; obtain rfl : ci = c := (by omega); obtain rfl : k2 = k := (by omega); exact hoff q) (by omega))
  exact kk p l e s m args below meth c H1 locs1 ρ ρ0 cA cA0 D A lm (X.put R2 gS (am_up_neg h1)) (fun b j q => (am_up_neg h1 b j q).trans (hg b j q)) hl (am_ok_tl (am_ok_tl hs)) ho
theorem ar_putF {a z : Int} {ci k idx : Nat} {C : String} {T : u_T} {N : Nat} {v : am_V} (hd : decode M.2.1 pc = .ok (.putfield idx, 3)) (hv : v = am_tv (am_ty ci k) z) (ha : am_kd n a = 10 + ci) (hc : am_cl[ci]? = some (C, T, N)) (hk : k < N) (ht : am_ty ci k = .int ∨ am_ty ci k = .long ∨ am_ty ci k = .boolean ∨ (∃ C, am_ty ci k = .object C) ∨ ∃ t, am_ty ci k = .array t) (hff : fin = false) (hfin : (T k).2.2.2 = true) (hin2 : M.1.name = "<init>") (hdecl : (T k).1 = M.1.cls) (hz : am_okV n v → am_in n (am_ty ci k) z) (hw : Cond.fieldLink M.1.cls idx (T k).1 (T k).2.1 (T k).2.2.1 ∈ am_gw) (kk : am_Wp fin d M n0 n1 h0 Q (pc + 3) ls st n (am_up h a k z)) : am_Wp fin d M n0 n1 h0 Q pc ls (v :: .inr (.inr a) :: st) n h := by
  intro p l e s m args below meth c H locs ρ ρ0 cA cA0 D A lm X hg hl hs ho
  have hci : ci < 8 := (List.getElem?_eq_some_iff.mp hc).1
  obtain ⟨h1, h2, h3⟩ := am_kd_sh ha (by omega)
  have hN := am_nf_of hc
  have he := am_wld_at (ρ := ρ) (cA := cA) (h := h) h1 h2
  rw [am_cellO h1 h3] at he
  have hz2 := hz (am_ok_hd hs)
  obtain ⟨e1, e2⟩ := am_narrow (ρ := ρ) hz2 ht
  have hty := am_ty_ok ci hci _ hc
  subst hv
  simp only [List.map_cons, am_tv_cv]
  simp only [am_cv, am_rf_some h1]
  refine va_putF (ty := am_ty ci k) X.1.1 X.1.2.1 X.1.2.2.2.2.2.1 (am_lay hc) (am_ty ci) hty.1 hty.2 X.1.2.2.2.2.1 X.2.1.K X.2.1.2.2.1 X.2.1.2.2.2.1 X.2.2.1 _ he hc k hk (X.1.2.2.2.2.2.1 _ hw) (fun _ q => q) hfin (X.1.2.2.2.2.2.2.2 hin2) hdecl (hty.1 k hk) e1 e2 (by simpa using by omega) hd (fun H1 locs1 gP gD gS => ?_)
  rw [am_fs_set] at gP gD
  have R2 := X.2.1.put (h2 := am_up h a k z) h1 h2 am_up_other (am_cellO h1 h3) gP gD (am_rg_up X.2.1.2.2.2.2.1 (fun _ => by rw [am_t_obj ha]; exact hz2)) (fun q => by rw [hff] at q; cases q)
  exact kk p l e s m args below meth c H1 locs1 ρ ρ0 cA cA0 D A lm (X.put R2 gS (am_up_neg h1)) (fun b j q => (am_up_neg h1 b j q).trans (hg b j q)) hl (am_ok_tl (am_ok_tl hs)) ho
theorem ar_iald {a i : Int} (hd : decode M.2.1 pc = .ok (.iaload, 1)) (ha : am_kd n a = 0) (hi0 : 0 ≤ i) (hi1 : i < am_ln a) (kk : am_Wp fin d M n0 n1 h0 Q (pc + 1) ls ((.inl (h a i)) :: st) n h) : am_Wp fin d M n0 n1 h0 Q pc ls (.inl i :: .inr (.inr a) :: st) n h := by
  intro p l e s m args below meth c H locs ρ ρ0 cA cA0 D A lm X hg hl hs ho
  obtain ⟨h1, h2, h3⟩ := am_kd_sh ha (by decide)
  have he := am_wld_at (ρ := ρ) (cA := cA) (h := h) h1 h2
  rw [am_cell0 h1 (Or.inl h3)] at he
  have hok : am_i32 i := am_ok_hd hs
  have hin := am_vin hi0 hi1 hok
  have r := X.2.1.2.2.2.2.1 a i (by rw [ha]; decide)
  rw [ha] at r
  have hv : am_okV n (.inl (h a i)) := r
  have K := kk p l e s m args below meth c H locs ρ ρ0 cA cA0 D A lm X hg hl (am_ok_cons hv (am_ok_tl (am_ok_tl hs))) ho
  simp only [List.map_cons, am_cv, am_rf_some h1]
  refine va_iald X.1.1 X.1.2.1 (X.2.1.Ka h1 h2 (by omega) (ty := .int) (by simp [am_aty, h3])) X.2.1.2.2.1 _ 0 he rfl hin hd ?_
  rw [am_nat hok, show ((i.toNat : Nat) : Int) = i by omega]
  exact K
theorem ar_zald {a i : Int} (hd : decode M.2.1 pc = .ok (.baload, 1)) (ha : am_kd n a = 2) (hi0 : 0 ≤ i) (hi1 : i < am_ln a) (kk : am_Wp fin d M n0 n1 h0 Q (pc + 1) ls ((.inl (h a i)) :: st) n h) : am_Wp fin d M n0 n1 h0 Q pc ls (.inl i :: .inr (.inr a) :: st) n h := by
  intro p l e s m args below meth c H locs ρ ρ0 cA cA0 D A lm X hg hl hs ho
  obtain ⟨h1, h2, h3⟩ := am_kd_sh ha (by decide)
  have he := am_wld_at (ρ := ρ) (cA := cA) (h := h) h1 h2
  rw [am_cell0 h1 (Or.inr h3)] at he
  have hok : am_i32 i := am_ok_hd hs
  have hin := am_vin hi0 hi1 hok
  have r := X.2.1.2.2.2.2.1 a i (by rw [ha]; decide)
  rw [ha] at r
  have hv : am_okV n (.inl (h a i)) := by
    rcases r with r | r <;> (rw [r]; show am_i32 _; unfold am_i32; omega)
  have K := kk p l e s m args below meth c H locs ρ ρ0 cA cA0 D A lm X hg hl (am_ok_cons hv (am_ok_tl (am_ok_tl hs))) ho
  simp only [List.map_cons, am_cv, am_rf_some h1]
  refine va_zald X.1.1 X.1.2.1 (X.2.1.Ka h1 h2 (by omega) (ty := .boolean) (by simp [am_aty, h3])) X.2.1.2.2.1 _ 0 he rfl hin hd ?_
  rw [am_nat hok, show ((i.toNat : Nat) : Int) = i by omega]
  exact K
theorem ar_lald {a i : Int} (hd : decode M.2.1 pc = .ok (.laload, 1)) (ha : am_kd n a = 1) (hi0 : 0 ≤ i) (hi1 : i < am_ln a) (kk : am_Wp fin d M n0 n1 h0 Q (pc + 1) ls ((.inr (.inl (h a i))) :: st) n h) : am_Wp fin d M n0 n1 h0 Q pc ls (.inl i :: .inr (.inr a) :: st) n h := by
  intro p l e s m args below meth c H locs ρ ρ0 cA cA0 D A lm X hg hl hs ho
  obtain ⟨h1, h2, h3⟩ := am_kd_sh ha (by decide)
  have he := am_wld_at (ρ := ρ) (cA := cA) (h := h) h1 h2
  rw [am_cell1 h1 h3] at he
  have hok : am_i32 i := am_ok_hd hs
  have hin := am_vin hi0 hi1 hok
  have r := X.2.1.2.2.2.2.1 a i (by rw [ha]; decide)
  rw [ha] at r
  have hv : am_okV n (.inr (.inl (h a i))) := r
  have K := kk p l e s m args below meth c H locs ρ ρ0 cA cA0 D A lm X hg hl (am_ok_cons hv (am_ok_tl (am_ok_tl hs))) ho
  simp only [List.map_cons, am_cv, am_rf_some h1]
  refine va_lald X.1.1 X.1.2.1 (X.2.1.Ka h1 h2 (by omega) (ty := .long) (by simp [am_aty, h3])) X.2.1.2.2.1 _ 0 he rfl hin hd ?_
  rw [am_nat hok, show ((i.toNat : Nat) : Int) = i by omega]
  exact K
theorem ar_aaldM {a i : Int} (hd : decode M.2.1 pc = .ok (.aaload, 1)) (ha : am_kd n a = 3) (hi0 : 0 ≤ i) (hi1 : i < am_ln a) (kk : am_Wp true d M n0 n1 h0 Q (pc + 1) ls (.inr (.inr (a + 3 + 3 * i)) :: st) n h) : am_Wp true d M n0 n1 h0 Q pc ls (.inl i :: .inr (.inr a) :: st) n h := by
  intro p l e s m args below meth c H locs ρ ρ0 cA cA0 D A lm X hg hl hs ho
  obtain ⟨h1, h2, h3⟩ := am_kd_sh ha (by decide)
  have he := am_wld_at (ρ := ρ) (cA := cA) (h := h) h1 h2
  rw [am_cell3 h1 (by omega)] at he
  have hok : am_i32 i := am_ok_hd hs
  have hin := am_vin hi0 hi1 hok
  have r := X.2.1.2.2.2.2.1 a i (by rw [ha]; decide)
  rw [ha] at r
  have ee : h a i = a + 3 + 3 * i := (X.2.1.2.2.2.2.2 rfl).2.1 a i ha hi0 hi1
  have hv : am_okV n (.inr (.inr (a + 3 + 3 * i))) := by rw [← ee]; exact r
  have K := kk p l e s m args below meth c H locs ρ ρ0 cA cA0 D A lm X hg hl (am_ok_cons hv (am_ok_tl (am_ok_tl hs))) ho
  simp only [List.map_cons, am_cv] at K
  simp only [List.map_cons, am_cv, am_rf_some h1]
  refine va_aldq X.1.1 X.1.2.1 (X.2.1.Ka h1 h2 (by omega) (ty := .object RX0) (by simp [am_aty, h3])) X.2.1.2.2.1 _ 0 he rfl hin hd ?_
  rw [am_nat hok, show ((i.toNat : Nat) : Int) = i by omega, ee]
  exact K
theorem ar_aaldT {a i : Int} (hd : decode M.2.1 pc = .ok (.aaload, 1)) (ha : am_kd n a = 4) (hi0 : 0 ≤ i) (hi1 : i < am_ln a) (kk : am_Wp true d M n0 n1 h0 Q (pc + 1) ls (.inr (.inr (a + 239 + 13 * i)) :: st) n h) : am_Wp true d M n0 n1 h0 Q pc ls (.inl i :: .inr (.inr a) :: st) n h := by
  intro p l e s m args below meth c H locs ρ ρ0 cA cA0 D A lm X hg hl hs ho
  obtain ⟨h1, h2, h3⟩ := am_kd_sh ha (by decide)
  have he := am_wld_at (ρ := ρ) (cA := cA) (h := h) h1 h2
  rw [am_cell3 h1 (by omega)] at he
  have hok : am_i32 i := am_ok_hd hs
  have hin := am_vin hi0 hi1 hok
  have r := X.2.1.2.2.2.2.1 a i (by rw [ha]; decide)
  rw [ha] at r
  have ee : h a i = a + 239 + 13 * i := (X.2.1.2.2.2.2.2 rfl).2.2 a i ha hi0 hi1
  have hv : am_okV n (.inr (.inr (a + 239 + 13 * i))) := by rw [← ee]; exact r
  have K := kk p l e s m args below meth c H locs ρ ρ0 cA cA0 D A lm X hg hl (am_ok_cons hv (am_ok_tl (am_ok_tl hs))) ho
  simp only [List.map_cons, am_cv] at K
  simp only [List.map_cons, am_cv, am_rf_some h1]
  refine va_aldq X.1.1 X.1.2.1 (X.2.1.Ka h1 h2 (by omega) (ty := .object RX5) (by simp [am_aty, h3])) X.2.1.2.2.1 _ 0 he rfl hin hd ?_
  rw [am_nat hok, show ((i.toNat : Nat) : Int) = i by omega, ee]
  exact K
theorem am_cell0_up {ρ : Int → Nat} {cA : Nat → ClassId} {h : am_H} {a i z : Int} (h1 : 1 ≤ a) (hi : 0 ≤ i) (hk : (am_sh (a.toNat - 1)).1 = 0 ∨ (am_sh (a.toNat - 1)).1 = 2) : am_cell ρ cA (am_up h a i z) (a.toNat - 1) = .inl (cA (a.toNat - 1), (am_sh (a.toNat - 1)).2, .inl (upd (fun j : Nat => Int32.ofInt (h a j)) i.toNat (Int32.ofInt z))) := by
  rw [am_cell0 h1 hk]
  congr 4
  funext j
  unfold upd
  by_cases q : j = i.toNat
  · rw [if_pos q, q, show ((i.toNat : Nat) : Int) = i by omega, am_up_at]
  · rw [if_neg q, am_up_ne (by omega)]
theorem am_cell1_up {ρ : Int → Nat} {cA : Nat → ClassId} {h : am_H} {a i z : Int} (h1 : 1 ≤ a) (hi : 0 ≤ i) (hk : (am_sh (a.toNat - 1)).1 = 1) : am_cell ρ cA (am_up h a i z) (a.toNat - 1) = .inl (cA (a.toNat - 1), (am_sh (a.toNat - 1)).2, .inr (.inl (vp_updL (fun j : Nat => Int64.ofInt (h a j)) i.toNat (Int64.ofInt z)))) := by
  rw [am_cell1 h1 hk]
  congr 5
  funext j
  unfold vp_updL
  by_cases q : j = i.toNat
  · rw [if_pos q, q, show ((i.toNat : Nat) : Int) = i by omega, am_up_at]
  · rw [if_neg q, am_up_ne (by omega)]
theorem am_narZ {z : Int} (h : z = 0 ∨ z = 1) : vp_nar .boolean (Int32.ofInt z) = Int32.ofInt z := by
  rcases h with rfl | rfl <;> decide
theorem ar_iast {a i z : Int} (hd : decode M.2.1 pc = .ok (.iastore, 1)) (ha : am_kd n a = 0) (hi0 : 0 ≤ i) (hi1 : i < am_ln a) (kk : am_Wp fin d M n0 n1 h0 Q (pc + 1) ls st n (am_up h a i z)) : am_Wp fin d M n0 n1 h0 Q pc ls ((.inl z) :: .inl i :: .inr (.inr a) :: st) n h := by
  intro p l e s m args below meth c H locs ρ ρ0 cA cA0 D A lm X hg hl hs ho
  obtain ⟨h1, h2, h3⟩ := am_kd_sh ha (by decide)
  have he := am_wld_at (ρ := ρ) (cA := cA) (h := h) h1 h2
  rw [am_cell0 h1 (Or.inl h3)] at he
  have hok : am_i32 i := am_ok_hd (am_ok_tl hs)
  have hin := am_vin hi0 hi1 hok
  simp only [List.map_cons, am_cv, am_rf_some h1]
  refine va_iast X.1.1 X.1.2.1 (X.2.1.Ka h1 h2 (by omega) (ty := .int) (by simp [am_aty, h3])) X.2.1.2.2.1 X.2.1.2.2.2.1 X.2.2.1 _ 0 he rfl hin hd (fun H1 locs1 gP gD gS => ?_)
  rw [am_nat hok] at gP gD
  have R2 := X.2.1.put (h2 := am_up h a i z) h1 h2 am_up_other (am_cell0_up h1 hi0 (Or.inl h3)) gP gD (am_rg_up X.2.1.2.2.2.2.1 (fun _ => by rw [ha]; exact (am_ok_hd hs))) (fun q => am_fin_up (X.2.1.2.2.2.2.2 q) (fun c k2 g1 g2 => by omega) (by omega))
  exact kk p l e s m args below meth c H1 locs1 ρ ρ0 cA cA0 D A lm (X.put R2 gS (am_up_neg h1)) (fun b j q => (am_up_neg h1 b j q).trans (hg b j q)) hl (am_ok_tl (am_ok_tl (am_ok_tl hs))) ho
theorem ar_zast {a i z : Int} (hd : decode M.2.1 pc = .ok (.bastore, 1)) (ha : am_kd n a = 2) (hi0 : 0 ≤ i) (hi1 : i < am_ln a) (hz : z = 0 ∨ z = 1) (kk : am_Wp fin d M n0 n1 h0 Q (pc + 1) ls st n (am_up h a i z)) : am_Wp fin d M n0 n1 h0 Q pc ls ((.inl z) :: .inl i :: .inr (.inr a) :: st) n h := by
  intro p l e s m args below meth c H locs ρ ρ0 cA cA0 D A lm X hg hl hs ho
  obtain ⟨h1, h2, h3⟩ := am_kd_sh ha (by decide)
  have he := am_wld_at (ρ := ρ) (cA := cA) (h := h) h1 h2
  rw [am_cell0 h1 (Or.inr h3)] at he
  have hok : am_i32 i := am_ok_hd (am_ok_tl hs)
  have hin := am_vin hi0 hi1 hok
  simp only [List.map_cons, am_cv, am_rf_some h1]
  refine va_zast X.1.1 X.1.2.1 (X.2.1.Ka h1 h2 (by omega) (ty := .boolean) (by simp [am_aty, h3])) X.2.1.2.2.1 X.2.1.2.2.2.1 X.2.2.1 _ 0 he rfl hin hd (fun H1 locs1 gP gD gS => ?_)
  rw [am_nat hok, am_narZ hz] at gP gD
  have R2 := X.2.1.put (h2 := am_up h a i z) h1 h2 am_up_other (am_cell0_up h1 hi0 (Or.inr h3)) gP gD (am_rg_up X.2.1.2.2.2.2.1 (fun _ => by rw [ha]; exact hz)) (fun q => am_fin_up (X.2.1.2.2.2.2.2 q) (fun c k2 g1 g2 => by omega) (by omega))
  exact kk p l e s m args below meth c H1 locs1 ρ ρ0 cA cA0 D A lm (X.put R2 gS (am_up_neg h1)) (fun b j q => (am_up_neg h1 b j q).trans (hg b j q)) hl (am_ok_tl (am_ok_tl (am_ok_tl hs))) ho
theorem ar_last {a i z : Int} (hd : decode M.2.1 pc = .ok (.lastore, 1)) (ha : am_kd n a = 1) (hi0 : 0 ≤ i) (hi1 : i < am_ln a) (kk : am_Wp fin d M n0 n1 h0 Q (pc + 1) ls st n (am_up h a i z)) : am_Wp fin d M n0 n1 h0 Q pc ls ((.inr (.inl z)) :: .inl i :: .inr (.inr a) :: st) n h := by
  intro p l e s m args below meth c H locs ρ ρ0 cA cA0 D A lm X hg hl hs ho
  obtain ⟨h1, h2, h3⟩ := am_kd_sh ha (by decide)
  have he := am_wld_at (ρ := ρ) (cA := cA) (h := h) h1 h2
  rw [am_cell1 h1 h3] at he
  have hok : am_i32 i := am_ok_hd (am_ok_tl hs)
  have hin := am_vin hi0 hi1 hok
  simp only [List.map_cons, am_cv, am_rf_some h1]
  refine va_last X.1.1 X.1.2.1 (X.2.1.Ka h1 h2 (by omega) (ty := .long) (by simp [am_aty, h3])) X.2.1.2.2.1 X.2.1.2.2.2.1 X.2.2.1 _ 0 he rfl hin hd (fun H1 locs1 gP gD gS => ?_)
  rw [am_nat hok] at gP gD
  have R2 := X.2.1.put (h2 := am_up h a i z) h1 h2 am_up_other (am_cell1_up h1 hi0 h3) gP gD (am_rg_up X.2.1.2.2.2.2.1 (fun _ => by rw [ha]; exact (am_ok_hd hs))) (fun q => am_fin_up (X.2.1.2.2.2.2.2 q) (fun c k2 g1 g2 => by omega) (by omega))
  exact kk p l e s m args below meth c H1 locs1 ρ ρ0 cA cA0 D A lm (X.put R2 gS (am_up_neg h1)) (fun b j q => (am_up_neg h1 b j q).trans (hg b j q)) hl (am_ok_tl (am_ok_tl (am_ok_tl hs))) ho
theorem am_ln_le : ∀ q ∈ am_SH, q.2 ≤ 3300 := by decide +kernel
theorem am_sh_le (k : Nat) : (am_sh k).2 ≤ 3300 := by
  unfold am_sh
  by_cases hk : k < am_SH.length
  · rw [List.getD_eq_getElem?_getD, List.getElem?_eq_getElem hk]
    exact am_ln_le _ (List.getElem_mem hk)
  · rw [List.getD_eq_getElem?_getD, List.getElem?_eq_none (by omega)]
    exact Nat.zero_le _
theorem ar_alen {a : Int} (hd : decode M.2.1 pc = .ok (.arraylength, 1)) (ha : am_kd n a < 10) (kk : am_Wp fin d M n0 n1 h0 Q (pc + 1) ls (.inl (am_ln a) :: st) n h) : am_Wp fin d M n0 n1 h0 Q pc ls (.inr (.inr a) :: st) n h := by
  intro p l e s m args below meth c H locs ρ ρ0 cA cA0 D A lm X hg hl hs ho
  obtain ⟨h1, h2, h3⟩ := am_kd_sh (K := am_kd n a) rfl (by omega)
  have he := am_wld_at (ρ := ρ) (cA := cA) (h := h) h1 h2
  have hb : am_i32 (am_ln a) := by
    have := am_sh_le (a.toNat - 1)
    unfold am_i32 am_ln
    omega
  have K := kk p l e s m args below meth c H locs ρ ρ0 cA cA0 D A lm X hg hl (am_ok_cons hb (am_ok_tl hs)) ho
  simp only [List.map_cons, am_cv, am_rf_some h1]
  have hlen : Int32.ofNat (am_sh (a.toNat - 1)).2 = Int32.ofInt (am_ln a) := by rw [← Int32.ofInt_eq_ofNat]; rfl
  have hx : ∃ x : vp_A, am_cell ρ cA h (a.toNat - 1) = .inl (cA (a.toNat - 1), x) ∧ x.1 = (am_sh (a.toNat - 1)).2 := by
    have hlt : (am_sh (a.toNat - 1)).1 < 10 := by omega
    unfold am_cell
    split
    · exact ⟨_, rfl, rfl⟩
    · split
      · exact ⟨_, rfl, rfl⟩
      · first
          | exact ⟨_, rfl, rfl⟩
          | (rw [if_pos hlt]; exact ⟨_, rfl, rfl⟩)
  obtain ⟨x, hx1, hx2⟩ := hx
  rw [hx1] at he
  exact va_alen X.1.1 X.1.2.1 (X.2.1.Ka h1 h2 (by omega) rfl) X.2.1.2.2.1 _ 0 he rfl (by rw [hx2]; exact hlen) hd K
end AM_HEAP2
