/-! the finished heap: 321 cells, nothing more is made -/
def wf (d : Nat) (M : am_M) (Q : Int → am_H → Prop) (pc : Nat) (ls : List (Option am_V)) (st : List am_V) (h : am_H) : Prop := ∀ h0 : am_H, am_Wp true d M 321 321 h0 Q pc ls st 321 h
def cf (d : Nat) (M : am_M) (as : List am_V) (h : am_H) (Q : Int → am_H → Prop) : Prop := am_Cl true d M 321 321 as h Q
theorem am_Cl_mono {fin : Bool} {d : Nat} {M : am_M} {n0 n1 : Nat} {as : List am_V} {h : am_H} {Q Q2 : Int → am_H → Prop} (H : am_Cl fin d M n0 n1 as h Q) (hq : ∀ r h2, Q r h2 → Q2 r h2) : am_Cl fin d M n0 n1 as h Q2 := by
  intro hok l ρ cA D sz p e ha hc hk s m args below hf happ hP hK
  obtain ⟨n, o, g1, g2, g3, ⟨⟨⟨r, h2, ρ2, cA2, q1, q2, q3, q4⟩, g5⟩, g6⟩⟩ := H hok l ρ cA D sz p e ha hc hk s m args below hf happ hP hK
  exact ⟨n, o, g1, g2, g3, ⟨⟨r, h2, ρ2, cA2, q1, q2, hq _ _ q3, q4⟩, g5⟩, g6⟩
theorem cf_mono {d : Nat} {M : am_M} {as : List am_V} {h : am_H} {Q Q2 : Int → am_H → Prop} (H : cf d M as h Q) (hq : ∀ r h2, Q r h2 → Q2 r h2) : cf d M as h Q2 := am_Cl_mono H hq
theorem cf_of {d : Nat} {M : am_M} {as : List am_V} {h : am_H} {Q : Int → am_H → Prop} {ls : List (Option am_V)} (hy : plainName M.1.cls = true) (hw : am_cw as ≤ M.2.2.1) (he : am_ent as M.2.2.1 = ls) (k : (∀ v ∈ as, am_okV 321 v) → wf d M Q 0 ls [] h) : cf d M as h Q :=
  am_Cl_of hy hw (Nat.le_refl _) he (fun q => k q h)
/-- some locals are forgotten -/
def am_mask : List Bool → List (Option am_V) → List (Option am_V)
  | b :: bs, v :: vs => (if b then v else none) :: am_mask bs vs
  | _, _ => []
theorem am_mask_get : ∀ (bs : List Bool) (ls : List (Option am_V)) (i : Nat) (v : am_V), (am_mask bs ls)[i]? = some (some v) → ls[i]? = some (some v)
  | [], _, i, v, h => by simp [am_mask] at h
  | _ :: _, [], i, v, h => by simp [am_mask] at h
  | b :: bs, u :: ls, 0, v, h => by
    simp [am_mask] at h
    simp [h.2]
  | b :: bs, u :: ls, i + 1, v, h => by
    simp [am_mask] at h
    simp [am_mask_get bs ls i v h]
section WF
variable {fin : Bool} {d : Nat} {M : am_M} {n0 n1 : Nat} {h0 : am_H} {Q : Int → am_H → Prop} {pc : Nat} {ls : List (Option am_V)} {st : List am_V} {n : Nat} {h : am_H}
theorem ar_forget (bs : List Bool) {ls2 : List (Option am_V)} (he : am_mask bs ls = ls2) (k : am_Wp fin d M n0 n1 h0 Q pc ls2 st n h) : am_Wp fin d M n0 n1 h0 Q pc ls st n h := by
  intro p l e s m args below meth c H locs ρ ρ0 cA cA0 D A lm X hg hl hs ho
  subst he
  exact k p l e s m args below meth c H locs ρ ρ0 cA cA0 D A lm X hg (am_fewer hl fun q hq => by
    obtain ⟨v, h1, h2⟩ := am_ll_mem.mp hq
    exact am_ll_mem.mpr ⟨v, am_mask_get bs ls _ _ h1, h2⟩) hs (fun v hv => by
    obtain ⟨i, hi⟩ := List.getElem?_of_mem hv
    exact am_ok_ls ho (am_mask_get bs ls _ _ hi))
/-- what is known of all cells -/
theorem wf_rng (k : am_Rg 321 h → am_Fin 321 h → wf d M Q pc ls st h) : wf d M Q pc ls st h := by
  intro h0 p l e s m args below meth c H locs ρ ρ0 cA cA0 D A lm X
  exact k X.2.1.2.2.2.2.1 (X.2.1.2.2.2.2.2 rfl) h0 p l e s m args below meth c H locs ρ ρ0 cA cA0 D A lm X
theorem ar_getV {a : Int} {idx : Nat} {C : String} {T : u_T} {N : Nat} {v : am_V} (ci k : Nat) (hd : decode M.2.1 pc = .ok (.getfield idx, 3)) (ha : am_kd n a = 10 + ci) (hc : am_cl[ci]? = some (C, T, N)) (hk : k < N) (hw : Cond.fieldLink M.1.cls idx (T k).1 (T k).2.1 (T k).2.2.1 ∈ am_gw) (hv : am_tv (am_ty ci k) (h a k) = v) (kk : am_Wp fin d M n0 n1 h0 Q (pc + 3) ls (v :: st) n h) : am_Wp fin d M n0 n1 h0 Q pc ls (.inr (.inr a) :: st) n h := by
  subst hv
  exact ar_get hd ha hc hk hw kk
theorem ar_getFV {a b : Int} {idx : Nat} {C : String} {T : u_T} {N : Nat} {o : Int} (ci k : Nat) (hd : decode M.2.1 pc = .ok (.getfield idx, 3)) (ha : am_kd n a = 10 + ci) (hc : am_cl[ci]? = some (C, T, N)) (hk : k < N) (hw : Cond.fieldLink M.1.cls idx (T k).1 (T k).2.1 (T k).2.2.1 ∈ am_gw) (hoff : am_off ci k = some o) (hty : ∀ z, am_tv (am_ty ci k) z = .inr (.inr z)) (hv : a + o = b) (kk : am_Wp true d M n0 n1 h0 Q (pc + 3) ls (.inr (.inr b) :: st) n h) : am_Wp true d M n0 n1 h0 Q pc ls (.inr (.inr a) :: st) n h := by
  intro p l e s m args below meth c H locs ρ ρ0 cA cA0 D A lm X
  have e1 : h a k = b := ((X.2.1.2.2.2.2.2 rfl).1 a ci k o ha hoff).trans hv
  exact ar_get hd ha hc hk hw (by rw [hty, e1]; exact kk) p l e s m args below meth c H locs ρ ρ0 cA cA0 D A lm X
theorem ar_getNV {a : Int} {idx : Nat} {C : String} {T : u_T} {N : Nat} {v : am_V} {host : String} (ci k : Nat) (hd : decode M.2.1 pc = .ok (.getfield idx, 3)) (ha : am_kd n a = 10 + ci) (hc : am_cl[ci]? = some (C, T, N)) (hk : k < N) (hw : Cond.fieldLinkNest M.1.cls idx (T k).1 (T k).2.1 (T k).2.2.1 host ∈ lw_tbl) (hv : am_tv (am_ty ci k) (h a k) = v) (kk : am_Wp fin d M n0 n1 h0 Q (pc + 3) ls (v :: st) n h) : am_Wp fin d M n0 n1 h0 Q pc ls (.inr (.inr a) :: st) n h := by
  subst hv
  exact ar_getN hd ha hc hk hw kk
theorem ar_getFNV {a b : Int} {idx : Nat} {C : String} {T : u_T} {N : Nat} {o : Int} {host : String} (ci k : Nat) (hd : decode M.2.1 pc = .ok (.getfield idx, 3)) (ha : am_kd n a = 10 + ci) (hc : am_cl[ci]? = some (C, T, N)) (hk : k < N) (hw : Cond.fieldLinkNest M.1.cls idx (T k).1 (T k).2.1 (T k).2.2.1 host ∈ lw_tbl) (hoff : am_off ci k = some o) (hty : ∀ z, am_tv (am_ty ci k) z = .inr (.inr z)) (hv : a + o = b) (kk : am_Wp true d M n0 n1 h0 Q (pc + 3) ls (.inr (.inr b) :: st) n h) : am_Wp true d M n0 n1 h0 Q pc ls (.inr (.inr a) :: st) n h := by
  intro p l e s m args below meth c H locs ρ ρ0 cA cA0 D A lm X
  have e1 : h a k = b := ((X.2.1.2.2.2.2.2 rfl).1 a ci k o ha hoff).trans hv
  exact ar_getN hd ha hc hk hw (by rw [hty, e1]; exact kk) p l e s m args below meth c H locs ρ ρ0 cA cA0 D A lm X
theorem ar_putI {a z : Int} {idx : Nat} {C : String} {T : u_T} {N : Nat} (ci k : Nat) (hd : decode M.2.1 pc = .ok (.putfield idx, 3)) (ha : am_kd n a = 10 + ci) (hc : am_cl[ci]? = some (C, T, N)) (hk : k < N) (hty : am_ty ci k = .int) (hoff : fin = true → am_off ci k = none) (hfin : (T k).2.2.2 = false) (hw : Cond.fieldLink M.1.cls idx (T k).1 (T k).2.1 (T k).2.2.1 ∈ am_gw) (kk : am_Wp fin d M n0 n1 h0 Q (pc + 3) ls st n (am_up h a k z)) : am_Wp fin d M n0 n1 h0 Q pc ls ((.inl z) :: .inr (.inr a) :: st) n h :=
  ar_put hd (by rw [hty]; rfl) ha hc hk (Or.inl hty) hoff hfin (by rw [hty]; exact fun q => q) hw kk
theorem ar_putL {a z : Int} {idx : Nat} {C : String} {T : u_T} {N : Nat} (ci k : Nat) (hd : decode M.2.1 pc = .ok (.putfield idx, 3)) (ha : am_kd n a = 10 + ci) (hc : am_cl[ci]? = some (C, T, N)) (hk : k < N) (hty : am_ty ci k = .long) (hoff : fin = true → am_off ci k = none) (hfin : (T k).2.2.2 = false) (hw : Cond.fieldLink M.1.cls idx (T k).1 (T k).2.1 (T k).2.2.1 ∈ am_gw) (kk : am_Wp fin d M n0 n1 h0 Q (pc + 3) ls st n (am_up h a k z)) : am_Wp fin d M n0 n1 h0 Q pc ls ((.inr (.inl z)) :: .inr (.inr a) :: st) n h :=
  ar_put hd (by rw [hty]; rfl) ha hc hk (Or.inr (Or.inl hty)) hoff hfin (by rw [hty]; exact fun q => q) hw kk
theorem ar_putZ {a z : Int} {idx : Nat} {C : String} {T : u_T} {N : Nat} (ci k : Nat) (hd : decode M.2.1 pc = .ok (.putfield idx, 3)) (ha : am_kd n a = 10 + ci) (hc : am_cl[ci]? = some (C, T, N)) (hk : k < N) (hty : am_ty ci k = .boolean) (hoff : fin = true → am_off ci k = none) (hfin : (T k).2.2.2 = false) (hz : z = 0 ∨ z = 1) (hw : Cond.fieldLink M.1.cls idx (T k).1 (T k).2.1 (T k).2.2.1 ∈ am_gw) (kk : am_Wp fin d M n0 n1 h0 Q (pc + 3) ls st n (am_up h a k z)) : am_Wp fin d M n0 n1 h0 Q pc ls ((.inl z) :: .inr (.inr a) :: st) n h :=
  ar_put hd (by rw [hty]; rfl) ha hc hk (Or.inr (Or.inr (Or.inl hty))) hoff hfin (by rw [hty]; exact fun _ => hz) hw kk
theorem ar_putA {a z : Int} {idx : Nat} {C : String} {T : u_T} {N : Nat} (ci k : Nat) (hd : decode M.2.1 pc = .ok (.putfield idx, 3)) (ha : am_kd n a = 10 + ci) (hc : am_cl[ci]? = some (C, T, N)) (hk : k < N) (hty : (∃ C, am_ty ci k = .object C) ∨ ∃ t, am_ty ci k = .array t) (hoff : fin = true → am_off ci k = none) (hfin : (T k).2.2.2 = false) (hw : Cond.fieldLink M.1.cls idx (T k).1 (T k).2.1 (T k).2.2.1 ∈ am_gw) (kk : am_Wp fin d M n0 n1 h0 Q (pc + 3) ls st n (am_up h a k z)) : am_Wp fin d M n0 n1 h0 Q pc ls ((.inr (.inr z)) :: .inr (.inr a) :: st) n h :=
  ar_put hd (by rcases hty with ⟨C, hty⟩ | ⟨t, hty⟩ <;> (rw [hty]; rfl)) ha hc hk (Or.inr (Or.inr (Or.inr hty))) hoff hfin (fun q => by rcases hty with ⟨C, hty⟩ | ⟨t, hty⟩ <;> (rw [hty]; exact q)) hw kk
theorem ar_putIN {a z : Int} {idx : Nat} {C : String} {T : u_T} {N : Nat} {host : String} (ci k : Nat) (hd : decode M.2.1 pc = .ok (.putfield idx, 3)) (ha : am_kd n a = 10 + ci) (hc : am_cl[ci]? = some (C, T, N)) (hk : k < N) (hty : am_ty ci k = .int) (hoff : fin = true → am_off ci k = none) (hfin : (T k).2.2.2 = false) (hw : Cond.fieldLinkNest M.1.cls idx (T k).1 (T k).2.1 (T k).2.2.1 host ∈ lw_tbl) (kk : am_Wp fin d M n0 n1 h0 Q (pc + 3) ls st n (am_up h a k z)) : am_Wp fin d M n0 n1 h0 Q pc ls ((.inl z) :: .inr (.inr a) :: st) n h :=
  ar_putN hd (by rw [hty]; rfl) ha hc hk (Or.inl hty) hoff hfin (by rw [hty]; exact fun q => q) hw kk
theorem ar_putLN {a z : Int} {idx : Nat} {C : String} {T : u_T} {N : Nat} {host : String} (ci k : Nat) (hd : decode M.2.1 pc = .ok (.putfield idx, 3)) (ha : am_kd n a = 10 + ci) (hc : am_cl[ci]? = some (C, T, N)) (hk : k < N) (hty : am_ty ci k = .long) (hoff : fin = true → am_off ci k = none) (hfin : (T k).2.2.2 = false) (hw : Cond.fieldLinkNest M.1.cls idx (T k).1 (T k).2.1 (T k).2.2.1 host ∈ lw_tbl) (kk : am_Wp fin d M n0 n1 h0 Q (pc + 3) ls st n (am_up h a k z)) : am_Wp fin d M n0 n1 h0 Q pc ls ((.inr (.inl z)) :: .inr (.inr a) :: st) n h :=
  ar_putN hd (by rw [hty]; rfl) ha hc hk (Or.inr (Or.inl hty)) hoff hfin (by rw [hty]; exact fun q => q) hw kk
theorem ar_putZN {a z : Int} {idx : Nat} {C : String} {T : u_T} {N : Nat} {host : String} (ci k : Nat) (hd : decode M.2.1 pc = .ok (.putfield idx, 3)) (ha : am_kd n a = 10 + ci) (hc : am_cl[ci]? = some (C, T, N)) (hk : k < N) (hty : am_ty ci k = .boolean) (hoff : fin = true → am_off ci k = none) (hfin : (T k).2.2.2 = false) (hz : z = 0 ∨ z = 1) (hw : Cond.fieldLinkNest M.1.cls idx (T k).1 (T k).2.1 (T k).2.2.1 host ∈ lw_tbl) (kk : am_Wp fin d M n0 n1 h0 Q (pc + 3) ls st n (am_up h a k z)) : am_Wp fin d M n0 n1 h0 Q pc ls ((.inl z) :: .inr (.inr a) :: st) n h :=
  ar_putN hd (by rw [hty]; rfl) ha hc hk (Or.inr (Or.inr (Or.inl hty))) hoff hfin (by rw [hty]; exact fun _ => hz) hw kk
theorem ar_putAN {a z : Int} {idx : Nat} {C : String} {T : u_T} {N : Nat} {host : String} (ci k : Nat) (hd : decode M.2.1 pc = .ok (.putfield idx, 3)) (ha : am_kd n a = 10 + ci) (hc : am_cl[ci]? = some (C, T, N)) (hk : k < N) (hty : (∃ C, am_ty ci k = .object C) ∨ ∃ t, am_ty ci k = .array t) (hoff : fin = true → am_off ci k = none) (hfin : (T k).2.2.2 = false) (hw : Cond.fieldLinkNest M.1.cls idx (T k).1 (T k).2.1 (T k).2.2.1 host ∈ lw_tbl) (kk : am_Wp fin d M n0 n1 h0 Q (pc + 3) ls st n (am_up h a k z)) : am_Wp fin d M n0 n1 h0 Q pc ls ((.inr (.inr z)) :: .inr (.inr a) :: st) n h :=
  ar_putN hd (by rcases hty with ⟨C, hty⟩ | ⟨t, hty⟩ <;> (rw [hty]; rfl)) ha hc hk (Or.inr (Or.inr (Or.inr hty))) hoff hfin (fun q => by rcases hty with ⟨C, hty⟩ | ⟨t, hty⟩ <;> (rw [hty]; exact q)) hw kk
end WF
theorem k_1 : am_kd 321 1 = 16 := by decide +kernel
theorem k_2 : am_kd 321 2 = 0 := by decide +kernel
theorem l_2 : am_ln 2 = 300 := by decide +kernel
theorem k_3 : am_kd 321 3 = 4 := by decide +kernel
theorem l_3 : am_ln 3 = 4 := by decide +kernel
theorem k_4 : am_kd 321 4 = 14 := by decide +kernel
theorem k_5 : am_kd 321 5 = 10 := by decide +kernel
theorem k_6 : am_kd 321 6 = 0 := by decide +kernel
theorem l_6 : am_ln 6 = 40 := by decide +kernel
theorem k_7 : am_kd 321 7 = 0 := by decide +kernel
theorem l_7 : am_ln 7 = 25 := by decide +kernel
theorem k_8 : am_kd 321 8 = 3 := by decide +kernel
theorem l_8 : am_ln 8 = 30 := by decide +kernel
theorem k_9 : am_kd 321 9 = 0 := by decide +kernel
theorem l_9 : am_ln 9 = 8 := by decide +kernel
theorem k_10 : am_kd 321 10 = 0 := by decide +kernel
theorem l_10 : am_ln 10 = 8 := by decide +kernel
theorem k_11 : am_kd 321 11 = 10 := by decide +kernel
theorem k_12 : am_kd 321 12 = 0 := by decide +kernel
theorem l_12 : am_ln 12 = 40 := by decide +kernel
theorem k_13 : am_kd 321 13 = 0 := by decide +kernel
theorem l_13 : am_ln 13 = 25 := by decide +kernel
theorem k_14 : am_kd 321 14 = 10 := by decide +kernel
theorem k_15 : am_kd 321 15 = 0 := by decide +kernel
theorem l_15 : am_ln 15 = 40 := by decide +kernel
theorem k_16 : am_kd 321 16 = 0 := by decide +kernel
theorem l_16 : am_ln 16 = 25 := by decide +kernel
theorem k_17 : am_kd 321 17 = 10 := by decide +kernel
theorem k_18 : am_kd 321 18 = 0 := by decide +kernel
theorem l_18 : am_ln 18 = 40 := by decide +kernel
theorem k_19 : am_kd 321 19 = 0 := by decide +kernel
theorem l_19 : am_ln 19 = 25 := by decide +kernel
theorem k_20 : am_kd 321 20 = 10 := by decide +kernel
theorem k_21 : am_kd 321 21 = 0 := by decide +kernel
theorem l_21 : am_ln 21 = 40 := by decide +kernel
theorem k_22 : am_kd 321 22 = 0 := by decide +kernel
theorem l_22 : am_ln 22 = 25 := by decide +kernel
theorem k_23 : am_kd 321 23 = 10 := by decide +kernel
theorem k_24 : am_kd 321 24 = 0 := by decide +kernel
theorem l_24 : am_ln 24 = 40 := by decide +kernel
theorem k_25 : am_kd 321 25 = 0 := by decide +kernel
theorem l_25 : am_ln 25 = 25 := by decide +kernel
theorem k_26 : am_kd 321 26 = 10 := by decide +kernel
theorem k_27 : am_kd 321 27 = 0 := by decide +kernel
theorem l_27 : am_ln 27 = 40 := by decide +kernel
theorem k_28 : am_kd 321 28 = 0 := by decide +kernel
theorem l_28 : am_ln 28 = 25 := by decide +kernel
theorem k_29 : am_kd 321 29 = 10 := by decide +kernel
theorem k_30 : am_kd 321 30 = 0 := by decide +kernel
theorem l_30 : am_ln 30 = 40 := by decide +kernel
theorem k_31 : am_kd 321 31 = 0 := by decide +kernel
theorem l_31 : am_ln 31 = 25 := by decide +kernel
theorem k_32 : am_kd 321 32 = 10 := by decide +kernel
theorem k_33 : am_kd 321 33 = 0 := by decide +kernel
theorem l_33 : am_ln 33 = 40 := by decide +kernel
theorem k_34 : am_kd 321 34 = 0 := by decide +kernel
theorem l_34 : am_ln 34 = 25 := by decide +kernel
theorem k_35 : am_kd 321 35 = 10 := by decide +kernel
theorem k_36 : am_kd 321 36 = 0 := by decide +kernel
theorem l_36 : am_ln 36 = 40 := by decide +kernel
theorem k_37 : am_kd 321 37 = 0 := by decide +kernel
theorem l_37 : am_ln 37 = 25 := by decide +kernel
theorem k_38 : am_kd 321 38 = 10 := by decide +kernel
theorem k_39 : am_kd 321 39 = 0 := by decide +kernel
theorem l_39 : am_ln 39 = 40 := by decide +kernel
theorem k_40 : am_kd 321 40 = 0 := by decide +kernel
theorem l_40 : am_ln 40 = 25 := by decide +kernel
theorem k_41 : am_kd 321 41 = 10 := by decide +kernel
theorem k_42 : am_kd 321 42 = 0 := by decide +kernel
theorem l_42 : am_ln 42 = 40 := by decide +kernel
theorem k_43 : am_kd 321 43 = 0 := by decide +kernel
theorem l_43 : am_ln 43 = 25 := by decide +kernel
theorem k_44 : am_kd 321 44 = 10 := by decide +kernel
theorem k_45 : am_kd 321 45 = 0 := by decide +kernel
theorem l_45 : am_ln 45 = 40 := by decide +kernel
theorem k_46 : am_kd 321 46 = 0 := by decide +kernel
theorem l_46 : am_ln 46 = 25 := by decide +kernel
theorem k_47 : am_kd 321 47 = 10 := by decide +kernel
theorem k_48 : am_kd 321 48 = 0 := by decide +kernel
theorem l_48 : am_ln 48 = 40 := by decide +kernel
theorem k_49 : am_kd 321 49 = 0 := by decide +kernel
theorem l_49 : am_ln 49 = 25 := by decide +kernel
theorem k_50 : am_kd 321 50 = 10 := by decide +kernel
theorem k_51 : am_kd 321 51 = 0 := by decide +kernel
theorem l_51 : am_ln 51 = 40 := by decide +kernel
theorem k_52 : am_kd 321 52 = 0 := by decide +kernel
theorem l_52 : am_ln 52 = 25 := by decide +kernel
theorem k_53 : am_kd 321 53 = 10 := by decide +kernel
theorem k_54 : am_kd 321 54 = 0 := by decide +kernel
theorem l_54 : am_ln 54 = 40 := by decide +kernel
theorem k_55 : am_kd 321 55 = 0 := by decide +kernel
theorem l_55 : am_ln 55 = 25 := by decide +kernel
theorem k_56 : am_kd 321 56 = 10 := by decide +kernel
theorem k_57 : am_kd 321 57 = 0 := by decide +kernel
theorem l_57 : am_ln 57 = 40 := by decide +kernel
theorem k_58 : am_kd 321 58 = 0 := by decide +kernel
theorem l_58 : am_ln 58 = 25 := by decide +kernel
theorem k_59 : am_kd 321 59 = 10 := by decide +kernel
theorem k_60 : am_kd 321 60 = 0 := by decide +kernel
theorem l_60 : am_ln 60 = 40 := by decide +kernel
theorem k_61 : am_kd 321 61 = 0 := by decide +kernel
theorem l_61 : am_ln 61 = 25 := by decide +kernel
theorem k_62 : am_kd 321 62 = 10 := by decide +kernel
theorem k_63 : am_kd 321 63 = 0 := by decide +kernel
theorem l_63 : am_ln 63 = 40 := by decide +kernel
theorem k_64 : am_kd 321 64 = 0 := by decide +kernel
theorem l_64 : am_ln 64 = 25 := by decide +kernel
theorem k_65 : am_kd 321 65 = 10 := by decide +kernel
theorem k_66 : am_kd 321 66 = 0 := by decide +kernel
theorem l_66 : am_ln 66 = 40 := by decide +kernel
theorem k_67 : am_kd 321 67 = 0 := by decide +kernel
theorem l_67 : am_ln 67 = 25 := by decide +kernel
theorem k_68 : am_kd 321 68 = 10 := by decide +kernel
theorem k_69 : am_kd 321 69 = 0 := by decide +kernel
theorem l_69 : am_ln 69 = 40 := by decide +kernel
theorem k_70 : am_kd 321 70 = 0 := by decide +kernel
theorem l_70 : am_ln 70 = 25 := by decide +kernel
theorem k_71 : am_kd 321 71 = 10 := by decide +kernel
theorem k_72 : am_kd 321 72 = 0 := by decide +kernel
theorem l_72 : am_ln 72 = 40 := by decide +kernel
theorem k_73 : am_kd 321 73 = 0 := by decide +kernel
theorem l_73 : am_ln 73 = 25 := by decide +kernel
theorem k_74 : am_kd 321 74 = 10 := by decide +kernel
theorem k_75 : am_kd 321 75 = 0 := by decide +kernel
theorem l_75 : am_ln 75 = 40 := by decide +kernel
theorem k_76 : am_kd 321 76 = 0 := by decide +kernel
theorem l_76 : am_ln 76 = 25 := by decide +kernel
theorem k_77 : am_kd 321 77 = 10 := by decide +kernel
theorem k_78 : am_kd 321 78 = 0 := by decide +kernel
theorem l_78 : am_ln 78 = 40 := by decide +kernel
theorem k_79 : am_kd 321 79 = 0 := by decide +kernel
theorem l_79 : am_ln 79 = 25 := by decide +kernel
theorem k_80 : am_kd 321 80 = 10 := by decide +kernel
theorem k_81 : am_kd 321 81 = 0 := by decide +kernel
theorem l_81 : am_ln 81 = 40 := by decide +kernel
theorem k_82 : am_kd 321 82 = 0 := by decide +kernel
theorem l_82 : am_ln 82 = 25 := by decide +kernel
theorem k_83 : am_kd 321 83 = 10 := by decide +kernel
theorem k_84 : am_kd 321 84 = 0 := by decide +kernel
theorem l_84 : am_ln 84 = 40 := by decide +kernel
theorem k_85 : am_kd 321 85 = 0 := by decide +kernel
theorem l_85 : am_ln 85 = 25 := by decide +kernel
theorem k_86 : am_kd 321 86 = 10 := by decide +kernel
theorem k_87 : am_kd 321 87 = 0 := by decide +kernel
theorem l_87 : am_ln 87 = 40 := by decide +kernel
theorem k_88 : am_kd 321 88 = 0 := by decide +kernel
theorem l_88 : am_ln 88 = 25 := by decide +kernel
theorem k_89 : am_kd 321 89 = 10 := by decide +kernel
theorem k_90 : am_kd 321 90 = 0 := by decide +kernel
theorem l_90 : am_ln 90 = 40 := by decide +kernel
theorem k_91 : am_kd 321 91 = 0 := by decide +kernel
theorem l_91 : am_ln 91 = 25 := by decide +kernel
theorem k_92 : am_kd 321 92 = 10 := by decide +kernel
theorem k_93 : am_kd 321 93 = 0 := by decide +kernel
theorem l_93 : am_ln 93 = 40 := by decide +kernel
theorem k_94 : am_kd 321 94 = 0 := by decide +kernel
theorem l_94 : am_ln 94 = 25 := by decide +kernel
theorem k_95 : am_kd 321 95 = 10 := by decide +kernel
theorem k_96 : am_kd 321 96 = 0 := by decide +kernel
theorem l_96 : am_ln 96 = 40 := by decide +kernel
theorem k_97 : am_kd 321 97 = 0 := by decide +kernel
theorem l_97 : am_ln 97 = 25 := by decide +kernel
theorem k_98 : am_kd 321 98 = 10 := by decide +kernel
theorem k_99 : am_kd 321 99 = 0 := by decide +kernel
theorem l_99 : am_ln 99 = 40 := by decide +kernel
theorem k_100 : am_kd 321 100 = 0 := by decide +kernel
theorem l_100 : am_ln 100 = 25 := by decide +kernel
theorem k_101 : am_kd 321 101 = 14 := by decide +kernel
theorem k_102 : am_kd 321 102 = 10 := by decide +kernel
theorem k_103 : am_kd 321 103 = 0 := by decide +kernel
theorem l_103 : am_ln 103 = 40 := by decide +kernel
theorem k_104 : am_kd 321 104 = 0 := by decide +kernel
theorem l_104 : am_ln 104 = 25 := by decide +kernel
theorem k_105 : am_kd 321 105 = 3 := by decide +kernel
theorem l_105 : am_ln 105 = 30 := by decide +kernel
theorem k_106 : am_kd 321 106 = 0 := by decide +kernel
theorem l_106 : am_ln 106 = 8 := by decide +kernel
theorem k_107 : am_kd 321 107 = 0 := by decide +kernel
theorem l_107 : am_ln 107 = 8 := by decide +kernel
theorem k_108 : am_kd 321 108 = 10 := by decide +kernel
theorem k_109 : am_kd 321 109 = 0 := by decide +kernel
theorem l_109 : am_ln 109 = 40 := by decide +kernel
theorem k_110 : am_kd 321 110 = 0 := by decide +kernel
theorem l_110 : am_ln 110 = 25 := by decide +kernel
theorem k_111 : am_kd 321 111 = 10 := by decide +kernel
theorem k_112 : am_kd 321 112 = 0 := by decide +kernel
theorem l_112 : am_ln 112 = 40 := by decide +kernel
theorem k_113 : am_kd 321 113 = 0 := by decide +kernel
theorem l_113 : am_ln 113 = 25 := by decide +kernel
theorem k_114 : am_kd 321 114 = 10 := by decide +kernel
theorem k_115 : am_kd 321 115 = 0 := by decide +kernel
theorem l_115 : am_ln 115 = 40 := by decide +kernel
theorem k_116 : am_kd 321 116 = 0 := by decide +kernel
theorem l_116 : am_ln 116 = 25 := by decide +kernel
theorem k_117 : am_kd 321 117 = 10 := by decide +kernel
theorem k_118 : am_kd 321 118 = 0 := by decide +kernel
theorem l_118 : am_ln 118 = 40 := by decide +kernel
theorem k_119 : am_kd 321 119 = 0 := by decide +kernel
theorem l_119 : am_ln 119 = 25 := by decide +kernel
theorem k_120 : am_kd 321 120 = 10 := by decide +kernel
theorem k_121 : am_kd 321 121 = 0 := by decide +kernel
theorem l_121 : am_ln 121 = 40 := by decide +kernel
theorem k_122 : am_kd 321 122 = 0 := by decide +kernel
theorem l_122 : am_ln 122 = 25 := by decide +kernel
theorem k_123 : am_kd 321 123 = 10 := by decide +kernel
theorem k_124 : am_kd 321 124 = 0 := by decide +kernel
theorem l_124 : am_ln 124 = 40 := by decide +kernel
theorem k_125 : am_kd 321 125 = 0 := by decide +kernel
theorem l_125 : am_ln 125 = 25 := by decide +kernel
theorem k_126 : am_kd 321 126 = 10 := by decide +kernel
theorem k_127 : am_kd 321 127 = 0 := by decide +kernel
theorem l_127 : am_ln 127 = 40 := by decide +kernel
theorem k_128 : am_kd 321 128 = 0 := by decide +kernel
theorem l_128 : am_ln 128 = 25 := by decide +kernel
theorem k_129 : am_kd 321 129 = 10 := by decide +kernel
theorem k_130 : am_kd 321 130 = 0 := by decide +kernel
theorem l_130 : am_ln 130 = 40 := by decide +kernel
theorem k_131 : am_kd 321 131 = 0 := by decide +kernel
theorem l_131 : am_ln 131 = 25 := by decide +kernel
theorem k_132 : am_kd 321 132 = 10 := by decide +kernel
theorem k_133 : am_kd 321 133 = 0 := by decide +kernel
theorem l_133 : am_ln 133 = 40 := by decide +kernel
theorem k_134 : am_kd 321 134 = 0 := by decide +kernel
theorem l_134 : am_ln 134 = 25 := by decide +kernel
theorem k_135 : am_kd 321 135 = 10 := by decide +kernel
theorem k_136 : am_kd 321 136 = 0 := by decide +kernel
theorem l_136 : am_ln 136 = 40 := by decide +kernel
theorem k_137 : am_kd 321 137 = 0 := by decide +kernel
theorem l_137 : am_ln 137 = 25 := by decide +kernel
theorem k_138 : am_kd 321 138 = 10 := by decide +kernel
theorem k_139 : am_kd 321 139 = 0 := by decide +kernel
theorem l_139 : am_ln 139 = 40 := by decide +kernel
theorem k_140 : am_kd 321 140 = 0 := by decide +kernel
theorem l_140 : am_ln 140 = 25 := by decide +kernel
theorem k_141 : am_kd 321 141 = 10 := by decide +kernel
theorem k_142 : am_kd 321 142 = 0 := by decide +kernel
theorem l_142 : am_ln 142 = 40 := by decide +kernel
theorem k_143 : am_kd 321 143 = 0 := by decide +kernel
theorem l_143 : am_ln 143 = 25 := by decide +kernel
theorem k_144 : am_kd 321 144 = 10 := by decide +kernel
theorem k_145 : am_kd 321 145 = 0 := by decide +kernel
theorem l_145 : am_ln 145 = 40 := by decide +kernel
theorem k_146 : am_kd 321 146 = 0 := by decide +kernel
theorem l_146 : am_ln 146 = 25 := by decide +kernel
theorem k_147 : am_kd 321 147 = 10 := by decide +kernel
theorem k_148 : am_kd 321 148 = 0 := by decide +kernel
theorem l_148 : am_ln 148 = 40 := by decide +kernel
theorem k_149 : am_kd 321 149 = 0 := by decide +kernel
theorem l_149 : am_ln 149 = 25 := by decide +kernel
theorem k_150 : am_kd 321 150 = 10 := by decide +kernel
theorem k_151 : am_kd 321 151 = 0 := by decide +kernel
theorem l_151 : am_ln 151 = 40 := by decide +kernel
theorem k_152 : am_kd 321 152 = 0 := by decide +kernel
theorem l_152 : am_ln 152 = 25 := by decide +kernel
theorem k_153 : am_kd 321 153 = 10 := by decide +kernel
theorem k_154 : am_kd 321 154 = 0 := by decide +kernel
theorem l_154 : am_ln 154 = 40 := by decide +kernel
theorem k_155 : am_kd 321 155 = 0 := by decide +kernel
theorem l_155 : am_ln 155 = 25 := by decide +kernel
theorem k_156 : am_kd 321 156 = 10 := by decide +kernel
theorem k_157 : am_kd 321 157 = 0 := by decide +kernel
theorem l_157 : am_ln 157 = 40 := by decide +kernel
theorem k_158 : am_kd 321 158 = 0 := by decide +kernel
theorem l_158 : am_ln 158 = 25 := by decide +kernel
theorem k_159 : am_kd 321 159 = 10 := by decide +kernel
theorem k_160 : am_kd 321 160 = 0 := by decide +kernel
theorem l_160 : am_ln 160 = 40 := by decide +kernel
theorem k_161 : am_kd 321 161 = 0 := by decide +kernel
theorem l_161 : am_ln 161 = 25 := by decide +kernel
theorem k_162 : am_kd 321 162 = 10 := by decide +kernel
theorem k_163 : am_kd 321 163 = 0 := by decide +kernel
theorem l_163 : am_ln 163 = 40 := by decide +kernel
theorem k_164 : am_kd 321 164 = 0 := by decide +kernel
theorem l_164 : am_ln 164 = 25 := by decide +kernel
theorem k_165 : am_kd 321 165 = 10 := by decide +kernel
theorem k_166 : am_kd 321 166 = 0 := by decide +kernel
theorem l_166 : am_ln 166 = 40 := by decide +kernel
theorem k_167 : am_kd 321 167 = 0 := by decide +kernel
theorem l_167 : am_ln 167 = 25 := by decide +kernel
theorem k_168 : am_kd 321 168 = 10 := by decide +kernel
theorem k_169 : am_kd 321 169 = 0 := by decide +kernel
theorem l_169 : am_ln 169 = 40 := by decide +kernel
theorem k_170 : am_kd 321 170 = 0 := by decide +kernel
theorem l_170 : am_ln 170 = 25 := by decide +kernel
theorem k_171 : am_kd 321 171 = 10 := by decide +kernel
theorem k_172 : am_kd 321 172 = 0 := by decide +kernel
theorem l_172 : am_ln 172 = 40 := by decide +kernel
theorem k_173 : am_kd 321 173 = 0 := by decide +kernel
theorem l_173 : am_ln 173 = 25 := by decide +kernel
theorem k_174 : am_kd 321 174 = 10 := by decide +kernel
theorem k_175 : am_kd 321 175 = 0 := by decide +kernel
theorem l_175 : am_ln 175 = 40 := by decide +kernel
theorem k_176 : am_kd 321 176 = 0 := by decide +kernel
theorem l_176 : am_ln 176 = 25 := by decide +kernel
theorem k_177 : am_kd 321 177 = 10 := by decide +kernel
theorem k_178 : am_kd 321 178 = 0 := by decide +kernel
theorem l_178 : am_ln 178 = 40 := by decide +kernel
theorem k_179 : am_kd 321 179 = 0 := by decide +kernel
theorem l_179 : am_ln 179 = 25 := by decide +kernel
theorem k_180 : am_kd 321 180 = 10 := by decide +kernel
theorem k_181 : am_kd 321 181 = 0 := by decide +kernel
theorem l_181 : am_ln 181 = 40 := by decide +kernel
theorem k_182 : am_kd 321 182 = 0 := by decide +kernel
theorem l_182 : am_ln 182 = 25 := by decide +kernel
theorem k_183 : am_kd 321 183 = 10 := by decide +kernel
theorem k_184 : am_kd 321 184 = 0 := by decide +kernel
theorem l_184 : am_ln 184 = 40 := by decide +kernel
theorem k_185 : am_kd 321 185 = 0 := by decide +kernel
theorem l_185 : am_ln 185 = 25 := by decide +kernel
theorem k_186 : am_kd 321 186 = 10 := by decide +kernel
theorem k_187 : am_kd 321 187 = 0 := by decide +kernel
theorem l_187 : am_ln 187 = 40 := by decide +kernel
theorem k_188 : am_kd 321 188 = 0 := by decide +kernel
theorem l_188 : am_ln 188 = 25 := by decide +kernel
theorem k_189 : am_kd 321 189 = 10 := by decide +kernel
theorem k_190 : am_kd 321 190 = 0 := by decide +kernel
theorem l_190 : am_ln 190 = 40 := by decide +kernel
theorem k_191 : am_kd 321 191 = 0 := by decide +kernel
theorem l_191 : am_ln 191 = 25 := by decide +kernel
theorem k_192 : am_kd 321 192 = 10 := by decide +kernel
theorem k_193 : am_kd 321 193 = 0 := by decide +kernel
theorem l_193 : am_ln 193 = 40 := by decide +kernel
theorem k_194 : am_kd 321 194 = 0 := by decide +kernel
theorem l_194 : am_ln 194 = 25 := by decide +kernel
theorem k_195 : am_kd 321 195 = 10 := by decide +kernel
theorem k_196 : am_kd 321 196 = 0 := by decide +kernel
theorem l_196 : am_ln 196 = 40 := by decide +kernel
theorem k_197 : am_kd 321 197 = 0 := by decide +kernel
theorem l_197 : am_ln 197 = 25 := by decide +kernel
theorem k_198 : am_kd 321 198 = 10 := by decide +kernel
theorem k_199 : am_kd 321 199 = 0 := by decide +kernel
theorem l_199 : am_ln 199 = 40 := by decide +kernel
theorem k_200 : am_kd 321 200 = 0 := by decide +kernel
theorem l_200 : am_ln 200 = 25 := by decide +kernel
theorem k_201 : am_kd 321 201 = 11 := by decide +kernel
theorem k_202 : am_kd 321 202 = 0 := by decide +kernel
theorem l_202 : am_ln 202 = 301 := by decide +kernel
theorem k_203 : am_kd 321 203 = 0 := by decide +kernel
theorem l_203 : am_ln 203 = 301 := by decide +kernel
theorem k_204 : am_kd 321 204 = 0 := by decide +kernel
theorem l_204 : am_ln 204 = 301 := by decide +kernel
theorem k_205 : am_kd 321 205 = 15 := by decide +kernel
theorem k_206 : am_kd 321 206 = 0 := by decide +kernel
theorem l_206 : am_ln 206 = 24 := by decide +kernel
theorem k_207 : am_kd 321 207 = 0 := by decide +kernel
theorem l_207 : am_ln 207 = 24 := by decide +kernel
theorem k_208 : am_kd 321 208 = 0 := by decide +kernel
theorem l_208 : am_ln 208 = 24 := by decide +kernel
theorem k_209 : am_kd 321 209 = 0 := by decide +kernel
theorem l_209 : am_ln 209 = 300 := by decide +kernel
theorem k_210 : am_kd 321 210 = 0 := by decide +kernel
theorem l_210 : am_ln 210 = 8 := by decide +kernel
theorem k_211 : am_kd 321 211 = 0 := by decide +kernel
theorem l_211 : am_ln 211 = 8 := by decide +kernel
theorem k_212 : am_kd 321 212 = 0 := by decide +kernel
theorem l_212 : am_ln 212 = 8 := by decide +kernel
theorem k_213 : am_kd 321 213 = 0 := by decide +kernel
theorem l_213 : am_ln 213 = 8 := by decide +kernel
theorem k_214 : am_kd 321 214 = 0 := by decide +kernel
theorem l_214 : am_ln 214 = 8 := by decide +kernel
theorem k_215 : am_kd 321 215 = 0 := by decide +kernel
theorem l_215 : am_ln 215 = 8 := by decide +kernel
theorem k_216 : am_kd 321 216 = 0 := by decide +kernel
theorem l_216 : am_ln 216 = 8 := by decide +kernel
theorem k_217 : am_kd 321 217 = 0 := by decide +kernel
theorem l_217 : am_ln 217 = 8 := by decide +kernel
theorem k_218 : am_kd 321 218 = 12 := by decide +kernel
theorem k_219 : am_kd 321 219 = 0 := by decide +kernel
theorem l_219 : am_ln 219 = 64 := by decide +kernel
theorem k_220 : am_kd 321 220 = 13 := by decide +kernel
theorem k_221 : am_kd 321 221 = 0 := by decide +kernel
theorem l_221 : am_ln 221 = 8 := by decide +kernel
theorem k_222 : am_kd 321 222 = 0 := by decide +kernel
theorem l_222 : am_ln 222 = 8 := by decide +kernel
theorem k_223 : am_kd 321 223 = 0 := by decide +kernel
theorem l_223 : am_ln 223 = 8 := by decide +kernel
theorem k_224 : am_kd 321 224 = 1 := by decide +kernel
theorem l_224 : am_ln 224 = 8 := by decide +kernel
theorem k_225 : am_kd 321 225 = 13 := by decide +kernel
theorem k_226 : am_kd 321 226 = 0 := by decide +kernel
theorem l_226 : am_ln 226 = 8 := by decide +kernel
theorem k_227 : am_kd 321 227 = 0 := by decide +kernel
theorem l_227 : am_ln 227 = 8 := by decide +kernel
theorem k_228 : am_kd 321 228 = 0 := by decide +kernel
theorem l_228 : am_ln 228 = 8 := by decide +kernel
theorem k_229 : am_kd 321 229 = 1 := by decide +kernel
theorem l_229 : am_ln 229 = 8 := by decide +kernel
theorem k_230 : am_kd 321 230 = 13 := by decide +kernel
theorem k_231 : am_kd 321 231 = 0 := by decide +kernel
theorem l_231 : am_ln 231 = 8 := by decide +kernel
theorem k_232 : am_kd 321 232 = 0 := by decide +kernel
theorem l_232 : am_ln 232 = 8 := by decide +kernel
theorem k_233 : am_kd 321 233 = 0 := by decide +kernel
theorem l_233 : am_ln 233 = 8 := by decide +kernel
theorem k_234 : am_kd 321 234 = 1 := by decide +kernel
theorem l_234 : am_ln 234 = 8 := by decide +kernel
theorem k_235 : am_kd 321 235 = 13 := by decide +kernel
theorem k_236 : am_kd 321 236 = 0 := by decide +kernel
theorem l_236 : am_ln 236 = 8 := by decide +kernel
theorem k_237 : am_kd 321 237 = 0 := by decide +kernel
theorem l_237 : am_ln 237 = 8 := by decide +kernel
theorem k_238 : am_kd 321 238 = 0 := by decide +kernel
theorem l_238 : am_ln 238 = 8 := by decide +kernel
theorem k_239 : am_kd 321 239 = 1 := by decide +kernel
theorem l_239 : am_ln 239 = 8 := by decide +kernel
theorem k_240 : am_kd 321 240 = 0 := by decide +kernel
theorem l_240 : am_ln 240 = 40 := by decide +kernel
theorem k_241 : am_kd 321 241 = 0 := by decide +kernel
theorem l_241 : am_ln 241 = 40 := by decide +kernel
theorem k_242 : am_kd 321 242 = 15 := by decide +kernel
theorem k_243 : am_kd 321 243 = 0 := by decide +kernel
theorem l_243 : am_ln 243 = 24 := by decide +kernel
theorem k_244 : am_kd 321 244 = 0 := by decide +kernel
theorem l_244 : am_ln 244 = 24 := by decide +kernel
theorem k_245 : am_kd 321 245 = 0 := by decide +kernel
theorem l_245 : am_ln 245 = 24 := by decide +kernel
theorem k_246 : am_kd 321 246 = 0 := by decide +kernel
theorem l_246 : am_ln 246 = 300 := by decide +kernel
theorem k_247 : am_kd 321 247 = 0 := by decide +kernel
theorem l_247 : am_ln 247 = 8 := by decide +kernel
theorem k_248 : am_kd 321 248 = 0 := by decide +kernel
theorem l_248 : am_ln 248 = 8 := by decide +kernel
theorem k_249 : am_kd 321 249 = 0 := by decide +kernel
theorem l_249 : am_ln 249 = 8 := by decide +kernel
theorem k_250 : am_kd 321 250 = 0 := by decide +kernel
theorem l_250 : am_ln 250 = 8 := by decide +kernel
theorem k_251 : am_kd 321 251 = 0 := by decide +kernel
theorem l_251 : am_ln 251 = 8 := by decide +kernel
theorem k_252 : am_kd 321 252 = 0 := by decide +kernel
theorem l_252 : am_ln 252 = 8 := by decide +kernel
theorem k_253 : am_kd 321 253 = 0 := by decide +kernel
theorem l_253 : am_ln 253 = 8 := by decide +kernel
theorem k_254 : am_kd 321 254 = 0 := by decide +kernel
theorem l_254 : am_ln 254 = 8 := by decide +kernel
theorem k_255 : am_kd 321 255 = 15 := by decide +kernel
theorem k_256 : am_kd 321 256 = 0 := by decide +kernel
theorem l_256 : am_ln 256 = 24 := by decide +kernel
theorem k_257 : am_kd 321 257 = 0 := by decide +kernel
theorem l_257 : am_ln 257 = 24 := by decide +kernel
theorem k_258 : am_kd 321 258 = 0 := by decide +kernel
theorem l_258 : am_ln 258 = 24 := by decide +kernel
theorem k_259 : am_kd 321 259 = 0 := by decide +kernel
theorem l_259 : am_ln 259 = 300 := by decide +kernel
theorem k_260 : am_kd 321 260 = 0 := by decide +kernel
theorem l_260 : am_ln 260 = 8 := by decide +kernel
theorem k_261 : am_kd 321 261 = 0 := by decide +kernel
theorem l_261 : am_ln 261 = 8 := by decide +kernel
theorem k_262 : am_kd 321 262 = 0 := by decide +kernel
theorem l_262 : am_ln 262 = 8 := by decide +kernel
theorem k_263 : am_kd 321 263 = 0 := by decide +kernel
theorem l_263 : am_ln 263 = 8 := by decide +kernel
theorem k_264 : am_kd 321 264 = 0 := by decide +kernel
theorem l_264 : am_ln 264 = 8 := by decide +kernel
theorem k_265 : am_kd 321 265 = 0 := by decide +kernel
theorem l_265 : am_ln 265 = 8 := by decide +kernel
theorem k_266 : am_kd 321 266 = 0 := by decide +kernel
theorem l_266 : am_ln 266 = 8 := by decide +kernel
theorem k_267 : am_kd 321 267 = 0 := by decide +kernel
theorem l_267 : am_ln 267 = 8 := by decide +kernel
theorem k_268 : am_kd 321 268 = 15 := by decide +kernel
theorem k_269 : am_kd 321 269 = 0 := by decide +kernel
theorem l_269 : am_ln 269 = 24 := by decide +kernel
theorem k_270 : am_kd 321 270 = 0 := by decide +kernel
theorem l_270 : am_ln 270 = 24 := by decide +kernel
theorem k_271 : am_kd 321 271 = 0 := by decide +kernel
theorem l_271 : am_ln 271 = 24 := by decide +kernel
theorem k_272 : am_kd 321 272 = 0 := by decide +kernel
theorem l_272 : am_ln 272 = 300 := by decide +kernel
theorem k_273 : am_kd 321 273 = 0 := by decide +kernel
theorem l_273 : am_ln 273 = 8 := by decide +kernel
theorem k_274 : am_kd 321 274 = 0 := by decide +kernel
theorem l_274 : am_ln 274 = 8 := by decide +kernel
theorem k_275 : am_kd 321 275 = 0 := by decide +kernel
theorem l_275 : am_ln 275 = 8 := by decide +kernel
theorem k_276 : am_kd 321 276 = 0 := by decide +kernel
theorem l_276 : am_ln 276 = 8 := by decide +kernel
theorem k_277 : am_kd 321 277 = 0 := by decide +kernel
theorem l_277 : am_ln 277 = 8 := by decide +kernel
theorem k_278 : am_kd 321 278 = 0 := by decide +kernel
theorem l_278 : am_ln 278 = 8 := by decide +kernel
theorem k_279 : am_kd 321 279 = 0 := by decide +kernel
theorem l_279 : am_ln 279 = 8 := by decide +kernel
theorem k_280 : am_kd 321 280 = 0 := by decide +kernel
theorem l_280 : am_ln 280 = 8 := by decide +kernel
theorem k_281 : am_kd 321 281 = 15 := by decide +kernel
theorem k_282 : am_kd 321 282 = 0 := by decide +kernel
theorem l_282 : am_ln 282 = 24 := by decide +kernel
theorem k_283 : am_kd 321 283 = 0 := by decide +kernel
theorem l_283 : am_ln 283 = 24 := by decide +kernel
theorem k_284 : am_kd 321 284 = 0 := by decide +kernel
theorem l_284 : am_ln 284 = 24 := by decide +kernel
theorem k_285 : am_kd 321 285 = 0 := by decide +kernel
theorem l_285 : am_ln 285 = 300 := by decide +kernel
theorem k_286 : am_kd 321 286 = 0 := by decide +kernel
theorem l_286 : am_ln 286 = 8 := by decide +kernel
theorem k_287 : am_kd 321 287 = 0 := by decide +kernel
theorem l_287 : am_ln 287 = 8 := by decide +kernel
theorem k_288 : am_kd 321 288 = 0 := by decide +kernel
theorem l_288 : am_ln 288 = 8 := by decide +kernel
theorem k_289 : am_kd 321 289 = 0 := by decide +kernel
theorem l_289 : am_ln 289 = 8 := by decide +kernel
theorem k_290 : am_kd 321 290 = 0 := by decide +kernel
theorem l_290 : am_ln 290 = 8 := by decide +kernel
theorem k_291 : am_kd 321 291 = 0 := by decide +kernel
theorem l_291 : am_ln 291 = 8 := by decide +kernel
theorem k_292 : am_kd 321 292 = 0 := by decide +kernel
theorem l_292 : am_ln 292 = 8 := by decide +kernel
theorem k_293 : am_kd 321 293 = 0 := by decide +kernel
theorem l_293 : am_ln 293 = 8 := by decide +kernel
theorem k_294 : am_kd 321 294 = 17 := by decide +kernel
theorem k_295 : am_kd 321 295 = 0 := by decide +kernel
theorem l_295 : am_ln 295 = 2159 := by decide +kernel
theorem k_296 : am_kd 321 296 = 0 := by decide +kernel
theorem l_296 : am_ln 296 = 2159 := by decide +kernel
theorem k_297 : am_kd 321 297 = 0 := by decide +kernel
theorem l_297 : am_ln 297 = 3300 := by decide +kernel
theorem k_298 : am_kd 321 298 = 0 := by decide +kernel
theorem l_298 : am_ln 298 = 300 := by decide +kernel
theorem k_299 : am_kd 321 299 = 0 := by decide +kernel
theorem l_299 : am_ln 299 = 160 := by decide +kernel
theorem k_300 : am_kd 321 300 = 0 := by decide +kernel
theorem l_300 : am_ln 300 = 13 := by decide +kernel
theorem k_301 : am_kd 321 301 = 1 := by decide +kernel
theorem l_301 : am_ln 301 = 330 := by decide +kernel
theorem k_302 : am_kd 321 302 = 1 := by decide +kernel
theorem l_302 : am_ln 302 = 330 := by decide +kernel
theorem k_303 : am_kd 321 303 = 2 := by decide +kernel
theorem l_303 : am_ln 303 = 330 := by decide +kernel
theorem k_304 : am_kd 321 304 = 1 := by decide +kernel
theorem l_304 : am_ln 304 = 330 := by decide +kernel
theorem k_305 : am_kd 321 305 = 0 := by decide +kernel
theorem l_305 : am_ln 305 = 8 := by decide +kernel
theorem k_306 : am_kd 321 306 = 0 := by decide +kernel
theorem l_306 : am_ln 306 = 8 := by decide +kernel
theorem k_307 : am_kd 321 307 = 0 := by decide +kernel
theorem l_307 : am_ln 307 = 8 := by decide +kernel
theorem k_308 : am_kd 321 308 = 0 := by decide +kernel
theorem l_308 : am_ln 308 = 3 := by decide +kernel
theorem k_309 : am_kd 321 309 = 0 := by decide +kernel
theorem l_309 : am_ln 309 = 3 := by decide +kernel
theorem k_310 : am_kd 321 310 = 0 := by decide +kernel
theorem l_310 : am_ln 310 = 3 := by decide +kernel
theorem k_311 : am_kd 321 311 = 1 := by decide +kernel
theorem l_311 : am_ln 311 = 3 := by decide +kernel
theorem k_312 : am_kd 321 312 = 0 := by decide +kernel
theorem l_312 : am_ln 312 = 24 := by decide +kernel
theorem k_313 : am_kd 321 313 = 0 := by decide +kernel
theorem l_313 : am_ln 313 = 24 := by decide +kernel
theorem k_314 : am_kd 321 314 = 0 := by decide +kernel
theorem l_314 : am_ln 314 = 24 := by decide +kernel
theorem k_315 : am_kd 321 315 = 0 := by decide +kernel
theorem l_315 : am_ln 315 = 24 := by decide +kernel
theorem k_316 : am_kd 321 316 = 1 := by decide +kernel
theorem l_316 : am_ln 316 = 24 := by decide +kernel
theorem k_317 : am_kd 321 317 = 0 := by decide +kernel
theorem l_317 : am_ln 317 = 40 := by decide +kernel
theorem k_318 : am_kd 321 318 = 0 := by decide +kernel
theorem l_318 : am_ln 318 = 40 := by decide +kernel
theorem k_319 : am_kd 321 319 = 0 := by decide +kernel
theorem l_319 : am_ln 319 = 44 := by decide +kernel
theorem k_320 : am_kd 321 320 = 0 := by decide +kernel
theorem l_320 : am_ln 320 = 8 := by decide +kernel
theorem k_321 : am_kd 321 321 = 0 := by decide +kernel
theorem l_321 : am_ln 321 = 8 := by decide +kernel
theorem kX0_0 {a : Int} (h : am_kd 321 a = 10) : am_kd 321 (a + 1) = 0 ∧ am_ln (a + 1) = 40 := by
  obtain ⟨h1, h2, h3⟩ := am_kd_sh h (by decide)
  have key : (List.range 321).all (fun k => (am_sh k).1 != 10 || (decide (k + 1 < 321) && (am_sh (k + 1)).1 == 0 && (am_sh (k + 1)).2 == 40)) = true := by decide +kernel
  have q := List.all_eq_true.mp key (a.toNat - 1) (List.mem_range.mpr (by omega))
  rw [h3] at q
  simp at q
  have e : (a + 1).toNat - 1 = a.toNat - 1 + 1 := by omega
  unfold am_kd am_ln
  rw [if_pos (by omega), e, q.1.2, q.2]
  exact ⟨rfl, rfl⟩
theorem kX0_1 {a : Int} (h : am_kd 321 a = 10) : am_kd 321 (a + 2) = 0 ∧ am_ln (a + 2) = 25 := by
  obtain ⟨h1, h2, h3⟩ := am_kd_sh h (by decide)
  have key : (List.range 321).all (fun k => (am_sh k).1 != 10 || (decide (k + 2 < 321) && (am_sh (k + 2)).1 == 0 && (am_sh (k + 2)).2 == 25)) = true := by decide +kernel
  have q := List.all_eq_true.mp key (a.toNat - 1) (List.mem_range.mpr (by omega))
  rw [h3] at q
  simp at q
  have e : (a + 2).toNat - 1 = a.toNat - 1 + 2 := by omega
  unfold am_kd am_ln
  rw [if_pos (by omega), e, q.1.2, q.2]
  exact ⟨rfl, rfl⟩
theorem kX3_6 {a : Int} (h : am_kd 321 a = 13) : am_kd 321 (a + 1) = 0 ∧ am_ln (a + 1) = 8 := by
  obtain ⟨h1, h2, h3⟩ := am_kd_sh h (by decide)
  have key : (List.range 321).all (fun k => (am_sh k).1 != 13 || (decide (k + 1 < 321) && (am_sh (k + 1)).1 == 0 && (am_sh (k + 1)).2 == 8)) = true := by decide +kernel
  have q := List.all_eq_true.mp key (a.toNat - 1) (List.mem_range.mpr (by omega))
  rw [h3] at q
  simp at q
  have e : (a + 1).toNat - 1 = a.toNat - 1 + 1 := by omega
  unfold am_kd am_ln
  rw [if_pos (by omega), e, q.1.2, q.2]
  exact ⟨rfl, rfl⟩
theorem kX3_7 {a : Int} (h : am_kd 321 a = 13) : am_kd 321 (a + 2) = 0 ∧ am_ln (a + 2) = 8 := by
  obtain ⟨h1, h2, h3⟩ := am_kd_sh h (by decide)
  have key : (List.range 321).all (fun k => (am_sh k).1 != 13 || (decide (k + 2 < 321) && (am_sh (k + 2)).1 == 0 && (am_sh (k + 2)).2 == 8)) = true := by decide +kernel
  have q := List.all_eq_true.mp key (a.toNat - 1) (List.mem_range.mpr (by omega))
  rw [h3] at q
  simp at q
  have e : (a + 2).toNat - 1 = a.toNat - 1 + 2 := by omega
  unfold am_kd am_ln
  rw [if_pos (by omega), e, q.1.2, q.2]
  exact ⟨rfl, rfl⟩
theorem kX3_8 {a : Int} (h : am_kd 321 a = 13) : am_kd 321 (a + 3) = 0 ∧ am_ln (a + 3) = 8 := by
  obtain ⟨h1, h2, h3⟩ := am_kd_sh h (by decide)
  have key : (List.range 321).all (fun k => (am_sh k).1 != 13 || (decide (k + 3 < 321) && (am_sh (k + 3)).1 == 0 && (am_sh (k + 3)).2 == 8)) = true := by decide +kernel
  have q := List.all_eq_true.mp key (a.toNat - 1) (List.mem_range.mpr (by omega))
  rw [h3] at q
  simp at q
  have e : (a + 3).toNat - 1 = a.toNat - 1 + 3 := by omega
  unfold am_kd am_ln
  rw [if_pos (by omega), e, q.1.2, q.2]
  exact ⟨rfl, rfl⟩
theorem kX3_9 {a : Int} (h : am_kd 321 a = 13) : am_kd 321 (a + 4) = 1 ∧ am_ln (a + 4) = 8 := by
  obtain ⟨h1, h2, h3⟩ := am_kd_sh h (by decide)
  have key : (List.range 321).all (fun k => (am_sh k).1 != 13 || (decide (k + 4 < 321) && (am_sh (k + 4)).1 == 1 && (am_sh (k + 4)).2 == 8)) = true := by decide +kernel
  have q := List.all_eq_true.mp key (a.toNat - 1) (List.mem_range.mpr (by omega))
  rw [h3] at q
  simp at q
  have e : (a + 4).toNat - 1 = a.toNat - 1 + 4 := by omega
  unfold am_kd am_ln
  rw [if_pos (by omega), e, q.1.2, q.2]
  exact ⟨rfl, rfl⟩
theorem kX4_0 {a : Int} (h : am_kd 321 a = 14) : am_kd 321 (a + 1) = 10 ∧ am_ln (a + 1) = 6 := by
  obtain ⟨h1, h2, h3⟩ := am_kd_sh h (by decide)
  have key : (List.range 321).all (fun k => (am_sh k).1 != 14 || (decide (k + 1 < 321) && (am_sh (k + 1)).1 == 10 && (am_sh (k + 1)).2 == 6)) = true := by decide +kernel
  have q := List.all_eq_true.mp key (a.toNat - 1) (List.mem_range.mpr (by omega))
  rw [h3] at q
  simp at q
  have e : (a + 1).toNat - 1 = a.toNat - 1 + 1 := by omega
  unfold am_kd am_ln
  rw [if_pos (by omega), e, q.1.2, q.2]
  exact ⟨rfl, rfl⟩
theorem kX4_1 {a : Int} (h : am_kd 321 a = 14) : am_kd 321 (a + 4) = 3 ∧ am_ln (a + 4) = 30 := by
  obtain ⟨h1, h2, h3⟩ := am_kd_sh h (by decide)
  have key : (List.range 321).all (fun k => (am_sh k).1 != 14 || (decide (k + 4 < 321) && (am_sh (k + 4)).1 == 3 && (am_sh (k + 4)).2 == 30)) = true := by decide +kernel
  have q := List.all_eq_true.mp key (a.toNat - 1) (List.mem_range.mpr (by omega))
  rw [h3] at q
  simp at q
  have e : (a + 4).toNat - 1 = a.toNat - 1 + 4 := by omega
  unfold am_kd am_ln
  rw [if_pos (by omega), e, q.1.2, q.2]
  exact ⟨rfl, rfl⟩
theorem kX4_6 {a : Int} (h : am_kd 321 a = 14) : am_kd 321 (a + 5) = 0 ∧ am_ln (a + 5) = 8 := by
  obtain ⟨h1, h2, h3⟩ := am_kd_sh h (by decide)
  have key : (List.range 321).all (fun k => (am_sh k).1 != 14 || (decide (k + 5 < 321) && (am_sh (k + 5)).1 == 0 && (am_sh (k + 5)).2 == 8)) = true := by decide +kernel
  have q := List.all_eq_true.mp key (a.toNat - 1) (List.mem_range.mpr (by omega))
  rw [h3] at q
  simp at q
  have e : (a + 5).toNat - 1 = a.toNat - 1 + 5 := by omega
  unfold am_kd am_ln
  rw [if_pos (by omega), e, q.1.2, q.2]
  exact ⟨rfl, rfl⟩
theorem kX4_7 {a : Int} (h : am_kd 321 a = 14) : am_kd 321 (a + 6) = 0 ∧ am_ln (a + 6) = 8 := by
  obtain ⟨h1, h2, h3⟩ := am_kd_sh h (by decide)
  have key : (List.range 321).all (fun k => (am_sh k).1 != 14 || (decide (k + 6 < 321) && (am_sh (k + 6)).1 == 0 && (am_sh (k + 6)).2 == 8)) = true := by decide +kernel
  have q := List.all_eq_true.mp key (a.toNat - 1) (List.mem_range.mpr (by omega))
  rw [h3] at q
  simp at q
  have e : (a + 6).toNat - 1 = a.toNat - 1 + 6 := by omega
  unfold am_kd am_ln
  rw [if_pos (by omega), e, q.1.2, q.2]
  exact ⟨rfl, rfl⟩
theorem kX5_1 {a : Int} (h : am_kd 321 a = 15) : am_kd 321 (a + 1) = 0 ∧ am_ln (a + 1) = 24 := by
  obtain ⟨h1, h2, h3⟩ := am_kd_sh h (by decide)
  have key : (List.range 321).all (fun k => (am_sh k).1 != 15 || (decide (k + 1 < 321) && (am_sh (k + 1)).1 == 0 && (am_sh (k + 1)).2 == 24)) = true := by decide +kernel
  have q := List.all_eq_true.mp key (a.toNat - 1) (List.mem_range.mpr (by omega))
  rw [h3] at q
  simp at q
  have e : (a + 1).toNat - 1 = a.toNat - 1 + 1 := by omega
  unfold am_kd am_ln
  rw [if_pos (by omega), e, q.1.2, q.2]
  exact ⟨rfl, rfl⟩
theorem kX5_2 {a : Int} (h : am_kd 321 a = 15) : am_kd 321 (a + 2) = 0 ∧ am_ln (a + 2) = 24 := by
  obtain ⟨h1, h2, h3⟩ := am_kd_sh h (by decide)
  have key : (List.range 321).all (fun k => (am_sh k).1 != 15 || (decide (k + 2 < 321) && (am_sh (k + 2)).1 == 0 && (am_sh (k + 2)).2 == 24)) = true := by decide +kernel
  have q := List.all_eq_true.mp key (a.toNat - 1) (List.mem_range.mpr (by omega))
  rw [h3] at q
  simp at q
  have e : (a + 2).toNat - 1 = a.toNat - 1 + 2 := by omega
  unfold am_kd am_ln
  rw [if_pos (by omega), e, q.1.2, q.2]
  exact ⟨rfl, rfl⟩
theorem kX5_3 {a : Int} (h : am_kd 321 a = 15) : am_kd 321 (a + 3) = 0 ∧ am_ln (a + 3) = 24 := by
  obtain ⟨h1, h2, h3⟩ := am_kd_sh h (by decide)
  have key : (List.range 321).all (fun k => (am_sh k).1 != 15 || (decide (k + 3 < 321) && (am_sh (k + 3)).1 == 0 && (am_sh (k + 3)).2 == 24)) = true := by decide +kernel
  have q := List.all_eq_true.mp key (a.toNat - 1) (List.mem_range.mpr (by omega))
  rw [h3] at q
  simp at q
  have e : (a + 3).toNat - 1 = a.toNat - 1 + 3 := by omega
  unfold am_kd am_ln
  rw [if_pos (by omega), e, q.1.2, q.2]
  exact ⟨rfl, rfl⟩
theorem kX5_4 {a : Int} (h : am_kd 321 a = 15) : am_kd 321 (a + 4) = 0 ∧ am_ln (a + 4) = 300 := by
  obtain ⟨h1, h2, h3⟩ := am_kd_sh h (by decide)
  have key : (List.range 321).all (fun k => (am_sh k).1 != 15 || (decide (k + 4 < 321) && (am_sh (k + 4)).1 == 0 && (am_sh (k + 4)).2 == 300)) = true := by decide +kernel
  have q := List.all_eq_true.mp key (a.toNat - 1) (List.mem_range.mpr (by omega))
  rw [h3] at q
  simp at q
  have e : (a + 4).toNat - 1 = a.toNat - 1 + 4 := by omega
  unfold am_kd am_ln
  rw [if_pos (by omega), e, q.1.2, q.2]
  exact ⟨rfl, rfl⟩
theorem kX5_7 {a : Int} (h : am_kd 321 a = 15) : am_kd 321 (a + 5) = 0 ∧ am_ln (a + 5) = 8 := by
  obtain ⟨h1, h2, h3⟩ := am_kd_sh h (by decide)
  have key : (List.range 321).all (fun k => (am_sh k).1 != 15 || (decide (k + 5 < 321) && (am_sh (k + 5)).1 == 0 && (am_sh (k + 5)).2 == 8)) = true := by decide +kernel
  have q := List.all_eq_true.mp key (a.toNat - 1) (List.mem_range.mpr (by omega))
  rw [h3] at q
  simp at q
  have e : (a + 5).toNat - 1 = a.toNat - 1 + 5 := by omega
  unfold am_kd am_ln
  rw [if_pos (by omega), e, q.1.2, q.2]
  exact ⟨rfl, rfl⟩
theorem kX5_8 {a : Int} (h : am_kd 321 a = 15) : am_kd 321 (a + 6) = 0 ∧ am_ln (a + 6) = 8 := by
  obtain ⟨h1, h2, h3⟩ := am_kd_sh h (by decide)
  have key : (List.range 321).all (fun k => (am_sh k).1 != 15 || (decide (k + 6 < 321) && (am_sh (k + 6)).1 == 0 && (am_sh (k + 6)).2 == 8)) = true := by decide +kernel
  have q := List.all_eq_true.mp key (a.toNat - 1) (List.mem_range.mpr (by omega))
  rw [h3] at q
  simp at q
  have e : (a + 6).toNat - 1 = a.toNat - 1 + 6 := by omega
  unfold am_kd am_ln
  rw [if_pos (by omega), e, q.1.2, q.2]
  exact ⟨rfl, rfl⟩
theorem kX5_9 {a : Int} (h : am_kd 321 a = 15) : am_kd 321 (a + 7) = 0 ∧ am_ln (a + 7) = 8 := by
  obtain ⟨h1, h2, h3⟩ := am_kd_sh h (by decide)
  have key : (List.range 321).all (fun k => (am_sh k).1 != 15 || (decide (k + 7 < 321) && (am_sh (k + 7)).1 == 0 && (am_sh (k + 7)).2 == 8)) = true := by decide +kernel
  have q := List.all_eq_true.mp key (a.toNat - 1) (List.mem_range.mpr (by omega))
  rw [h3] at q
  simp at q
  have e : (a + 7).toNat - 1 = a.toNat - 1 + 7 := by omega
  unfold am_kd am_ln
  rw [if_pos (by omega), e, q.1.2, q.2]
  exact ⟨rfl, rfl⟩
theorem kX5_10 {a : Int} (h : am_kd 321 a = 15) : am_kd 321 (a + 8) = 0 ∧ am_ln (a + 8) = 8 := by
  obtain ⟨h1, h2, h3⟩ := am_kd_sh h (by decide)
  have key : (List.range 321).all (fun k => (am_sh k).1 != 15 || (decide (k + 8 < 321) && (am_sh (k + 8)).1 == 0 && (am_sh (k + 8)).2 == 8)) = true := by decide +kernel
  have q := List.all_eq_true.mp key (a.toNat - 1) (List.mem_range.mpr (by omega))
  rw [h3] at q
  simp at q
  have e : (a + 8).toNat - 1 = a.toNat - 1 + 8 := by omega
  unfold am_kd am_ln
  rw [if_pos (by omega), e, q.1.2, q.2]
  exact ⟨rfl, rfl⟩
theorem kX5_11 {a : Int} (h : am_kd 321 a = 15) : am_kd 321 (a + 9) = 0 ∧ am_ln (a + 9) = 8 := by
  obtain ⟨h1, h2, h3⟩ := am_kd_sh h (by decide)
  have key : (List.range 321).all (fun k => (am_sh k).1 != 15 || (decide (k + 9 < 321) && (am_sh (k + 9)).1 == 0 && (am_sh (k + 9)).2 == 8)) = true := by decide +kernel
  have q := List.all_eq_true.mp key (a.toNat - 1) (List.mem_range.mpr (by omega))
  rw [h3] at q
  simp at q
  have e : (a + 9).toNat - 1 = a.toNat - 1 + 9 := by omega
  unfold am_kd am_ln
  rw [if_pos (by omega), e, q.1.2, q.2]
  exact ⟨rfl, rfl⟩
theorem kX5_12 {a : Int} (h : am_kd 321 a = 15) : am_kd 321 (a + 10) = 0 ∧ am_ln (a + 10) = 8 := by
  obtain ⟨h1, h2, h3⟩ := am_kd_sh h (by decide)
  have key : (List.range 321).all (fun k => (am_sh k).1 != 15 || (decide (k + 10 < 321) && (am_sh (k + 10)).1 == 0 && (am_sh (k + 10)).2 == 8)) = true := by decide +kernel
  have q := List.all_eq_true.mp key (a.toNat - 1) (List.mem_range.mpr (by omega))
  rw [h3] at q
  simp at q
  have e : (a + 10).toNat - 1 = a.toNat - 1 + 10 := by omega
  unfold am_kd am_ln
  rw [if_pos (by omega), e, q.1.2, q.2]
  exact ⟨rfl, rfl⟩
theorem kX5_13 {a : Int} (h : am_kd 321 a = 15) : am_kd 321 (a + 11) = 0 ∧ am_ln (a + 11) = 8 := by
  obtain ⟨h1, h2, h3⟩ := am_kd_sh h (by decide)
  have key : (List.range 321).all (fun k => (am_sh k).1 != 15 || (decide (k + 11 < 321) && (am_sh (k + 11)).1 == 0 && (am_sh (k + 11)).2 == 8)) = true := by decide +kernel
  have q := List.all_eq_true.mp key (a.toNat - 1) (List.mem_range.mpr (by omega))
  rw [h3] at q
  simp at q
  have e : (a + 11).toNat - 1 = a.toNat - 1 + 11 := by omega
  unfold am_kd am_ln
  rw [if_pos (by omega), e, q.1.2, q.2]
  exact ⟨rfl, rfl⟩
theorem kX5_16 {a : Int} (h : am_kd 321 a = 15) : am_kd 321 (a + 12) = 0 ∧ am_ln (a + 12) = 8 := by
  obtain ⟨h1, h2, h3⟩ := am_kd_sh h (by decide)
  have key : (List.range 321).all (fun k => (am_sh k).1 != 15 || (decide (k + 12 < 321) && (am_sh (k + 12)).1 == 0 && (am_sh (k + 12)).2 == 8)) = true := by decide +kernel
  have q := List.all_eq_true.mp key (a.toNat - 1) (List.mem_range.mpr (by omega))
  rw [h3] at q
  simp at q
  have e : (a + 12).toNat - 1 = a.toNat - 1 + 12 := by omega
  unfold am_kd am_ln
  rw [if_pos (by omega), e, q.1.2, q.2]
  exact ⟨rfl, rfl⟩
