/-- of a row of ints so many from a place on come to another's -/
def am_cp (h : am_H) (a0 sp a dp len : Int) : am_H := fun b j => if b = a ∧ dp ≤ j ∧ j < dp + len then h a0 (sp + (j - dp)) else h b j
theorem am_cp_other {h : am_H} {a0 sp a dp len : Int} : ∀ b j : Int, b ≠ a → am_cp h a0 sp a dp len b j = h b j := fun b j q => by
  unfold am_cp
  rw [if_neg (fun z => q z.1)]
/-- words on the stack -/
def am_cw : List am_V → Nat
  | [] => 0
  | .inr (.inl _) :: st => 2 + am_cw st
  | _ :: st => 1 + am_cw st
theorem am_cw_ok (ρ : Int → Nat) : ∀ st : List am_V, ((st.map (am_cv ρ)).map fun v => v.category).sum = am_cw st
  | [] => rfl
  | .inl z :: st => by simp only [List.map_cons, List.sum_cons, am_cw, am_cw_ok ρ st]; rfl
  | .inr (.inl z) :: st => by simp only [List.map_cons, List.sum_cons, am_cw, am_cw_ok ρ st]; rfl
  | .inr (.inr a) :: st => by
    have h := am_cat1 ρ (v := .inr (.inr a)) trivial
    simp only [List.map_cons, List.sum_cons, am_cw, am_cw_ok ρ st, h]
theorem am_fits {z : Int} : fits .int (.int (Int32.ofInt z)) = true := rfl
section AM_CALLS
variable {fin : Bool} {d : Nat} {M : am_M} {n0 n1 : Nat} {h0 : am_H} {Q : Int → am_H → Prop} {pc : Nat} {ls : List (Option am_V)} {st : List am_V} {n : Nat} {h : am_H}
theorem ar_copy {a0 sp a dp len : Int} {idx : Nat} (hd : decode M.2.1 pc = .ok (.invokestatic idx, 3)) (hw : Cond.methodLink M.1.cls idx arraycopyName ∈ am_gw) (hw2 : Cond.native arraycopyName ∈ am_gw) (hw3 : Cond.static arraycopyName ∈ am_gw) (hw4 : Cond.initialized "java/lang/System" ∈ am_gw) (ha0 : am_kd n a0 = 0) (ha : am_kd n a = 0) (h1 : 0 ≤ sp) (h2 : 0 ≤ dp) (h3 : 0 ≤ len) (h4 : sp + len ≤ am_ln a0) (h5 : dp + len ≤ am_ln a) (hst : am_cw st ≤ 8)
    (kk : am_Wp fin d M n0 n1 h0 Q (pc + 3) ls st n (am_cp h a0 sp a dp len)) : am_Wp fin d M n0 n1 h0 Q pc ls (.inl len :: .inl dp :: .inr (.inr a) :: .inl sp :: .inr (.inr a0) :: st) n h := by
  intro p l e s m args below meth c H locs ρ ρ0 cA cA0 D A lm X hg hl hs ho
  obtain ⟨g1, g2, g3⟩ := am_kd_sh ha0 (by decide)
  obtain ⟨e1, e2, e3⟩ := am_kd_sh ha (by decide)
  have hc0 := am_wld_at (ρ := ρ) (cA := cA) (h := h) g1 g2
  have hc := am_wld_at (ρ := ρ) (cA := cA) (h := h) e1 e2
  rw [am_cell0 g1 (Or.inl g3)] at hc0
  rw [am_cell0 e1 (Or.inl e3)] at hc
  have o1 : am_i32 len := am_ok_hd hs
  have o2 : am_i32 dp := am_ok_hd (am_ok_tl hs)
  have o3 : am_i32 sp := am_ok_hd (am_ok_tl (am_ok_tl (am_ok_tl hs)))
  have nn : ∀ z : Int, am_i32 z → 0 ≤ z → ¬ Int32.ofInt z < 0 := fun z hz h0 q => by
    have := (am_lt32 hz am_c0).mp q
    omega
  simp only [List.map_cons, am_cv, am_rf_some g1, am_rf_some e1]
  refine va_copyi (ty := .int) X.1.1 X.1.2.1 (by rw [hl.1]; exact X.1.2.2.1) X.1.2.2.2.2.1 (X.1.2.2.2.2.2.1 _ hw) (X.1.2.2.2.2.2.1 _ hw2) (X.1.2.2.2.2.2.1 _ hw3) (X.1.2.2.2.2.2.1 _ hw4) (tys := [(cA (a0.toNat - 1), .int), (cA (a.toNat - 1), .int)]) ⟨X.2.1.1, fun k q hq => ?_⟩ X.2.1.2.2.1 X.2.1.2.2.2.1 X.2.2.1 _ _ 0 1 hc0 hc rfl rfl rfl (nn _ o3 h1) (nn _ o2 h2) (nn _ o1 h3) ?_ ?_ (fun i hi => rfl) (Nat.le_of_ble_eq_true rfl |> fun (z : 1 ≤ 4) => Nat.le_trans z (by show 4 ≤ 4 * (d + 1); omega)) ?_ hd (fun H1 locs1 gP gD gS => ?_)
  · have hk : k < 2 := (List.getElem?_eq_some_iff.mp hq).1
    rcases (show k = 0 ∨ k = 1 by omega) with rfl | rfl
    · simp at hq
      subst hq
      have := X.2.1.2.1 (a0.toNat - 1) (by omega) (by omega)
      rwa [show am_aty (a0.toNat - 1) = .int by simp [am_aty, g3]] at this
    · simp at hq
      subst hq
      have := X.2.1.2.1 (a.toNat - 1) (by omega) (by omega)
      rwa [show am_aty (a.toNat - 1) = .int by simp [am_aty, e3]] at this
  · rw [am_nat o3, am_nat o1]
    unfold am_ln at h4
    omega
  · rw [am_nat o2, am_nat o1]
    unfold am_ln at h5
    omega
  · rw [am_cw_ok]
    have z : nativeFrameWords "java/lang/System" "arraycopy" 5 ≤ 60 := by decide
    show _ ≤ 100 * (d + 1)
    omega
  · rw [am_nat o1, am_nat o2, am_nat o3] at gP gD
    have hcell : am_cell ρ cA (am_cp h a0 sp a dp len) (a.toNat - 1) = .inl (cA (a.toNat - 1), (am_sh (a.toNat - 1)).2, .inl (va_cpy (fun j : Nat => Int32.ofInt (h a0 j)) (fun j : Nat => Int32.ofInt (h a j)) sp.toNat dp.toNat len.toNat)) := by
      rw [am_cell0 e1 (Or.inl e3)]
      congr 4
      funext j
      unfold va_cpy am_cp
      by_cases q : dp.toNat ≤ j ∧ j < dp.toNat + len.toNat
      · rw [if_pos q, if_pos ⟨rfl, by omega, by omega⟩]
        congr 2
        omega
      · rw [if_neg q, if_neg (by omega)]
    have hrg : am_Rg n (am_cp h a0 sp a dp len) := by
      intro b j hb
      unfold am_cp
      by_cases q : b = a ∧ dp ≤ j ∧ j < dp + len
      · rw [if_pos q, q.1, ha]
        have r := X.2.1.2.2.2.2.1 a0 (sp + (j - dp)) (by rw [ha0]; decide)
        rw [ha0] at r
        exact r
      · rw [if_neg q]
        exact X.2.1.2.2.2.2.1 b j hb
    have hfin : am_Fin n h → am_Fin n (am_cp h a0 sp a dp len) := by
      rintro ⟨f1, f2, f3⟩
      refine ⟨fun b c k o hb ho => ?_, fun b j hb q3 q4 => ?_, fun b j hb q3 q4 => ?_⟩
      · rw [am_cp_other _ _ (fun q => by rw [q, ha] at hb; omega)]; exact f1 b c k o hb ho
      · rw [am_cp_other _ _ (fun q => by rw [q, ha] at hb; omega)]; exact f2 b j hb q3 q4
      · rw [am_cp_other _ _ (fun q => by rw [q, ha] at hb; omega)]; exact f3 b j hb q3 q4
    have R2 := X.2.1.put (h2 := am_cp h a0 sp a dp len) e1 e2 am_cp_other hcell gP gD hrg (fun q => hfin (X.2.1.2.2.2.2.2 q))
    have hneg : ∀ b j : Int, b < 0 → am_cp h a0 sp a dp len b j = h b j := fun b j q => am_cp_other b j (by omega)
    exact kk p l e s m args below meth c H1 locs1 ρ ρ0 cA cA0 D A lm (X.put R2 gS hneg) (fun b j q => (hneg b j q).trans (hg b j q)) hl (am_ok_tl (am_ok_tl (am_ok_tl (am_ok_tl (am_ok_tl hs))))) ho
theorem ar_ldc {z : Int} {idx : Nat} (hd : decode M.2.1 pc = .ok (.ldc idx, 2)) (hw : Cond.constant M.1.cls idx (Int32.ofInt z) ∈ am_gw) (hz : am_i32 z) (k : am_Wp fin d M n0 n1 h0 Q (pc + 2) ls ((.inl z) :: st) n h) : am_Wp fin d M n0 n1 h0 Q pc ls st n h := by
  intro p l e s m args below meth c H locs ρ ρ0 cA cA0 D A lm X hg hl hs ho
  exact lv_ldc X.1.1 X.1.2.1 X.1.2.2.2.2.1 (X.1.2.2.2.2.2.1 _ hw) hd (k p l e s m args below meth c H locs ρ ρ0 cA cA0 D A lm X hg hl (am_ok_cons hz hs) ho)
theorem ar_ldcw {z : Int} {idx : Nat} (hd : decode M.2.1 pc = .ok (.ldc_w idx, 3)) (hw : Cond.constant M.1.cls idx (Int32.ofInt z) ∈ am_gw) (hz : am_i32 z) (k : am_Wp fin d M n0 n1 h0 Q (pc + 3) ls ((.inl z) :: st) n h) : am_Wp fin d M n0 n1 h0 Q pc ls st n h := by
  intro p l e s m args below meth c H locs ρ ρ0 cA cA0 D A lm X hg hl hs ho
  exact lv_ldcw X.1.1 X.1.2.1 X.1.2.2.2.2.1 (X.1.2.2.2.2.2.1 _ hw) hd (k p l e s m args below meth c H locs ρ ρ0 cA cA0 D A lm X hg hl (am_ok_cons hz hs) ho)
theorem ar_ldc2 {z : Int} {idx : Nat} (hd : decode M.2.1 pc = .ok (.ldc2_w idx, 3)) (hw : Cond.constantLong M.1.cls idx (Int64.ofInt z) ∈ am_gw) (hz : am_i64 z) (k : am_Wp fin d M n0 n1 h0 Q (pc + 3) ls ((.inr (.inl z)) :: st) n h) : am_Wp fin d M n0 n1 h0 Q pc ls st n h := by
  intro p l e s m args below meth c H locs ρ ρ0 cA cA0 D A lm X hg hl hs ho
  exact lv_ldc2 X.1.1 X.1.2.1 X.1.2.2.2.2.1 (X.1.2.2.2.2.2.1 _ hw) hd (k p l e s m args below meth c H locs ρ ρ0 cA cA0 D A lm X hg hl (am_ok_cons hz hs) ho)
theorem am_R.moved {fin : Bool} {n : Nat} {h : am_H} {ρ : Int → Nat} {cA : Nat → ClassId} {D : va_G} {A B : Nat → Prop} {u U : State} {H : Heap} (hvm : u.vm.Alike U.vm) (R : am_R fin n h ρ cA D A u H) (hD : va_D B (am_wld ρ cA h n)) : am_R fin n h ρ cA D B U H := ⟨fun c q hq => u_Kn_moved hvm (R.1 c q hq), fun k h1 h2 => ⟨arrOfT_moved hvm (R.2.1 k h1 h2).1, (R.2.1 k h1 h2).2.moved hvm⟩, R.2.2.1, hD, R.2.2.2.2⟩
/-- what a method's end must show -/
theorem am_done {fin : Bool} {M : am_M} {n0 n1 : Nat} {h0 h : am_H} {Q : Int → am_H → Prop} {ρ ρ0 : Int → Nat} {cA cA0 : Nat → ClassId} {D : va_G} {A : Nat → Prop} {p : Program} {s : State} {m : MethodId} {meth : Method} {c : Code} {args : Array Value} {H : Heap} {locs : List Loc} (X : am_X fin M n0 n1 n1 h ρ ρ0 cA cA0 D A p s m meth c args H locs) (hg : ∀ a i : Int, a < 0 → h a i = h0 a i) {r : Int} (hr : am_rok n1 M.2.2.2 r) (hq : Q r h) : ∀ t : State, t.heap = H → s.WarmedH t.vm → am_Q fin M.2.2.2 n0 n1 Q h0 ρ0 cA0 D A args s (.returned (am_rv ρ M.2.2.2 r)) t := by
  intro t ht hW
  refine ⟨⟨r, h, ρ, cA, rfl, hr, hq, X.2.2.2.2.2.1, X.2.2.2.2.2.2.1, hg, ?_⟩, X.2.2.1.F ht⟩
  rw [ht]
  exact X.2.1.moved hW.alike X.2.1.2.2.2.1
theorem ar_iret {x : Int} (hd : decode M.2.1 pc = .ok (.ireturn, 1)) (hr : M.2.2.2 = some .int) (hn : n = n1) (hq : Q x h) : am_Wp fin d M n0 n1 h0 Q pc ls [.inl x] n h := by
  intro p l e s m args below meth c H locs ρ ρ0 cA cA0 D A lm X hg hl hs ho
  subst hn
  have K := am_done X hg (r := x) (Q := Q) (by rw [hr]; exact am_ok_hd hs) hq
  rw [hr] at K ⊢
  exact W.iret X.1.1 X.1.2.1 (X.1.2.2.2.1.trans hr) K X.2.2.1.2.2 hd X.1.2.2.2.2.2.2.1
theorem ar_zret {x : Int} (hd : decode M.2.1 pc = .ok (.ireturn, 1)) (hr : M.2.2.2 = some .boolean) (hn : n = n1) (hz : x = 0 ∨ x = 1) (hq : Q x h) : am_Wp fin d M n0 n1 h0 Q pc ls [.inl x] n h := by
  intro p l e s m args below meth c H locs ρ ρ0 cA cA0 D A lm X hg hl hs ho
  subst hn
  have K := am_done X hg (r := x) (Q := Q) (by rw [hr]; exact hz) hq
  rw [hr] at K ⊢
  exact W.zret X.1.1 X.1.2.1 (X.1.2.2.2.1.trans hr) (by rcases hz with rfl | rfl <;> decide) K X.2.2.1.2.2 hd X.1.2.2.2.2.2.2.1
theorem ar_cret {x : Int} (hd : decode M.2.1 pc = .ok (.ireturn, 1)) (hr : M.2.2.2 = some .char) (hn : n = n1) (hz : 0 ≤ x ∧ x < 256) (hq : Q x h) : am_Wp fin d M n0 n1 h0 Q pc ls [.inl x] n h := by
  intro p l e s m args below meth c H locs ρ ρ0 cA cA0 D A lm X hg hl hs ho
  subst hn
  have K := am_done X hg (r := x) (Q := Q) (by rw [hr]; exact am_ok_hd hs) hq
  rw [hr] at K ⊢
  have hx : x = ((x.toNat : Nat) : Int) := by omega
  have hlt : x.toNat < 256 := by omega
  have nar : narrow .char (.int (Int32.ofInt x)) = .int (Int32.ofInt x) := by
    rw [hx]
    generalize x.toNat = k at hlt
    have : ∀ k : Fin 256, narrow .char (.int (Int32.ofInt ((k : Nat) : Int))) = .int (Int32.ofInt ((k : Nat) : Int)) := by decide +kernel
    exact this ⟨k, hlt⟩
  exact W.zret X.1.1 X.1.2.1 (X.1.2.2.2.1.trans hr) nar K X.2.2.1.2.2 hd X.1.2.2.2.2.2.2.1
theorem ar_lret {x : Int} (hd : decode M.2.1 pc = .ok (.lreturn, 1)) (hr : M.2.2.2 = some .long) (hn : n = n1) (hq : Q x h) : am_Wp fin d M n0 n1 h0 Q pc ls [.inr (.inl x)] n h := by
  intro p l e s m args below meth c H locs ρ ρ0 cA cA0 D A lm X hg hl hs ho
  subst hn
  have K := am_done X hg (r := x) (Q := Q) (by rw [hr]; exact am_ok_hd hs) hq
  rw [hr] at K ⊢
  exact W.lret X.1.1 X.1.2.1 (X.1.2.2.2.1.trans hr) K X.2.2.1.2.2 hd X.1.2.2.2.2.2.2.1
theorem ar_aret {x : Int} {C : String} (hd : decode M.2.1 pc = .ok (.areturn, 1)) (hr : M.2.2.2 = some (.object C)) (hn : n = n1) (hq : Q x h) : am_Wp fin d M n0 n1 h0 Q pc ls [.inr (.inr x)] n h := by
  intro p l e s m args below meth c H locs ρ ρ0 cA cA0 D A lm X hg hl hs ho
  subst hn
  have K := am_done X hg (r := x) (Q := Q) (by rw [hr]; exact am_ok_hd hs) hq
  rw [hr] at K ⊢
  exact W.aret (v := va_rf (am_rf ρ x)) X.1.1 X.1.2.1 (X.1.2.2.2.1.trans hr) (Or.inl ⟨C, rfl⟩) (by cases am_rf ρ x with | none => exact Or.inl rfl | some y => exact Or.inr ⟨y, rfl⟩) K X.2.2.1.2.2 hd X.1.2.2.2.2.2.2.1
theorem ar_vret (hd : decode M.2.1 pc = .ok (.return_, 1)) (hr : M.2.2.2 = none) (hn : n = n1) (hq : Q 0 h) : am_Wp fin d M n0 n1 h0 Q pc ls [] n h := by
  intro p l e s m args below meth c H locs ρ ρ0 cA cA0 D A lm X hg hl hs ho
  subst hn
  have K := am_done X hg (r := 0) (Q := Q) (by rw [hr]; exact trivial) hq
  rw [hr] at K ⊢
  exact W.vret X.1.1 X.1.2.1 (X.1.2.2.2.1.trans hr) K X.2.2.1.2.2 hd X.1.2.2.2.2.2.2.1
end AM_CALLS
