theorem am_wld_get {ρ : Int → Nat} {cA : Nat → ClassId} {h : am_H} {n k : Nat} (hk : k < n) : (am_wld ρ cA h n)[k]? = some (ρ ((k : Int) + 1), am_cell ρ cA h k) := by simp [am_wld, hk]
theorem am_wld_at {ρ : Int → Nat} {cA : Nat → ClassId} {h : am_H} {n : Nat} {a : Int} (h1 : 1 ≤ a) (h2 : a ≤ n) : (am_wld ρ cA h n)[a.toNat - 1]? = some (ρ a, am_cell ρ cA h (a.toNat - 1)) := by
  rw [am_wld_get (by omega), show ((a.toNat - 1 : Nat) : Int) + 1 = a by omega]
theorem am_kd_sh {n K : Nat} {a : Int} (h : am_kd n a = K) (hK : K ≠ 99) : 1 ≤ a ∧ a ≤ n ∧ (am_sh (a.toNat - 1)).1 = K := by
  unfold am_kd at h
  split at h
  · rename_i q
    exact ⟨q.1, q.2, h⟩
  · exact absurd h.symm hK
theorem am_back {a : Int} (h1 : 1 ≤ a) : ((a.toNat - 1 : Nat) : Int) + 1 = a := by omega
theorem am_cell0 {ρ : Int → Nat} {cA : Nat → ClassId} {h : am_H} {a : Int} (h1 : 1 ≤ a) (hk : (am_sh (a.toNat - 1)).1 = 0 ∨ (am_sh (a.toNat - 1)).1 = 2) : am_cell ρ cA h (a.toNat - 1) = .inl (cA (a.toNat - 1), (am_sh (a.toNat - 1)).2, .inl (fun j => Int32.ofInt (h a j))) := by
  unfold am_cell
  rw [if_pos hk, am_back h1]
theorem am_cell1 {ρ : Int → Nat} {cA : Nat → ClassId} {h : am_H} {a : Int} (h1 : 1 ≤ a) (hk : (am_sh (a.toNat - 1)).1 = 1) : am_cell ρ cA h (a.toNat - 1) = .inl (cA (a.toNat - 1), (am_sh (a.toNat - 1)).2, .inr (.inl (fun j => Int64.ofInt (h a j)))) := by
  unfold am_cell
  rw [if_neg (by rw [hk]; decide), if_pos hk, am_back h1]
theorem am_cell3 {ρ : Int → Nat} {cA : Nat → ClassId} {h : am_H} {a : Int} (h1 : 1 ≤ a) (hk : (am_sh (a.toNat - 1)).1 = 3 ∨ (am_sh (a.toNat - 1)).1 = 4) : am_cell ρ cA h (a.toNat - 1) = .inl (cA (a.toNat - 1), (am_sh (a.toNat - 1)).2, .inr (.inr (.inr (.inr (fun j => am_rf ρ (h a j)))))) := by
  unfold am_cell
  rw [if_neg (by omega), if_neg (by omega), if_pos (by omega), am_back h1]
theorem am_cellO {ρ : Int → Nat} {cA : Nat → ClassId} {h : am_H} {a : Int} {c : Nat} (h1 : 1 ≤ a) (hk : (am_sh (a.toNat - 1)).1 = 10 + c) : am_cell ρ cA h (a.toNat - 1) = .inr (c, (List.range (am_nf c)).map (fun j : Nat => am_ft ρ (am_ty c j) (h a j))) := by
  unfold am_cell
  rw [if_neg (by omega), if_neg (by omega), if_neg (by omega), am_back h1, show (am_sh (a.toNat - 1)).1 - 10 = c by omega]
def am_tv (ty : FieldType) (z : Int) : am_V := match ty with
  | .long => .inr (.inl z)
  | .object _ => .inr (.inr z)
  | .array _ => .inr (.inr z)
  | _ => .inl z
theorem am_tv_cv (ρ : Int → Nat) (ty : FieldType) (z : Int) : am_cv ρ (am_tv ty z) = am_ft ρ ty z := by cases ty <;> rfl
theorem am_up_at (h : am_H) (a i v : Int) : am_up h a i v a i = v := by simp [am_up]
theorem am_up_ne {h : am_H} {a i v b j : Int} (q : ¬ (b = a ∧ j = i)) : am_up h a i v b j = h b j := by simp [am_up, q]
theorem am_wld_set {ρ : Int → Nat} {cA : Nat → ClassId} {h h2 : am_H} {n : Nat} {a : Int} (h1 : 1 ≤ a) (ha : a ≤ n) (hne : ∀ b j : Int, b ≠ a → h2 b j = h b j) : am_wld ρ cA h2 n = (am_wld ρ cA h n).set (a.toNat - 1) (ρ a, am_cell ρ cA h2 (a.toNat - 1)) := by
  apply List.ext_getElem?
  intro j
  by_cases hj : j < n
  · rw [am_wld_get hj]
    by_cases q : j = a.toNat - 1
    · rw [List.getElem?_set, if_pos q.symm, if_pos (by simp [am_wld]; omega), q, am_back h1]
    · rw [List.getElem?_set_ne (Ne.symm q), am_wld_get hj]
      congr 2
      unfold am_cell
      have e : ∀ z : Int, h2 ((j : Int) + 1) z = h ((j : Int) + 1) z := fun z => hne _ _ (by omega)
      simp only [e]
  · rw [List.getElem?_eq_none (by simp [am_wld]; omega), List.getElem?_eq_none (by simp [am_wld]; omega)]
theorem am_lay_ok : ∀ q ∈ am_cl, (u_ws q.1 q.2.1 q.2.2).all (fun w => am_gw.contains w) = true := by decide +kernel
theorem am_lay {c : Nat} {C : String} {T : u_T} {N : Nat} (hc : am_cl[c]? = some (C, T, N)) : ∀ w ∈ u_ws C T N, w ∈ am_gw := by
  intro w hw
  have h1 := List.all_eq_true.mp (am_lay_ok _ (List.mem_of_getElem? hc)) w hw
  simpa using h1
theorem am_nf_ok : ∀ c, c < 8 → ∀ q, am_cl[c]? = some q → q.2.2 = am_nf c := by
  intro c hc q hq
  match c, hc with
  | 0, _ => cases hq; rfl
  | 1, _ => cases hq; rfl
  | 2, _ => cases hq; rfl
  | 3, _ => cases hq; rfl
  | 4, _ => cases hq; rfl
  | 5, _ => cases hq; rfl
  | 6, _ => cases hq; rfl
  | 7, _ => cases hq; rfl
theorem am_nf_of {c : Nat} {C : String} {T : u_T} {N : Nat} (hc : am_cl[c]? = some (C, T, N)) : N = am_nf c := by
  have hl : c < 8 := (List.getElem?_eq_some_iff.mp hc).1
  exact am_nf_ok c hl _ hc
theorem am_ty_ok : ∀ c, c < 8 → ∀ q, am_cl[c]? = some q → (∀ k, k < q.2.2 → parseFieldDescriptor (q.2.1 k).2.2.1 = some (am_ty c k)) ∧ (∀ a, a < q.2.2 → ∀ b, b < q.2.2 → a ≠ b → (q.2.1 a).2.1 ≠ (q.2.1 b).2.1) := by
  intro c hc q hq
  match c, hc with
  | 0, _ => cases hq; exact ⟨tyX0_ok, nmX0⟩
  | 1, _ => cases hq; exact ⟨tyX1_ok, nmX1⟩
  | 2, _ => cases hq; exact ⟨tyX2_ok, nmX2⟩
  | 3, _ => cases hq; exact ⟨tyX3_ok, nmX3⟩
  | 4, _ => cases hq; exact ⟨tyX4_ok, nmX4⟩
  | 5, _ => cases hq; exact ⟨tyX5_ok, nmX5⟩
  | 6, _ => cases hq; exact ⟨tyX6_ok, nmX6⟩
  | 7, _ => cases hq; exact ⟨tyX7_ok, nmX7⟩
theorem am_R.K {fin : Bool} {n : Nat} {h : am_H} {ρ : Int → Nat} {cA : Nat → ClassId} {D : va_G} {A : Nat → Prop} {U : State} {H : Heap} (R : am_R fin n h ρ cA D A U H) : va_K D am_cl [] U := ⟨R.1, fun k q hk => by simp at hk⟩
theorem am_R.Ka {fin : Bool} {n : Nat} {h : am_H} {ρ : Int → Nat} {cA : Nat → ClassId} {D : va_G} {A : Nat → Prop} {U : State} {H : Heap} (R : am_R fin n h ρ cA D A U H) {a : Int} (h1 : 1 ≤ a) (h2 : a ≤ n) (hk : (am_sh (a.toNat - 1)).1 < 10) {ty : FieldType} (ht : am_aty (a.toNat - 1) = ty) : va_K D am_cl [(cA (a.toNat - 1), ty)] U := by
  refine ⟨R.1, fun k q hq => ?_⟩
  cases k with
  | zero =>
    simp at hq
    subst hq
    rw [← ht]
    exact R.2.1 _ (by omega) hk
  | succ k => simp at hq
theorem am_rg_up {n : Nat} {h : am_H} {a i z : Int} (R : am_Rg n h) (hz : am_kd n a ≠ 99 → am_in n (am_t (am_kd n a) i) z) : am_Rg n (am_up h a i z) := by
  intro b j hb
  by_cases q : b = a ∧ j = i
  · obtain ⟨rfl, rfl⟩ := q
    rw [am_up_at]
    exact hz hb
  · rw [am_up_ne q]
    exact R b j hb
theorem am_fin_up {n : Nat} {h : am_H} {a i z : Int} (F : am_Fin n h) (h1 : ∀ c k : Nat, am_kd n a = 10 + c → (k : Int) = i → am_off c k = none) (h2 : am_kd n a ≠ 3 ∧ am_kd n a ≠ 4) : am_Fin n (am_up h a i z) := by
  refine ⟨fun b c k o hb ho => ?_, fun b j hb h3 h4 => ?_, fun b j hb h3 h4 => ?_⟩
  · rw [am_up_ne]
    · exact F.1 b c k o hb ho
    · rintro ⟨rfl, q⟩
      rw [h1 c k hb q] at ho
      cases ho
  · rw [am_up_ne]
    · exact F.2.1 b j hb h3 h4
    · rintro ⟨rfl, -⟩
      exact h2.1 hb
  · rw [am_up_ne]
    · exact F.2.2 b j hb h3 h4
    · rintro ⟨rfl, -⟩
      exact h2.2 hb
theorem am_R.put {fin : Bool} {n : Nat} {h h2 : am_H} {ρ : Int → Nat} {cA : Nat → ClassId} {D : va_G} {A : Nat → Prop} {U : State} {H H1 : Heap} (R : am_R fin n h ρ cA D A U H) {a : Int} {e : va_E} (h1 : 1 ≤ a) (h2' : a ≤ n) (hne : ∀ b j : Int, b ≠ a → h2 b j = h b j) (he : am_cell ρ cA h2 (a.toNat - 1) = e) (hP : va_P D am_cl ((am_wld ρ cA h n).set (a.toNat - 1) (ρ a, e)) H1) (hD : va_D A ((am_wld ρ cA h n).set (a.toNat - 1) (ρ a, e))) (hr : am_Rg n h2) (hf : fin = true → am_Fin n h2) : am_R fin n h2 ρ cA D A U H1 := by
  subst he
  rw [← am_wld_set h1 h2' hne] at hP hD
  exact ⟨R.1, R.2.1, hP, hD, hr, hf⟩
theorem am_SX_h {ρ : Int → Nat} {h h2 : am_H} {A : Nat → Prop} {U : State} {H : Heap} (S : am_SX ρ h A U H) (hne : ∀ b j : Int, b < 0 → h2 b j = h b j) : am_SX ρ h2 A U H := by
  obtain ⟨s1, s2, s3, s4, s5, s6, s7, s8, s9, s10, s11⟩ := S
  have e : ∀ j : Int, h2 (-5) j = h (-5) j := fun j => hne _ _ (by omega)
  have e2 : h2 (-6) 0 = h (-6) 0 := hne _ _ (by omega)
  refine ⟨s1, s2, s3, s4, s5, s6, ?_, s8, by rw [e2]; exact s9, by rw [e2]; exact s10, fun j => by rw [e]; exact s11 j⟩
  rw [e2]
  simp only [e]
  exact s7
/-- the cells are others, the rest stays -/
theorem am_X.put {fin : Bool} {M : am_M} {n0 n1 n : Nat} {h h2 : am_H} {ρ ρ0 : Int → Nat} {cA cA0 : Nat → ClassId} {D : va_G} {A : Nat → Prop} {p : Program} {s : State} {m : MethodId} {meth : Method} {c : Code} {args : Array Value} {H H1 : Heap} {locs locs1 : List Loc} (X : am_X fin M n0 n1 n h ρ ρ0 cA cA0 D A p s m meth c args H locs) (R : am_R fin n h2 ρ cA D A s H1) (hS : va_S A s.heap H1 locs1) (hne : ∀ b j : Int, b < 0 → h2 b j = h b j) : am_X fin M n0 n1 n h2 ρ ρ0 cA cA0 D A p s m meth c args H1 locs1 := by
  obtain ⟨x1, x2, x3, x4, x5, x6, x7, x8, x9⟩ := X
  exact ⟨x1, R, hS, x4, am_SX_h x5 hne, x6, x7, x8, x9⟩
theorem am_vin {i : Int} {N : Nat} (h0 : 0 ≤ i) (h1 : i < (N : Int)) (hi : am_i32 i) : vp_in (Int32.ofInt i) N := by
  rintro (q | q)
  · rw [show (0 : Int32) = Int32.ofInt 0 from rfl, am_lt32 hi am_c0] at q
    omega
  · rw [am_nat hi] at q
    omega
section AM_HEAP
variable {fin : Bool} {d : Nat} {M : am_M} {n0 n1 : Nat} {h0 : am_H} {Q : Int → am_H → Prop} {pc : Nat} {ls : List (Option am_V)} {st : List am_V} {n : Nat} {h : am_H}
theorem ar_get {a : Int} {ci k idx : Nat} {C : String} {T : u_T} {N : Nat} (hd : decode M.2.1 pc = .ok (.getfield idx, 3)) (ha : am_kd n a = 10 + ci) (hc : am_cl[ci]? = some (C, T, N)) (hk : k < N) (hw : Cond.fieldLink M.1.cls idx (T k).1 (T k).2.1 (T k).2.2.1 ∈ am_gw) (kk : am_Wp fin d M n0 n1 h0 Q (pc + 3) ls (am_tv (am_ty ci k) (h a k) :: st) n h) : am_Wp fin d M n0 n1 h0 Q pc ls (.inr (.inr a) :: st) n h := by
  intro p l e s m args below meth c H locs ρ ρ0 cA cA0 D A lm X hg hl hs ho
  have hci : ci < 8 := (List.getElem?_eq_some_iff.mp hc).1
  obtain ⟨h1, h2, h3⟩ := am_kd_sh ha (by omega)
  have hN := am_nf_of hc
  have he := am_wld_at (ρ := ρ) (cA := cA) (h := h) h1 h2
  rw [am_cellO h1 h3] at he
  have hv : ((List.range (am_nf ci)).map (fun j : Nat => am_ft ρ (am_ty ci j) (h a j)))[k]? = some (am_ft ρ (am_ty ci k) (h a k)) := by
    rw [List.getElem?_map, List.getElem?_range (by omega)]
    rfl
  have hok : am_okV n (am_tv (am_ty ci k) (h a k)) := by
    have r := X.2.1.2.2.2.2.1 a k (by rw [ha]; omega)
    have e : am_t (am_kd n a) k = am_ty ci k := by
      rw [ha]
      unfold am_t
      split
      · omega
      · omega
      · omega
      · omega
      · omega
      · rw [show 10 + ci - 10 = ci by omega]; rfl
    rw [e] at r
    revert r
    cases am_ty ci k <;> intro r <;> first
      | exact r
      | (rcases r with r | r <;> (rw [r]; show am_i32 _; unfold am_i32; omega))
  have K := kk p l e s m args below meth c H locs ρ ρ0 cA cA0 D A lm X hg hl (am_ok_cons hok (am_ok_tl hs)) ho
  simp only [List.map_cons, am_tv_cv] at K
  simp only [List.map_cons, am_cv, am_rf_some h1]
  exact va_get X.1.1 X.1.2.1 X.1.2.2.2.2.2.1 (am_lay hc) X.1.2.2.2.2.1 X.2.1.K X.2.1.2.2.1 _ he hc k hk (X.1.2.2.2.2.2.1 _ hw) (fun _ q => q) hv hd K
theorem ar_getN {a : Int} {ci k idx : Nat} {C : String} {T : u_T} {N : Nat} {host : String} (hd : decode M.2.1 pc = .ok (.getfield idx, 3)) (ha : am_kd n a = 10 + ci) (hc : am_cl[ci]? = some (C, T, N)) (hk : k < N) (hw : Cond.fieldLinkNest M.1.cls idx (T k).1 (T k).2.1 (T k).2.2.1 host ∈ lw_tbl) (kk : am_Wp fin d M n0 n1 h0 Q (pc + 3) ls (am_tv (am_ty ci k) (h a k) :: st) n h) : am_Wp fin d M n0 n1 h0 Q pc ls (.inr (.inr a) :: st) n h := by
  intro p l e s m args below meth c H locs ρ ρ0 cA cA0 D A lm X hg hl hs ho
  have hci : ci < 8 := (List.getElem?_eq_some_iff.mp hc).1
  obtain ⟨h1, h2, h3⟩ := am_kd_sh ha (by omega)
  have hN := am_nf_of hc
  have he := am_wld_at (ρ := ρ) (cA := cA) (h := h) h1 h2
  rw [am_cellO h1 h3] at he
  have hv : ((List.range (am_nf ci)).map (fun j : Nat => am_ft ρ (am_ty ci j) (h a j)))[k]? = some (am_ft ρ (am_ty ci k) (h a k)) := by
    rw [List.getElem?_map, List.getElem?_range (by omega)]
    rfl
  have hok : am_okV n (am_tv (am_ty ci k) (h a k)) := by
    have r := X.2.1.2.2.2.2.1 a k (by rw [ha]; omega)
    have e : am_t (am_kd n a) k = am_ty ci k := by
      rw [ha]
      unfold am_t
      split
      · omega
      · omega
      · omega
      · omega
      · omega
      · rw [show 10 + ci - 10 = ci by omega]; rfl
    rw [e] at r
    revert r
    cases am_ty ci k <;> intro r <;> first
      | exact r
      | (rcases r with r | r <;> (rw [r]; show am_i32 _; unfold am_i32; omega))
  have K := kk p l e s m args below meth c H locs ρ ρ0 cA cA0 D A lm X hg hl (am_ok_cons hok (am_ok_tl hs)) ho
  simp only [List.map_cons, am_tv_cv] at K
  simp only [List.map_cons, am_cv, am_rf_some h1]
  exact va_getN X.1.1 X.1.2.1 X.1.2.2.2.2.2.1 (am_lay hc) X.1.2.2.2.2.1 X.2.1.K X.2.1.2.2.1 _ he hc k hk ((X.2.2.2.2.1.2.2.2.2.2.1 _ hw rfl).use rfl) (fun _ q => q) hv hd K
end AM_HEAP
