section AM_RULES2
variable {fin : Bool} {d : Nat} {M : am_M} {n0 n1 : Nat} {h0 : am_H} {Q : Int → am_H → Prop} {pc : Nat} {ls : List (Option am_V)} {st : List am_V} {n : Nat} {h : am_H}
theorem ar_istore_n {i : Nat} {x : Int} {ls2 : List (Option am_V)} {k0 : Fin 4} (hd : decode M.2.1 pc = .ok (.istore_n k0, 1)) (hi : (k0 : Nat) = i) (hi2 : i < M.2.2.1) (he : am_set1 ls i (.inl x) = ls2) (k : am_Wp fin d M n0 n1 h0 Q (pc + 1) ls2 st n h) : am_Wp fin d M n0 n1 h0 Q pc ls ((.inl x) :: st) n h := by
  intro p l e s m args below meth c H locs ρ ρ0 cA cA0 D A lm X hg hl hs ho
  subst he
  exact lv_istore_n X.1.1 X.1.2.1 hd hi hl hi2 rfl (fun lm2 hl2 => k p l e s m args below meth c H locs ρ ρ0 cA cA0 D A lm2 X hg (am_keep1 rfl hl2) (am_ok_tl hs) (am_ok_set1 ho (am_ok_hd hs)))
theorem ar_istore {i : Nat} {x : Int} {ls2 : List (Option am_V)} (hd : decode M.2.1 pc = .ok (.istore i, 2)) (hi2 : i < M.2.2.1) (he : am_set1 ls i (.inl x) = ls2) (k : am_Wp fin d M n0 n1 h0 Q (pc + 2) ls2 st n h) : am_Wp fin d M n0 n1 h0 Q pc ls ((.inl x) :: st) n h := by
  intro p l e s m args below meth c H locs ρ ρ0 cA cA0 D A lm X hg hl hs ho
  subst he
  exact lv_istore X.1.1 X.1.2.1 hd hl hi2 rfl (fun lm2 hl2 => k p l e s m args below meth c H locs ρ ρ0 cA cA0 D A lm2 X hg (am_keep1 rfl hl2) (am_ok_tl hs) (am_ok_set1 ho (am_ok_hd hs)))
theorem ar_lstore_n {i : Nat} {x : Int} {ls2 : List (Option am_V)} {k0 : Fin 4} (hd : decode M.2.1 pc = .ok (.lstore_n k0, 1)) (hi : (k0 : Nat) = i) (hi2 : i + 1 < M.2.2.1) (he : am_set2 ls i (.inr (.inl x)) = ls2) (k : am_Wp fin d M n0 n1 h0 Q (pc + 1) ls2 st n h) : am_Wp fin d M n0 n1 h0 Q pc ls ((.inr (.inl x)) :: st) n h := by
  intro p l e s m args below meth c H locs ρ ρ0 cA cA0 D A lm X hg hl hs ho
  subst he
  exact lv_lstore_n X.1.1 X.1.2.1 hd hi hl hi2 rfl (fun lm2 hl2 => k p l e s m args below meth c H locs ρ ρ0 cA cA0 D A lm2 X hg (am_keep2 rfl hl2) (am_ok_tl hs) (am_ok_set2 ho (am_ok_hd hs)))
theorem ar_lstore {i : Nat} {x : Int} {ls2 : List (Option am_V)} (hd : decode M.2.1 pc = .ok (.lstore i, 2)) (hi2 : i + 1 < M.2.2.1) (he : am_set2 ls i (.inr (.inl x)) = ls2) (k : am_Wp fin d M n0 n1 h0 Q (pc + 2) ls2 st n h) : am_Wp fin d M n0 n1 h0 Q pc ls ((.inr (.inl x)) :: st) n h := by
  intro p l e s m args below meth c H locs ρ ρ0 cA cA0 D A lm X hg hl hs ho
  subst he
  exact lv_lstore X.1.1 X.1.2.1 hd hl hi2 rfl (fun lm2 hl2 => k p l e s m args below meth c H locs ρ ρ0 cA cA0 D A lm2 X hg (am_keep2 rfl hl2) (am_ok_tl hs) (am_ok_set2 ho (am_ok_hd hs)))
theorem ar_astore_n {i : Nat} {x : Int} {ls2 : List (Option am_V)} {k0 : Fin 4} (hd : decode M.2.1 pc = .ok (.astore_n k0, 1)) (hi : (k0 : Nat) = i) (hi2 : i < M.2.2.1) (he : am_set1 ls i (.inr (.inr x)) = ls2) (k : am_Wp fin d M n0 n1 h0 Q (pc + 1) ls2 st n h) : am_Wp fin d M n0 n1 h0 Q pc ls (.inr (.inr x) :: st) n h := by
  intro p l e s m args below meth c H locs ρ ρ0 cA cA0 D A lm X hg hl hs ho
  subst he
  simp only [List.map_cons, am_cv]
  cases hr : am_rf ρ x with
  | none => exact lv_astore_nN X.1.1 X.1.2.1 hd hi hl hi2 rfl (fun lm2 hl2 => k p l e s m args below meth c H locs ρ ρ0 cA cA0 D A lm2 X hg (am_keep1 (x := Value.null) (by simp only [am_cv, hr]; rfl) hl2) (am_ok_tl hs) (am_ok_set1 ho (am_ok_hd hs)))
  | some y => exact lv_astore_n X.1.1 X.1.2.1 hd hi hl hi2 rfl (fun lm2 hl2 => k p l e s m args below meth c H locs ρ ρ0 cA cA0 D A lm2 X hg (am_keep1 (x := Value.ref y) (by simp only [am_cv, hr]; rfl) hl2) (am_ok_tl hs) (am_ok_set1 ho (am_ok_hd hs)))
theorem ar_astore {i : Nat} {x : Int} {ls2 : List (Option am_V)} (hd : decode M.2.1 pc = .ok (.astore i, 2)) (hi2 : i < M.2.2.1) (he : am_set1 ls i (.inr (.inr x)) = ls2) (k : am_Wp fin d M n0 n1 h0 Q (pc + 2) ls2 st n h) : am_Wp fin d M n0 n1 h0 Q pc ls (.inr (.inr x) :: st) n h := by
  intro p l e s m args below meth c H locs ρ ρ0 cA cA0 D A lm X hg hl hs ho
  subst he
  simp only [List.map_cons, am_cv]
  cases hr : am_rf ρ x with
  | none => exact lv_astoreN X.1.1 X.1.2.1 hd hl hi2 rfl (fun lm2 hl2 => k p l e s m args below meth c H locs ρ ρ0 cA cA0 D A lm2 X hg (am_keep1 (x := Value.null) (by simp only [am_cv, hr]; rfl) hl2) (am_ok_tl hs) (am_ok_set1 ho (am_ok_hd hs)))
  | some y => exact lv_astore X.1.1 X.1.2.1 hd hl hi2 rfl (fun lm2 hl2 => k p l e s m args below meth c H locs ρ ρ0 cA cA0 D A lm2 X hg (am_keep1 (x := Value.ref y) (by simp only [am_cv, hr]; rfl) hl2) (am_ok_tl hs) (am_ok_set1 ho (am_ok_hd hs)))
theorem ar_iinc {i : Nat} {z x : Int} {ls2 : List (Option am_V)} (hd : decode M.2.1 pc = .ok (.iinc i z, 3)) (hx : ls[i]? = some (some (.inl x))) (hi2 : i < M.2.2.1) (he : am_set1 ls i (.inl (am_w32 (x + z))) = ls2) (k : am_Wp fin d M n0 n1 h0 Q (pc + 3) ls2 st n h) : am_Wp fin d M n0 n1 h0 Q pc ls st n h := by
  intro p l e s m args below meth c H locs ρ ρ0 cA cA0 D A lm X hg hl hs ho
  subst he
  obtain ⟨j, hj⟩ := List.getElem?_of_mem (am_ll_mem (ρ := ρ) (q := (i, am_cv ρ (.inl x))).mpr ⟨_, hx, rfl⟩)
  exact lv_iinc (v := Int32.ofInt (am_w32 (x + z))) X.1.1 X.1.2.1 hd hl hj (by rw [am_w32_e, Int32.ofInt_add]) hi2 rfl (fun lm2 hl2 => k p l e s m args below meth c H locs ρ ρ0 cA cA0 D A lm2 X hg (am_keep1 rfl hl2) hs (am_ok_set1 ho (am_ok32 _)))
theorem ar_iadd {x y : Int} (hd : decode M.2.1 pc = .ok (.iadd, 1)) (k : am_Wp fin d M n0 n1 h0 Q (pc + 1) ls ((.inl (am_w32 (x + y))) :: st) n h) : am_Wp fin d M n0 n1 h0 Q pc ls ((.inl y) :: (.inl x) :: st) n h := by
  intro p l e s m args below meth c H locs ρ ρ0 cA cA0 D A lm X hg hl hs ho
  refine lv_iadd X.1.1 X.1.2.1 hd ?_
  have K := k p l e s m args below meth c H locs ρ ρ0 cA cA0 D A lm X hg hl (am_ok_cons (am_ok32 _) (am_ok_tl (am_ok_tl hs))) ho
  have E : Int32.ofInt (am_w32 (x + y)) = Int32.ofInt x + Int32.ofInt y := by rw [am_w32_e, Int32.ofInt_add]
  simp only [List.map_cons, am_cv, E] at K
  exact K
theorem ar_ladd {x y : Int} (hd : decode M.2.1 pc = .ok (.ladd, 1)) (k : am_Wp fin d M n0 n1 h0 Q (pc + 1) ls ((.inr (.inl (am_w64 (x + y)))) :: st) n h) : am_Wp fin d M n0 n1 h0 Q pc ls ((.inr (.inl y)) :: (.inr (.inl x)) :: st) n h := by
  intro p l e s m args below meth c H locs ρ ρ0 cA cA0 D A lm X hg hl hs ho
  refine lv_ladd X.1.1 X.1.2.1 hd ?_
  have K := k p l e s m args below meth c H locs ρ ρ0 cA cA0 D A lm X hg hl (am_ok_cons (am_ok64 _) (am_ok_tl (am_ok_tl hs))) ho
  have E : Int64.ofInt (am_w64 (x + y)) = Int64.ofInt x + Int64.ofInt y := by rw [am_w64_e, Int64.ofInt_add]
  simp only [List.map_cons, am_cv, E] at K
  exact K
theorem ar_isub {x y : Int} (hd : decode M.2.1 pc = .ok (.isub, 1)) (k : am_Wp fin d M n0 n1 h0 Q (pc + 1) ls ((.inl (am_w32 (x - y))) :: st) n h) : am_Wp fin d M n0 n1 h0 Q pc ls ((.inl y) :: (.inl x) :: st) n h := by
  intro p l e s m args below meth c H locs ρ ρ0 cA cA0 D A lm X hg hl hs ho
  refine lv_isub X.1.1 X.1.2.1 hd ?_
  have K := k p l e s m args below meth c H locs ρ ρ0 cA cA0 D A lm X hg hl (am_ok_cons (am_ok32 _) (am_ok_tl (am_ok_tl hs))) ho
  have E : Int32.ofInt (am_w32 (x - y)) = Int32.ofInt x - Int32.ofInt y := by rw [am_w32_e, Int32.ofInt_sub]
  simp only [List.map_cons, am_cv, E] at K
  exact K
theorem ar_lsub {x y : Int} (hd : decode M.2.1 pc = .ok (.lsub, 1)) (k : am_Wp fin d M n0 n1 h0 Q (pc + 1) ls ((.inr (.inl (am_w64 (x - y)))) :: st) n h) : am_Wp fin d M n0 n1 h0 Q pc ls ((.inr (.inl y)) :: (.inr (.inl x)) :: st) n h := by
  intro p l e s m args below meth c H locs ρ ρ0 cA cA0 D A lm X hg hl hs ho
  refine lv_lsub X.1.1 X.1.2.1 hd ?_
  have K := k p l e s m args below meth c H locs ρ ρ0 cA cA0 D A lm X hg hl (am_ok_cons (am_ok64 _) (am_ok_tl (am_ok_tl hs))) ho
  have E : Int64.ofInt (am_w64 (x - y)) = Int64.ofInt x - Int64.ofInt y := by rw [am_w64_e, Int64.ofInt_sub]
  simp only [List.map_cons, am_cv, E] at K
  exact K
theorem ar_imul {x y : Int} (hd : decode M.2.1 pc = .ok (.imul, 1)) (k : am_Wp fin d M n0 n1 h0 Q (pc + 1) ls ((.inl (am_w32 (x * y))) :: st) n h) : am_Wp fin d M n0 n1 h0 Q pc ls ((.inl y) :: (.inl x) :: st) n h := by
  intro p l e s m args below meth c H locs ρ ρ0 cA cA0 D A lm X hg hl hs ho
  refine lv_imul X.1.1 X.1.2.1 hd ?_
  have K := k p l e s m args below meth c H locs ρ ρ0 cA cA0 D A lm X hg hl (am_ok_cons (am_ok32 _) (am_ok_tl (am_ok_tl hs))) ho
  have E : Int32.ofInt (am_w32 (x * y)) = Int32.ofInt x * Int32.ofInt y := by rw [am_w32_e, Int32.ofInt_mul]
  simp only [List.map_cons, am_cv, E] at K
  exact K
theorem ar_lmul {x y : Int} (hd : decode M.2.1 pc = .ok (.lmul, 1)) (k : am_Wp fin d M n0 n1 h0 Q (pc + 1) ls ((.inr (.inl (am_w64 (x * y)))) :: st) n h) : am_Wp fin d M n0 n1 h0 Q pc ls ((.inr (.inl y)) :: (.inr (.inl x)) :: st) n h := by
  intro p l e s m args below meth c H locs ρ ρ0 cA cA0 D A lm X hg hl hs ho
  refine lv_lmul X.1.1 X.1.2.1 hd ?_
  have K := k p l e s m args below meth c H locs ρ ρ0 cA cA0 D A lm X hg hl (am_ok_cons (am_ok64 _) (am_ok_tl (am_ok_tl hs))) ho
  have E : Int64.ofInt (am_w64 (x * y)) = Int64.ofInt x * Int64.ofInt y := by rw [am_w64_e, Int64.ofInt_mul]
  simp only [List.map_cons, am_cv, E] at K
  exact K
theorem ar_iand {x y : Int} (hd : decode M.2.1 pc = .ok (.iand, 1)) (k : am_Wp fin d M n0 n1 h0 Q (pc + 1) ls ((.inl (am_iand x y)) :: st) n h) : am_Wp fin d M n0 n1 h0 Q pc ls ((.inl y) :: (.inl x) :: st) n h := by
  intro p l e s m args below meth c H locs ρ ρ0 cA cA0 D A lm X hg hl hs ho
  refine lv_iand X.1.1 X.1.2.1 hd ?_
  have K := k p l e s m args below meth c H locs ρ ρ0 cA cA0 D A lm X hg hl (am_ok_cons (am_ok32 _) (am_ok_tl (am_ok_tl hs))) ho
  have E : Int32.ofInt (am_iand x y) = Int32.ofInt x &&& Int32.ofInt y := Int32.ofInt_toInt _
  simp only [List.map_cons, am_cv, E] at K
  exact K
theorem ar_land {x y : Int} (hd : decode M.2.1 pc = .ok (.land, 1)) (k : am_Wp fin d M n0 n1 h0 Q (pc + 1) ls ((.inr (.inl (am_land x y))) :: st) n h) : am_Wp fin d M n0 n1 h0 Q pc ls ((.inr (.inl y)) :: (.inr (.inl x)) :: st) n h := by
  intro p l e s m args below meth c H locs ρ ρ0 cA cA0 D A lm X hg hl hs ho
  refine lv_land X.1.1 X.1.2.1 hd ?_
  have K := k p l e s m args below meth c H locs ρ ρ0 cA cA0 D A lm X hg hl (am_ok_cons (am_ok64 _) (am_ok_tl (am_ok_tl hs))) ho
  have E : Int64.ofInt (am_land x y) = Int64.ofInt x &&& Int64.ofInt y := Int64.ofInt_toInt _
  simp only [List.map_cons, am_cv, E] at K
  exact K
theorem ar_ior {x y : Int} (hd : decode M.2.1 pc = .ok (.ior, 1)) (k : am_Wp fin d M n0 n1 h0 Q (pc + 1) ls ((.inl (am_ior x y)) :: st) n h) : am_Wp fin d M n0 n1 h0 Q pc ls ((.inl y) :: (.inl x) :: st) n h := by
  intro p l e s m args below meth c H locs ρ ρ0 cA cA0 D A lm X hg hl hs ho
  refine lv_ior X.1.1 X.1.2.1 hd ?_
  have K := k p l e s m args below meth c H locs ρ ρ0 cA cA0 D A lm X hg hl (am_ok_cons (am_ok32 _) (am_ok_tl (am_ok_tl hs))) ho
  have E : Int32.ofInt (am_ior x y) = Int32.ofInt x ||| Int32.ofInt y := Int32.ofInt_toInt _
  simp only [List.map_cons, am_cv, E] at K
  exact K
theorem ar_lor {x y : Int} (hd : decode M.2.1 pc = .ok (.lor, 1)) (k : am_Wp fin d M n0 n1 h0 Q (pc + 1) ls ((.inr (.inl (am_lor x y))) :: st) n h) : am_Wp fin d M n0 n1 h0 Q pc ls ((.inr (.inl y)) :: (.inr (.inl x)) :: st) n h := by
  intro p l e s m args below meth c H locs ρ ρ0 cA cA0 D A lm X hg hl hs ho
  refine lv_lor X.1.1 X.1.2.1 hd ?_
  have K := k p l e s m args below meth c H locs ρ ρ0 cA cA0 D A lm X hg hl (am_ok_cons (am_ok64 _) (am_ok_tl (am_ok_tl hs))) ho
  have E : Int64.ofInt (am_lor x y) = Int64.ofInt x ||| Int64.ofInt y := Int64.ofInt_toInt _
  simp only [List.map_cons, am_cv, E] at K
  exact K
theorem ar_ixor {x y : Int} (hd : decode M.2.1 pc = .ok (.ixor, 1)) (k : am_Wp fin d M n0 n1 h0 Q (pc + 1) ls ((.inl (am_ixor x y)) :: st) n h) : am_Wp fin d M n0 n1 h0 Q pc ls ((.inl y) :: (.inl x) :: st) n h := by
  intro p l e s m args below meth c H locs ρ ρ0 cA cA0 D A lm X hg hl hs ho
  refine lv_ixor X.1.1 X.1.2.1 hd ?_
  have K := k p l e s m args below meth c H locs ρ ρ0 cA cA0 D A lm X hg hl (am_ok_cons (am_ok32 _) (am_ok_tl (am_ok_tl hs))) ho
  have E : Int32.ofInt (am_ixor x y) = Int32.ofInt x ^^^ Int32.ofInt y := Int32.ofInt_toInt _
  simp only [List.map_cons, am_cv, E] at K
  exact K
theorem ar_lxor {x y : Int} (hd : decode M.2.1 pc = .ok (.lxor, 1)) (k : am_Wp fin d M n0 n1 h0 Q (pc + 1) ls ((.inr (.inl (am_lxor x y))) :: st) n h) : am_Wp fin d M n0 n1 h0 Q pc ls ((.inr (.inl y)) :: (.inr (.inl x)) :: st) n h := by
  intro p l e s m args below meth c H locs ρ ρ0 cA cA0 D A lm X hg hl hs ho
  refine lv_lxor X.1.1 X.1.2.1 hd ?_
  have K := k p l e s m args below meth c H locs ρ ρ0 cA cA0 D A lm X hg hl (am_ok_cons (am_ok64 _) (am_ok_tl (am_ok_tl hs))) ho
  have E : Int64.ofInt (am_lxor x y) = Int64.ofInt x ^^^ Int64.ofInt y := Int64.ofInt_toInt _
  simp only [List.map_cons, am_cv, E] at K
  exact K
theorem ar_ishl {x y : Int} (hd : decode M.2.1 pc = .ok (.ishl, 1)) (k : am_Wp fin d M n0 n1 h0 Q (pc + 1) ls ((.inl (am_ishl x y)) :: st) n h) : am_Wp fin d M n0 n1 h0 Q pc ls ((.inl y) :: (.inl x) :: st) n h := by
  intro p l e s m args below meth c H locs ρ ρ0 cA cA0 D A lm X hg hl hs ho
  refine lv_ishl X.1.1 X.1.2.1 hd ?_
  have K := k p l e s m args below meth c H locs ρ ρ0 cA cA0 D A lm X hg hl (am_ok_cons (am_ok32 _) (am_ok_tl (am_ok_tl hs))) ho
  have E : Int32.ofInt (am_ishl x y) = Int32.ofInt x <<< (Int32.ofInt y &&& 31) := Int32.ofInt_toInt _
  simp only [List.map_cons, am_cv, E] at K
  exact K
theorem ar_ishr {x y : Int} (hd : decode M.2.1 pc = .ok (.ishr, 1)) (k : am_Wp fin d M n0 n1 h0 Q (pc + 1) ls ((.inl (am_ishr x y)) :: st) n h) : am_Wp fin d M n0 n1 h0 Q pc ls ((.inl y) :: (.inl x) :: st) n h := by
  intro p l e s m args below meth c H locs ρ ρ0 cA cA0 D A lm X hg hl hs ho
  refine lv_ishr X.1.1 X.1.2.1 hd ?_
  have K := k p l e s m args below meth c H locs ρ ρ0 cA cA0 D A lm X hg hl (am_ok_cons (am_ok32 _) (am_ok_tl (am_ok_tl hs))) ho
  have E : Int32.ofInt (am_ishr x y) = Int32.ofInt x >>> (Int32.ofInt y &&& 31) := Int32.ofInt_toInt _
  simp only [List.map_cons, am_cv, E] at K
  exact K
theorem am_nz32 {y : Int} (hy : am_i32 y) (h : y ≠ 0) : ¬ Int32.ofInt y = 0 := fun q => h ((am_eq32 hy am_c0).mp q)
theorem am_nz64 {y : Int} (hy : am_i64 y) (h : y ≠ 0) : ¬ Int64.ofInt y = 0 := fun q => h ((am_eq64 hy am_c0l).mp q)
theorem am_mn32 : Int32.minValue.toInt = -2147483648 := by decide
theorem am_mx32 : Int32.maxValue.toInt = 2147483647 := by decide
theorem am_mn64 : Int64.minValue.toInt = -9223372036854775808 := by decide
theorem am_mx64 : Int64.maxValue.toInt = 9223372036854775807 := by decide
theorem am_div32 {x y : Int} (hx : am_i32 x) (hy : am_i32 y) : Int32.ofInt (x.tdiv y) = Int32.ofInt x / Int32.ofInt y := by
  unfold am_i32 at hx hy
  exact Int32.ofInt_tdiv (by rw [am_mn32]; omega) (by rw [am_mx32]; omega) (by rw [am_mn32]; omega) (by rw [am_mx32]; omega)
theorem am_div64 {x y : Int} (hx : am_i64 x) (hy : am_i64 y) : Int64.ofInt (x.tdiv y) = Int64.ofInt x / Int64.ofInt y := by
  unfold am_i64 at hx hy
  exact Int64.ofInt_tdiv (by rw [am_mn64]; omega) (by rw [am_mx64]; omega) (by rw [am_mn64]; omega) (by rw [am_mx64]; omega)
theorem am_tm (x y : Int) : x.tmod y = x - x.tdiv y * y := by rw [Int.tmod_def, Int.mul_comm]
theorem ar_idiv {x y : Int} (hd : decode M.2.1 pc = .ok (.idiv, 1)) (hz : y ≠ 0) (k : am_Wp fin d M n0 n1 h0 Q (pc + 1) ls ((.inl (am_w32 (x.tdiv y))) :: st) n h) : am_Wp fin d M n0 n1 h0 Q pc ls ((.inl y) :: (.inl x) :: st) n h := by
  intro p l e s m args below meth c H locs ρ ρ0 cA cA0 D A lm X hg hl hs ho
  refine lv_idiv X.1.1 X.1.2.1 hd (am_nz32 (am_ok_hd hs) hz) ?_
  have K := k p l e s m args below meth c H locs ρ ρ0 cA cA0 D A lm X hg hl (am_ok_cons (am_ok32 _) (am_ok_tl (am_ok_tl hs))) ho
  have E : Int32.ofInt (am_w32 (x.tdiv y)) = Int32.ofInt x / Int32.ofInt y := by rw [am_w32_e, am_div32 (am_ok_hd (am_ok_tl hs)) (am_ok_hd hs)]
  simp only [List.map_cons, am_cv, E] at K
  exact K
theorem ar_ldiv {x y : Int} (hd : decode M.2.1 pc = .ok (.ldiv, 1)) (hz : y ≠ 0) (k : am_Wp fin d M n0 n1 h0 Q (pc + 1) ls ((.inr (.inl (am_w64 (x.tdiv y)))) :: st) n h) : am_Wp fin d M n0 n1 h0 Q pc ls ((.inr (.inl y)) :: (.inr (.inl x)) :: st) n h := by
  intro p l e s m args below meth c H locs ρ ρ0 cA cA0 D A lm X hg hl hs ho
  refine lv_ldiv X.1.1 X.1.2.1 hd (am_nz64 (am_ok_hd hs) hz) ?_
  have K := k p l e s m args below meth c H locs ρ ρ0 cA cA0 D A lm X hg hl (am_ok_cons (am_ok64 _) (am_ok_tl (am_ok_tl hs))) ho
  have E : Int64.ofInt (am_w64 (x.tdiv y)) = Int64.ofInt x / Int64.ofInt y := by rw [am_w64_e, am_div64 (am_ok_hd (am_ok_tl hs)) (am_ok_hd hs)]
  simp only [List.map_cons, am_cv, E] at K
  exact K
theorem ar_irem {x y : Int} (hd : decode M.2.1 pc = .ok (.irem, 1)) (hz : y ≠ 0) (k : am_Wp fin d M n0 n1 h0 Q (pc + 1) ls ((.inl (am_w32 (x.tmod y))) :: st) n h) : am_Wp fin d M n0 n1 h0 Q pc ls ((.inl y) :: (.inl x) :: st) n h := by
  intro p l e s m args below meth c H locs ρ ρ0 cA cA0 D A lm X hg hl hs ho
  refine lv_irem X.1.1 X.1.2.1 hd (am_nz32 (am_ok_hd hs) hz) ?_
  have K := k p l e s m args below meth c H locs ρ ρ0 cA cA0 D A lm X hg hl (am_ok_cons (am_ok32 _) (am_ok_tl (am_ok_tl hs))) ho
  have E : Int32.ofInt (am_w32 (x.tmod y)) = Int32.ofInt x - Int32.ofInt x / Int32.ofInt y * Int32.ofInt y := by rw [am_w32_e, am_tm, Int32.ofInt_sub, Int32.ofInt_mul, am_div32 (am_ok_hd (am_ok_tl hs)) (am_ok_hd hs)]
  simp only [List.map_cons, am_cv, E] at K
  exact K
theorem ar_lrem {x y : Int} (hd : decode M.2.1 pc = .ok (.lrem, 1)) (hz : y ≠ 0) (k : am_Wp fin d M n0 n1 h0 Q (pc + 1) ls ((.inr (.inl (am_w64 (x.tmod y)))) :: st) n h) : am_Wp fin d M n0 n1 h0 Q pc ls ((.inr (.inl y)) :: (.inr (.inl x)) :: st) n h := by
  intro p l e s m args below meth c H locs ρ ρ0 cA cA0 D A lm X hg hl hs ho
  refine lv_lrem X.1.1 X.1.2.1 hd (am_nz64 (am_ok_hd hs) hz) ?_
  have K := k p l e s m args below meth c H locs ρ ρ0 cA cA0 D A lm X hg hl (am_ok_cons (am_ok64 _) (am_ok_tl (am_ok_tl hs))) ho
  have E : Int64.ofInt (am_w64 (x.tmod y)) = Int64.ofInt x - Int64.ofInt x / Int64.ofInt y * Int64.ofInt y := by rw [am_w64_e, am_tm, Int64.ofInt_sub, Int64.ofInt_mul, am_div64 (am_ok_hd (am_ok_tl hs)) (am_ok_hd hs)]
  simp only [List.map_cons, am_cv, E] at K
  exact K
theorem ar_lshl {x y : Int} (hd : decode M.2.1 pc = .ok (.lshl, 1)) (k : am_Wp fin d M n0 n1 h0 Q (pc + 1) ls (.inr (.inl (am_lshl x y)) :: st) n h) : am_Wp fin d M n0 n1 h0 Q pc ls (.inl y :: .inr (.inl x) :: st) n h := by
  intro p l e s m args below meth c H locs ρ ρ0 cA cA0 D A lm X hg hl hs ho
  exact lv_lshl X.1.1 X.1.2.1 hd (v := Int64.ofInt (am_lshl x y)) (Int64.ofInt_toInt _).symm (k p l e s m args below meth c H locs ρ ρ0 cA cA0 D A lm X hg hl (am_ok_cons (am_ok64 _) (am_ok_tl (am_ok_tl hs))) ho)
theorem ar_lshr {x y : Int} (hd : decode M.2.1 pc = .ok (.lshr, 1)) (k : am_Wp fin d M n0 n1 h0 Q (pc + 1) ls (.inr (.inl (am_lshr x y)) :: st) n h) : am_Wp fin d M n0 n1 h0 Q pc ls (.inl y :: .inr (.inl x) :: st) n h := by
  intro p l e s m args below meth c H locs ρ ρ0 cA cA0 D A lm X hg hl hs ho
  exact lv_lshr X.1.1 X.1.2.1 hd (v := Int64.ofInt (am_lshr x y)) (Int64.ofInt_toInt _).symm (k p l e s m args below meth c H locs ρ ρ0 cA cA0 D A lm X hg hl (am_ok_cons (am_ok64 _) (am_ok_tl (am_ok_tl hs))) ho)
theorem ar_lcmp {x y : Int} (hd : decode M.2.1 pc = .ok (.lcmp, 1)) (k : am_Wp fin d M n0 n1 h0 Q (pc + 1) ls (.inl (am_lcmp x y) :: st) n h) : am_Wp fin d M n0 n1 h0 Q pc ls (.inr (.inl y) :: .inr (.inl x) :: st) n h := by
  intro p l e s m args below meth c H locs ρ ρ0 cA cA0 D A lm X hg hl hs ho
  have E : lg_cmp (Int64.ofInt x) (Int64.ofInt y) = Int32.ofInt (am_lcmp x y) := by
    unfold lg_cmp am_lcmp
    have h1 := am_lt64 (am_ok_hd hs) (am_ok_hd (am_ok_tl hs))
    have h2 := am_eq64 (am_ok_hd (am_ok_tl hs)) (am_ok_hd hs)
    simp only [gt_iff_lt, h1, h2]
    split
    · rfl
    · split <;> rfl
  have hz : am_i32 (am_lcmp x y) := by
    unfold am_lcmp am_i32
    split
    · omega
    · split <;> omega
  refine W.lcmp X.1.1 X.1.2.1 hd ?_
  rw [E]
  exact k p l e s m args below meth c H locs ρ ρ0 cA cA0 D A lm X hg hl (am_ok_cons hz (am_ok_tl (am_ok_tl hs))) ho
theorem ar_ineg {x : Int} (hd : decode M.2.1 pc = .ok (.ineg, 1)) (k : am_Wp fin d M n0 n1 h0 Q (pc + 1) ls (.inl (am_w32 (-x)) :: st) n h) : am_Wp fin d M n0 n1 h0 Q pc ls (.inl x :: st) n h := by
  intro p l e s m args below meth c H locs ρ ρ0 cA cA0 D A lm X hg hl hs ho
  refine lv_ineg X.1.1 X.1.2.1 hd ?_
  have K := k p l e s m args below meth c H locs ρ ρ0 cA cA0 D A lm X hg hl (am_ok_cons (am_ok32 _) (am_ok_tl hs)) ho
  simp only [List.map_cons, am_cv, am_w32_e, Int32.ofInt_neg] at K
  exact K
theorem ar_lneg {x : Int} (hd : decode M.2.1 pc = .ok (.lneg, 1)) (k : am_Wp fin d M n0 n1 h0 Q (pc + 1) ls (.inr (.inl (am_w64 (-x))) :: st) n h) : am_Wp fin d M n0 n1 h0 Q pc ls (.inr (.inl x) :: st) n h := by
  intro p l e s m args below meth c H locs ρ ρ0 cA cA0 D A lm X hg hl hs ho
  refine lv_lneg X.1.1 X.1.2.1 hd ?_
  have K := k p l e s m args below meth c H locs ρ ρ0 cA cA0 D A lm X hg hl (am_ok_cons (am_ok64 _) (am_ok_tl hs)) ho
  simp only [List.map_cons, am_cv, am_w64_e, Int64.ofInt_neg] at K
  exact K
theorem ar_i2l {x : Int} (hd : decode M.2.1 pc = .ok (.i2l, 1)) (k : am_Wp fin d M n0 n1 h0 Q (pc + 1) ls (.inr (.inl x) :: st) n h) : am_Wp fin d M n0 n1 h0 Q pc ls (.inl x :: st) n h := by
  intro p l e s m args below meth c H locs ρ ρ0 cA cA0 D A lm X hg hl hs ho
  have hx : am_i32 x := am_ok_hd hs
  exact lv_i2l X.1.1 X.1.2.1 hd (v := Int64.ofInt x) (Int32.toInt64_ofInt (by rw [am_mn32]; exact hx.1) (by rw [am_mx32]; exact hx.2)) (k p l e s m args below meth c H locs ρ ρ0 cA cA0 D A lm X hg hl (am_ok_cons (am_32_64 hx) (am_ok_tl hs)) ho)
theorem ar_l2i {x : Int} (hd : decode M.2.1 pc = .ok (.l2i, 1)) (k : am_Wp fin d M n0 n1 h0 Q (pc + 1) ls (.inl (am_l2i x) :: st) n h) : am_Wp fin d M n0 n1 h0 Q pc ls (.inr (.inl x) :: st) n h := by
  intro p l e s m args below meth c H locs ρ ρ0 cA cA0 D A lm X hg hl hs ho
  exact lv_l2i X.1.1 X.1.2.1 hd (v := Int32.ofInt (am_l2i x)) (Int32.ofInt_toInt _).symm (k p l e s m args below meth c H locs ρ ρ0 cA cA0 D A lm X hg hl (am_ok_cons (am_ok32 _) (am_ok_tl hs)) ho)
theorem ar_i2c {x : Int} (hd : decode M.2.1 pc = .ok (.i2c, 1)) (k : am_Wp fin d M n0 n1 h0 Q (pc + 1) ls (.inl (am_i2c x) :: st) n h) : am_Wp fin d M n0 n1 h0 Q pc ls (.inl x :: st) n h := by
  intro p l e s m args below meth c H locs ρ ρ0 cA cA0 D A lm X hg hl hs ho
  exact lv_i2c X.1.1 X.1.2.1 hd (v := Int32.ofInt (am_i2c x)) (Int32.ofInt_toInt _).symm (k p l e s m args below meth c H locs ρ ρ0 cA cA0 D A lm X hg hl (am_ok_cons (am_ok32 _) (am_ok_tl hs)) ho)
theorem am_cat1 (ρ : Int → Nat) {v : am_V} (h : (v.elim (fun _ => True) (fun u => u.elim (fun _ => False) (fun _ => True)))) : (am_cv ρ v).category = 1 := by
  rcases lv_cat (am_cv ρ v) with q | q
  · exact q
  · obtain ⟨z, rfl⟩ := (am_cat ρ v).mp q
    exact h.elim
theorem ar_dup {v : am_V} (hd : decode M.2.1 pc = .ok (.dup, 1)) (hv : (v.elim (fun _ => True) (fun u => u.elim (fun _ => False) (fun _ => True)))) (k : am_Wp fin d M n0 n1 h0 Q (pc + 1) ls (v :: v :: st) n h) : am_Wp fin d M n0 n1 h0 Q pc ls (v :: st) n h := by
  intro p l e s m args below meth c H locs ρ ρ0 cA cA0 D A lm X hg hl hs ho
  exact lv_dup X.1.1 X.1.2.1 hd (am_cat1 ρ hv) (k p l e s m args below meth c H locs ρ ρ0 cA cA0 D A lm X hg hl (am_ok_cons (am_ok_hd hs) hs) ho)
theorem ar_pop {v : am_V} (hd : decode M.2.1 pc = .ok (.pop, 1)) (hv : (v.elim (fun _ => True) (fun u => u.elim (fun _ => False) (fun _ => True)))) (k : am_Wp fin d M n0 n1 h0 Q (pc + 1) ls st n h) : am_Wp fin d M n0 n1 h0 Q pc ls (v :: st) n h := by
  intro p l e s m args below meth c H locs ρ ρ0 cA cA0 D A lm X hg hl hs ho
  exact lv_pop X.1.1 X.1.2.1 hd (am_cat1 ρ hv) (k p l e s m args below meth c H locs ρ ρ0 cA cA0 D A lm X hg hl (am_ok_tl hs) ho)
theorem ar_dup2 {v1 v2 : am_V} (hd : decode M.2.1 pc = .ok (.dup2, 1)) (hv1 : (v1.elim (fun _ => True) (fun u => u.elim (fun _ => False) (fun _ => True)))) (hv2 : (v2.elim (fun _ => True) (fun u => u.elim (fun _ => False) (fun _ => True)))) (k : am_Wp fin d M n0 n1 h0 Q (pc + 1) ls (v1 :: v2 :: v1 :: v2 :: st) n h) : am_Wp fin d M n0 n1 h0 Q pc ls (v1 :: v2 :: st) n h := by
  intro p l e s m args below meth c H locs ρ ρ0 cA cA0 D A lm X hg hl hs ho
  exact lv_dup2_11 X.1.1 X.1.2.1 hd (am_cat1 ρ hv1) (am_cat1 ρ hv2) (k p l e s m args below meth c H locs ρ ρ0 cA cA0 D A lm X hg hl (am_ok_cons (am_ok_hd hs) (am_ok_cons (am_ok_hd (am_ok_tl hs)) hs)) ho)
theorem ar_if_eq {x off : Int} {tgt : Nat} (hd : decode M.2.1 pc = .ok (.ifCond .eq off, 3)) (ht : (pc : Int) + off = (tgt : Int)) (kt : x = 0 → am_Wp fin d M n0 n1 h0 Q tgt ls st n h) (kf : ¬ x = 0 → am_Wp fin d M n0 n1 h0 Q (pc + 3) ls st n h) : am_Wp fin d M n0 n1 h0 Q pc ls (.inl x :: st) n h := by
  intro p l e s m args below meth c H locs ρ ρ0 cA cA0 D A lm X hg hl hs ho
  have hx : am_i32 x := am_ok_hd hs
  exact lv_if_eq X.1.1 X.1.2.1 hd ht (fun q => kt ((am_eq32 hx am_c0).mp q) p l e s m args below meth c H locs ρ ρ0 cA cA0 D A lm X hg hl (am_ok_tl hs) ho) (fun q => kf (fun z => q ((am_eq32 hx am_c0).mpr z)) p l e s m args below meth c H locs ρ ρ0 cA cA0 D A lm X hg hl (am_ok_tl hs) ho)
theorem ar_if_ne {x off : Int} {tgt : Nat} (hd : decode M.2.1 pc = .ok (.ifCond .ne off, 3)) (ht : (pc : Int) + off = (tgt : Int)) (kt : ¬ x = 0 → am_Wp fin d M n0 n1 h0 Q tgt ls st n h) (kf : x = 0 → am_Wp fin d M n0 n1 h0 Q (pc + 3) ls st n h) : am_Wp fin d M n0 n1 h0 Q pc ls (.inl x :: st) n h := by
  intro p l e s m args below meth c H locs ρ ρ0 cA cA0 D A lm X hg hl hs ho
  have hx : am_i32 x := am_ok_hd hs
  exact lv_if_ne X.1.1 X.1.2.1 hd ht (fun q => kt (fun z => q ((am_eq32 hx am_c0).mpr z)) p l e s m args below meth c H locs ρ ρ0 cA cA0 D A lm X hg hl (am_ok_tl hs) ho) (fun q => kf ((am_eq32 hx am_c0).mp q) p l e s m args below meth c H locs ρ ρ0 cA cA0 D A lm X hg hl (am_ok_tl hs) ho)
theorem ar_if_lt {x off : Int} {tgt : Nat} (hd : decode M.2.1 pc = .ok (.ifCond .lt off, 3)) (ht : (pc : Int) + off = (tgt : Int)) (kt : x < 0 → am_Wp fin d M n0 n1 h0 Q tgt ls st n h) (kf : 0 ≤ x → am_Wp fin d M n0 n1 h0 Q (pc + 3) ls st n h) : am_Wp fin d M n0 n1 h0 Q pc ls (.inl x :: st) n h := by
  intro p l e s m args below meth c H locs ρ ρ0 cA cA0 D A lm X hg hl hs ho
  have hx : am_i32 x := am_ok_hd hs
  exact lv_if_lt X.1.1 X.1.2.1 hd ht (fun q => kt ((am_lt32 hx am_c0).mp q) p l e s m args below meth c H locs ρ ρ0 cA cA0 D A lm X hg hl (am_ok_tl hs) ho) (fun q => kf (Int.not_lt.mp fun z => q ((am_lt32 hx am_c0).mpr z)) p l e s m args below meth c H locs ρ ρ0 cA cA0 D A lm X hg hl (am_ok_tl hs) ho)
theorem ar_if_ge {x off : Int} {tgt : Nat} (hd : decode M.2.1 pc = .ok (.ifCond .ge off, 3)) (ht : (pc : Int) + off = (tgt : Int)) (kt : 0 ≤ x → am_Wp fin d M n0 n1 h0 Q tgt ls st n h) (kf : x < 0 → am_Wp fin d M n0 n1 h0 Q (pc + 3) ls st n h) : am_Wp fin d M n0 n1 h0 Q pc ls (.inl x :: st) n h := by
  intro p l e s m args below meth c H locs ρ ρ0 cA cA0 D A lm X hg hl hs ho
  have hx : am_i32 x := am_ok_hd hs
  exact lv_if_ge X.1.1 X.1.2.1 hd ht (fun q => kt ((am_le32 am_c0 hx).mp q) p l e s m args below meth c H locs ρ ρ0 cA cA0 D A lm X hg hl (am_ok_tl hs) ho) (fun q => kf (Int.not_le.mp fun z => q ((am_le32 am_c0 hx).mpr z)) p l e s m args below meth c H locs ρ ρ0 cA cA0 D A lm X hg hl (am_ok_tl hs) ho)
theorem ar_if_gt {x off : Int} {tgt : Nat} (hd : decode M.2.1 pc = .ok (.ifCond .gt off, 3)) (ht : (pc : Int) + off = (tgt : Int)) (kt : 0 < x → am_Wp fin d M n0 n1 h0 Q tgt ls st n h) (kf : x ≤ 0 → am_Wp fin d M n0 n1 h0 Q (pc + 3) ls st n h) : am_Wp fin d M n0 n1 h0 Q pc ls (.inl x :: st) n h := by
  intro p l e s m args below meth c H locs ρ ρ0 cA cA0 D A lm X hg hl hs ho
  have hx : am_i32 x := am_ok_hd hs
  exact lv_if_gt X.1.1 X.1.2.1 hd ht (fun q => kt ((am_lt32 am_c0 hx).mp q) p l e s m args below meth c H locs ρ ρ0 cA cA0 D A lm X hg hl (am_ok_tl hs) ho) (fun q => kf (Int.not_lt.mp fun z => q ((am_lt32 am_c0 hx).mpr z)) p l e s m args below meth c H locs ρ ρ0 cA cA0 D A lm X hg hl (am_ok_tl hs) ho)
theorem ar_if_le {x off : Int} {tgt : Nat} (hd : decode M.2.1 pc = .ok (.ifCond .le off, 3)) (ht : (pc : Int) + off = (tgt : Int)) (kt : x ≤ 0 → am_Wp fin d M n0 n1 h0 Q tgt ls st n h) (kf : 0 < x → am_Wp fin d M n0 n1 h0 Q (pc + 3) ls st n h) : am_Wp fin d M n0 n1 h0 Q pc ls (.inl x :: st) n h := by
  intro p l e s m args below meth c H locs ρ ρ0 cA cA0 D A lm X hg hl hs ho
  have hx : am_i32 x := am_ok_hd hs
  exact lv_if_le X.1.1 X.1.2.1 hd ht (fun q => kt ((am_le32 hx am_c0).mp q) p l e s m args below meth c H locs ρ ρ0 cA cA0 D A lm X hg hl (am_ok_tl hs) ho) (fun q => kf (Int.not_le.mp fun z => q ((am_le32 hx am_c0).mpr z)) p l e s m args below meth c H locs ρ ρ0 cA cA0 D A lm X hg hl (am_ok_tl hs) ho)
theorem ar_icmp_eq {x y off : Int} {tgt : Nat} (hd : decode M.2.1 pc = .ok (.if_icmp .eq off, 3)) (ht : (pc : Int) + off = (tgt : Int)) (kt : x = y → am_Wp fin d M n0 n1 h0 Q tgt ls st n h) (kf : ¬ x = y → am_Wp fin d M n0 n1 h0 Q (pc + 3) ls st n h) : am_Wp fin d M n0 n1 h0 Q pc ls (.inl y :: .inl x :: st) n h := by
  intro p l e s m args below meth c H locs ρ ρ0 cA cA0 D A lm X hg hl hs ho
  have hy : am_i32 y := am_ok_hd hs
  have hx : am_i32 x := am_ok_hd (am_ok_tl hs)
  exact lv_icmp_eq X.1.1 X.1.2.1 hd ht (fun q => kt ((am_eq32 hx hy).mp q) p l e s m args below meth c H locs ρ ρ0 cA cA0 D A lm X hg hl (am_ok_tl (am_ok_tl hs)) ho) (fun q => kf (fun z => q ((am_eq32 hx hy).mpr z)) p l e s m args below meth c H locs ρ ρ0 cA cA0 D A lm X hg hl (am_ok_tl (am_ok_tl hs)) ho)
theorem ar_icmp_ne {x y off : Int} {tgt : Nat} (hd : decode M.2.1 pc = .ok (.if_icmp .ne off, 3)) (ht : (pc : Int) + off = (tgt : Int)) (kt : ¬ x = y → am_Wp fin d M n0 n1 h0 Q tgt ls st n h) (kf : x = y → am_Wp fin d M n0 n1 h0 Q (pc + 3) ls st n h) : am_Wp fin d M n0 n1 h0 Q pc ls (.inl y :: .inl x :: st) n h := by
  intro p l e s m args below meth c H locs ρ ρ0 cA cA0 D A lm X hg hl hs ho
  have hy : am_i32 y := am_ok_hd hs
  have hx : am_i32 x := am_ok_hd (am_ok_tl hs)
  exact lv_icmp_ne X.1.1 X.1.2.1 hd ht (fun q => kt (fun z => q ((am_eq32 hx hy).mpr z)) p l e s m args below meth c H locs ρ ρ0 cA cA0 D A lm X hg hl (am_ok_tl (am_ok_tl hs)) ho) (fun q => kf ((am_eq32 hx hy).mp q) p l e s m args below meth c H locs ρ ρ0 cA cA0 D A lm X hg hl (am_ok_tl (am_ok_tl hs)) ho)
theorem ar_icmp_lt {x y off : Int} {tgt : Nat} (hd : decode M.2.1 pc = .ok (.if_icmp .lt off, 3)) (ht : (pc : Int) + off = (tgt : Int)) (kt : x < y → am_Wp fin d M n0 n1 h0 Q tgt ls st n h) (kf : y ≤ x → am_Wp fin d M n0 n1 h0 Q (pc + 3) ls st n h) : am_Wp fin d M n0 n1 h0 Q pc ls (.inl y :: .inl x :: st) n h := by
  intro p l e s m args below meth c H locs ρ ρ0 cA cA0 D A lm X hg hl hs ho
  have hy : am_i32 y := am_ok_hd hs
  have hx : am_i32 x := am_ok_hd (am_ok_tl hs)
  exact lv_icmp_lt X.1.1 X.1.2.1 hd ht (fun q => kt ((am_lt32 hx hy).mp q) p l e s m args below meth c H locs ρ ρ0 cA cA0 D A lm X hg hl (am_ok_tl (am_ok_tl hs)) ho) (fun q => kf (Int.not_lt.mp fun z => q ((am_lt32 hx hy).mpr z)) p l e s m args below meth c H locs ρ ρ0 cA cA0 D A lm X hg hl (am_ok_tl (am_ok_tl hs)) ho)
theorem ar_icmp_ge {x y off : Int} {tgt : Nat} (hd : decode M.2.1 pc = .ok (.if_icmp .ge off, 3)) (ht : (pc : Int) + off = (tgt : Int)) (kt : y ≤ x → am_Wp fin d M n0 n1 h0 Q tgt ls st n h) (kf : x < y → am_Wp fin d M n0 n1 h0 Q (pc + 3) ls st n h) : am_Wp fin d M n0 n1 h0 Q pc ls (.inl y :: .inl x :: st) n h := by
  intro p l e s m args below meth c H locs ρ ρ0 cA cA0 D A lm X hg hl hs ho
  have hy : am_i32 y := am_ok_hd hs
  have hx : am_i32 x := am_ok_hd (am_ok_tl hs)
  exact lv_icmp_ge X.1.1 X.1.2.1 hd ht (fun q => kt ((am_le32 hy hx).mp q) p l e s m args below meth c H locs ρ ρ0 cA cA0 D A lm X hg hl (am_ok_tl (am_ok_tl hs)) ho) (fun q => kf (Int.not_le.mp fun z => q ((am_le32 hy hx).mpr z)) p l e s m args below meth c H locs ρ ρ0 cA cA0 D A lm X hg hl (am_ok_tl (am_ok_tl hs)) ho)
theorem ar_icmp_gt {x y off : Int} {tgt : Nat} (hd : decode M.2.1 pc = .ok (.if_icmp .gt off, 3)) (ht : (pc : Int) + off = (tgt : Int)) (kt : y < x → am_Wp fin d M n0 n1 h0 Q tgt ls st n h) (kf : x ≤ y → am_Wp fin d M n0 n1 h0 Q (pc + 3) ls st n h) : am_Wp fin d M n0 n1 h0 Q pc ls (.inl y :: .inl x :: st) n h := by
  intro p l e s m args below meth c H locs ρ ρ0 cA cA0 D A lm X hg hl hs ho
  have hy : am_i32 y := am_ok_hd hs
  have hx : am_i32 x := am_ok_hd (am_ok_tl hs)
  exact lv_icmp_gt X.1.1 X.1.2.1 hd ht (fun q => kt ((am_lt32 hy hx).mp q) p l e s m args below meth c H locs ρ ρ0 cA cA0 D A lm X hg hl (am_ok_tl (am_ok_tl hs)) ho) (fun q => kf (Int.not_lt.mp fun z => q ((am_lt32 hy hx).mpr z)) p l e s m args below meth c H locs ρ ρ0 cA cA0 D A lm X hg hl (am_ok_tl (am_ok_tl hs)) ho)
theorem ar_icmp_le {x y off : Int} {tgt : Nat} (hd : decode M.2.1 pc = .ok (.if_icmp .le off, 3)) (ht : (pc : Int) + off = (tgt : Int)) (kt : x ≤ y → am_Wp fin d M n0 n1 h0 Q tgt ls st n h) (kf : y < x → am_Wp fin d M n0 n1 h0 Q (pc + 3) ls st n h) : am_Wp fin d M n0 n1 h0 Q pc ls (.inl y :: .inl x :: st) n h := by
  intro p l e s m args below meth c H locs ρ ρ0 cA cA0 D A lm X hg hl hs ho
  have hy : am_i32 y := am_ok_hd hs
  have hx : am_i32 x := am_ok_hd (am_ok_tl hs)
  exact lv_icmp_le X.1.1 X.1.2.1 hd ht (fun q => kt ((am_le32 hx hy).mp q) p l e s m args below meth c H locs ρ ρ0 cA cA0 D A lm X hg hl (am_ok_tl (am_ok_tl hs)) ho) (fun q => kf (Int.not_le.mp fun z => q ((am_le32 hx hy).mpr z)) p l e s m args below meth c H locs ρ ρ0 cA cA0 D A lm X hg hl (am_ok_tl (am_ok_tl hs)) ho)
theorem ar_goto {off : Int} {tgt : Nat} (hd : decode M.2.1 pc = .ok (.goto off, 3)) (ht : (pc : Int) + off = (tgt : Int)) (k : am_Wp fin d M n0 n1 h0 Q tgt ls st n h) : am_Wp fin d M n0 n1 h0 Q pc ls st n h := by
  intro p l e s m args below meth c H locs ρ ρ0 cA cA0 D A lm X hg hl hs ho
  exact lv_goto X.1.1 X.1.2.1 hd ht (k p l e s m args below meth c H locs ρ ρ0 cA cA0 D A lm X hg hl hs ho)
theorem ar_null (hd : decode M.2.1 pc = .ok (.aconst_null, 1)) (k : am_Wp fin d M n0 n1 h0 Q (pc + 1) ls (.inr (.inr 0) :: st) n h) : am_Wp fin d M n0 n1 h0 Q pc ls st n h := by
  intro p l e s m args below meth c H locs ρ ρ0 cA cA0 D A lm X hg hl hs ho
  exact lv_null X.1.1 X.1.2.1 hd (k p l e s m args below meth c H locs ρ ρ0 cA cA0 D A lm X hg hl (am_ok_cons (show (0 : Int) ≤ n by omega) hs) ho)
theorem am_rf_some {ρ : Int → Nat} {a : Int} (h : 1 ≤ a) : am_rf ρ a = some (ρ a) := by
  unfold am_rf
  rw [if_neg]
  omega
theorem am_rf_none {ρ : Int → Nat} : am_rf ρ 0 = none := by
  unfold am_rf
  rw [if_pos (Or.inl rfl)]
theorem ar_ifnull {x off : Int} {tgt : Nat} (hd : decode M.2.1 pc = .ok (.ifnull off, 3)) (ht : (pc : Int) + off = (tgt : Int)) (hx : 0 ≤ x) (kt : x = 0 → am_Wp fin d M n0 n1 h0 Q tgt ls st n h) (kf : 1 ≤ x → am_Wp fin d M n0 n1 h0 Q (pc + 3) ls st n h) : am_Wp fin d M n0 n1 h0 Q pc ls (.inr (.inr x) :: st) n h := by
  intro p l e s m args below meth c H locs ρ ρ0 cA cA0 D A lm X hg hl hs ho
  simp only [List.map_cons, am_cv]
  by_cases q : x = 0
  · rw [q, am_rf_none]; exact lv_ifnullN X.1.1 X.1.2.1 hd ht (kt q p l e s m args below meth c H locs ρ ρ0 cA cA0 D A lm X hg hl (am_ok_tl hs) ho)
  · rw [am_rf_some (by omega)]; exact lv_ifnull X.1.1 X.1.2.1 hd (kf (by omega) p l e s m args below meth c H locs ρ ρ0 cA cA0 D A lm X hg hl (am_ok_tl hs) ho)
theorem ar_ifnonnull {x off : Int} {tgt : Nat} (hd : decode M.2.1 pc = .ok (.ifnonnull off, 3)) (ht : (pc : Int) + off = (tgt : Int)) (hx : 0 ≤ x) (kt : 1 ≤ x → am_Wp fin d M n0 n1 h0 Q tgt ls st n h) (kf : x = 0 → am_Wp fin d M n0 n1 h0 Q (pc + 3) ls st n h) : am_Wp fin d M n0 n1 h0 Q pc ls (.inr (.inr x) :: st) n h := by
  intro p l e s m args below meth c H locs ρ ρ0 cA cA0 D A lm X hg hl hs ho
  simp only [List.map_cons, am_cv]
  by_cases q : x = 0
  · rw [q, am_rf_none]; exact lv_ifnonnullN X.1.1 X.1.2.1 hd (kf q p l e s m args below meth c H locs ρ ρ0 cA cA0 D A lm X hg hl (am_ok_tl hs) ho)
  · rw [am_rf_some (by omega)]; exact lv_ifnonnull X.1.1 X.1.2.1 hd ht (kt (by omega) p l e s m args below meth c H locs ρ ρ0 cA cA0 D A lm X hg hl (am_ok_tl hs) ho)
def am_tab (P : Nat → Prop) (x : Int) : Int → List Nat → Prop
  | _, [] => True
  | lo, t :: ts => (x = lo → P t) ∧ am_tab P x (lo + 1) ts
theorem am_tab_at {P : Nat → Prop} {x : Int} : ∀ (ts : List Nat) (lo : Int) (j : Nat) (t : Nat), am_tab P x lo ts → ts[j]? = some t → x = lo + j → P t
  | [], _, _, _, _, h, _ => by simp at h
  | a :: ts, lo, 0, t, hp, h, hx => by
    simp at h
    subst h
    exact hp.1 (by simpa using hx)
  | a :: ts, lo, j + 1, t, hp, h, hx => am_tab_at ts (lo + 1) j t hp.2 (by simpa using h) (by omega)
theorem ar_table {x dflt lo hi : Int} {offs : Array Int} {len dt : Nat} (ts : List Nat) (hd : decode M.2.1 pc = .ok (.tableswitch dflt lo hi offs, len)) (h1 : (pc : Int) + dflt = (dt : Int)) (h2 : ts.map (fun t : Nat => (t : Int)) = offs.toList.map (fun z => (pc : Int) + z)) (h3 : hi = lo + (ts.length : Int) - 1) (kd : (x < lo ∨ hi < x) → am_Wp fin d M n0 n1 h0 Q dt ls st n h) (k : am_tab (fun t => am_Wp fin d M n0 n1 h0 Q t ls st n h) x lo ts) : am_Wp fin d M n0 n1 h0 Q pc ls (.inl x :: st) n h := by
  intro p l e s m args below meth c H locs ρ ρ0 cA cA0 D A lm X hg hl hs ho
  have hx : am_i32 x := am_ok_hd hs
  have ex : (Int32.ofInt x).toInt = x := am_w32_id hx
  by_cases hr : x < lo ∨ hi < x
  · exact lv_tableOut X.1.1 X.1.2.1 hd (by rw [ex]; exact hr) h1 (kd hr p l e s m args below meth c H locs ρ ρ0 cA cA0 D A lm X hg hl (am_ok_tl hs) ho)
  · have hj : (x - lo).toNat < ts.length := by omega
    obtain ⟨t, ht⟩ : ∃ t, ts[(x - lo).toNat]? = some t := ⟨_, List.getElem?_eq_getElem hj⟩
    have g := congrArg (fun l : List Int => l[(x - lo).toNat]?) h2
    simp only [List.getElem?_map, ht, Option.map_some] at g
    cases ho2 : offs.toList[(x - lo).toNat]? with
    | none => rw [ho2] at g; cases g
    | some off =>
      rw [ho2] at g
      have g2 : (t : Int) = (pc : Int) + off := by simpa using g
      exact lv_tableIn X.1.1 X.1.2.1 hd (by rw [ex]; omega) (by rw [ex]; omega) (off := off) (by rw [ex, ← Array.getElem?_toList]; exact ho2) g2.symm (am_tab_at ts lo _ t k ht (by omega) p l e s m args below meth c H locs ρ ρ0 cA cA0 D A lm X hg hl (am_ok_tl hs) ho)
def am_look (P : Nat → Prop) (x : Int) (dt : Nat) : List (Int × Nat) → Prop
  | [] => P dt
  | (a, t) :: ts => (x = a → P t) ∧ (¬ x = a → am_look P x dt ts)
theorem am_look_at {P : Nat → Prop} {pc dt : Nat} {x dflt : Int} (h1 : (pc : Int) + dflt = (dt : Int)) : ∀ (ps : List (Int × Int)) (ts : List (Int × Nat)), ts.map (fun q => (q.1, (q.2 : Int))) = ps.map (fun q => (q.1, (pc : Int) + q.2)) → am_look P x dt ts → ∃ t : Nat, (pc : Int) + Op.lookupswitch.offset ps dflt x = (t : Int) ∧ P t
  | [], [], _, k => ⟨dt, h1, k⟩
  | [], _ :: _, h, _ => by simp at h
  | _ :: _, [], h, _ => by simp at h
  | (a, z) :: ps, (b, t) :: ts, h, k => by
    simp at h
    obtain ⟨⟨rfl, h3⟩, h4⟩ := h
    rw [Op.lookupswitch.offset_cons]
    by_cases q : b = x
    · rw [if_pos q]
      exact ⟨t, h3.symm, k.1 q.symm⟩
    · rw [if_neg q]
      exact am_look_at h1 ps ts (by simpa using h4) (k.2 (fun z => q z.symm))
theorem ar_look {h00 : am_H} {x dflt : Int} {ps : Array (Int × Int)} {len dt : Nat} (ts : List (Int × Nat)) (hd : decode M.2.1 pc = .ok (.lookupswitch dflt ps, len)) (h0 : (ps.toList.zip (ps.toList.drop 1)).all (fun (a, next) => a.1 < next.1) = true) (h1 : (pc : Int) + dflt = (dt : Int)) (h2 : ts.map (fun q => (q.1, (q.2 : Int))) = ps.toList.map (fun q => (q.1, (pc : Int) + q.2))) (k : am_look (fun t => am_Wp fin d M n0 n1 h00 Q t ls st n h) x dt ts) : am_Wp fin d M n0 n1 h00 Q pc ls (.inl x :: st) n h := by
  intro p l e s m args below meth c H locs ρ ρ0 cA cA0 D A lm X hg hl hs ho
  have hx : am_i32 x := am_ok_hd hs
  have ex : (Int32.ofInt x).toInt = x := am_w32_id hx
  obtain ⟨t, g1, g2⟩ := am_look_at h1 ps.toList ts h2 k
  exact lv_lookup X.1.1 X.1.2.1 hd h0 (by rw [ex]) g1 (g2 p l e s m args below meth c H locs ρ ρ0 cA cA0 D A lm X hg hl (am_ok_tl hs) ho)
end AM_RULES2
