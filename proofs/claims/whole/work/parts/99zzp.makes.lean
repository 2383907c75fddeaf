/-! CELLS ARE MADE: new, newarray, anewarray, aastore, constructors' calls, in the abstract machine -/
theorem am_sh_k39 : ∀ k : Nat, k < 321 → (am_sh k).1 ≤ 4 ∨ 10 ≤ (am_sh k).1 := by decide +kernel
theorem w_oi1 : Cond.instanceMethod objectInit ∈ am_gw := List.mem_filter.mpr ⟨List.mem_of_getElem? (i := 191) (by decide +kernel), rfl⟩
theorem w_oi2 : Cond.code objectInit ⟨#[0xb1]⟩ 1 none ∈ am_gw := List.mem_filter.mpr ⟨List.mem_of_getElem? (i := 192) (by decide +kernel), rfl⟩
theorem w_ovT : Cond.arrayOver (.object RX5) ∈ lw_tbl := List.mem_of_getElem? (i := 194) (by decide +kernel)
theorem w_ovM : Cond.arrayOver (.object RX0) ∈ lw_tbl := List.mem_of_getElem? (i := 236) (by decide +kernel)
theorem w_aci : Cond.arrayClass (newarray.typeOf .int) ∈ am_gw := List.mem_filter.mpr ⟨List.mem_of_getElem? (i := 235) (by decide +kernel), rfl⟩
theorem w_acj : Cond.arrayClass (newarray.typeOf .long) ∈ am_gw := List.mem_filter.mpr ⟨List.mem_of_getElem? (i := 497) (by decide +kernel), rfl⟩
theorem w_acz : Cond.arrayClass (newarray.typeOf .boolean) ∈ am_gw := List.mem_filter.mpr ⟨List.mem_of_getElem? (i := 1455) (by decide +kernel), rfl⟩
theorem w_inRX6 : Cond.instantiable RX6 10 ∈ am_gw := List.mem_filter.mpr ⟨List.mem_of_getElem? (i := 186) (by decide +kernel), rfl⟩
theorem w_inRX4 : Cond.instantiable RX4 9 ∈ am_gw := List.mem_filter.mpr ⟨List.mem_of_getElem? (i := 196) (by decide +kernel), rfl⟩
theorem w_inRX0 : Cond.instantiable RX0 6 ∈ am_gw := List.mem_filter.mpr ⟨List.mem_of_getElem? (i := 202) (by decide +kernel), rfl⟩
theorem w_inRX1 : Cond.instantiable RX1 14 ∈ am_gw := List.mem_filter.mpr ⟨List.mem_of_getElem? (i := 275) (by decide +kernel), rfl⟩
theorem w_inRX5 : Cond.instantiable RX5 20 ∈ am_gw := List.mem_filter.mpr ⟨List.mem_of_getElem? (i := 281) (by decide +kernel), rfl⟩
theorem w_inRX2 : Cond.instantiable RX2 14 ∈ am_gw := List.mem_filter.mpr ⟨List.mem_of_getElem? (i := 435) (by decide +kernel), rfl⟩
theorem w_inRX3 : Cond.instantiable RX3 12 ∈ am_gw := List.mem_filter.mpr ⟨List.mem_of_getElem? (i := 441) (by decide +kernel), rfl⟩
theorem w_inRX7 : Cond.instantiable RX7 55 ∈ am_gw := List.mem_filter.mpr ⟨List.mem_of_getElem? (i := 1281) (by decide +kernel), rfl⟩
theorem w_clL_7 : Cond.classLink "ByteIntervalsLaw" 7 RX6 ∈ am_gw := List.mem_filter.mpr ⟨List.mem_of_getElem? (i := 185) (by decide +kernel), rfl⟩
theorem w_clL_10 : Cond.classLink "ByteIntervalsLaw" 10 RX7 ∈ am_gw := List.mem_filter.mpr ⟨List.mem_of_getElem? (i := 1280) (by decide +kernel), rfl⟩
theorem w_clX6_23 : Cond.classLink RX6 23 RX5 ∈ am_gw := List.mem_filter.mpr ⟨List.mem_of_getElem? (i := 193) (by decide +kernel), rfl⟩
theorem w_clX6_29 : Cond.classLink RX6 29 RX4 ∈ am_gw := List.mem_filter.mpr ⟨List.mem_of_getElem? (i := 195) (by decide +kernel), rfl⟩
theorem w_clX4_9 : Cond.classLink RX4 9 RX0 ∈ am_gw := List.mem_filter.mpr ⟨List.mem_of_getElem? (i := 201) (by decide +kernel), rfl⟩
theorem w_clX6_39 : Cond.classLink RX6 39 RX0 ∈ am_gw := List.mem_filter.mpr ⟨List.mem_of_getElem? (i := 272) (by decide +kernel), rfl⟩
theorem w_clX6_46 : Cond.classLink RX6 46 RX1 ∈ am_gw := List.mem_filter.mpr ⟨List.mem_of_getElem? (i := 274) (by decide +kernel), rfl⟩
theorem w_clX1_21 : Cond.classLink RX1 21 RX5 ∈ am_gw := List.mem_filter.mpr ⟨List.mem_of_getElem? (i := 280) (by decide +kernel), rfl⟩
theorem w_clX6_53 : Cond.classLink RX6 53 RX2 ∈ am_gw := List.mem_filter.mpr ⟨List.mem_of_getElem? (i := 434) (by decide +kernel), rfl⟩
theorem w_clX2_15 : Cond.classLink RX2 15 RX3 ∈ am_gw := List.mem_filter.mpr ⟨List.mem_of_getElem? (i := 440) (by decide +kernel), rfl⟩
theorem w_oi_RX6 : Cond.methodLink RX6 1 objectInit ∈ am_gw := List.mem_filter.mpr ⟨List.mem_of_getElem? (i := 190) (by decide +kernel), rfl⟩
theorem w_oi_RX4 : Cond.methodLink RX4 3 objectInit ∈ am_gw := List.mem_filter.mpr ⟨List.mem_of_getElem? (i := 200) (by decide +kernel), rfl⟩
theorem w_oi_RX0 : Cond.methodLink RX0 3 objectInit ∈ am_gw := List.mem_filter.mpr ⟨List.mem_of_getElem? (i := 206) (by decide +kernel), rfl⟩
theorem w_oi_RX1 : Cond.methodLink RX1 3 objectInit ∈ am_gw := List.mem_filter.mpr ⟨List.mem_of_getElem? (i := 279) (by decide +kernel), rfl⟩
theorem w_oi_RX5 : Cond.methodLink RX5 3 objectInit ∈ am_gw := List.mem_filter.mpr ⟨List.mem_of_getElem? (i := 285) (by decide +kernel), rfl⟩
theorem w_oi_RX2 : Cond.methodLink RX2 3 objectInit ∈ am_gw := List.mem_filter.mpr ⟨List.mem_of_getElem? (i := 439) (by decide +kernel), rfl⟩
theorem w_oi_RX3 : Cond.methodLink RX3 3 objectInit ∈ am_gw := List.mem_filter.mpr ⟨List.mem_of_getElem? (i := 445) (by decide +kernel), rfl⟩
theorem w_oi_RX7 : Cond.methodLink RX7 1 objectInit ∈ am_gw := List.mem_filter.mpr ⟨List.mem_of_getElem? (i := 1285) (by decide +kernel), rfl⟩
def yI_X6 : MethodName := ⟨RX6, "<init>", "()V"⟩
theorem w_im_RX6 : Cond.instanceMethod yI_X6 ∈ am_gw := List.mem_filter.mpr ⟨List.mem_of_getElem? (i := 188) (by decide +kernel), rfl⟩
theorem w_co_RX6 : Cond.code yI_X6 prog_1_method_1_code 2 none ∈ am_gw := List.mem_filter.mpr ⟨List.mem_of_getElem? (i := 189) (by decide +kernel), rfl⟩
abbrev M_I_X6 : am_M := (yI_X6, prog_1_method_1_code, 2, none)
def yI_X4 : MethodName := ⟨RX4, "<init>", "()V"⟩
theorem w_im_RX4 : Cond.instanceMethod yI_X4 ∈ am_gw := List.mem_filter.mpr ⟨List.mem_of_getElem? (i := 198) (by decide +kernel), rfl⟩
theorem w_co_RX4 : Cond.code yI_X4 prog_6_method_1_code 2 none ∈ am_gw := List.mem_filter.mpr ⟨List.mem_of_getElem? (i := 199) (by decide +kernel), rfl⟩
abbrev M_I_X4 : am_M := (yI_X4, prog_6_method_1_code, 2, none)
def yI_X0 : MethodName := ⟨RX0, "<init>", "()V"⟩
theorem w_im_RX0 : Cond.instanceMethod yI_X0 ∈ am_gw := List.mem_filter.mpr ⟨List.mem_of_getElem? (i := 204) (by decide +kernel), rfl⟩
theorem w_co_RX0 : Cond.code yI_X0 prog_2_method_1_code 1 none ∈ am_gw := List.mem_filter.mpr ⟨List.mem_of_getElem? (i := 205) (by decide +kernel), rfl⟩
abbrev M_I_X0 : am_M := (yI_X0, prog_2_method_1_code, 1, none)
def yI_X1 : MethodName := ⟨RX1, "<init>", "()V"⟩
theorem w_im_RX1 : Cond.instanceMethod yI_X1 ∈ am_gw := List.mem_filter.mpr ⟨List.mem_of_getElem? (i := 277) (by decide +kernel), rfl⟩
theorem w_co_RX1 : Cond.code yI_X1 prog_3_method_1_code 1 none ∈ am_gw := List.mem_filter.mpr ⟨List.mem_of_getElem? (i := 278) (by decide +kernel), rfl⟩
abbrev M_I_X1 : am_M := (yI_X1, prog_3_method_1_code, 1, none)
def yI_X5 : MethodName := ⟨RX5, "<init>", "()V"⟩
theorem w_im_RX5 : Cond.instanceMethod yI_X5 ∈ am_gw := List.mem_filter.mpr ⟨List.mem_of_getElem? (i := 283) (by decide +kernel), rfl⟩
theorem w_co_RX5 : Cond.code yI_X5 prog_7_method_1_code 1 none ∈ am_gw := List.mem_filter.mpr ⟨List.mem_of_getElem? (i := 284) (by decide +kernel), rfl⟩
abbrev M_I_X5 : am_M := (yI_X5, prog_7_method_1_code, 1, none)
def yI_X2 : MethodName := ⟨RX2, "<init>", "()V"⟩
theorem w_im_RX2 : Cond.instanceMethod yI_X2 ∈ am_gw := List.mem_filter.mpr ⟨List.mem_of_getElem? (i := 437) (by decide +kernel), rfl⟩
theorem w_co_RX2 : Cond.code yI_X2 prog_4_method_1_code 1 none ∈ am_gw := List.mem_filter.mpr ⟨List.mem_of_getElem? (i := 438) (by decide +kernel), rfl⟩
abbrev M_I_X2 : am_M := (yI_X2, prog_4_method_1_code, 1, none)
def yI_X3 : MethodName := ⟨RX3, "<init>", "()V"⟩
theorem w_im_RX3 : Cond.instanceMethod yI_X3 ∈ am_gw := List.mem_filter.mpr ⟨List.mem_of_getElem? (i := 443) (by decide +kernel), rfl⟩
theorem w_co_RX3 : Cond.code yI_X3 prog_5_method_1_code 1 none ∈ am_gw := List.mem_filter.mpr ⟨List.mem_of_getElem? (i := 444) (by decide +kernel), rfl⟩
abbrev M_I_X3 : am_M := (yI_X3, prog_5_method_1_code, 1, none)
def yI_X7 : MethodName := ⟨RX7, "<init>", "()V"⟩
theorem w_im_RX7 : Cond.instanceMethod yI_X7 ∈ am_gw := List.mem_filter.mpr ⟨List.mem_of_getElem? (i := 1283) (by decide +kernel), rfl⟩
theorem w_co_RX7 : Cond.code yI_X7 prog_9_method_1_code 1 none ∈ am_gw := List.mem_filter.mpr ⟨List.mem_of_getElem? (i := 1284) (by decide +kernel), rfl⟩
abbrev M_I_X7 : am_M := (yI_X7, prog_9_method_1_code, 1, none)
theorem w_nlX6_31 : Cond.methodLinkNest RX6 31 yI_X4 "ByteIntervals" ∈ lw_tbl := List.mem_of_getElem? (i := 197) (by decide +kernel)
theorem w_nlX4_11 : Cond.methodLinkNest RX4 11 yI_X0 "ByteIntervals" ∈ lw_tbl := List.mem_of_getElem? (i := 203) (by decide +kernel)
theorem w_nlX6_41 : Cond.methodLinkNest RX6 41 yI_X0 "ByteIntervals" ∈ lw_tbl := List.mem_of_getElem? (i := 273) (by decide +kernel)
theorem w_nlX6_48 : Cond.methodLinkNest RX6 48 yI_X1 "ByteIntervals" ∈ lw_tbl := List.mem_of_getElem? (i := 276) (by decide +kernel)
theorem w_nlX1_23 : Cond.methodLinkNest RX1 23 yI_X5 "ByteIntervals" ∈ lw_tbl := List.mem_of_getElem? (i := 282) (by decide +kernel)
theorem w_nlX6_55 : Cond.methodLinkNest RX6 55 yI_X2 "ByteIntervals" ∈ lw_tbl := List.mem_of_getElem? (i := 436) (by decide +kernel)
theorem w_nlX2_17 : Cond.methodLinkNest RX2 17 yI_X3 "ByteIntervals" ∈ lw_tbl := List.mem_of_getElem? (i := 442) (by decide +kernel)
theorem w_nlX6_60 : Cond.methodLinkNest RX6 60 yI_X5 "ByteIntervals" ∈ lw_tbl := List.mem_of_getElem? (i := 544) (by decide +kernel)
theorem w_mlL_9 : Cond.methodLink "ByteIntervalsLaw" 9 yI_X6 ∈ am_gw := List.mem_filter.mpr ⟨List.mem_of_getElem? (i := 187) (by decide +kernel), rfl⟩
theorem w_mlL_12 : Cond.methodLink "ByteIntervalsLaw" 12 yI_X7 ∈ am_gw := List.mem_filter.mpr ⟨List.mem_of_getElem? (i := 1282) (by decide +kernel), rfl⟩
def am_r1 (ρ : Int → Nat) (n q : Nat) : Int → Nat := fun k => if k = (n : Int) + 1 then q else ρ k
def am_c1 (cA : Nat → ClassId) (n : Nat) (c : ClassId) : Nat → ClassId := fun k => if k = n then c else cA k
theorem am_sh_99 : ∀ k : Nat, k < 321 → (am_sh k).1 ≠ 99 := by decide +kernel
theorem am_kd_k {n k : Nat} (hk : k < n) : am_kd n ((k : Int) + 1) = (am_sh k).1 := by
  unfold am_kd
  rw [if_pos (by omega), show ((k : Int) + 1).toNat - 1 = k by omega]
theorem am_rf_rho {n : Nat} {ρ ρ2 : Int → Nat} (hr : ∀ k : Int, k ≤ n → ρ2 k = ρ k) {z : Int} (hz : z ≤ n) : am_rf ρ2 z = am_rf ρ z := by
  unfold am_rf
  rw [hr (-10) (by omega), hr z hz]
theorem am_ft_rho {n : Nat} {ρ ρ2 : Int → Nat} (hr : ∀ k : Int, k ≤ n → ρ2 k = ρ k) {ty : FieldType} {z : Int} (hz : am_in n ty z) : am_ft ρ2 ty z = am_ft ρ ty z := by
  cases ty
  case object C => exact congrArg va_rf (am_rf_rho hr hz)
  case array t => exact congrArg va_rf (am_rf_rho hr hz)
  all_goals rfl
theorem am_cell_rho {n k : Nat} {h : am_H} {ρ ρ2 : Int → Nat} {cA cA2 : Nat → ClassId} (hk : k < n) (hn : n ≤ 321) (R : am_Rg n h) (hr : ∀ k : Int, k ≤ n → ρ2 k = ρ k) (hc : cA2 k = cA k) : am_cell ρ2 cA2 h k = am_cell ρ cA h k := by
  have e := am_kd_k hk
  have n9 := am_sh_99 k (by omega)
  have R2 : ∀ i : Int, am_in n (am_t (am_sh k).1 i) (h (k + 1) i) := fun i => by
    have := R ((k : Int) + 1) i (by rw [e]; exact n9)
    rw [e] at this
    exact this
  unfold am_cell
  rw [hc]
  by_cases c1 : (am_sh k).1 = 0 ∨ (am_sh k).1 = 2
  · rw [if_pos c1, if_pos c1]
  · rw [if_neg c1, if_neg c1]
    by_cases c2 : (am_sh k).1 = 1
    · rw [if_pos c2, if_pos c2]
    · rw [if_neg c2, if_neg c2]
      by_cases c3 : (am_sh k).1 < 10
      · rw [if_pos c3, if_pos c3]
        have e2 : (fun j : Nat => am_rf ρ2 (h (k + 1) j)) = fun j : Nat => am_rf ρ (h (k + 1) j) := funext fun j => by
          refine am_rf_rho hr ?_
          have := R2 j
          revert this
          have c4 : (am_sh k).1 = 3 ∨ (am_sh k).1 = 4 := by
            have := am_sh_k39 k (by omega)
            omega
          rcases c4 with c4 | c4 <;> (rw [c4]; exact fun q => q)
        rw [e2]
      · rw [if_neg c3, if_neg c3]
        refine congrArg Sum.inr (congrArg _ (List.map_congr_left fun j _ => ?_))
        refine am_ft_rho hr ?_
        have := R2 j
        obtain ⟨x, hx⟩ : ∃ x, (am_sh k).1 = x + 10 := ⟨(am_sh k).1 - 10, by omega⟩
        rw [hx] at this
        rw [hx]
        have e3 : am_t (x + 10) (j : Int) = am_ty x j := by simp [am_t]
        rw [e3] at this
        rw [show x + 10 - 10 = x by omega]
        exact this
theorem am_in_mono {n n2 : Nat} (hn : n ≤ n2) {ty : FieldType} {z : Int} (hz : am_in n ty z) : am_in n2 ty z := by
  cases ty
  case object C => exact Int.le_trans hz (by omega)
  case array t => exact Int.le_trans hz (by omega)
  all_goals exact hz
theorem am_in0 {n : Nat} {ty : FieldType} : am_in n ty 0 := by
  cases ty
  case object C => show (0 : Int) ≤ (n : Int); omega
  case array t => show (0 : Int) ≤ (n : Int); omega
  case boolean => exact Or.inl rfl
  case long => exact am_c0l
  all_goals exact am_c0
theorem am_rg_grow {n : Nat} {h : am_H} (R : am_Rg n h) (hz : ∀ i : Int, h ((n : Int) + 1) i = 0) : am_Rg (n + 1) h := by
  intro a i ha
  by_cases c : a = (n : Int) + 1
  · rw [c, hz]
    exact am_in0
  · have e : am_kd (n + 1) a = am_kd n a := by
      unfold am_kd
      by_cases q : 1 ≤ a ∧ a ≤ (n : Int)
      · rw [if_pos (by omega), if_pos q]
      · rw [if_neg (by omega), if_neg q]
    rw [e] at ha ⊢
    exact am_in_mono (by omega) (R a i ha)
theorem am_wld_grow {n : Nat} {h : am_H} {ρ : Int → Nat} {cA : Nat → ClassId} (hn : n ≤ 321) (R : am_Rg n h) {q : Nat} {c : ClassId} : am_wld (am_r1 ρ n q) (am_c1 cA n c) h (n + 1) = am_wld ρ cA h n ++ [(q, am_cell (am_r1 ρ n q) (am_c1 cA n c) h n)] := by
  have hr : ∀ k : Int, k ≤ n → am_r1 ρ n q k = ρ k := fun k hk => by unfold am_r1; rw [if_neg (by omega)]
  unfold am_wld
  rw [List.range_succ, List.map_append]
  have e0 : am_r1 ρ n q ((n : Int) + 1) = q := by unfold am_r1; rw [if_pos rfl]
  congr 1
  · refine List.map_congr_left fun k hk => ?_
    have hk := List.mem_range.mp hk
    rw [am_cell_rho hk hn R hr (show am_c1 cA n c k = cA k by unfold am_c1; rw [if_neg (by omega)]), hr _ (by omega)]
  · simp [e0]
/-- one cell more -/
theorem am_grow {M : am_M} {n0 n1 n : Nat} {h : am_H} {ρ ρ0 : Int → Nat} {cA cA0 : Nat → ClassId} {D : va_G} {A : Nat → Prop} {p : Program} {s : State} {m : MethodId} {meth : Method} {c : Code} {args : Array Value} {H H1 : Heap} {locs locs1 : List Loc} (X : am_X false M n0 n1 n h ρ ρ0 cA cA0 D A p s m meth c args H locs) (hn : n + 1 ≤ n1) (h9 : n1 ≤ 321) (hz : ∀ i : Int, h ((n : Int) + 1) i = 0) {q : Nat} {cl : ClassId} {e : va_E} (he : am_cell (am_r1 ρ n q) (am_c1 cA n cl) h n = e) (P : va_P D am_cl (am_wld ρ cA h n ++ [(q, e)]) H1) (Dd : va_D A (am_wld ρ cA h n ++ [(q, e)])) (S : va_S A s.heap H1 locs1) (ha : (am_sh n).1 < 10 → ArrOfT s cl (am_aty n) ∧ va_RA s cl (am_aty n)) : am_X false M n0 n1 (n + 1) h (am_r1 ρ n q) ρ0 (am_c1 cA n cl) cA0 D A p s m meth c args H1 locs1 := by
  subst he
  have hr : ∀ k : Int, k ≤ n → am_r1 ρ n q k = ρ k := fun k hk => by unfold am_r1; rw [if_neg (by omega)]
  obtain ⟨x1, x2, x3, x4, x5, x6, x7, x8, x9⟩ := X
  rw [← am_wld_grow (by omega) x2.2.2.2.2.1] at P Dd
  refine ⟨x1, ⟨x2.1, fun k hk h10 => ?_, P, Dd, am_rg_grow x2.2.2.2.2.1 hz, fun q => by cases q⟩, S, x4, am_SX_rho (fun k hk => hr k (by omega)) (fun _ _ _ => rfl) x5, fun k hk => (hr k (by omega)).trans (x6 k hk), fun k hk => ?_, by omega, hn⟩
  · unfold am_c1
    by_cases c : k = n
    · rw [if_pos c, c]
      exact ha (c ▸ h10)
    · rw [if_neg c]
      exact x2.2.1 k (by omega) h10
  · unfold am_c1
    rw [if_neg (by omega)]
    exact x7 k hk
theorem am_def0 (ρ : Int → Nat) {ty : FieldType} (ht : ty = .int ∨ ty = .long ∨ ty = .boolean ∨ (∃ C, ty = .object C) ∨ ∃ t, ty = .array t) : defaultValue ty = am_ft ρ ty 0 := by
  rcases ht with rfl | rfl | rfl | ⟨C, rfl⟩ | ⟨t, rfl⟩
  · rfl
  · rfl
  · rfl
  · simp [am_ft, am_rf, va_rf, defaultValue]
  · simp [am_ft, am_rf, va_rf, defaultValue]
def am_smp : FieldType → Bool
  | .int => true
  | .long => true
  | .boolean => true
  | .object _ => true
  | .array _ => true
  | _ => false
theorem am_smp_of {ty : FieldType} (h : am_smp ty = true) : ty = .int ∨ ty = .long ∨ ty = .boolean ∨ (∃ C, ty = .object C) ∨ ∃ t, ty = .array t := by
  cases ty
  case int => exact Or.inl rfl
  case long => exact Or.inr (Or.inl rfl)
  case boolean => exact Or.inr (Or.inr (Or.inl rfl))
  case object C => exact Or.inr (Or.inr (Or.inr (Or.inl ⟨C, rfl⟩)))
  case array t => exact Or.inr (Or.inr (Or.inr (Or.inr ⟨t, rfl⟩)))
  all_goals cases h
theorem am_smp_ty : ∀ c : Nat, c < 8 → ∀ j : Nat, j < am_nf c → am_smp (am_ty c j) = true := by decide +kernel
section AM_NEW
variable {d : Nat} {M : am_M} {n0 n1 : Nat} {h0 : am_H} {Q : Int → am_H → Prop} {pc : Nat} {ls : List (Option am_V)} {st st0 : List am_V} {n : Nat} {h : am_H}
theorem am_st_rho {n : Nat} {ρ ρ2 : Int → Nat} (hr : ∀ k : Int, k ≤ n → ρ2 k = ρ k) {st : List am_V} (hs : ∀ v ∈ st, am_okV n v) : st.map (am_cv ρ2) = st.map (am_cv ρ) := List.map_congr_left fun v hv => am_cv_rho hr (hs v hv)
/-- behind the making -/
theorem am_made {dd : Nat} {p : Program} {l : Launch} {e : Env} {s : State} {m : MethodId} {args : Array Value} {below : List Frame} {meth : Method} {c : Code} {H1 : Heap} {locs1 : List Loc} {ρ ρ0 : Int → Nat} {cA cA0 : Nat → ClassId} {D : va_G} {A : Nat → Prop} {lm : Array Slot} {q N : Nat} {cl : ClassId}
    (X : am_X false M n0 n1 (n + 1) h (am_r1 ρ n q) ρ0 (am_c1 cA n cl) cA0 D A p s m meth c args H1 locs1) (hg : ∀ a i : Int, a < 0 → h a i = h0 a i) (hl : lv_has lm M.2.2.1 (am_ll ρ ls)) (hs : ∀ v ∈ st, am_okV n v) (ho : ∀ v, some v ∈ ls → am_okV n v) (h0n : n0 ≤ n) (hN : (am_sh n).2 = N)
    (kk : am_Wp false dd M n0 n1 h0 Q pc ls (.inr (.inr ((n : Int) + 1)) :: st) (n + 1) h) : W p l e (am_rm dd n0 n1) s m args below meth c H1 locs1 (n - n0 + 1) (am_sz n - am_sz n0 + N) (MQ below (am_Q false M.2.2.2 n0 n1 Q h0 ρ0 cA0 D A) args s (n1 - n0) (am_sz n1 - am_sz n0) A) (F0 m pc lm (.ref q :: st.map (am_cv ρ))) := by
  have hr : ∀ k : Int, k ≤ n → am_r1 ρ n q k = ρ k := fun k hk => by unfold am_r1; rw [if_neg (by omega)]
  have K := kk p l e s m args below meth c H1 locs1 (am_r1 ρ n q) ρ0 (am_c1 cA n cl) cA0 D A lm X hg (am_ll_rho hr ho hl) (fun v hv => by
    rcases List.mem_cons.mp hv with rfl | hv
    · show ((n : Int) + 1) ≤ ((n + 1 : Nat) : Int); omega
    · exact am_okV_mono (by omega) (hs v hv)) (fun v hv => am_okV_mono (by omega) (ho v hv))
  have e0 : am_r1 ρ n q ((n : Int) + 1) = q := by unfold am_r1; rw [if_pos rfl]
  have e1 : am_rf (am_r1 ρ n q) ((n : Int) + 1) = some q := by
    unfold am_rf
    rw [if_neg (by omega), e0]
  have e2 : am_sz n - am_sz n0 + N = am_sz (n + 1) - am_sz n0 := by
    have := am_sz_mono h0n
    show _ = am_sz n + (am_sh n).2 - am_sz n0
    omega
  rw [List.map_cons, am_st_rho hr hs] at K
  simp only [am_cv, e1, va_rf] at K
  rw [e2, show n - n0 + 1 = n + 1 - n0 by omega]
  exact K
theorem ar_new {idx ci N : Nat} {C : String} {T : u_T} (hd : decode M.2.1 pc = .ok (.new idx, 3)) (hsh : am_sh n = (10 + ci, N)) (hc : am_cl[ci]? = some (C, T, N)) (w1 : Cond.classLink M.1.cls idx C ∈ am_gw) (w2 : Cond.instantiable C N ∈ am_gw) (w3 : Cond.initialized C ∈ am_gw) (hn : n + 1 ≤ n1) (h9 : n1 ≤ 321) (hz : ∀ i : Int, h ((n : Int) + 1) i = 0) (kk : am_Wp false d M n0 n1 h0 Q (pc + 3) ls (.inr (.inr ((n : Int) + 1)) :: st) (n + 1) h) : am_Wp false d M n0 n1 h0 Q pc ls st n h := by
  intro p l e s m args below meth c H locs ρ ρ0 cA cA0 D A lm X hg hl hs ho
  have hci : ci < 8 := (List.getElem?_eq_some_iff.mp hc).1
  have hty := am_ty_ok ci hci _ hc
  have hN := am_nf_of hc
  have h0n : n0 ≤ n := X.2.2.2.2.2.2.2.1
  have hsz := am_sz_mono h0n
  have hsz2 := am_sz_mono hn
  have hszn : am_sz (n + 1) = am_sz n + N := by show am_sz n + (am_sh n).2 = _; rw [hsh]
  refine va_new (fs := (List.range N).map (fun j : Nat => am_ft ρ (am_ty ci j) 0)) X.1.1 X.1.2.1 X.1.2.2.2.2.2.1 (am_lay hc) (am_ty ci) hty.1 X.1.2.2.2.2.1 (X.1.2.2.2.2.2.1 _ w1) (X.1.2.2.2.2.2.1 _ w2) (X.1.2.2.2.2.2.1 _ w3) X.2.1.K X.2.1.2.2.1 X.2.1.2.2.2.1 X.2.2.1 X.2.2.2.1 hc (fun j hj => ?_) (show n - n0 + 1 ≤ n1 - n0 by omega) (show am_sz n - am_sz n0 + N ≤ am_sz n1 - am_sz n0 by omega) hd (fun q H1 gP gD gS => ?_)
  · rw [am_def0 ρ (am_smp_of (am_smp_ty ci hci j (by rw [← hN]; exact hj)))]
    unfold vp_V
    simp [hj]
  · refine am_made (am_grow X hn h9 hz (cl := cA n) ?_ gP gD gS (fun q => by rw [hsh] at q; exact absurd q (by show ¬ 10 + ci < 10; omega))) hg hl hs ho h0n (by rw [hsh]) kk
    unfold am_cell
    rw [hsh]
    rw [if_neg (by show ¬ (10 + ci = 0 ∨ 10 + ci = 2); omega), if_neg (by show ¬ 10 + ci = 1; omega), if_neg (by show ¬ 10 + ci < 10; omega), show (10 + ci, N).1 - 10 = ci from Nat.add_sub_cancel_left 10 ci, ← hN]
    refine congrArg Sum.inr (congrArg _ (List.map_congr_left fun j hj => ?_))
    rw [hz]
    have hj2 := List.mem_range.mp hj
    rw [← am_def0 _ (am_smp_of (am_smp_ty ci hci j (by rw [← hN]; exact hj2))), ← am_def0 _ (am_smp_of (am_smp_ty ci hci j (by rw [← hN]; exact hj2)))]
theorem ar_newi {N : Nat} {x : Int} (hd : decode M.2.1 pc = .ok (.newarray .int, 2)) (hsh : am_sh n = (0, N)) (hx : x = (N : Int)) (w1 : Cond.arrayClass (newarray.typeOf .int) ∈ am_gw) (hn : n + 1 ≤ n1) (h9 : n1 ≤ 321) (hz : ∀ i : Int, h ((n : Int) + 1) i = 0) (kk : am_Wp false d M n0 n1 h0 Q (pc + 2) ls (.inr (.inr ((n : Int) + 1)) :: st) (n + 1) h) : am_Wp false d M n0 n1 h0 Q pc ls (.inl x :: st) n h := by
  intro p l e s m args below meth c H locs ρ ρ0 cA cA0 D A lm X hg hl hs ho
  have h0n : n0 ≤ n := X.2.2.2.2.2.2.2.1
  have hsz := am_sz_mono h0n
  have hsz2 := am_sz_mono hn
  have hszn : am_sz (n + 1) = am_sz n + N := by show am_sz n + (am_sh n).2 = _; rw [hsh]
  have hx3 : (N : Int) ≤ 3300 := by have q : (am_sh n).2 ≤ 3300 := am_sh_le n; rw [hsh] at q; have q2 : N ≤ 3300 := q; omega
  have hok : am_i32 x := am_ok_hd hs
  have hnat := am_nat hok
  refine va_newa (atype := .int) (N' := N) (a0 := (N, .inl (fun _ => (0 : Int32)))) X.1.1 X.1.2.1 (X.1.2.2.2.2.2.1 _ w1) (ty := .int) rfl X.2.1.K X.2.1.2.2.1 X.2.1.2.2.2.1 X.2.2.1 X.2.2.2.1 (fun cA => rfl) (fun q => ?_) (by rw [hnat]; omega) (by simp [componentBytes]; omega) (show n - n0 + 1 ≤ n1 - n0 by omega) (show am_sz n - am_sz n0 + N ≤ am_sz n1 - am_sz n0 by omega) hd (fun q cl H1 gK gP gD gS => ?_)
  · rw [show (0 : Int32) = Int32.ofInt 0 from rfl, am_lt32 hok am_c0] at q
    omega
  · refine am_made (am_grow X hn h9 hz (cl := cl) ?_ gP gD gS (fun _ => ?_)) hg hl (am_ok_tl hs) ho h0n (by rw [hsh]) kk
    · unfold am_cell
      rw [hsh]
      rw [if_pos (by simp)]
      simp only [hz]
      unfold am_c1
      rw [if_pos rfl]
      rfl
    · have := gK.2 0 _ rfl
      unfold am_aty
      rw [hsh]
      exact this
theorem ar_newz {N : Nat} {x : Int} (hd : decode M.2.1 pc = .ok (.newarray .boolean, 2)) (hsh : am_sh n = (2, N)) (hx : x = (N : Int)) (w1 : Cond.arrayClass (newarray.typeOf .boolean) ∈ am_gw) (hn : n + 1 ≤ n1) (h9 : n1 ≤ 321) (hz : ∀ i : Int, h ((n : Int) + 1) i = 0) (kk : am_Wp false d M n0 n1 h0 Q (pc + 2) ls (.inr (.inr ((n : Int) + 1)) :: st) (n + 1) h) : am_Wp false d M n0 n1 h0 Q pc ls (.inl x :: st) n h := by
  intro p l e s m args below meth c H locs ρ ρ0 cA cA0 D A lm X hg hl hs ho
  have h0n : n0 ≤ n := X.2.2.2.2.2.2.2.1
  have hsz := am_sz_mono h0n
  have hsz2 := am_sz_mono hn
  have hszn : am_sz (n + 1) = am_sz n + N := by show am_sz n + (am_sh n).2 = _; rw [hsh]
  have hx3 : (N : Int) ≤ 3300 := by have q : (am_sh n).2 ≤ 3300 := am_sh_le n; rw [hsh] at q; have q2 : N ≤ 3300 := q; omega
  have hok : am_i32 x := am_ok_hd hs
  have hnat := am_nat hok
  refine va_newa (atype := .boolean) (N' := N) (a0 := (N, .inl (fun _ => (0 : Int32)))) X.1.1 X.1.2.1 (X.1.2.2.2.2.2.1 _ w1) (ty := .boolean) rfl X.2.1.K X.2.1.2.2.1 X.2.1.2.2.2.1 X.2.2.1 X.2.2.2.1 (fun cA => rfl) (fun q => ?_) (by rw [hnat]; omega) (by simp [componentBytes]; omega) (show n - n0 + 1 ≤ n1 - n0 by omega) (show am_sz n - am_sz n0 + N ≤ am_sz n1 - am_sz n0 by omega) hd (fun q cl H1 gK gP gD gS => ?_)
  · rw [show (0 : Int32) = Int32.ofInt 0 from rfl, am_lt32 hok am_c0] at q
    omega
  · refine am_made (am_grow X hn h9 hz (cl := cl) ?_ gP gD gS (fun _ => ?_)) hg hl (am_ok_tl hs) ho h0n (by rw [hsh]) kk
    · unfold am_cell
      rw [hsh]
      rw [if_pos (by simp)]
      simp only [hz]
      unfold am_c1
      rw [if_pos rfl]
      rfl
    · have := gK.2 0 _ rfl
      unfold am_aty
      rw [hsh]
      exact this
theorem ar_newj {N : Nat} {x : Int} (hd : decode M.2.1 pc = .ok (.newarray .long, 2)) (hsh : am_sh n = (1, N)) (hx : x = (N : Int)) (w1 : Cond.arrayClass (newarray.typeOf .long) ∈ am_gw) (hn : n + 1 ≤ n1) (h9 : n1 ≤ 321) (hz : ∀ i : Int, h ((n : Int) + 1) i = 0) (kk : am_Wp false d M n0 n1 h0 Q (pc + 2) ls (.inr (.inr ((n : Int) + 1)) :: st) (n + 1) h) : am_Wp false d M n0 n1 h0 Q pc ls (.inl x :: st) n h := by
  intro p l e s m args below meth c H locs ρ ρ0 cA cA0 D A lm X hg hl hs ho
  have h0n : n0 ≤ n := X.2.2.2.2.2.2.2.1
  have hsz := am_sz_mono h0n
  have hsz2 := am_sz_mono hn
  have hszn : am_sz (n + 1) = am_sz n + N := by show am_sz n + (am_sh n).2 = _; rw [hsh]
  have hx3 : (N : Int) ≤ 3300 := by have q : (am_sh n).2 ≤ 3300 := am_sh_le n; rw [hsh] at q; have q2 : N ≤ 3300 := q; omega
  have hok : am_i32 x := am_ok_hd hs
  have hnat := am_nat hok
  refine va_newa (atype := .long) (N' := N) (a0 := (N, .inr (.inl (fun _ => (0 : Int64))))) X.1.1 X.1.2.1 (X.1.2.2.2.2.2.1 _ w1) (ty := .long) rfl X.2.1.K X.2.1.2.2.1 X.2.1.2.2.2.1 X.2.2.1 X.2.2.2.1 (fun cA => rfl) (fun q => ?_) (by rw [hnat]; omega) (by simp [componentBytes]; omega) (show n - n0 + 1 ≤ n1 - n0 by omega) (show am_sz n - am_sz n0 + N ≤ am_sz n1 - am_sz n0 by omega) hd (fun q cl H1 gK gP gD gS => ?_)
  · rw [show (0 : Int32) = Int32.ofInt 0 from rfl, am_lt32 hok am_c0] at q
    omega
  · refine am_made (am_grow X hn h9 hz (cl := cl) ?_ gP gD gS (fun _ => ?_)) hg hl (am_ok_tl hs) ho h0n (by rw [hsh]) kk
    · unfold am_cell
      rw [hsh]
      rw [if_neg (by simp), if_pos (by simp)]
      simp only [hz]
      unfold am_c1
      rw [if_pos rfl]
      rfl
    · have := gK.2 0 _ rfl
      unfold am_aty
      rw [hsh]
      exact this
theorem ar_anewM {idx N : Nat} {x : Int} (hd : decode M.2.1 pc = .ok (.anewarray idx, 3)) (hsh : am_sh n = (3, N)) (hx : x = (N : Int)) (w1 : Cond.classLink M.1.cls idx RX0 ∈ am_gw) (hn : n + 1 ≤ n1) (h9 : n1 ≤ 321) (hz : ∀ i : Int, h ((n : Int) + 1) i = 0) (kk : am_Wp false d M n0 n1 h0 Q (pc + 3) ls (.inr (.inr ((n : Int) + 1)) :: st) (n + 1) h) : am_Wp false d M n0 n1 h0 Q pc ls (.inl x :: st) n h := by
  intro p l e s m args below meth c H locs ρ ρ0 cA cA0 D A lm X hg hl hs ho
  have h0n : n0 ≤ n := X.2.2.2.2.2.2.2.1
  have hsz := am_sz_mono h0n
  have hsz2 := am_sz_mono hn
  have hszn : am_sz (n + 1) = am_sz n + N := by show am_sz n + (am_sh n).2 = _; rw [hsh]
  have hx3 : (N : Int) ≤ 3300 := by have q : (am_sh n).2 ≤ 3300 := am_sh_le n; rw [hsh] at q; have q2 : N ≤ 3300 := q; omega
  have hok : am_i32 x := am_ok_hd hs
  have hnat := am_nat hok
  have ov : va_AO RX0 s := X.2.2.2.2.1.2.2.2.2.2.1 (.arrayOver (.object RX0)) w_ovM rfl
  refine va_newq (C := RX0) (N' := N) X.1.1 X.1.2.1 X.1.2.2.2.2.1 (X.1.2.2.2.2.2.1 _ w1) ov X.2.1.K X.2.1.2.2.1 X.2.1.2.2.2.1 X.2.2.1 X.2.2.2.1 (fun q => ?_) (by rw [hnat]; omega) (by omega) (show n - n0 + 1 ≤ n1 - n0 by omega) (show am_sz n - am_sz n0 + N ≤ am_sz n1 - am_sz n0 by omega) hd (fun q cl H1 gK gP gD gS => ?_)
  · rw [show (0 : Int32) = Int32.ofInt 0 from rfl, am_lt32 hok am_c0] at q
    omega
  · refine am_made (am_grow X hn h9 hz (cl := cl) ?_ gP gD gS (fun _ => ?_)) hg hl (am_ok_tl hs) ho h0n (by rw [hsh]) kk
    · unfold am_cell
      rw [hsh]
      rw [if_neg (by simp), if_neg (by simp), if_pos (by simp)]
      simp only [hz]
      unfold am_c1
      rw [if_pos rfl]
      rfl
    · have := gK.2 0 _ rfl
      unfold am_aty
      rw [hsh]
      exact this
theorem ar_aastM {a i z : Int} (hd : decode M.2.1 pc = .ok (.aastore, 1)) (ha : am_kd n a = 3) (hv : am_kd n z = 10 + 0) (hi0 : 0 ≤ i) (hi1 : i < am_ln a) (kk : am_Wp false d M n0 n1 h0 Q (pc + 1) ls st n (am_up h a i z)) : am_Wp false d M n0 n1 h0 Q pc ls (.inr (.inr z) :: .inl i :: .inr (.inr a) :: st) n h := by
  intro p l e s m args below meth c H locs ρ ρ0 cA cA0 D A lm X hg hl hs ho
  obtain ⟨h1, h2, h3⟩ := am_kd_sh ha (by decide)
  obtain ⟨v1, v2, v3⟩ := am_kd_sh hv (by decide)
  have he := am_wld_at (ρ := ρ) (cA := cA) (h := h) h1 h2
  rw [am_cell3 h1 (by omega)] at he
  have hev := am_wld_at (ρ := ρ) (cA := cA) (h := h) v1 v2
  rw [am_cellO v1 v3] at hev
  have hok : am_i32 i := am_ok_hd (am_ok_tl hs)
  have hin := am_vin hi0 hi1 hok
  simp only [List.map_cons, am_cv, am_rf_some h1, am_rf_some v1]
  refine va_astq (r := (RX0, TX0, 6)) X.1.1 X.1.2.1 (X.2.1.Ka h1 h2 (by omega) (ty := .object RX0) (by simp [am_aty, h3])) X.2.1.2.2.1 X.2.1.2.2.2.1 X.2.2.1 _ 0 _ 0 he rfl hev rfl hin hd (fun H1 locs1 gP gD gS => ?_)
  rw [am_nat hok] at gP gD
  have ecell : am_cell ρ cA (am_up h a i z) (a.toNat - 1) = .inl (cA (a.toNat - 1), (am_sh (a.toNat - 1)).2, .inr (.inr (.inr (.inr (va_up (fun j : Nat => am_rf ρ (h a j)) i.toNat (some (ρ z))))))) := by
    rw [am_cell3 h1 (by omega)]
    congr 7
    funext j
    unfold va_up
    by_cases q : j = i.toNat
    · rw [if_pos q, q, show ((i.toNat : Nat) : Int) = i by omega, am_up_at, am_rf_some v1]
    · rw [if_neg q, am_up_ne (by omega)]
  have R2 := X.2.1.put (h2 := am_up h a i z) h1 h2 am_up_other ecell gP gD (am_rg_up X.2.1.2.2.2.2.1 (fun _ => by rw [ha]; exact v2)) (fun q => by cases q)
  exact kk p l e s m args below meth c H1 locs1 ρ ρ0 cA cA0 D A lm (X.put R2 gS (am_up_neg h1)) (fun b j q => (am_up_neg h1 b j q).trans (hg b j q)) hl (am_ok_tl (am_ok_tl (am_ok_tl hs))) ho
theorem ar_anewT {idx N : Nat} {x : Int} (hd : decode M.2.1 pc = .ok (.anewarray idx, 3)) (hsh : am_sh n = (4, N)) (hx : x = (N : Int)) (w1 : Cond.classLink M.1.cls idx RX5 ∈ am_gw) (hn : n + 1 ≤ n1) (h9 : n1 ≤ 321) (hz : ∀ i : Int, h ((n : Int) + 1) i = 0) (kk : am_Wp false d M n0 n1 h0 Q (pc + 3) ls (.inr (.inr ((n : Int) + 1)) :: st) (n + 1) h) : am_Wp false d M n0 n1 h0 Q pc ls (.inl x :: st) n h := by
  intro p l e s m args below meth c H locs ρ ρ0 cA cA0 D A lm X hg hl hs ho
  have h0n : n0 ≤ n := X.2.2.2.2.2.2.2.1
  have hsz := am_sz_mono h0n
  have hsz2 := am_sz_mono hn
  have hszn : am_sz (n + 1) = am_sz n + N := by show am_sz n + (am_sh n).2 = _; rw [hsh]
  have hx3 : (N : Int) ≤ 3300 := by have q : (am_sh n).2 ≤ 3300 := am_sh_le n; rw [hsh] at q; have q2 : N ≤ 3300 := q; omega
  have hok : am_i32 x := am_ok_hd hs
  have hnat := am_nat hok
  have ov : va_AO RX5 s := X.2.2.2.2.1.2.2.2.2.2.1 (.arrayOver (.object RX5)) w_ovT rfl
  refine va_newq (C := RX5) (N' := N) X.1.1 X.1.2.1 X.1.2.2.2.2.1 (X.1.2.2.2.2.2.1 _ w1) ov X.2.1.K X.2.1.2.2.1 X.2.1.2.2.2.1 X.2.2.1 X.2.2.2.1 (fun q => ?_) (by rw [hnat]; omega) (by omega) (show n - n0 + 1 ≤ n1 - n0 by omega) (show am_sz n - am_sz n0 + N ≤ am_sz n1 - am_sz n0 by omega) hd (fun q cl H1 gK gP gD gS => ?_)
  · rw [show (0 : Int32) = Int32.ofInt 0 from rfl, am_lt32 hok am_c0] at q
    omega
  · refine am_made (am_grow X hn h9 hz (cl := cl) ?_ gP gD gS (fun _ => ?_)) hg hl (am_ok_tl hs) ho h0n (by rw [hsh]) kk
    · unfold am_cell
      rw [hsh]
      rw [if_neg (by simp), if_neg (by simp), if_pos (by simp)]
      simp only [hz]
      unfold am_c1
      rw [if_pos rfl]
      rfl
    · have := gK.2 0 _ rfl
      unfold am_aty
      rw [hsh]
      exact this
theorem ar_aastT {a i z : Int} (hd : decode M.2.1 pc = .ok (.aastore, 1)) (ha : am_kd n a = 4) (hv : am_kd n z = 10 + 5) (hi0 : 0 ≤ i) (hi1 : i < am_ln a) (kk : am_Wp false d M n0 n1 h0 Q (pc + 1) ls st n (am_up h a i z)) : am_Wp false d M n0 n1 h0 Q pc ls (.inr (.inr z) :: .inl i :: .inr (.inr a) :: st) n h := by
  intro p l e s m args below meth c H locs ρ ρ0 cA cA0 D A lm X hg hl hs ho
  obtain ⟨h1, h2, h3⟩ := am_kd_sh ha (by decide)
  obtain ⟨v1, v2, v3⟩ := am_kd_sh hv (by decide)
  have he := am_wld_at (ρ := ρ) (cA := cA) (h := h) h1 h2
  rw [am_cell3 h1 (by omega)] at he
  have hev := am_wld_at (ρ := ρ) (cA := cA) (h := h) v1 v2
  rw [am_cellO v1 v3] at hev
  have hok : am_i32 i := am_ok_hd (am_ok_tl hs)
  have hin := am_vin hi0 hi1 hok
  simp only [List.map_cons, am_cv, am_rf_some h1, am_rf_some v1]
  refine va_astq (r := (RX5, TX5, 20)) X.1.1 X.1.2.1 (X.2.1.Ka h1 h2 (by omega) (ty := .object RX5) (by simp [am_aty, h3])) X.2.1.2.2.1 X.2.1.2.2.2.1 X.2.2.1 _ 0 _ 5 he rfl hev rfl hin hd (fun H1 locs1 gP gD gS => ?_)
  rw [am_nat hok] at gP gD
  have ecell : am_cell ρ cA (am_up h a i z) (a.toNat - 1) = .inl (cA (a.toNat - 1), (am_sh (a.toNat - 1)).2, .inr (.inr (.inr (.inr (va_up (fun j : Nat => am_rf ρ (h a j)) i.toNat (some (ρ z))))))) := by
    rw [am_cell3 h1 (by omega)]
    congr 7
    funext j
    unfold va_up
    by_cases q : j = i.toNat
    · rw [if_pos q, q, show ((i.toNat : Nat) : Int) = i by omega, am_up_at, am_rf_some v1]
    · rw [if_neg q, am_up_ne (by omega)]
  have R2 := X.2.1.put (h2 := am_up h a i z) h1 h2 am_up_other ecell gP gD (am_rg_up X.2.1.2.2.2.2.1 (fun _ => by rw [ha]; exact v2)) (fun q => by cases q)
  exact kk p l e s m args below meth c H1 locs1 ρ ρ0 cA cA0 D A lm (X.put R2 gS (am_up_neg h1)) (fun b j q => (am_up_neg h1 b j q).trans (hg b j q)) hl (am_ok_tl (am_ok_tl (am_ok_tl hs))) ho
theorem ar_objInit {fin : Bool} {a : Int} {idx : Nat} (hd : decode M.2.1 pc = .ok (.invokespecial idx, 3)) (w1 : Cond.methodLink M.1.cls idx objectInit ∈ am_gw) (ha : 1 ≤ a) (hst : am_cw st ≤ 8) (kk : am_Wp fin d M n0 n1 h0 Q (pc + 3) ls st n h) : am_Wp fin d M n0 n1 h0 Q pc ls (.inr (.inr a) :: st) n h := by
  intro p l e s m args below meth c H locs ρ ρ0 cA cA0 D A lm X hg hl hs ho
  have K := kk p l e s m args below meth c H locs ρ ρ0 cA cA0 D A lm X hg hl (am_ok_tl hs) ho
  simp only [List.map_cons, am_cv, am_rf_some ha]
  have r := lv_room (m := m) (pc := pc) (ls := lm) (rest := va_rf (some (ρ a)) :: st.map (am_cv ρ)) (st := st.map (am_cv ρ)) (by rw [am_cw_ok]; exact hst)
  exact W.objInit X.1.1 X.1.2.1 X.1.2.2.2.2.1 (X.1.2.2.2.2.2.1 _ w1) (X.1.2.2.2.2.2.1 _ w_oi1) (X.1.2.2.2.2.2.1 _ w_oi2) rfl (by rw [X.1.2.2.1]; exact hl.1) rfl hd (show 1 ≤ 4 * (d + 1) by omega) (show _ ≤ 100 * (d + 1) by omega) K
theorem ar_callI {fin : Bool} {M2 : am_M} {as : List am_V} {idx n2 : Nat} {a : Int} (hd : decode M.2.1 pc = .ok (.invokespecial idx, 3)) (he : st0 = as.reverse ++ .inr (.inr a) :: st) (w1 : Cond.methodLink M.1.cls idx M2.1 ∈ am_gw) (w2 : Cond.instanceMethod M2.1 ∈ am_gw) (ha : 1 ≤ a) (w4 : Cond.initialized M2.1.cls ∈ am_gw) (w5 : Cond.code M2.1 M2.2.1 M2.2.2.1 M2.2.2.2 ∈ am_gw) (hy : M2.1.name = "<init>") (hret : M2.2.2.2 = none) (hm : M2.1.cls ≠ "java/lang/invoke/MethodHandle" ∧ M2.1.cls ≠ "java/lang/invoke/VarHandle" ∧ (parseMethodDescriptor M2.1.desc).map (fun d => d.parameters.length) = some as.length) (hL : M2.2.2.1 ≤ 60) (hst : am_cw st ≤ 8) (hn : n ≤ n2) (hn2 : n2 ≤ n1) (kk : am_Cl fin d M2 n n2 (.inr (.inr a) :: as) h (fun r h' => am_Wp fin (d + 1) M n0 n1 h0 Q (pc + 3) ls st n2 h')) : am_Wp fin (d + 1) M n0 n1 h0 Q pc ls st0 n h := by
  intro p l e s m args below meth c H locs ρ ρ0 cA cA0 D A lm X hg hl hs ho
  subst he
  have kk2 : am_Cl fin d M2 n n2 (.inr (.inr a) :: as) h (fun r h' => am_Wp fin (d + 1) M n0 n1 h0 Q (pc + 3) ls (am_pv M2.2.2.2 r ++ st) n2 h') := by
    rw [hret]
    exact kk
  have hsa : ∀ v ∈ (.inr (.inr a) :: as : List am_V), am_okV n v := fun v hv => hs v (by simp at hv ⊢; rcases hv with hv | hv <;> simp [hv])
  have hss : ∀ v ∈ st, am_okV n v := fun v hv => hs v (by simp [hv])
  have hM := kk2 hsa l ρ cA D H.size
  have hP := am_pre X ((.inr (.inr a) :: as : List am_V).map (am_cv ρ))
  refine am_behind X hg hl hss ho hn hn2 (am_sz_mono hn) (am_sz_mono X.2.2.2.2.2.2.2.1) (a := (((.inr (.inr a) :: as : List am_V).map (am_cv ρ)).toArray)) (ret := M2.2.2.2) ?_
  simp only [List.map_cons, am_cv, am_rf_some ha] at hM hP ⊢
  unfold am_ws at hM
  rw [hret] at hM w5
  have w5' : Cond.code M2.1 M2.2.1 M2.2.2.1 M2.2.2.2 ∈ am_gw := by rw [hret]; exact w5
  have G := am_good X.1.2.2.2.2.2.1 w5'
  unfold am_ws at G
  rw [hret] at G
  rw [hret]
  refine va_runI (As := as.map (am_cv ρ)) (rest := st.map (am_cv ρ)) ⟨X.1.1, X.1.2.1, X.1.2.2.1, X.1.2.2.2.2.1, X.1.2.2.2.2.2.1⟩ hM ⟨callB_of as.length X.1.2.2.2.2.2.1 G rfl rfl rfl (X.1.2.2.2.2.2.1 _ w4) (X.1.2.2.2.2.2.1 _ w1) hm ⟨by show 4 * (d + 1) + 1 ≤ 4 * (d + 1 + 1); omega, by show 8 + (M2.2.2.1 + 11) + 100 * (d + 1) ≤ 100 * (d + 1 + 1); omega⟩, hy, X.1.2.2.2.2.2.1 _ w2⟩ ?_ rfl (by simp) hl.1 (by simp [am_cv, am_rf_some ha, va_rf]) (lv_room (by rw [am_cw_ok]; exact hst)) hd ⟨?_, ?_⟩
  · exact hP
  · show n - n0 + (n2 - n) ≤ n1 - n0
    have := X.2.2.2.2.2.2.2.1
    omega
  · show am_sz n - am_sz n0 + (am_sz n2 - am_sz n) ≤ am_sz n1 - am_sz n0
    have := am_sz_mono hn
    have := am_sz_mono hn2
    have := am_sz_mono X.2.2.2.2.2.2.2.1
    omega
theorem ar_callIN {fin : Bool} {M2 : am_M} {as : List am_V} {idx n2 : Nat} {host : String} {a : Int} (hd : decode M.2.1 pc = .ok (.invokespecial idx, 3)) (he : st0 = as.reverse ++ .inr (.inr a) :: st) (w1 : Cond.methodLinkNest M.1.cls idx M2.1 host ∈ lw_tbl) (w2 : Cond.instanceMethod M2.1 ∈ am_gw) (ha : 1 ≤ a) (w4 : Cond.initialized M2.1.cls ∈ am_gw) (w5 : Cond.code M2.1 M2.2.1 M2.2.2.1 M2.2.2.2 ∈ am_gw) (hy : M2.1.name = "<init>") (hret : M2.2.2.2 = none) (hm : M2.1.cls ≠ "java/lang/invoke/MethodHandle" ∧ M2.1.cls ≠ "java/lang/invoke/VarHandle" ∧ (parseMethodDescriptor M2.1.desc).map (fun d => d.parameters.length) = some as.length) (hL : M2.2.2.1 ≤ 60) (hst : am_cw st ≤ 8) (hn : n ≤ n2) (hn2 : n2 ≤ n1) (kk : am_Cl fin d M2 n n2 (.inr (.inr a) :: as) h (fun r h' => am_Wp fin (d + 1) M n0 n1 h0 Q (pc + 3) ls st n2 h')) : am_Wp fin (d + 1) M n0 n1 h0 Q pc ls st0 n h := by
  intro p l e s m args below meth c H locs ρ ρ0 cA cA0 D A lm X hg hl hs ho
  subst he
  have kk2 : am_Cl fin d M2 n n2 (.inr (.inr a) :: as) h (fun r h' => am_Wp fin (d + 1) M n0 n1 h0 Q (pc + 3) ls (am_pv M2.2.2.2 r ++ st) n2 h') := by
    rw [hret]
    exact kk
  have hsa : ∀ v ∈ (.inr (.inr a) :: as : List am_V), am_okV n v := fun v hv => hs v (by simp at hv ⊢; rcases hv with hv | hv <;> simp [hv])
  have hss : ∀ v ∈ st, am_okV n v := fun v hv => hs v (by simp [hv])
  have hM := kk2 hsa l ρ cA D H.size
  have hP := am_pre X ((.inr (.inr a) :: as : List am_V).map (am_cv ρ))
  refine am_behind X hg hl hss ho hn hn2 (am_sz_mono hn) (am_sz_mono X.2.2.2.2.2.2.2.1) (a := (((.inr (.inr a) :: as : List am_V).map (am_cv ρ)).toArray)) (ret := M2.2.2.2) ?_
  simp only [List.map_cons, am_cv, am_rf_some ha] at hM hP ⊢
  unfold am_ws at hM
  rw [hret] at hM w5
  have w5' : Cond.code M2.1 M2.2.1 M2.2.2.1 M2.2.2.2 ∈ am_gw := by rw [hret]; exact w5
  have G := am_good X.1.2.2.2.2.2.1 w5'
  unfold am_ws at G
  rw [hret] at G
  rw [hret]
  refine va_runIN (As := as.map (am_cv ρ)) (rest := st.map (am_cv ρ)) ⟨X.1.1, X.1.2.1, X.1.2.2.1, X.1.2.2.2.2.1, X.1.2.2.2.2.2.1⟩ hM ⟨va_cnB as.length X.1.2.2.2.2.2.1 G rfl rfl rfl (X.2.2.2.2.1.2.2.2.2.2.1 _ w1 rfl) (X.1.2.2.2.2.2.1 _ w4) hm ⟨by show 4 * (d + 1) + 1 ≤ 4 * (d + 1 + 1); omega, by show 8 + (M2.2.2.1 + 11) + 100 * (d + 1) ≤ 100 * (d + 1 + 1); omega⟩, hy, X.1.2.2.2.2.2.1 _ w2⟩ ?_ rfl (by simp) hl.1 (by simp [am_cv, am_rf_some ha, va_rf]) (lv_room (by rw [am_cw_ok]; exact hst)) hd ⟨?_, ?_⟩
  · exact hP
  · show n - n0 + (n2 - n) ≤ n1 - n0
    have := X.2.2.2.2.2.2.2.1
    omega
  · show am_sz n - am_sz n0 + (am_sz n2 - am_sz n) ≤ am_sz n1 - am_sz n0
    have := am_sz_mono hn
    have := am_sz_mono hn2
    have := am_sz_mono X.2.2.2.2.2.2.2.1
    omega
end AM_NEW
