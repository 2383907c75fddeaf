/-! CONSTRUCTORS of the class and of the reference -/
theorem am_kd_of {n : Nat} {a : Int} {K : Nat} (h : am_kd n a = K) (hK : K ≠ 99) : 1 ≤ a ∧ a ≤ n ∧ (am_sh (a.toNat - 1)).1 = K := am_kd_sh h hK
theorem am_off_99 : ∀ (c k : Nat) (o : Int), c = 89 → am_off c k = some o → False := by
  intro c k o e h
  subst e
  cases h
theorem am_ln_30 (a : Int) (h : am_kd 321 a = 3) : am_ln a = 30 := by
  obtain ⟨g1, g2, g3⟩ := am_kd_sh h (by decide)
  have key : ∀ k : Nat, k < 321 → (am_sh k).1 = 3 → (am_sh k).2 = 30 := by decide +kernel
  unfold am_ln
  rw [key _ (by omega) g3]
  rfl
theorem am_ln_4 (a : Int) (h : am_kd 321 a = 4) : am_ln a = 4 := by
  obtain ⟨g1, g2, g3⟩ := am_kd_sh h (by decide)
  have key : ∀ k : Nat, k < 321 → (am_sh k).1 = 4 → (am_sh k).2 = 4 := by decide +kernel
  unfold am_ln
  rw [key _ (by omega) g3]
  rfl
theorem wI_X6_9 : Cond.fieldLink RX6 9 "ByteIntervals" "tape" "[I" ∈ am_gw := List.mem_filter.mpr ⟨List.mem_of_getElem? (i := 545) (by decide +kernel), rfl⟩
theorem wI_X6_13 : Cond.fieldLink RX6 13 "ByteIntervals" "tapeCount" "I" ∈ am_gw := List.mem_filter.mpr ⟨List.mem_of_getElem? (i := 546) (by decide +kernel), rfl⟩
theorem wI_X6_17 : Cond.fieldLink RX6 17 "ByteIntervals" "latestFault" "I" ∈ am_gw := List.mem_filter.mpr ⟨List.mem_of_getElem? (i := 547) (by decide +kernel), rfl⟩
theorem wI_X6_20 : Cond.fieldLink RX6 20 "ByteIntervals" "latestFaultPlace" "I" ∈ am_gw := List.mem_filter.mpr ⟨List.mem_of_getElem? (i := 548) (by decide +kernel), rfl⟩
theorem wI_X6_25 : Cond.fieldLink RX6 25 "ByteIntervals" "texts" "[LByteIntervals$Text;" ∈ am_gw := List.mem_filter.mpr ⟨List.mem_of_getElem? (i := 549) (by decide +kernel), rfl⟩
theorem wI_X6_32 : Cond.fieldLink RX6 32 "ByteIntervals" "state" "LByteIntervals$State;" ∈ am_gw := List.mem_filter.mpr ⟨List.mem_of_getElem? (i := 550) (by decide +kernel), rfl⟩
theorem wI_X6_36 : Cond.fieldLink RX6 36 "ByteIntervals" "imageState" "LByteIntervals$State;" ∈ am_gw := List.mem_filter.mpr ⟨List.mem_of_getElem? (i := 551) (by decide +kernel), rfl⟩
theorem wI_X6_42 : Cond.fieldLink RX6 42 "ByteIntervals" "trial" "LByteIntervals$Moment;" ∈ am_gw := List.mem_filter.mpr ⟨List.mem_of_getElem? (i := 552) (by decide +kernel), rfl⟩
theorem wI_X6_49 : Cond.fieldLink RX6 49 "ByteIntervals" "parser" "LByteIntervals$Parser;" ∈ am_gw := List.mem_filter.mpr ⟨List.mem_of_getElem? (i := 553) (by decide +kernel), rfl⟩
theorem wI_X6_56 : Cond.fieldLink RX6 56 "ByteIntervals" "reader" "LByteIntervals$Reader;" ∈ am_gw := List.mem_filter.mpr ⟨List.mem_of_getElem? (i := 554) (by decide +kernel), rfl⟩
theorem wI_X7_7 : Cond.fieldLink RX7 7 "ByteIntervalsModel" "a" "[I" ∈ am_gw := List.mem_filter.mpr ⟨List.mem_of_getElem? (i := 1289) (by decide +kernel), rfl⟩
theorem wI_X7_13 : Cond.fieldLink RX7 13 "ByteIntervalsModel" "image" "[I" ∈ am_gw := List.mem_filter.mpr ⟨List.mem_of_getElem? (i := 1290) (by decide +kernel), rfl⟩
theorem wI_X7_16 : Cond.fieldLink RX7 16 "ByteIntervalsModel" "texts" "[I" ∈ am_gw := List.mem_filter.mpr ⟨List.mem_of_getElem? (i := 1291) (by decide +kernel), rfl⟩
theorem wI_X7_19 : Cond.fieldLink RX7 19 "ByteIntervalsModel" "tape" "[I" ∈ am_gw := List.mem_filter.mpr ⟨List.mem_of_getElem? (i := 1292) (by decide +kernel), rfl⟩
theorem wI_X7_22 : Cond.fieldLink RX7 22 "ByteIntervalsModel" "fault" "I" ∈ am_gw := List.mem_filter.mpr ⟨List.mem_of_getElem? (i := 1294) (by decide +kernel), rfl⟩
theorem wI_X7_26 : Cond.fieldLink RX7 26 "ByteIntervalsModel" "faultPlace" "I" ∈ am_gw := List.mem_filter.mpr ⟨List.mem_of_getElem? (i := 1295) (by decide +kernel), rfl⟩
theorem wI_X7_29 : Cond.fieldLink RX7 29 "ByteIntervalsModel" "pile" "[I" ∈ am_gw := List.mem_filter.mpr ⟨List.mem_of_getElem? (i := 1304) (by decide +kernel), rfl⟩
theorem wI_X7_32 : Cond.fieldLink RX7 32 "ByteIntervalsModel" "named" "[I" ∈ am_gw := List.mem_filter.mpr ⟨List.mem_of_getElem? (i := 1310) (by decide +kernel), rfl⟩
theorem wI_X7_35 : Cond.fieldLink RX7 35 "ByteIntervalsModel" "values" "[J" ∈ am_gw := List.mem_filter.mpr ⟨List.mem_of_getElem? (i := 1313) (by decide +kernel), rfl⟩
theorem wI_X7_39 : Cond.fieldLink RX7 39 "ByteIntervalsModel" "looks" "[J" ∈ am_gw := List.mem_filter.mpr ⟨List.mem_of_getElem? (i := 1314) (by decide +kernel), rfl⟩
theorem wI_X7_42 : Cond.fieldLink RX7 42 "ByteIntervalsModel" "truth" "[Z" ∈ am_gw := List.mem_filter.mpr ⟨List.mem_of_getElem? (i := 1315) (by decide +kernel), rfl⟩
theorem wI_X7_46 : Cond.fieldLink RX7 46 "ByteIntervalsModel" "truthLooks" "[J" ∈ am_gw := List.mem_filter.mpr ⟨List.mem_of_getElem? (i := 1316) (by decide +kernel), rfl⟩
theorem wI_X7_49 : Cond.fieldLink RX7 49 "ByteIntervalsModel" "clauseOf" "[I" ∈ am_gw := List.mem_filter.mpr ⟨List.mem_of_getElem? (i := 1317) (by decide +kernel), rfl⟩
theorem wI_X7_52 : Cond.fieldLink RX7 52 "ByteIntervalsModel" "hangs" "[I" ∈ am_gw := List.mem_filter.mpr ⟨List.mem_of_getElem? (i := 1318) (by decide +kernel), rfl⟩
theorem wI_X7_55 : Cond.fieldLink RX7 55 "ByteIntervalsModel" "row" "[I" ∈ am_gw := List.mem_filter.mpr ⟨List.mem_of_getElem? (i := 1319) (by decide +kernel), rfl⟩
theorem wI_X7_58 : Cond.fieldLink RX7 58 "ByteIntervalsModel" "base" "[I" ∈ am_gw := List.mem_filter.mpr ⟨List.mem_of_getElem? (i := 1323) (by decide +kernel), rfl⟩
theorem wI_X7_61 : Cond.fieldLink RX7 61 "ByteIntervalsModel" "longs" "[I" ∈ am_gw := List.mem_filter.mpr ⟨List.mem_of_getElem? (i := 1324) (by decide +kernel), rfl⟩
theorem wI_X7_64 : Cond.fieldLink RX7 64 "ByteIntervalsModel" "next" "[I" ∈ am_gw := List.mem_filter.mpr ⟨List.mem_of_getElem? (i := 1325) (by decide +kernel), rfl⟩
theorem wI_X7_67 : Cond.fieldLink RX7 67 "ByteIntervalsModel" "levelLooks" "[J" ∈ am_gw := List.mem_filter.mpr ⟨List.mem_of_getElem? (i := 1326) (by decide +kernel), rfl⟩
theorem wI_X7_70 : Cond.fieldLink RX7 70 "ByteIntervalsModel" "value" "[I" ∈ am_gw := List.mem_filter.mpr ⟨List.mem_of_getElem? (i := 1327) (by decide +kernel), rfl⟩
theorem wI_X7_73 : Cond.fieldLink RX7 73 "ByteIntervalsModel" "from" "[I" ∈ am_gw := List.mem_filter.mpr ⟨List.mem_of_getElem? (i := 1328) (by decide +kernel), rfl⟩
theorem wI_X7_76 : Cond.fieldLink RX7 76 "ByteIntervalsModel" "to" "[I" ∈ am_gw := List.mem_filter.mpr ⟨List.mem_of_getElem? (i := 1329) (by decide +kernel), rfl⟩
theorem wI_X7_79 : Cond.fieldLink RX7 79 "ByteIntervalsModel" "how" "[I" ∈ am_gw := List.mem_filter.mpr ⟨List.mem_of_getElem? (i := 1330) (by decide +kernel), rfl⟩
theorem wI_X7_82 : Cond.fieldLink RX7 82 "ByteIntervalsModel" "own" "[J" ∈ am_gw := List.mem_filter.mpr ⟨List.mem_of_getElem? (i := 1331) (by decide +kernel), rfl⟩
theorem wI_X7_85 : Cond.fieldLink RX7 85 "ByteIntervalsModel" "aside" "[I" ∈ am_gw := List.mem_filter.mpr ⟨List.mem_of_getElem? (i := 1337) (by decide +kernel), rfl⟩
theorem wI_X7_88 : Cond.fieldLink RX7 88 "ByteIntervalsModel" "round" "[I" ∈ am_gw := List.mem_filter.mpr ⟨List.mem_of_getElem? (i := 1338) (by decide +kernel), rfl⟩
theorem wI_X7_91 : Cond.fieldLink RX7 91 "ByteIntervalsModel" "isWritten" "Z" ∈ am_gw := List.mem_filter.mpr ⟨List.mem_of_getElem? (i := 1339) (by decide +kernel), rfl⟩
theorem wI_X7_95 : Cond.fieldLink RX7 95 "ByteIntervalsModel" "kept" "[I" ∈ am_gw := List.mem_filter.mpr ⟨List.mem_of_getElem? (i := 1341) (by decide +kernel), rfl⟩
theorem wI_X7_98 : Cond.fieldLink RX7 98 "ByteIntervalsModel" "valueWas" "[I" ∈ am_gw := List.mem_filter.mpr ⟨List.mem_of_getElem? (i := 1342) (by decide +kernel), rfl⟩
theorem wI_X7_101 : Cond.fieldLink RX7 101 "ByteIntervalsModel" "howWas" "[I" ∈ am_gw := List.mem_filter.mpr ⟨List.mem_of_getElem? (i := 1343) (by decide +kernel), rfl⟩
section CTORS2
variable {d : Nat} {h : am_H} {Q : Int → am_H → Prop}
theorem c_I_X6 (z : ∀ b j : Int, 1 ≤ b → h b j = 0) (k : ∀ h2, cpost h 1 ((293 : Nat) : Int) h2 → Q 0 h2) : am_Cl false (d + 2) M_I_X6 1 293 [.inr (.inr (1))] h Q := by
  refine am_Cl_of rfl (Nat.le_of_ble_eq_true rfl) (by omega) rfl (fun _ => ?_)
  have C0 := cst_0 (h := h) (a := 1) (r := 3) (by omega) z
  refine ar_aload_n (pc := 0) (i := 0) (k0 := 0) (by decide +kernel) rfl rfl ?_
  refine ar_objInit (pc := 1) (by decide +kernel) w_oi_RX6 (by omega) (Nat.le_of_ble_eq_true rfl) ?_
  refine ar_aload_n (pc := 4) (i := 0) (k0 := 0) (by decide +kernel) rfl rfl ?_
  refine ar_sipush (pc := 5) (z := 300) (by decide +kernel) (by omega) ?_
  refine ar_newi (pc := 8) (n := 1) (by decide +kernel) (show am_sh 1 = (0, 300) by decide +kernel) rfl w_aci (by omega) (by omega) (fun i => C0.2.2.2.2.2 _ _ (by omega)) ?_
  rw [show (((1 : Nat) : Int) + 1) = 2 by omega]
  have C1 := cst_new C0 (2) (by omega) (fun _ j => ZZ_at (m := 1) (by omega) (by omega) (show am_sh 1 = (0, 300) by decide +kernel)) (fun q => by omega)
  refine ar_putF (pc := 10) (a := 1) (z := 2) (ci := 6) (k := 0) (by decide +kernel) rfl (am_kd_at (m := 0) rfl (by omega) (show am_sh 0 = (16, 10) by decide +kernel)) rfl (Nat.le_of_ble_eq_true rfl) (Or.inr (Or.inr (Or.inr (Or.inr ⟨_, rfl⟩)))) rfl rfl rfl rfl (fun q => q) wI_X6_9 ?_
  have C2 := cst_put (k := ((0 : Nat) : Int)) (z := 2) C1
  generalize am_up h (1) ((0 : Nat) : Int) (2) = g1 at C2 ⊢
  refine ar_aload_n (pc := 13) (i := 0) (k0 := 0) (by decide +kernel) rfl rfl ?_
  refine ar_iconst (pc := 14) (z := 0) (by decide +kernel) (by unfold am_i32; omega) ?_
  refine ar_putI (pc := 15) (a := 1) (z := 0) 6 1 (by decide +kernel) (am_kd_at (m := 0) rfl (by omega) (show am_sh 0 = (16, 10) by decide +kernel)) rfl (Nat.le_of_ble_eq_true rfl) rfl (fun q => by cases q) rfl wI_X6_13 ?_
  have C3 := cst_put (k := ((1 : Nat) : Int)) (z := 0) C2
  generalize am_up g1 (1) ((1 : Nat) : Int) (0) = g2 at C3 ⊢
  refine ar_aload_n (pc := 18) (i := 0) (k0 := 0) (by decide +kernel) rfl rfl ?_
  refine ar_iconst (pc := 19) (z := -1) (by decide +kernel) (by unfold am_i32; omega) ?_
  refine ar_putI (pc := 20) (a := 1) (z := -1) 6 2 (by decide +kernel) (am_kd_at (m := 0) rfl (by omega) (show am_sh 0 = (16, 10) by decide +kernel)) rfl (Nat.le_of_ble_eq_true rfl) rfl (fun q => by cases q) rfl wI_X6_17 ?_
  have C4 := cst_put (k := ((2 : Nat) : Int)) (z := -1) C3
  generalize am_up g2 (1) ((2 : Nat) : Int) (-1) = g3 at C4 ⊢
  refine ar_aload_n (pc := 23) (i := 0) (k0 := 0) (by decide +kernel) rfl rfl ?_
  refine ar_iconst (pc := 24) (z := -1) (by decide +kernel) (by unfold am_i32; omega) ?_
  refine ar_putI (pc := 25) (a := 1) (z := -1) 6 3 (by decide +kernel) (am_kd_at (m := 0) rfl (by omega) (show am_sh 0 = (16, 10) by decide +kernel)) rfl (Nat.le_of_ble_eq_true rfl) rfl (fun q => by cases q) rfl wI_X6_20 ?_
  have C5 := cst_put (k := ((3 : Nat) : Int)) (z := -1) C4
  generalize am_up g3 (1) ((3 : Nat) : Int) (-1) = g4 at C5 ⊢
  refine ar_aload_n (pc := 28) (i := 0) (k0 := 0) (by decide +kernel) rfl rfl ?_
  refine ar_iconst (pc := 29) (z := 4) (by decide +kernel) (by unfold am_i32; omega) ?_
  refine ar_anewT (pc := 30) (n := 2) (by decide +kernel) (show am_sh 2 = (4, 4) by decide +kernel) rfl w_clX6_23 (by omega) (by omega) (fun i => C5.2.2.2.2.2 _ _ (by omega)) ?_
  rw [show (((2 : Nat) : Int) + 1) = 3 by omega]
  have C6 := cst_new C5 (3) (by omega) (fun q => absurd rfl q) (fun _ j => rfl)
  refine ar_putF (pc := 33) (a := 1) (z := 3) (ci := 6) (k := 4) (by decide +kernel) rfl (am_kd_at (m := 0) rfl (by omega) (show am_sh 0 = (16, 10) by decide +kernel)) rfl (Nat.le_of_ble_eq_true rfl) (Or.inr (Or.inr (Or.inr (Or.inr ⟨_, rfl⟩)))) rfl rfl rfl rfl (fun q => q) wI_X6_25 ?_
  have C7 := cst_put (k := ((4 : Nat) : Int)) (z := 3) C6
  generalize am_up g4 (1) ((4 : Nat) : Int) (3) = g5 at C7 ⊢
  refine ar_aload_n (pc := 36) (i := 0) (k0 := 0) (by decide +kernel) rfl rfl ?_
  refine ar_new (pc := 37) (n := 3) (N := 9) (ci := 4) (by decide +kernel) (show am_sh 3 = (14, 9) by decide +kernel) rfl w_clX6_29 w_inRX4 wz_RX4 (by omega) (by omega) (fun i => C7.2.2.2.2.2 _ _ (by omega)) ?_
  rw [show (((3 : Nat) : Int) + 1) = 4 by omega]
  refine ar_dup (pc := 40) (by decide +kernel) trivial ?_
  refine ar_callIN (pc := 41) (M2 := M_I_X4) (as := []) (a := 4) (n := 3 + 1) (n2 := 100) (st := [.inr (.inr (4)), .inr (.inr (1))]) (by decide +kernel) rfl w_nlX6_31 w_im_RX4 (by omega) wz_RX4 w_co_RX4 rfl rfl ⟨by decide, by decide, rfl⟩ (Nat.le_of_ble_eq_true rfl) (Nat.le_of_ble_eq_true rfl) (by omega) (by omega) (c_I_X4 (m := 3) (by omega) (by omega) (by omega) (show am_sh 3 = (14, 9) by decide +kernel) (show am_sh 4 = (10, 6) by decide +kernel) (show am_sh 5 = (0, 40) by decide +kernel) (show am_sh 6 = (0, 25) by decide +kernel) (show am_sh 7 = (3, 30) by decide +kernel) (show am_sh 8 = (0, 8) by decide +kernel) (show am_sh 9 = (0, 8) by decide +kernel) (by decide +kernel) (fun b j q => C7.2.2.2.2.2 b j (by omega)) (fun g6 P6 => ?_))
  have C8 := cst_call C7 (b := 4) (n := ((100 : Nat) : Int)) (by omega) (by omega) (by omega) P6
  refine ar_putF (pc := 44) (a := 1) (z := 4) (ci := 6) (k := 5) (by decide +kernel) rfl (am_kd_at (m := 0) rfl (by omega) (show am_sh 0 = (16, 10) by decide +kernel)) rfl (Nat.le_of_ble_eq_true rfl) (Or.inr (Or.inr (Or.inr (Or.inl ⟨_, rfl⟩)))) rfl rfl rfl rfl (fun q => q) wI_X6_32 ?_
  have C9 := cst_put (k := ((5 : Nat) : Int)) (z := 4) C8
  generalize am_up g6 (1) ((5 : Nat) : Int) (4) = g7 at C9 ⊢
  refine ar_aload_n (pc := 47) (i := 0) (k0 := 0) (by decide +kernel) rfl rfl ?_
  refine ar_new (pc := 48) (n := 100) (N := 9) (ci := 4) (by decide +kernel) (show am_sh 100 = (14, 9) by decide +kernel) rfl w_clX6_29 w_inRX4 wz_RX4 (by omega) (by omega) (fun i => C9.2.2.2.2.2 _ _ (by omega)) ?_
  rw [show (((100 : Nat) : Int) + 1) = 101 by omega]
  refine ar_dup (pc := 51) (by decide +kernel) trivial ?_
  refine ar_callIN (pc := 52) (M2 := M_I_X4) (as := []) (a := 101) (n := 100 + 1) (n2 := 197) (st := [.inr (.inr (101)), .inr (.inr (1))]) (by decide +kernel) rfl w_nlX6_31 w_im_RX4 (by omega) wz_RX4 w_co_RX4 rfl rfl ⟨by decide, by decide, rfl⟩ (Nat.le_of_ble_eq_true rfl) (Nat.le_of_ble_eq_true rfl) (by omega) (by omega) (c_I_X4 (m := 100) (by omega) (by omega) (by omega) (show am_sh 100 = (14, 9) by decide +kernel) (show am_sh 101 = (10, 6) by decide +kernel) (show am_sh 102 = (0, 40) by decide +kernel) (show am_sh 103 = (0, 25) by decide +kernel) (show am_sh 104 = (3, 30) by decide +kernel) (show am_sh 105 = (0, 8) by decide +kernel) (show am_sh 106 = (0, 8) by decide +kernel) (by decide +kernel) (fun b j q => C9.2.2.2.2.2 b j (by omega)) (fun g8 P8 => ?_))
  have C10 := cst_call C9 (b := 101) (n := ((197 : Nat) : Int)) (by omega) (by omega) (by omega) P8
  refine ar_putF (pc := 55) (a := 1) (z := 101) (ci := 6) (k := 6) (by decide +kernel) rfl (am_kd_at (m := 0) rfl (by omega) (show am_sh 0 = (16, 10) by decide +kernel)) rfl (Nat.le_of_ble_eq_true rfl) (Or.inr (Or.inr (Or.inr (Or.inl ⟨_, rfl⟩)))) rfl rfl rfl rfl (fun q => q) wI_X6_36 ?_
  have C11 := cst_put (k := ((6 : Nat) : Int)) (z := 101) C10
  generalize am_up g8 (1) ((6 : Nat) : Int) (101) = g9 at C11 ⊢
  refine ar_aload_n (pc := 58) (i := 0) (k0 := 0) (by decide +kernel) rfl rfl ?_
  refine ar_new (pc := 59) (n := 197) (N := 6) (ci := 0) (by decide +kernel) (show am_sh 197 = (10, 6) by decide +kernel) rfl w_clX6_39 w_inRX0 wz_RX0 (by omega) (by omega) (fun i => C11.2.2.2.2.2 _ _ (by omega)) ?_
  rw [show (((197 : Nat) : Int) + 1) = 198 by omega]
  refine ar_dup (pc := 62) (by decide +kernel) trivial ?_
  refine ar_callIN (pc := 63) (M2 := M_I_X0) (as := []) (a := 198) (n := 197 + 1) (n2 := 200) (st := [.inr (.inr (198)), .inr (.inr (1))]) (by decide +kernel) rfl w_nlX6_41 w_im_RX0 (by omega) wz_RX0 w_co_RX0 rfl rfl ⟨by decide, by decide, rfl⟩ (Nat.le_of_ble_eq_true rfl) (Nat.le_of_ble_eq_true rfl) (by omega) (by omega) (c_I_X0 (m := 197) (by omega) (by omega) (by omega) (show am_sh 197 = (10, 6) by decide +kernel) (show am_sh 198 = (0, 40) by decide +kernel) (show am_sh 199 = (0, 25) by decide +kernel) (fun b j q => C11.2.2.2.2.2 b j (by omega)) (fun g10 P10 => ?_))
  have C12 := cst_call C11 (b := 198) (n := ((200 : Nat) : Int)) (by omega) (by omega) (by omega) P10
  refine ar_putF (pc := 66) (a := 1) (z := 198) (ci := 6) (k := 7) (by decide +kernel) rfl (am_kd_at (m := 0) rfl (by omega) (show am_sh 0 = (16, 10) by decide +kernel)) rfl (Nat.le_of_ble_eq_true rfl) (Or.inr (Or.inr (Or.inr (Or.inl ⟨_, rfl⟩)))) rfl rfl rfl rfl (fun q => q) wI_X6_42 ?_
  have C13 := cst_put (k := ((7 : Nat) : Int)) (z := 198) C12
  generalize am_up g10 (1) ((7 : Nat) : Int) (198) = g11 at C13 ⊢
  refine ar_aload_n (pc := 69) (i := 0) (k0 := 0) (by decide +kernel) rfl rfl ?_
  refine ar_new (pc := 70) (n := 200) (N := 14) (ci := 1) (by decide +kernel) (show am_sh 200 = (11, 14) by decide +kernel) rfl w_clX6_46 w_inRX1 wz_RX1 (by omega) (by omega) (fun i => C13.2.2.2.2.2 _ _ (by omega)) ?_
  rw [show (((200 : Nat) : Int) + 1) = 201 by omega]
  refine ar_dup (pc := 73) (by decide +kernel) trivial ?_
  refine ar_callIN (pc := 74) (M2 := M_I_X1) (as := []) (a := 201) (n := 200 + 1) (n2 := 217) (st := [.inr (.inr (201)), .inr (.inr (1))]) (by decide +kernel) rfl w_nlX6_48 w_im_RX1 (by omega) wz_RX1 w_co_RX1 rfl rfl ⟨by decide, by decide, rfl⟩ (Nat.le_of_ble_eq_true rfl) (Nat.le_of_ble_eq_true rfl) (by omega) (by omega) (c_I_X1 (m := 200) (by omega) (by omega) (by omega) (show am_sh 200 = (11, 14) by decide +kernel) (show am_sh 201 = (0, 301) by decide +kernel) (show am_sh 202 = (0, 301) by decide +kernel) (show am_sh 203 = (0, 301) by decide +kernel) (show am_sh 204 = (15, 20) by decide +kernel) (show am_sh 205 = (0, 24) by decide +kernel) (show am_sh 206 = (0, 24) by decide +kernel) (show am_sh 207 = (0, 24) by decide +kernel) (show am_sh 208 = (0, 300) by decide +kernel) (show am_sh 209 = (0, 8) by decide +kernel) (show am_sh 210 = (0, 8) by decide +kernel) (show am_sh 211 = (0, 8) by decide +kernel) (show am_sh 212 = (0, 8) by decide +kernel) (show am_sh 213 = (0, 8) by decide +kernel) (show am_sh 214 = (0, 8) by decide +kernel) (show am_sh 215 = (0, 8) by decide +kernel) (show am_sh 216 = (0, 8) by decide +kernel) (fun b j q => C13.2.2.2.2.2 b j (by omega)) (fun g12 P12 => ?_))
  have C14 := cst_call C13 (b := 201) (n := ((217 : Nat) : Int)) (by omega) (by omega) (by omega) P12
  refine ar_putF (pc := 77) (a := 1) (z := 201) (ci := 6) (k := 8) (by decide +kernel) rfl (am_kd_at (m := 0) rfl (by omega) (show am_sh 0 = (16, 10) by decide +kernel)) rfl (Nat.le_of_ble_eq_true rfl) (Or.inr (Or.inr (Or.inr (Or.inl ⟨_, rfl⟩)))) rfl rfl rfl rfl (fun q => q) wI_X6_49 ?_
  have C15 := cst_put (k := ((8 : Nat) : Int)) (z := 201) C14
  generalize am_up g12 (1) ((8 : Nat) : Int) (201) = g13 at C15 ⊢
  refine ar_aload_n (pc := 80) (i := 0) (k0 := 0) (by decide +kernel) rfl rfl ?_
  refine ar_new (pc := 81) (n := 217) (N := 14) (ci := 2) (by decide +kernel) (show am_sh 217 = (12, 14) by decide +kernel) rfl w_clX6_53 w_inRX2 wz_RX2 (by omega) (by omega) (fun i => C15.2.2.2.2.2 _ _ (by omega)) ?_
  rw [show (((217 : Nat) : Int) + 1) = 218 by omega]
  refine ar_dup (pc := 84) (by decide +kernel) trivial ?_
  refine ar_callIN (pc := 85) (M2 := M_I_X2) (as := []) (a := 218) (n := 217 + 1) (n2 := 241) (st := [.inr (.inr (218)), .inr (.inr (1))]) (by decide +kernel) rfl w_nlX6_55 w_im_RX2 (by omega) wz_RX2 w_co_RX2 rfl rfl ⟨by decide, by decide, rfl⟩ (Nat.le_of_ble_eq_true rfl) (Nat.le_of_ble_eq_true rfl) (by omega) (by omega) (c_I_X2 (m := 217) (by omega) (by omega) (by omega) (show am_sh 217 = (12, 14) by decide +kernel) (show am_sh 218 = (0, 64) by decide +kernel) (show am_sh 219 = (13, 12) by decide +kernel) (show am_sh 220 = (0, 8) by decide +kernel) (show am_sh 221 = (0, 8) by decide +kernel) (show am_sh 222 = (0, 8) by decide +kernel) (show am_sh 223 = (1, 8) by decide +kernel) (show am_sh 224 = (13, 12) by decide +kernel) (show am_sh 225 = (0, 8) by decide +kernel) (show am_sh 226 = (0, 8) by decide +kernel) (show am_sh 227 = (0, 8) by decide +kernel) (show am_sh 228 = (1, 8) by decide +kernel) (show am_sh 229 = (13, 12) by decide +kernel) (show am_sh 230 = (0, 8) by decide +kernel) (show am_sh 231 = (0, 8) by decide +kernel) (show am_sh 232 = (0, 8) by decide +kernel) (show am_sh 233 = (1, 8) by decide +kernel) (show am_sh 234 = (13, 12) by decide +kernel) (show am_sh 235 = (0, 8) by decide +kernel) (show am_sh 236 = (0, 8) by decide +kernel) (show am_sh 237 = (0, 8) by decide +kernel) (show am_sh 238 = (1, 8) by decide +kernel) (show am_sh 239 = (0, 40) by decide +kernel) (show am_sh 240 = (0, 40) by decide +kernel) (fun b j q => C15.2.2.2.2.2 b j (by omega)) (fun g14 P14 => ?_))
  have C16 := cst_call C15 (b := 218) (n := ((241 : Nat) : Int)) (by omega) (by omega) (by omega) P14
  refine ar_putF (pc := 88) (a := 1) (z := 218) (ci := 6) (k := 9) (by decide +kernel) rfl (am_kd_at (m := 0) rfl (by omega) (show am_sh 0 = (16, 10) by decide +kernel)) rfl (Nat.le_of_ble_eq_true rfl) (Or.inr (Or.inr (Or.inr (Or.inl ⟨_, rfl⟩)))) rfl rfl rfl rfl (fun q => q) wI_X6_56 ?_
  have C17 := cst_put (k := ((9 : Nat) : Int)) (z := 218) C16
  generalize am_up g14 (1) ((9 : Nat) : Int) (218) = g15 at C17 ⊢
  have ST : ∀ i : Nat, i < 4 → am_sh (241 + 13 * i + 0) = (15, 20) ∧ am_sh (241 + 13 * i + 1) = (0, 24) ∧ am_sh (241 + 13 * i + 2) = (0, 24) ∧ am_sh (241 + 13 * i + 3) = (0, 24) ∧ am_sh (241 + 13 * i + 4) = (0, 300) ∧ am_sh (241 + 13 * i + 5) = (0, 8) ∧ am_sh (241 + 13 * i + 6) = (0, 8) ∧ am_sh (241 + 13 * i + 7) = (0, 8) ∧ am_sh (241 + 13 * i + 8) = (0, 8) ∧ am_sh (241 + 13 * i + 9) = (0, 8) ∧ am_sh (241 + 13 * i + 10) = (0, 8) ∧ am_sh (241 + 13 * i + 11) = (0, 8) ∧ am_sh (241 + 13 * i + 12) = (0, 8) := by decide +kernel
  have lo : ∀ (u i : Nat) (g : am_H), 4 - i ≤ u → i ≤ 4 → cst h 1 3 (((241 + 13 * i : Nat)) : Int) (fun j => if j = ((9 : Nat) : Int) then 218 else if j = ((8 : Nat) : Int) then 201 else if j = ((7 : Nat) : Int) then 198 else if j = ((6 : Nat) : Int) then 101 else if j = ((5 : Nat) : Int) then 4 else if j = ((4 : Nat) : Int) then 3 else if j = ((3 : Nat) : Int) then -1 else if j = ((2 : Nat) : Int) then -1 else if j = ((1 : Nat) : Int) then 0 else if j = ((0 : Nat) : Int) then 2 else 0) (fun j => if 0 ≤ j ∧ j < (i : Int) then 3 + 239 + 13 * j else 0) g → am_Wp false (d + 2) M_I_X6 1 293 h Q 93 [some (.inr (.inr 1)), some (.inl (i : Int))] [] (241 + 13 * i) g := by
    intro u
    induction u with
    | zero =>
      intro i g u1 u2 C
      have i4 : i = 4 := by omega
      subst i4
      refine ar_iload_n (pc := 93) (i := 1) (k0 := 1) (by decide +kernel) rfl rfl ?_
      refine ar_aload_n (pc := 94) (i := 0) (k0 := 0) (by decide +kernel) rfl rfl ?_
      refine ar_getV (pc := 95) (a := 1) (v := .inr (.inr (3))) 6 4 (by decide +kernel) (am_kd_at (m := 0) rfl (by omega) (show am_sh 0 = (16, 10) by decide +kernel)) rfl (Nat.le_of_ble_eq_true rfl) wI_X6_25 (by show (Sum.inr (Sum.inr (g _ _)) : am_V) = _; rw [C.2.1]; rfl) ?_
      refine ar_alen (pc := 98) (by decide +kernel) (by rw [am_kd_at (m := 2) (by omega) (by omega) (show am_sh 2 = (4, 4) by decide +kernel)]; decide) ?_
      rw [am_ln_at (m := 2) (by omega) (show am_sh 2 = (4, 4) by decide +kernel)]
      refine ar_icmp_ge (pc := 99) (x := ((4 : Nat) : Int)) (y := ((4 : Nat) : Int)) (tgt := 121) (off := 22) (by decide +kernel) (by decide) (fun _ => ?_) (fun q => by omega)
      exact ar_vret (pc := 121) (by decide +kernel) rfl (by omega) (k _ (cpost_eq (cst_done C (fun j => (ZZ_at (a := 1) (m := 0) (by omega) (by omega) (show am_sh 0 = (16, 10) by decide +kernel)).symm) (fun _ j => (ZZ_at (a := 3) (m := 2) (by omega) (by omega) (show am_sh 2 = (4, 4) by decide +kernel)).symm) (by omega)) (by omega)))
    | succ u ih =>
      intro i g u1 u2 C
      refine ar_iload_n (pc := 93) (i := 1) (k0 := 1) (by decide +kernel) rfl rfl ?_
      refine ar_aload_n (pc := 94) (i := 0) (k0 := 0) (by decide +kernel) rfl rfl ?_
      refine ar_getV (pc := 95) (a := 1) (v := .inr (.inr (3))) 6 4 (by decide +kernel) (am_kd_at (m := 0) rfl (by omega) (show am_sh 0 = (16, 10) by decide +kernel)) rfl (Nat.le_of_ble_eq_true rfl) wI_X6_25 (by show (Sum.inr (Sum.inr (g _ _)) : am_V) = _; rw [C.2.1]; rfl) ?_
      refine ar_alen (pc := 98) (by decide +kernel) (by rw [am_kd_at (m := 2) (by omega) (by omega) (show am_sh 2 = (4, 4) by decide +kernel)]; decide) ?_
      rw [am_ln_at (m := 2) (by omega) (show am_sh 2 = (4, 4) by decide +kernel)]
      refine ar_icmp_ge (pc := 99) (x := (i : Int)) (y := ((4 : Nat) : Int)) (tgt := 121) (off := 22) (by decide +kernel) (by decide) (fun q => ?_) (fun q => ?_)
      · have i4 : i = 4 := by omega
        subst i4
        exact ar_vret (pc := 121) (by decide +kernel) rfl (by omega) (k _ (cpost_eq (cst_done C (fun j => (ZZ_at (a := 1) (m := 0) (by omega) (by omega) (show am_sh 0 = (16, 10) by decide +kernel)).symm) (fun _ j => (ZZ_at (a := 3) (m := 2) (by omega) (by omega) (show am_sh 2 = (4, 4) by decide +kernel)).symm) (by omega)) (by omega)))
      · obtain ⟨s0, s1, s2, s3, s4, s5, s6, s7, s8, s9, s10, s11, s12⟩ := ST i (by omega)
        refine ar_aload_n (pc := 102) (i := 0) (k0 := 0) (by decide +kernel) rfl rfl ?_
        refine ar_getV (pc := 103) (a := 1) (v := .inr (.inr (3))) 6 4 (by decide +kernel) (am_kd_at (m := 0) rfl (by omega) (show am_sh 0 = (16, 10) by decide +kernel)) rfl (Nat.le_of_ble_eq_true rfl) wI_X6_25 (by show (Sum.inr (Sum.inr (g _ _)) : am_V) = _; rw [C.2.1]; rfl) ?_
        refine ar_iload_n (pc := 106) (i := 1) (k0 := 1) (by decide +kernel) rfl rfl ?_
        refine ar_new (pc := 107) (n := 241 + 13 * i) (N := 20) (ci := 5) (by decide +kernel) s0 rfl w_clX6_23 w_inRX5 wz_RX5 (by omega) (by omega) (fun i => C.2.2.2.2.2 _ _ (by omega)) ?_
        rw [show (((241 + 13 * i : Nat) : Int) + 1) = 3 + 239 + 13 * (i : Int) by omega]
        refine ar_dup (pc := 110) (by decide +kernel) trivial ?_
        refine ar_callIN (pc := 111) (M2 := M_I_X5) (as := []) (a := 3 + 239 + 13 * (i : Int)) (n := 241 + 13 * i + 1) (n2 := 241 + 13 * (i + 1)) (st := [.inr (.inr (3 + 239 + 13 * (i : Int))), .inl (i : Int), .inr (.inr 3)]) (by decide +kernel) rfl w_nlX6_60 w_im_RX5 (by omega) wz_RX5 w_co_RX5 rfl rfl ⟨by decide, by decide, rfl⟩ (Nat.le_of_ble_eq_true rfl) (Nat.le_of_ble_eq_true rfl) (by omega) (by omega) (c_I_X5 (m := 241 + 13 * i) (by omega) (by omega) (by omega) s0 s1 s2 s3 s4 s5 s6 s7 s8 s9 s10 s11 s12 (fun b j q => C.2.2.2.2.2 b j (by omega)) (fun g2 P => ?_))
        have C2 := cst_call C (b := 3 + 239 + 13 * (i : Int)) (n := ((241 + 13 * (i + 1) : Nat) : Int)) (by omega) (by omega) (by omega) P
        refine ar_aastT (pc := 114) (by decide +kernel) (am_kd_at (m := 2) (by omega) (by omega) (show am_sh 2 = (4, 4) by decide +kernel)) (am_kd_at (m := 241 + 13 * i) (by omega) (by omega) s0) (by omega) (by rw [am_ln_at (m := 2) (by omega) (show am_sh 2 = (4, 4) by decide +kernel)]; exact q) ?_
        have C3 := cst_row (row2 := fun j => if 0 ≤ j ∧ j < ((i + 1 : Nat) : Int) then 3 + 239 + 13 * j else 0) C2 (by omega) (i := (i : Int)) (z := 3 + 239 + 13 * (i : Int)) (by rw [if_pos (by omega)]) (fun j hj => by
          by_cases q1 : 0 ≤ j ∧ j < (i : Int)
          · rw [if_pos q1, if_pos (by omega)]
          · rw [if_neg q1, if_neg (by omega)])
        refine ar_iinc (pc := 115) (i := 1) (z := 1) (x := (i : Int)) (ls2 := [some (.inr (.inr 1)), some (.inl (am_w32 ((i : Int) + 1)))]) (by decide +kernel) rfl (by decide) rfl ?_
        refine ar_goto (pc := 118) (tgt := 93) (off := -25) (by decide +kernel) (by decide) ?_
        rw [w32e (z := (i : Int) + 1) (by omega) (by omega), show (i : Int) + 1 = ((i + 1 : Nat) : Int) by omega]
        exact ih (i + 1) _ (by omega) (by omega) C3
  refine ar_iconst (pc := 91) (z := 0) (by decide +kernel) (by unfold am_i32; omega) ?_
  refine ar_istore_n (pc := 92) (i := 1) (k0 := 1) (ls2 := [some (.inr (.inr 1)), some (.inl 0)]) (by decide +kernel) rfl (by decide) rfl ?_
  exact lo 4 0 _ (by omega) (by omega) (cst_eq C17 (by omega) (fun j => by rw [if_neg (by omega)]))
theorem am_Cl_fin {d : Nat} {M : am_M} {n : Nat} {as : List am_V} {h : am_H} {Q : Int → am_H → Prop} (F : am_Fin n h) (H : am_Cl true d M n n as h Q) : am_Cl false d M n n as h Q := by
  intro hok l ρ cA D sz p e ha hc hk s m args below hf happ hP hK
  obtain ⟨n, o, g1, g2, g3, ⟨⟨⟨r, h2, ρ2, cA2, q1, q2, q3, q4, q5, q6, q7⟩, g5⟩, g6⟩⟩ := H hok l ρ cA D sz p e ha hc hk s m args below hf happ ⟨hP.1, hP.2.1, ⟨hP.2.2.1.1, hP.2.2.1.2.1, hP.2.2.1.2.2.1, hP.2.2.1.2.2.2.1, hP.2.2.1.2.2.2.2.1, fun _ => F⟩, hP.2.2.2⟩ hK
  exact ⟨n, o, g1, g2, g3, ⟨⟨r, h2, ρ2, cA2, q1, q2, q3, q4, q5, q6, ⟨q7.1, q7.2.1, q7.2.2.1, q7.2.2.2.1, q7.2.2.2.2.1, fun q => by cases q⟩⟩, g5⟩, g6⟩
theorem ZZ_fin : ∀ (a : Int) (c k : Nat) (o : Int), am_off c k = some o → HZr (10 + c) a k = a + o := by
  intro a c k o ho
  unfold am_off at ho
  split at ho <;> first | (cases ho; rfl) | cases ho
theorem am_Fin_of {h : am_H} (e : ∀ b j : Int, 1 ≤ b → b ≤ 321 → ¬ am_kd 321 b = 0 → h b j = ZZ b j) : am_Fin 321 h := by
  refine ⟨fun a c k o ha ho => ?_, fun a i ha h0 h1 => ?_, fun a i ha h0 h1 => ?_⟩
  · obtain ⟨g1, g2, g3⟩ := am_kd_of ha (by rintro q; exact am_off_99 c k o (by omega) ho)
    rw [e a k g1 g2 (by omega)]
    unfold ZZ
    rw [ha]
    exact ZZ_fin a c k o ho
  · obtain ⟨g1, g2, g3⟩ := am_kd_sh ha (by decide)
    rw [e a i g1 g2 (by omega)]
    have l := am_ln_30 a ha
    unfold ZZ
    rw [ha]
    show (if 0 ≤ i ∧ i < ((30 : Nat) : Int) then a + 3 + 3 * i else 0) = _
    rw [if_pos (by omega)]
  · obtain ⟨g1, g2, g3⟩ := am_kd_sh ha (by decide)
    rw [e a i g1 g2 (by omega)]
    have l := am_ln_4 a ha
    unfold ZZ
    rw [ha]
    show (if 0 ≤ i ∧ i < ((4 : Nat) : Int) then a + 239 + 13 * i else 0) = _
    rw [if_pos (by omega)]
/-- the first row of THE SYSTEM -/
def rowZ (j : Int) : Int := if j = 1 then -1 else if j = 5 then 479 else 0
def mpost (h h2 : am_H) : Prop := (∀ b j : Int, b < 294 → h2 b j = h b j) ∧ (∀ j : Int, h2 295 j = rowZ j ∧ h2 296 j = rowZ j) ∧ ∀ b j : Int, 294 ≤ b → b ≤ 321 → b ≠ 295 → b ≠ 296 → h2 b j = ZZ b j
theorem c_I_X7 (z : ∀ b j : Int, 294 ≤ b → h b j = 0) (zc : ∀ b j : Int, 1 ≤ b → b ≤ 293 → h b j = ZZ b j) (k : ∀ h2, mpost h h2 → Q 0 h2) : am_Cl false (d + 1) M_I_X7 294 321 [.inr (.inr (294))] h Q := by
  refine am_Cl_of rfl (Nat.le_of_ble_eq_true rfl) (by omega) rfl (fun _ => ?_)
  have C0 := cst_0 (h := h) (a := 294) (r := 0) (by omega) z
  refine ar_aload_n (pc := 0) (i := 0) (k0 := 0) (by decide +kernel) rfl rfl ?_
  refine ar_objInit (pc := 1) (by decide +kernel) w_oi_RX7 (by omega) (Nat.le_of_ble_eq_true rfl) ?_
  refine ar_aload_n (pc := 4) (i := 0) (k0 := 0) (by decide +kernel) rfl rfl ?_
  refine ar_sipush (pc := 5) (z := 2159) (by decide +kernel) (by omega) ?_
  refine ar_newi (pc := 8) (n := 294) (by decide +kernel) (show am_sh 294 = (0, 2159) by decide +kernel) rfl w_aci (by omega) (by omega) (fun i => C0.2.2.2.2.2 _ _ (by omega)) ?_
  rw [show (((294 : Nat) : Int) + 1) = 295 by omega]
  have C1 := cst_new C0 (295) (by omega) (fun _ j => ZZ_at (m := 294) (by omega) (by omega) (show am_sh 294 = (0, 2159) by decide +kernel)) (fun q => by omega)
  refine ar_putF (pc := 10) (a := 294) (z := 295) (ci := 7) (k := 0) (by decide +kernel) rfl (am_kd_at (m := 293) rfl (by omega) (show am_sh 293 = (17, 55) by decide +kernel)) rfl (Nat.le_of_ble_eq_true rfl) (Or.inr (Or.inr (Or.inr (Or.inr ⟨_, rfl⟩)))) rfl rfl rfl rfl (fun q => q) wI_X7_7 ?_
  have C2 := cst_put (k := ((0 : Nat) : Int)) (z := 295) C1
  generalize am_up h (294) ((0 : Nat) : Int) (295) = g1 at C2 ⊢
  refine ar_aload_n (pc := 13) (i := 0) (k0 := 0) (by decide +kernel) rfl rfl ?_
  refine ar_sipush (pc := 14) (z := 2159) (by decide +kernel) (by omega) ?_
  refine ar_newi (pc := 17) (n := 295) (by decide +kernel) (show am_sh 295 = (0, 2159) by decide +kernel) rfl w_aci (by omega) (by omega) (fun i => C2.2.2.2.2.2 _ _ (by omega)) ?_
  rw [show (((295 : Nat) : Int) + 1) = 296 by omega]
  have C3 := cst_new C2 (296) (by omega) (fun _ j => ZZ_at (m := 295) (by omega) (by omega) (show am_sh 295 = (0, 2159) by decide +kernel)) (fun q => by omega)
  refine ar_putF (pc := 19) (a := 294) (z := 296) (ci := 7) (k := 1) (by decide +kernel) rfl (am_kd_at (m := 293) rfl (by omega) (show am_sh 293 = (17, 55) by decide +kernel)) rfl (Nat.le_of_ble_eq_true rfl) (Or.inr (Or.inr (Or.inr (Or.inr ⟨_, rfl⟩)))) rfl rfl rfl rfl (fun q => q) wI_X7_13 ?_
  have C4 := cst_put (k := ((1 : Nat) : Int)) (z := 296) C3
  generalize am_up g1 (294) ((1 : Nat) : Int) (296) = g2 at C4 ⊢
  refine ar_aload_n (pc := 22) (i := 0) (k0 := 0) (by decide +kernel) rfl rfl ?_
  refine ar_sipush (pc := 23) (z := 3300) (by decide +kernel) (by omega) ?_
  refine ar_newi (pc := 26) (n := 296) (by decide +kernel) (show am_sh 296 = (0, 3300) by decide +kernel) rfl w_aci (by omega) (by omega) (fun i => C4.2.2.2.2.2 _ _ (by omega)) ?_
  rw [show (((296 : Nat) : Int) + 1) = 297 by omega]
  have C5 := cst_new C4 (297) (by omega) (fun _ j => ZZ_at (m := 296) (by omega) (by omega) (show am_sh 296 = (0, 3300) by decide +kernel)) (fun q => by omega)
  refine ar_putF (pc := 28) (a := 294) (z := 297) (ci := 7) (k := 2) (by decide +kernel) rfl (am_kd_at (m := 293) rfl (by omega) (show am_sh 293 = (17, 55) by decide +kernel)) rfl (Nat.le_of_ble_eq_true rfl) (Or.inr (Or.inr (Or.inr (Or.inr ⟨_, rfl⟩)))) rfl rfl rfl rfl (fun q => q) wI_X7_16 ?_
  have C6 := cst_put (k := ((2 : Nat) : Int)) (z := 297) C5
  generalize am_up g2 (294) ((2 : Nat) : Int) (297) = g3 at C6 ⊢
  refine ar_aload_n (pc := 31) (i := 0) (k0 := 0) (by decide +kernel) rfl rfl ?_
  refine ar_sipush (pc := 32) (z := 300) (by decide +kernel) (by omega) ?_
  refine ar_newi (pc := 35) (n := 297) (by decide +kernel) (show am_sh 297 = (0, 300) by decide +kernel) rfl w_aci (by omega) (by omega) (fun i => C6.2.2.2.2.2 _ _ (by omega)) ?_
  rw [show (((297 : Nat) : Int) + 1) = 298 by omega]
  have C7 := cst_new C6 (298) (by omega) (fun _ j => ZZ_at (m := 297) (by omega) (by omega) (show am_sh 297 = (0, 300) by decide +kernel)) (fun q => by omega)
  refine ar_putF (pc := 37) (a := 294) (z := 298) (ci := 7) (k := 3) (by decide +kernel) rfl (am_kd_at (m := 293) rfl (by omega) (show am_sh 293 = (17, 55) by decide +kernel)) rfl (Nat.le_of_ble_eq_true rfl) (Or.inr (Or.inr (Or.inr (Or.inr ⟨_, rfl⟩)))) rfl rfl rfl rfl (fun q => q) wI_X7_19 ?_
  have C8 := cst_put (k := ((3 : Nat) : Int)) (z := 298) C7
  generalize am_up g3 (294) ((3 : Nat) : Int) (298) = g4 at C8 ⊢
  refine ar_aload_n (pc := 40) (i := 0) (k0 := 0) (by decide +kernel) rfl rfl ?_
  refine ar_iconst (pc := 41) (z := -1) (by decide +kernel) (by unfold am_i32; omega) ?_
  refine ar_putI (pc := 42) (a := 294) (z := -1) 7 5 (by decide +kernel) (am_kd_at (m := 293) rfl (by omega) (show am_sh 293 = (17, 55) by decide +kernel)) rfl (Nat.le_of_ble_eq_true rfl) rfl (fun q => by cases q) rfl wI_X7_22 ?_
  have C9 := cst_put (k := ((5 : Nat) : Int)) (z := -1) C8
  generalize am_up g4 (294) ((5 : Nat) : Int) (-1) = g5 at C9 ⊢
  refine ar_aload_n (pc := 45) (i := 0) (k0 := 0) (by decide +kernel) rfl rfl ?_
  refine ar_iconst (pc := 46) (z := -1) (by decide +kernel) (by unfold am_i32; omega) ?_
  refine ar_putI (pc := 47) (a := 294) (z := -1) 7 6 (by decide +kernel) (am_kd_at (m := 293) rfl (by omega) (show am_sh 293 = (17, 55) by decide +kernel)) rfl (Nat.le_of_ble_eq_true rfl) rfl (fun q => by cases q) rfl wI_X7_26 ?_
  have C10 := cst_put (k := ((6 : Nat) : Int)) (z := -1) C9
  generalize am_up g5 (294) ((6 : Nat) : Int) (-1) = g6 at C10 ⊢
  refine ar_aload_n (pc := 50) (i := 0) (k0 := 0) (by decide +kernel) rfl rfl ?_
  refine ar_sipush (pc := 51) (z := 160) (by decide +kernel) (by omega) ?_
  refine ar_newi (pc := 54) (n := 298) (by decide +kernel) (show am_sh 298 = (0, 160) by decide +kernel) rfl w_aci (by omega) (by omega) (fun i => C10.2.2.2.2.2 _ _ (by omega)) ?_
  rw [show (((298 : Nat) : Int) + 1) = 299 by omega]
  have C11 := cst_new C10 (299) (by omega) (fun _ j => ZZ_at (m := 298) (by omega) (by omega) (show am_sh 298 = (0, 160) by decide +kernel)) (fun q => by omega)
  refine ar_putF (pc := 56) (a := 294) (z := 299) (ci := 7) (k := 15) (by decide +kernel) rfl (am_kd_at (m := 293) rfl (by omega) (show am_sh 293 = (17, 55) by decide +kernel)) rfl (Nat.le_of_ble_eq_true rfl) (Or.inr (Or.inr (Or.inr (Or.inr ⟨_, rfl⟩)))) rfl rfl rfl rfl (fun q => q) wI_X7_29 ?_
  have C12 := cst_put (k := ((15 : Nat) : Int)) (z := 299) C11
  generalize am_up g6 (294) ((15 : Nat) : Int) (299) = g7 at C12 ⊢
  refine ar_aload_n (pc := 59) (i := 0) (k0 := 0) (by decide +kernel) rfl rfl ?_
  refine ar_bipush (pc := 60) (z := 13) (by decide +kernel) (by omega) ?_
  refine ar_newi (pc := 62) (n := 299) (by decide +kernel) (show am_sh 299 = (0, 13) by decide +kernel) rfl w_aci (by omega) (by omega) (fun i => C12.2.2.2.2.2 _ _ (by omega)) ?_
  rw [show (((299 : Nat) : Int) + 1) = 300 by omega]
  have C13 := cst_new C12 (300) (by omega) (fun _ j => ZZ_at (m := 299) (by omega) (by omega) (show am_sh 299 = (0, 13) by decide +kernel)) (fun q => by omega)
  refine ar_putF (pc := 64) (a := 294) (z := 300) (ci := 7) (k := 21) (by decide +kernel) rfl (am_kd_at (m := 293) rfl (by omega) (show am_sh 293 = (17, 55) by decide +kernel)) rfl (Nat.le_of_ble_eq_true rfl) (Or.inr (Or.inr (Or.inr (Or.inr ⟨_, rfl⟩)))) rfl rfl rfl rfl (fun q => q) wI_X7_32 ?_
  have C14 := cst_put (k := ((21 : Nat) : Int)) (z := 300) C13
  generalize am_up g7 (294) ((21 : Nat) : Int) (300) = g8 at C14 ⊢
  refine ar_aload_n (pc := 67) (i := 0) (k0 := 0) (by decide +kernel) rfl rfl ?_
  refine ar_sipush (pc := 68) (z := 330) (by decide +kernel) (by omega) ?_
  refine ar_newj (pc := 71) (n := 300) (by decide +kernel) (show am_sh 300 = (1, 330) by decide +kernel) rfl w_acj (by omega) (by omega) (fun i => C14.2.2.2.2.2 _ _ (by omega)) ?_
  rw [show (((300 : Nat) : Int) + 1) = 301 by omega]
  have C15 := cst_new C14 (301) (by omega) (fun _ j => ZZ_at (m := 300) (by omega) (by omega) (show am_sh 300 = (1, 330) by decide +kernel)) (fun q => by omega)
  refine ar_putF (pc := 73) (a := 294) (z := 301) (ci := 7) (k := 24) (by decide +kernel) rfl (am_kd_at (m := 293) rfl (by omega) (show am_sh 293 = (17, 55) by decide +kernel)) rfl (Nat.le_of_ble_eq_true rfl) (Or.inr (Or.inr (Or.inr (Or.inr ⟨_, rfl⟩)))) rfl rfl rfl rfl (fun q => q) wI_X7_35 ?_
  have C16 := cst_put (k := ((24 : Nat) : Int)) (z := 301) C15
  generalize am_up g8 (294) ((24 : Nat) : Int) (301) = g9 at C16 ⊢
  refine ar_aload_n (pc := 76) (i := 0) (k0 := 0) (by decide +kernel) rfl rfl ?_
  refine ar_sipush (pc := 77) (z := 330) (by decide +kernel) (by omega) ?_
  refine ar_newj (pc := 80) (n := 301) (by decide +kernel) (show am_sh 301 = (1, 330) by decide +kernel) rfl w_acj (by omega) (by omega) (fun i => C16.2.2.2.2.2 _ _ (by omega)) ?_
  rw [show (((301 : Nat) : Int) + 1) = 302 by omega]
  have C17 := cst_new C16 (302) (by omega) (fun _ j => ZZ_at (m := 301) (by omega) (by omega) (show am_sh 301 = (1, 330) by decide +kernel)) (fun q => by omega)
  refine ar_putF (pc := 82) (a := 294) (z := 302) (ci := 7) (k := 25) (by decide +kernel) rfl (am_kd_at (m := 293) rfl (by omega) (show am_sh 293 = (17, 55) by decide +kernel)) rfl (Nat.le_of_ble_eq_true rfl) (Or.inr (Or.inr (Or.inr (Or.inr ⟨_, rfl⟩)))) rfl rfl rfl rfl (fun q => q) wI_X7_39 ?_
  have C18 := cst_put (k := ((25 : Nat) : Int)) (z := 302) C17
  generalize am_up g9 (294) ((25 : Nat) : Int) (302) = g10 at C18 ⊢
  refine ar_aload_n (pc := 85) (i := 0) (k0 := 0) (by decide +kernel) rfl rfl ?_
  refine ar_sipush (pc := 86) (z := 330) (by decide +kernel) (by omega) ?_
  refine ar_newz (pc := 89) (n := 302) (by decide +kernel) (show am_sh 302 = (2, 330) by decide +kernel) rfl w_acz (by omega) (by omega) (fun i => C18.2.2.2.2.2 _ _ (by omega)) ?_
  rw [show (((302 : Nat) : Int) + 1) = 303 by omega]
  have C19 := cst_new C18 (303) (by omega) (fun _ j => ZZ_at (m := 302) (by omega) (by omega) (show am_sh 302 = (2, 330) by decide +kernel)) (fun q => by omega)
  refine ar_putF (pc := 91) (a := 294) (z := 303) (ci := 7) (k := 26) (by decide +kernel) rfl (am_kd_at (m := 293) rfl (by omega) (show am_sh 293 = (17, 55) by decide +kernel)) rfl (Nat.le_of_ble_eq_true rfl) (Or.inr (Or.inr (Or.inr (Or.inr ⟨_, rfl⟩)))) rfl rfl rfl rfl (fun q => q) wI_X7_42 ?_
  have C20 := cst_put (k := ((26 : Nat) : Int)) (z := 303) C19
  generalize am_up g10 (294) ((26 : Nat) : Int) (303) = g11 at C20 ⊢
  refine ar_aload_n (pc := 94) (i := 0) (k0 := 0) (by decide +kernel) rfl rfl ?_
  refine ar_sipush (pc := 95) (z := 330) (by decide +kernel) (by omega) ?_
  refine ar_newj (pc := 98) (n := 303) (by decide +kernel) (show am_sh 303 = (1, 330) by decide +kernel) rfl w_acj (by omega) (by omega) (fun i => C20.2.2.2.2.2 _ _ (by omega)) ?_
  rw [show (((303 : Nat) : Int) + 1) = 304 by omega]
  have C21 := cst_new C20 (304) (by omega) (fun _ j => ZZ_at (m := 303) (by omega) (by omega) (show am_sh 303 = (1, 330) by decide +kernel)) (fun q => by omega)
  refine ar_putF (pc := 100) (a := 294) (z := 304) (ci := 7) (k := 27) (by decide +kernel) rfl (am_kd_at (m := 293) rfl (by omega) (show am_sh 293 = (17, 55) by decide +kernel)) rfl (Nat.le_of_ble_eq_true rfl) (Or.inr (Or.inr (Or.inr (Or.inr ⟨_, rfl⟩)))) rfl rfl rfl rfl (fun q => q) wI_X7_46 ?_
  have C22 := cst_put (k := ((27 : Nat) : Int)) (z := 304) C21
  generalize am_up g11 (294) ((27 : Nat) : Int) (304) = g12 at C22 ⊢
  refine ar_aload_n (pc := 103) (i := 0) (k0 := 0) (by decide +kernel) rfl rfl ?_
  refine ar_bipush (pc := 104) (z := 8) (by decide +kernel) (by omega) ?_
  refine ar_newi (pc := 106) (n := 304) (by decide +kernel) (show am_sh 304 = (0, 8) by decide +kernel) rfl w_aci (by omega) (by omega) (fun i => C22.2.2.2.2.2 _ _ (by omega)) ?_
  rw [show (((304 : Nat) : Int) + 1) = 305 by omega]
  have C23 := cst_new C22 (305) (by omega) (fun _ j => ZZ_at (m := 304) (by omega) (by omega) (show am_sh 304 = (0, 8) by decide +kernel)) (fun q => by omega)
  refine ar_putF (pc := 108) (a := 294) (z := 305) (ci := 7) (k := 28) (by decide +kernel) rfl (am_kd_at (m := 293) rfl (by omega) (show am_sh 293 = (17, 55) by decide +kernel)) rfl (Nat.le_of_ble_eq_true rfl) (Or.inr (Or.inr (Or.inr (Or.inr ⟨_, rfl⟩)))) rfl rfl rfl rfl (fun q => q) wI_X7_49 ?_
  have C24 := cst_put (k := ((28 : Nat) : Int)) (z := 305) C23
  generalize am_up g12 (294) ((28 : Nat) : Int) (305) = g13 at C24 ⊢
  refine ar_aload_n (pc := 111) (i := 0) (k0 := 0) (by decide +kernel) rfl rfl ?_
  refine ar_bipush (pc := 112) (z := 8) (by decide +kernel) (by omega) ?_
  refine ar_newi (pc := 114) (n := 305) (by decide +kernel) (show am_sh 305 = (0, 8) by decide +kernel) rfl w_aci (by omega) (by omega) (fun i => C24.2.2.2.2.2 _ _ (by omega)) ?_
  rw [show (((305 : Nat) : Int) + 1) = 306 by omega]
  have C25 := cst_new C24 (306) (by omega) (fun _ j => ZZ_at (m := 305) (by omega) (by omega) (show am_sh 305 = (0, 8) by decide +kernel)) (fun q => by omega)
  refine ar_putF (pc := 116) (a := 294) (z := 306) (ci := 7) (k := 29) (by decide +kernel) rfl (am_kd_at (m := 293) rfl (by omega) (show am_sh 293 = (17, 55) by decide +kernel)) rfl (Nat.le_of_ble_eq_true rfl) (Or.inr (Or.inr (Or.inr (Or.inr ⟨_, rfl⟩)))) rfl rfl rfl rfl (fun q => q) wI_X7_52 ?_
  have C26 := cst_put (k := ((29 : Nat) : Int)) (z := 306) C25
  generalize am_up g13 (294) ((29 : Nat) : Int) (306) = g14 at C26 ⊢
  refine ar_aload_n (pc := 119) (i := 0) (k0 := 0) (by decide +kernel) rfl rfl ?_
  refine ar_bipush (pc := 120) (z := 8) (by decide +kernel) (by omega) ?_
  refine ar_newi (pc := 122) (n := 306) (by decide +kernel) (show am_sh 306 = (0, 8) by decide +kernel) rfl w_aci (by omega) (by omega) (fun i => C26.2.2.2.2.2 _ _ (by omega)) ?_
  rw [show (((306 : Nat) : Int) + 1) = 307 by omega]
  have C27 := cst_new C26 (307) (by omega) (fun _ j => ZZ_at (m := 306) (by omega) (by omega) (show am_sh 306 = (0, 8) by decide +kernel)) (fun q => by omega)
  refine ar_putF (pc := 124) (a := 294) (z := 307) (ci := 7) (k := 30) (by decide +kernel) rfl (am_kd_at (m := 293) rfl (by omega) (show am_sh 293 = (17, 55) by decide +kernel)) rfl (Nat.le_of_ble_eq_true rfl) (Or.inr (Or.inr (Or.inr (Or.inr ⟨_, rfl⟩)))) rfl rfl rfl rfl (fun q => q) wI_X7_55 ?_
  have C28 := cst_put (k := ((30 : Nat) : Int)) (z := 307) C27
  generalize am_up g14 (294) ((30 : Nat) : Int) (307) = g15 at C28 ⊢
  refine ar_aload_n (pc := 127) (i := 0) (k0 := 0) (by decide +kernel) rfl rfl ?_
  refine ar_iconst (pc := 128) (z := 3) (by decide +kernel) (by unfold am_i32; omega) ?_
  refine ar_newi (pc := 129) (n := 307) (by decide +kernel) (show am_sh 307 = (0, 3) by decide +kernel) rfl w_aci (by omega) (by omega) (fun i => C28.2.2.2.2.2 _ _ (by omega)) ?_
  rw [show (((307 : Nat) : Int) + 1) = 308 by omega]
  have C29 := cst_new C28 (308) (by omega) (fun _ j => ZZ_at (m := 307) (by omega) (by omega) (show am_sh 307 = (0, 3) by decide +kernel)) (fun q => by omega)
  refine ar_putF (pc := 131) (a := 294) (z := 308) (ci := 7) (k := 34) (by decide +kernel) rfl (am_kd_at (m := 293) rfl (by omega) (show am_sh 293 = (17, 55) by decide +kernel)) rfl (Nat.le_of_ble_eq_true rfl) (Or.inr (Or.inr (Or.inr (Or.inr ⟨_, rfl⟩)))) rfl rfl rfl rfl (fun q => q) wI_X7_58 ?_
  have C30 := cst_put (k := ((34 : Nat) : Int)) (z := 308) C29
  generalize am_up g15 (294) ((34 : Nat) : Int) (308) = g16 at C30 ⊢
  refine ar_aload_n (pc := 134) (i := 0) (k0 := 0) (by decide +kernel) rfl rfl ?_
  refine ar_iconst (pc := 135) (z := 3) (by decide +kernel) (by unfold am_i32; omega) ?_
  refine ar_newi (pc := 136) (n := 308) (by decide +kernel) (show am_sh 308 = (0, 3) by decide +kernel) rfl w_aci (by omega) (by omega) (fun i => C30.2.2.2.2.2 _ _ (by omega)) ?_
  rw [show (((308 : Nat) : Int) + 1) = 309 by omega]
  have C31 := cst_new C30 (309) (by omega) (fun _ j => ZZ_at (m := 308) (by omega) (by omega) (show am_sh 308 = (0, 3) by decide +kernel)) (fun q => by omega)
  refine ar_putF (pc := 138) (a := 294) (z := 309) (ci := 7) (k := 35) (by decide +kernel) rfl (am_kd_at (m := 293) rfl (by omega) (show am_sh 293 = (17, 55) by decide +kernel)) rfl (Nat.le_of_ble_eq_true rfl) (Or.inr (Or.inr (Or.inr (Or.inr ⟨_, rfl⟩)))) rfl rfl rfl rfl (fun q => q) wI_X7_61 ?_
  have C32 := cst_put (k := ((35 : Nat) : Int)) (z := 309) C31
  generalize am_up g16 (294) ((35 : Nat) : Int) (309) = g17 at C32 ⊢
  refine ar_aload_n (pc := 141) (i := 0) (k0 := 0) (by decide +kernel) rfl rfl ?_
  refine ar_iconst (pc := 142) (z := 3) (by decide +kernel) (by unfold am_i32; omega) ?_
  refine ar_newi (pc := 143) (n := 309) (by decide +kernel) (show am_sh 309 = (0, 3) by decide +kernel) rfl w_aci (by omega) (by omega) (fun i => C32.2.2.2.2.2 _ _ (by omega)) ?_
  rw [show (((309 : Nat) : Int) + 1) = 310 by omega]
  have C33 := cst_new C32 (310) (by omega) (fun _ j => ZZ_at (m := 309) (by omega) (by omega) (show am_sh 309 = (0, 3) by decide +kernel)) (fun q => by omega)
  refine ar_putF (pc := 145) (a := 294) (z := 310) (ci := 7) (k := 36) (by decide +kernel) rfl (am_kd_at (m := 293) rfl (by omega) (show am_sh 293 = (17, 55) by decide +kernel)) rfl (Nat.le_of_ble_eq_true rfl) (Or.inr (Or.inr (Or.inr (Or.inr ⟨_, rfl⟩)))) rfl rfl rfl rfl (fun q => q) wI_X7_64 ?_
  have C34 := cst_put (k := ((36 : Nat) : Int)) (z := 310) C33
  generalize am_up g17 (294) ((36 : Nat) : Int) (310) = g18 at C34 ⊢
  refine ar_aload_n (pc := 148) (i := 0) (k0 := 0) (by decide +kernel) rfl rfl ?_
  refine ar_iconst (pc := 149) (z := 3) (by decide +kernel) (by unfold am_i32; omega) ?_
  refine ar_newj (pc := 150) (n := 310) (by decide +kernel) (show am_sh 310 = (1, 3) by decide +kernel) rfl w_acj (by omega) (by omega) (fun i => C34.2.2.2.2.2 _ _ (by omega)) ?_
  rw [show (((310 : Nat) : Int) + 1) = 311 by omega]
  have C35 := cst_new C34 (311) (by omega) (fun _ j => ZZ_at (m := 310) (by omega) (by omega) (show am_sh 310 = (1, 3) by decide +kernel)) (fun q => by omega)
  refine ar_putF (pc := 152) (a := 294) (z := 311) (ci := 7) (k := 37) (by decide +kernel) rfl (am_kd_at (m := 293) rfl (by omega) (show am_sh 293 = (17, 55) by decide +kernel)) rfl (Nat.le_of_ble_eq_true rfl) (Or.inr (Or.inr (Or.inr (Or.inr ⟨_, rfl⟩)))) rfl rfl rfl rfl (fun q => q) wI_X7_67 ?_
  have C36 := cst_put (k := ((37 : Nat) : Int)) (z := 311) C35
  generalize am_up g18 (294) ((37 : Nat) : Int) (311) = g19 at C36 ⊢
  refine ar_aload_n (pc := 155) (i := 0) (k0 := 0) (by decide +kernel) rfl rfl ?_
  refine ar_bipush (pc := 156) (z := 24) (by decide +kernel) (by omega) ?_
  refine ar_newi (pc := 158) (n := 311) (by decide +kernel) (show am_sh 311 = (0, 24) by decide +kernel) rfl w_aci (by omega) (by omega) (fun i => C36.2.2.2.2.2 _ _ (by omega)) ?_
  rw [show (((311 : Nat) : Int) + 1) = 312 by omega]
  have C37 := cst_new C36 (312) (by omega) (fun _ j => ZZ_at (m := 311) (by omega) (by omega) (show am_sh 311 = (0, 24) by decide +kernel)) (fun q => by omega)
  refine ar_putF (pc := 160) (a := 294) (z := 312) (ci := 7) (k := 38) (by decide +kernel) rfl (am_kd_at (m := 293) rfl (by omega) (show am_sh 293 = (17, 55) by decide +kernel)) rfl (Nat.le_of_ble_eq_true rfl) (Or.inr (Or.inr (Or.inr (Or.inr ⟨_, rfl⟩)))) rfl rfl rfl rfl (fun q => q) wI_X7_70 ?_
  have C38 := cst_put (k := ((38 : Nat) : Int)) (z := 312) C37
  generalize am_up g19 (294) ((38 : Nat) : Int) (312) = g20 at C38 ⊢
  refine ar_aload_n (pc := 163) (i := 0) (k0 := 0) (by decide +kernel) rfl rfl ?_
  refine ar_bipush (pc := 164) (z := 24) (by decide +kernel) (by omega) ?_
  refine ar_newi (pc := 166) (n := 312) (by decide +kernel) (show am_sh 312 = (0, 24) by decide +kernel) rfl w_aci (by omega) (by omega) (fun i => C38.2.2.2.2.2 _ _ (by omega)) ?_
  rw [show (((312 : Nat) : Int) + 1) = 313 by omega]
  have C39 := cst_new C38 (313) (by omega) (fun _ j => ZZ_at (m := 312) (by omega) (by omega) (show am_sh 312 = (0, 24) by decide +kernel)) (fun q => by omega)
  refine ar_putF (pc := 168) (a := 294) (z := 313) (ci := 7) (k := 39) (by decide +kernel) rfl (am_kd_at (m := 293) rfl (by omega) (show am_sh 293 = (17, 55) by decide +kernel)) rfl (Nat.le_of_ble_eq_true rfl) (Or.inr (Or.inr (Or.inr (Or.inr ⟨_, rfl⟩)))) rfl rfl rfl rfl (fun q => q) wI_X7_73 ?_
  have C40 := cst_put (k := ((39 : Nat) : Int)) (z := 313) C39
  generalize am_up g20 (294) ((39 : Nat) : Int) (313) = g21 at C40 ⊢
  refine ar_aload_n (pc := 171) (i := 0) (k0 := 0) (by decide +kernel) rfl rfl ?_
  refine ar_bipush (pc := 172) (z := 24) (by decide +kernel) (by omega) ?_
  refine ar_newi (pc := 174) (n := 313) (by decide +kernel) (show am_sh 313 = (0, 24) by decide +kernel) rfl w_aci (by omega) (by omega) (fun i => C40.2.2.2.2.2 _ _ (by omega)) ?_
  rw [show (((313 : Nat) : Int) + 1) = 314 by omega]
  have C41 := cst_new C40 (314) (by omega) (fun _ j => ZZ_at (m := 313) (by omega) (by omega) (show am_sh 313 = (0, 24) by decide +kernel)) (fun q => by omega)
  refine ar_putF (pc := 176) (a := 294) (z := 314) (ci := 7) (k := 40) (by decide +kernel) rfl (am_kd_at (m := 293) rfl (by omega) (show am_sh 293 = (17, 55) by decide +kernel)) rfl (Nat.le_of_ble_eq_true rfl) (Or.inr (Or.inr (Or.inr (Or.inr ⟨_, rfl⟩)))) rfl rfl rfl rfl (fun q => q) wI_X7_76 ?_
  have C42 := cst_put (k := ((40 : Nat) : Int)) (z := 314) C41
  generalize am_up g21 (294) ((40 : Nat) : Int) (314) = g22 at C42 ⊢
  refine ar_aload_n (pc := 179) (i := 0) (k0 := 0) (by decide +kernel) rfl rfl ?_
  refine ar_bipush (pc := 180) (z := 24) (by decide +kernel) (by omega) ?_
  refine ar_newi (pc := 182) (n := 314) (by decide +kernel) (show am_sh 314 = (0, 24) by decide +kernel) rfl w_aci (by omega) (by omega) (fun i => C42.2.2.2.2.2 _ _ (by omega)) ?_
  rw [show (((314 : Nat) : Int) + 1) = 315 by omega]
  have C43 := cst_new C42 (315) (by omega) (fun _ j => ZZ_at (m := 314) (by omega) (by omega) (show am_sh 314 = (0, 24) by decide +kernel)) (fun q => by omega)
  refine ar_putF (pc := 184) (a := 294) (z := 315) (ci := 7) (k := 41) (by decide +kernel) rfl (am_kd_at (m := 293) rfl (by omega) (show am_sh 293 = (17, 55) by decide +kernel)) rfl (Nat.le_of_ble_eq_true rfl) (Or.inr (Or.inr (Or.inr (Or.inr ⟨_, rfl⟩)))) rfl rfl rfl rfl (fun q => q) wI_X7_79 ?_
  have C44 := cst_put (k := ((41 : Nat) : Int)) (z := 315) C43
  generalize am_up g22 (294) ((41 : Nat) : Int) (315) = g23 at C44 ⊢
  refine ar_aload_n (pc := 187) (i := 0) (k0 := 0) (by decide +kernel) rfl rfl ?_
  refine ar_bipush (pc := 188) (z := 24) (by decide +kernel) (by omega) ?_
  refine ar_newj (pc := 190) (n := 315) (by decide +kernel) (show am_sh 315 = (1, 24) by decide +kernel) rfl w_acj (by omega) (by omega) (fun i => C44.2.2.2.2.2 _ _ (by omega)) ?_
  rw [show (((315 : Nat) : Int) + 1) = 316 by omega]
  have C45 := cst_new C44 (316) (by omega) (fun _ j => ZZ_at (m := 315) (by omega) (by omega) (show am_sh 315 = (1, 24) by decide +kernel)) (fun q => by omega)
  refine ar_putF (pc := 192) (a := 294) (z := 316) (ci := 7) (k := 42) (by decide +kernel) rfl (am_kd_at (m := 293) rfl (by omega) (show am_sh 293 = (17, 55) by decide +kernel)) rfl (Nat.le_of_ble_eq_true rfl) (Or.inr (Or.inr (Or.inr (Or.inr ⟨_, rfl⟩)))) rfl rfl rfl rfl (fun q => q) wI_X7_82 ?_
  have C46 := cst_put (k := ((42 : Nat) : Int)) (z := 316) C45
  generalize am_up g23 (294) ((42 : Nat) : Int) (316) = g24 at C46 ⊢
  refine ar_aload_n (pc := 195) (i := 0) (k0 := 0) (by decide +kernel) rfl rfl ?_
  refine ar_bipush (pc := 196) (z := 40) (by decide +kernel) (by omega) ?_
  refine ar_newi (pc := 198) (n := 316) (by decide +kernel) (show am_sh 316 = (0, 40) by decide +kernel) rfl w_aci (by omega) (by omega) (fun i => C46.2.2.2.2.2 _ _ (by omega)) ?_
  rw [show (((316 : Nat) : Int) + 1) = 317 by omega]
  have C47 := cst_new C46 (317) (by omega) (fun _ j => ZZ_at (m := 316) (by omega) (by omega) (show am_sh 316 = (0, 40) by decide +kernel)) (fun q => by omega)
  refine ar_putF (pc := 200) (a := 294) (z := 317) (ci := 7) (k := 48) (by decide +kernel) rfl (am_kd_at (m := 293) rfl (by omega) (show am_sh 293 = (17, 55) by decide +kernel)) rfl (Nat.le_of_ble_eq_true rfl) (Or.inr (Or.inr (Or.inr (Or.inr ⟨_, rfl⟩)))) rfl rfl rfl rfl (fun q => q) wI_X7_85 ?_
  have C48 := cst_put (k := ((48 : Nat) : Int)) (z := 317) C47
  generalize am_up g24 (294) ((48 : Nat) : Int) (317) = g25 at C48 ⊢
  refine ar_aload_n (pc := 203) (i := 0) (k0 := 0) (by decide +kernel) rfl rfl ?_
  refine ar_bipush (pc := 204) (z := 40) (by decide +kernel) (by omega) ?_
  refine ar_newi (pc := 206) (n := 317) (by decide +kernel) (show am_sh 317 = (0, 40) by decide +kernel) rfl w_aci (by omega) (by omega) (fun i => C48.2.2.2.2.2 _ _ (by omega)) ?_
  rw [show (((317 : Nat) : Int) + 1) = 318 by omega]
  have C49 := cst_new C48 (318) (by omega) (fun _ j => ZZ_at (m := 317) (by omega) (by omega) (show am_sh 317 = (0, 40) by decide +kernel)) (fun q => by omega)
  refine ar_putF (pc := 208) (a := 294) (z := 318) (ci := 7) (k := 49) (by decide +kernel) rfl (am_kd_at (m := 293) rfl (by omega) (show am_sh 293 = (17, 55) by decide +kernel)) rfl (Nat.le_of_ble_eq_true rfl) (Or.inr (Or.inr (Or.inr (Or.inr ⟨_, rfl⟩)))) rfl rfl rfl rfl (fun q => q) wI_X7_88 ?_
  have C50 := cst_put (k := ((49 : Nat) : Int)) (z := 318) C49
  generalize am_up g25 (294) ((49 : Nat) : Int) (318) = g26 at C50 ⊢
  refine ar_aload_n (pc := 211) (i := 0) (k0 := 0) (by decide +kernel) rfl rfl ?_
  refine ar_iconst (pc := 212) (z := 1) (by decide +kernel) (by unfold am_i32; omega) ?_
  refine ar_putZ (pc := 213) (a := 294) (z := 1) 7 50 (by decide +kernel) (am_kd_at (m := 293) rfl (by omega) (show am_sh 293 = (17, 55) by decide +kernel)) rfl (Nat.le_of_ble_eq_true rfl) rfl (fun q => by cases q) rfl (Or.inr rfl) wI_X7_91 ?_
  have C51 := cst_put (k := ((50 : Nat) : Int)) (z := 1) C50
  generalize am_up g26 (294) ((50 : Nat) : Int) (1) = g27 at C51 ⊢
  refine ar_aload_n (pc := 216) (i := 0) (k0 := 0) (by decide +kernel) rfl rfl ?_
  refine ar_bipush (pc := 217) (z := 44) (by decide +kernel) (by omega) ?_
  refine ar_newi (pc := 219) (n := 318) (by decide +kernel) (show am_sh 318 = (0, 44) by decide +kernel) rfl w_aci (by omega) (by omega) (fun i => C51.2.2.2.2.2 _ _ (by omega)) ?_
  rw [show (((318 : Nat) : Int) + 1) = 319 by omega]
  have C52 := cst_new C51 (319) (by omega) (fun _ j => ZZ_at (m := 318) (by omega) (by omega) (show am_sh 318 = (0, 44) by decide +kernel)) (fun q => by omega)
  refine ar_putF (pc := 221) (a := 294) (z := 319) (ci := 7) (k := 52) (by decide +kernel) rfl (am_kd_at (m := 293) rfl (by omega) (show am_sh 293 = (17, 55) by decide +kernel)) rfl (Nat.le_of_ble_eq_true rfl) (Or.inr (Or.inr (Or.inr (Or.inr ⟨_, rfl⟩)))) rfl rfl rfl rfl (fun q => q) wI_X7_95 ?_
  have C53 := cst_put (k := ((52 : Nat) : Int)) (z := 319) C52
  generalize am_up g27 (294) ((52 : Nat) : Int) (319) = g28 at C53 ⊢
  refine ar_aload_n (pc := 224) (i := 0) (k0 := 0) (by decide +kernel) rfl rfl ?_
  refine ar_bipush (pc := 225) (z := 8) (by decide +kernel) (by omega) ?_
  refine ar_newi (pc := 227) (n := 319) (by decide +kernel) (show am_sh 319 = (0, 8) by decide +kernel) rfl w_aci (by omega) (by omega) (fun i => C53.2.2.2.2.2 _ _ (by omega)) ?_
  rw [show (((319 : Nat) : Int) + 1) = 320 by omega]
  have C54 := cst_new C53 (320) (by omega) (fun _ j => ZZ_at (m := 319) (by omega) (by omega) (show am_sh 319 = (0, 8) by decide +kernel)) (fun q => by omega)
  refine ar_putF (pc := 229) (a := 294) (z := 320) (ci := 7) (k := 53) (by decide +kernel) rfl (am_kd_at (m := 293) rfl (by omega) (show am_sh 293 = (17, 55) by decide +kernel)) rfl (Nat.le_of_ble_eq_true rfl) (Or.inr (Or.inr (Or.inr (Or.inr ⟨_, rfl⟩)))) rfl rfl rfl rfl (fun q => q) wI_X7_98 ?_
  have C55 := cst_put (k := ((53 : Nat) : Int)) (z := 320) C54
  generalize am_up g28 (294) ((53 : Nat) : Int) (320) = g29 at C55 ⊢
  refine ar_aload_n (pc := 232) (i := 0) (k0 := 0) (by decide +kernel) rfl rfl ?_
  refine ar_bipush (pc := 233) (z := 8) (by decide +kernel) (by omega) ?_
  refine ar_newi (pc := 235) (n := 320) (by decide +kernel) (show am_sh 320 = (0, 8) by decide +kernel) rfl w_aci (by omega) (by omega) (fun i => C55.2.2.2.2.2 _ _ (by omega)) ?_
  rw [show (((320 : Nat) : Int) + 1) = 321 by omega]
  have C56 := cst_new C55 (321) (by omega) (fun _ j => ZZ_at (m := 320) (by omega) (by omega) (show am_sh 320 = (0, 8) by decide +kernel)) (fun q => by omega)
  refine ar_putF (pc := 237) (a := 294) (z := 321) (ci := 7) (k := 54) (by decide +kernel) rfl (am_kd_at (m := 293) rfl (by omega) (show am_sh 293 = (17, 55) by decide +kernel)) rfl (Nat.le_of_ble_eq_true rfl) (Or.inr (Or.inr (Or.inr (Or.inr ⟨_, rfl⟩)))) rfl rfl rfl rfl (fun q => q) wI_X7_101 ?_
  have C57 := cst_put (k := ((54 : Nat) : Int)) (z := 321) C56
  generalize am_up g29 (294) ((54 : Nat) : Int) (321) = g30 at C57 ⊢
  refine ar_aload_n (pc := 240) (i := 0) (k0 := 0) (by decide +kernel) rfl rfl ?_
  refine ar_getV (pc := 241) (a := 294) (v := .inr (.inr (295))) 7 0 (by decide +kernel) (am_kd_at (m := 293) rfl (by omega) (show am_sh 293 = (17, 55) by decide +kernel)) rfl (Nat.le_of_ble_eq_true rfl) wI_X7_7 (by show (Sum.inr (Sum.inr (g30 _ _)) : am_V) = _; rw [C57.2.1]; rfl) ?_
  refine ar_iconst (pc := 244) (z := 5) (by decide +kernel) (by unfold am_i32; omega) ?_
  refine ar_sipush (pc := 245) (z := 479) (by decide +kernel) (by omega) ?_
  refine ar_iast (pc := 248) (by decide +kernel) k_295 (by omega) (by rw [l_295]; omega) ?_
  refine ar_aload_n (pc := 249) (i := 0) (k0 := 0) (by decide +kernel) rfl rfl ?_
  refine ar_getV (pc := 250) (a := 294) (v := .inr (.inr (295))) 7 0 (by decide +kernel) (am_kd_at (m := 293) rfl (by omega) (show am_sh 293 = (17, 55) by decide +kernel)) rfl (Nat.le_of_ble_eq_true rfl) wI_X7_7 (by show (Sum.inr (Sum.inr ((am_up g30 295 5 479) _ _)) : am_V) = _; rw [am_up_ne (by omega)]; rw [C57.2.1]; rfl) ?_
  refine ar_iconst (pc := 253) (z := 1) (by decide +kernel) (by unfold am_i32; omega) ?_
  refine ar_iconst (pc := 254) (z := -1) (by decide +kernel) (by unfold am_i32; omega) ?_
  refine ar_iast (pc := 255) (by decide +kernel) k_295 (by omega) (by rw [l_295]; omega) ?_
  refine ar_aload_n (pc := 256) (i := 0) (k0 := 0) (by decide +kernel) rfl rfl ?_
  refine ar_getV (pc := 257) (a := 294) (v := .inr (.inr (295))) 7 0 (by decide +kernel) (am_kd_at (m := 293) rfl (by omega) (show am_sh 293 = (17, 55) by decide +kernel)) rfl (Nat.le_of_ble_eq_true rfl) wI_X7_7 (by show (Sum.inr (Sum.inr ((am_up (am_up g30 295 5 479) 295 1 (-1)) _ _)) : am_V) = _; rw [am_up_ne (by omega), am_up_ne (by omega)]; rw [C57.2.1]; rfl) ?_
  refine ar_aload_n (pc := 260) (i := 0) (k0 := 0) (by decide +kernel) rfl rfl ?_
  refine ar_getV (pc := 261) (a := 294) (v := .inr (.inr (296))) 7 1 (by decide +kernel) (am_kd_at (m := 293) rfl (by omega) (show am_sh 293 = (17, 55) by decide +kernel)) rfl (Nat.le_of_ble_eq_true rfl) wI_X7_13 (by show (Sum.inr (Sum.inr ((am_up (am_up g30 295 5 479) 295 1 (-1)) _ _)) : am_V) = _; rw [am_up_ne (by omega), am_up_ne (by omega)]; rw [C57.2.1]; rfl) ?_
  have r295 : ∀ j : Int, (am_up (am_up g30 295 5 479) 295 1 (-1)) 295 j = rowZ j := by
    intro j
    unfold rowZ
    by_cases q1 : j = 1
    · rw [if_pos q1, q1, am_up_at]
    · rw [if_neg q1, am_up_ne (by omega)]
      by_cases q2 : j = 5
      · rw [if_pos q2, q2, am_up_at]
      · rw [if_neg q2, am_up_ne (by omega), C57.2.2.1 _ _ (by omega) (by omega) (by omega), ZZ_at (a := 295) (m := 294) rfl (by omega) (show am_sh 294 = (0, 2159) by decide +kernel)]
        rfl
  have oth : ∀ b j : Int, b ≠ 295 → (am_up (am_up g30 295 5 479) 295 1 (-1)) b j = g30 b j := fun b j q => by rw [am_up_ne (by omega), am_up_ne (by omega)]
  have all : ∀ b j : Int, 294 ≤ b → b ≤ 321 → b ≠ 295 → (am_up (am_up g30 295 5 479) 295 1 (-1)) b j = ZZ b j := by
    intro b j q1 q2 q3
    rw [oth b j q3]
    by_cases q : b = 294
    · rw [q, C57.2.1, ZZ_at (a := 294) (m := 293) rfl (by omega) (show am_sh 293 = (17, 55) by decide +kernel)]
      rfl
    · exact C57.2.2.1 b j (by omega) q2 (by omega)
  have low : ∀ b j : Int, b < 294 → (am_up (am_up g30 295 5 479) 295 1 (-1)) b j = h b j := fun b j q => by rw [oth b j (by omega)]; exact C57.1 b j q
  generalize (am_up (am_up g30 295 5 479) 295 1 (-1)) = gg at r295 oth all low ⊢
  have F : am_Fin 321 gg := by
    refine am_Fin_of (fun b j q1 q2 q3 => ?_)
    by_cases q : b < 294
    · rw [low b j q]
      exact zc b j q1 (by omega)
    · exact all b j (by omega) q2 (fun e => q3 (by rw [e]; exact k_295))
  refine ar_callS (pc := 264) (M2 := M_X7_copy) (as := [.inr (.inr 295), .inr (.inr 296)]) (n := 321) (n2 := 321) (st := []) (by decide +kernel) rfl wm_RX7_104 ws_yX7_copy wz_RX7 wc_yX7_copy ⟨by decide, by decide, rfl⟩ (by decide) (Nat.le_of_ble_eq_true rfl) (Nat.le_refl _) (Nat.le_refl _) (am_Cl_fin F (c_X7_copy (Or.inl ⟨rfl, rfl⟩) ?_))
  refine ar_vret (pc := 267) (by decide +kernel) rfl rfl (k _ ⟨fun b j q => ?_, fun j => ⟨?_, ?_⟩, fun b j q1 q2 q3 q4 => ?_⟩)
  · unfold am_row
    rw [if_neg (by omega)]
    exact low b j q
  · unfold am_row
    rw [if_neg (by omega)]
    exact r295 j
  · unfold am_row
    rw [if_pos rfl]
    unfold ccp
    by_cases q : 0 ≤ j ∧ j < 2159
    · rw [if_pos q]
      exact r295 j
    · rw [if_neg q, all 296 j (by omega) (by omega) (by omega), ZZ_at (a := 296) (m := 295) rfl (by omega) (show am_sh 295 = (0, 2159) by decide +kernel)]
      unfold rowZ
      rw [if_neg (by omega), if_neg (by omega)]
      rfl
  · unfold am_row
    rw [if_neg q4]
    exact all b j q1 q2 q3
end CTORS2
