/-! CONSTRUCTORS: what the first heap is -/
def HZr (K : Nat) (a j : Int) : Int := match K with
  | 3 => if 0 ≤ j ∧ j < ((30 : Nat) : Int) then a + 3 + 3 * j else 0
  | 4 => if 0 ≤ j ∧ j < ((4 : Nat) : Int) then a + 239 + 13 * j else 0
  | 10 => if j = ((5 : Nat) : Int) then 479 else if j = ((4 : Nat) : Int) then 0 else if j = ((3 : Nat) : Int) then 0 else if j = ((2 : Nat) : Int) then 0 else if j = ((1 : Nat) : Int) then a + 2 else if j = ((0 : Nat) : Int) then a + 1 else 0
  | 11 => if j = ((6 : Nat) : Int) then a + 4 else if j = ((2 : Nat) : Int) then a + 3 else if j = ((1 : Nat) : Int) then a + 2 else if j = ((0 : Nat) : Int) then a + 1 else 0
  | 12 => if j = ((7 : Nat) : Int) then a + 22 else if j = ((6 : Nat) : Int) then a + 23 else if j = ((5 : Nat) : Int) then a + 22 else if j = ((4 : Nat) : Int) then a + 17 else if j = ((3 : Nat) : Int) then a + 12 else if j = ((2 : Nat) : Int) then a + 7 else if j = ((1 : Nat) : Int) then a + 2 else if j = ((0 : Nat) : Int) then a + 1 else 0
  | 13 => if j = ((9 : Nat) : Int) then a + 4 else if j = ((8 : Nat) : Int) then a + 3 else if j = ((7 : Nat) : Int) then a + 2 else if j = ((6 : Nat) : Int) then a + 1 else 0
  | 14 => if j = ((8 : Nat) : Int) then 0 else if j = ((7 : Nat) : Int) then a + 6 else if j = ((6 : Nat) : Int) then a + 5 else if j = ((5 : Nat) : Int) then -1 else if j = ((4 : Nat) : Int) then 0 else if j = ((3 : Nat) : Int) then 0 else if j = ((2 : Nat) : Int) then 0 else if j = ((1 : Nat) : Int) then a + 4 else if j = ((0 : Nat) : Int) then a + 1 else 0
  | 15 => if j = ((16 : Nat) : Int) then a + 12 else if j = ((13 : Nat) : Int) then a + 11 else if j = ((12 : Nat) : Int) then a + 10 else if j = ((11 : Nat) : Int) then a + 9 else if j = ((10 : Nat) : Int) then a + 8 else if j = ((9 : Nat) : Int) then a + 7 else if j = ((8 : Nat) : Int) then a + 6 else if j = ((7 : Nat) : Int) then a + 5 else if j = ((4 : Nat) : Int) then a + 4 else if j = ((3 : Nat) : Int) then a + 3 else if j = ((2 : Nat) : Int) then a + 2 else if j = ((1 : Nat) : Int) then a + 1 else 0
  | 16 => if j = ((9 : Nat) : Int) then a + 217 else if j = ((8 : Nat) : Int) then a + 200 else if j = ((7 : Nat) : Int) then a + 197 else if j = ((6 : Nat) : Int) then a + 100 else if j = ((5 : Nat) : Int) then a + 3 else if j = ((4 : Nat) : Int) then a + 2 else if j = ((3 : Nat) : Int) then -1 else if j = ((2 : Nat) : Int) then -1 else if j = ((1 : Nat) : Int) then 0 else if j = ((0 : Nat) : Int) then a + 1 else 0
  | 17 => if j = ((54 : Nat) : Int) then a + 27 else if j = ((53 : Nat) : Int) then a + 26 else if j = ((52 : Nat) : Int) then a + 25 else if j = ((50 : Nat) : Int) then 1 else if j = ((49 : Nat) : Int) then a + 24 else if j = ((48 : Nat) : Int) then a + 23 else if j = ((42 : Nat) : Int) then a + 22 else if j = ((41 : Nat) : Int) then a + 21 else if j = ((40 : Nat) : Int) then a + 20 else if j = ((39 : Nat) : Int) then a + 19 else if j = ((38 : Nat) : Int) then a + 18 else if j = ((37 : Nat) : Int) then a + 17 else if j = ((36 : Nat) : Int) then a + 16 else if j = ((35 : Nat) : Int) then a + 15 else if j = ((34 : Nat) : Int) then a + 14 else if j = ((30 : Nat) : Int) then a + 13 else if j = ((29 : Nat) : Int) then a + 12 else if j = ((28 : Nat) : Int) then a + 11 else if j = ((27 : Nat) : Int) then a + 10 else if j = ((26 : Nat) : Int) then a + 9 else if j = ((25 : Nat) : Int) then a + 8 else if j = ((24 : Nat) : Int) then a + 7 else if j = ((21 : Nat) : Int) then a + 6 else if j = ((15 : Nat) : Int) then a + 5 else if j = ((6 : Nat) : Int) then -1 else if j = ((5 : Nat) : Int) then -1 else if j = ((3 : Nat) : Int) then a + 4 else if j = ((2 : Nat) : Int) then a + 3 else if j = ((1 : Nat) : Int) then a + 2 else if j = ((0 : Nat) : Int) then a + 1 else 0
  | _ => 0
def ZZ (a j : Int) : Int := HZr (am_kd 321 a) a j
theorem am_kd_at {n m K L : Nat} {a : Int} (ha : a = (m : Int) + 1) (hm : m < n) (hs : am_sh m = (K, L)) : am_kd n a = K := by
  rw [ha, am_kd_k hm, hs]
theorem am_ln_at {m K L : Nat} {a : Int} (ha : a = (m : Int) + 1) (hs : am_sh m = (K, L)) : am_ln a = (L : Int) := by
  unfold am_ln
  rw [ha, show ((m : Int) + 1).toNat - 1 = m by omega, hs]
theorem ZZ_at {m K L : Nat} {a j : Int} (ha : a = (m : Int) + 1) (hm : m < 321) (hs : am_sh m = (K, L)) : ZZ a j = HZr K a j := by
  unfold ZZ
  rw [am_kd_at ha hm hs]
def cpost (h : am_H) (a n1 : Int) (h2 : am_H) : Prop := (∀ b j : Int, b < a → h2 b j = h b j) ∧ (∀ b j : Int, a ≤ b → b ≤ n1 → h2 b j = ZZ b j) ∧ ∀ b j : Int, n1 < b → h2 b j = 0
theorem cpost_eq {h g : am_H} {a m n : Int} (P : cpost h a m g) (e : n = m) : cpost h a n g := e ▸ P
/-- under construction: a itself, a row r -/
def cst (h : am_H) (a r m : Int) (own row : Int → Int) (g : am_H) : Prop := (∀ b j : Int, b < a → g b j = h b j) ∧ (∀ j : Int, g a j = own j) ∧ (∀ b j : Int, a < b → b ≤ m → b ≠ r → g b j = ZZ b j) ∧ (∀ j : Int, a < r → r ≤ m → g r j = row j) ∧ a ≤ m ∧ ∀ b j : Int, m < b → g b j = 0
section CST
variable {h g : am_H} {a r m : Int} {own row : Int → Int}
theorem cst_0 (hr : r ≠ a) (z : ∀ b j : Int, a ≤ b → h b j = 0) : cst h a r a (fun _ => 0) (fun _ => 0) h := ⟨fun _ _ _ => rfl, fun j => z a j (Int.le_refl _), fun b j q1 q2 => by omega, fun j q1 q2 => by omega, Int.le_refl _, fun b j q => z b j (by omega)⟩
theorem cst_new (C : cst h a r m own row g) (m2 : Int) (e : m2 = m + 1) (hz : m2 ≠ r → ∀ j : Int, ZZ m2 j = 0) (hr : m2 = r → ∀ j : Int, row j = 0) : cst h a r m2 own row g := by
  obtain ⟨c1, c2, c3, c4, c5, c6⟩ := C
  refine ⟨c1, c2, fun b j q1 q2 q3 => ?_, fun j q1 q2 => ?_, by omega, fun b j q => c6 b j (by omega)⟩
  · by_cases q : b = m2
    · rw [q, hz (q ▸ q3), c6 _ _ (by omega)]
    · exact c3 b j q1 (by omega) q3
  · by_cases q : m2 = r
    · rw [hr q, c6 _ _ (by omega)]
    · exact c4 j q1 (by omega)
theorem cst_put {k z : Int} (C : cst h a r m own row g) : cst h a r m (fun j => if j = k then z else own j) row (am_up g a k z) := by
  obtain ⟨c1, c2, c3, c4, c5, c6⟩ := C
  refine ⟨fun b j q => by rw [am_up_ne (by omega)]; exact c1 b j q, fun j => ?_, fun b j q1 q2 q3 => by rw [am_up_ne (by omega)]; exact c3 b j q1 q2 q3, fun j q1 q2 => by rw [am_up_ne (by omega)]; exact c4 j q1 q2, c5, fun b j q => by rw [am_up_ne (by omega)]; exact c6 b j q⟩
  by_cases q : j = k
  · simp only [if_pos q]
    rw [q, am_up_at]
  · simp only [if_neg q]
    rw [am_up_ne (by omega)]
    exact c2 j
theorem cst_row {i z : Int} {row2 : Int → Int} (C : cst h a r m own row g) (hr : a < r ∧ r ≤ m) (e1 : row2 i = z) (e2 : ∀ j : Int, j ≠ i → row2 j = row j) : cst h a r m own row2 (am_up g r i z) := by
  obtain ⟨c1, c2, c3, c4, c5, c6⟩ := C
  refine ⟨fun b j q => by rw [am_up_ne (by omega)]; exact c1 b j q, fun j => by rw [am_up_ne (by omega)]; exact c2 j, fun b j q1 q2 q3 => by rw [am_up_ne (by omega)]; exact c3 b j q1 q2 q3, fun j q1 q2 => ?_, c5, fun b j q => by rw [am_up_ne (by omega)]; exact c6 b j q⟩
  by_cases q : j = i
  · rw [q, am_up_at, e1]
  · rw [am_up_ne (by omega), e2 j q]
    exact c4 j q1 q2
theorem cst_call {b n : Int} {g2 : am_H} (C : cst h a r m own row g) (e : b = m + 1) (hn : b ≤ n) (hr : r ≤ m ∨ n < r) (P : cpost g b n g2) : cst h a r n own row g2 := by
  obtain ⟨c1, c2, c3, c4, c5, c6⟩ := C
  obtain ⟨p1, p2, p3⟩ := P
  refine ⟨fun x j q => by rw [p1 _ _ (by omega)]; exact c1 x j q, fun j => by rw [p1 _ _ (by omega)]; exact c2 j, fun x j q1 q2 q3 => ?_, fun j q1 q2 => by rw [p1 _ _ (by omega)]; exact c4 j q1 (by omega), by omega, p3⟩
  by_cases q : x < b
  · rw [p1 _ _ q]
    exact c3 x j q1 (by omega) q3
  · exact p2 x j (by omega) q2
theorem cst_done (C : cst h a r m own row g) (ho : ∀ j : Int, own j = ZZ a j) (hr : a < r → ∀ j : Int, row j = ZZ r j) (hm : r ≤ m) : cpost h a m g := by
  obtain ⟨c1, c2, c3, c4, c5, c6⟩ := C
  refine ⟨c1, fun b j q1 q2 => ?_, c6⟩
  by_cases q : b = a
  · rw [q, c2, ho]
  · by_cases q3 : b = r
    · rw [q3, c4 j (by omega) hm, hr (by omega)]
    · exact c3 b j (by omega) q2 q3
theorem cst_eq {m2 : Int} {row2 : Int → Int} (C : cst h a r m own row g) (e : m2 = m) (e2 : ∀ j : Int, row2 j = row j) : cst h a r m2 own row2 g := by
  rw [e, show row2 = row from funext e2]
  exact C
end CST
theorem wI_X0_9 : Cond.fieldLink RX0 9 "ByteIntervals$Moment" "bytes" "[I" ∈ am_gw := List.mem_filter.mpr ⟨List.mem_of_getElem? (i := 207) (by decide +kernel), rfl⟩
theorem wI_X0_15 : Cond.fieldLink RX0 15 "ByteIntervals$Moment" "lines" "[I" ∈ am_gw := List.mem_filter.mpr ⟨List.mem_of_getElem? (i := 210) (by decide +kernel), rfl⟩
theorem wI_X0_18 : Cond.fieldLink RX0 18 "ByteIntervals$Moment" "lineCount" "I" ∈ am_gw := List.mem_filter.mpr ⟨List.mem_of_getElem? (i := 212) (by decide +kernel), rfl⟩
theorem wI_X0_22 : Cond.fieldLink RX0 22 "ByteIntervals$Moment" "size" "I" ∈ am_gw := List.mem_filter.mpr ⟨List.mem_of_getElem? (i := 214) (by decide +kernel), rfl⟩
theorem wI_X0_25 : Cond.fieldLink RX0 25 "ByteIntervals$Moment" "day" "I" ∈ am_gw := List.mem_filter.mpr ⟨List.mem_of_getElem? (i := 217) (by decide +kernel), rfl⟩
theorem wI_X0_28 : Cond.fieldLink RX0 28 "ByteIntervals$Moment" "x" "I" ∈ am_gw := List.mem_filter.mpr ⟨List.mem_of_getElem? (i := 220) (by decide +kernel), rfl⟩
theorem wI_X3_9 : Cond.fieldLink RX3 9 "ByteIntervals$Reading" "values" "[I" ∈ am_gw := List.mem_filter.mpr ⟨List.mem_of_getElem? (i := 457) (by decide +kernel), rfl⟩
theorem wI_X3_15 : Cond.fieldLink RX3 15 "ByteIntervals$Reading" "froms" "[I" ∈ am_gw := List.mem_filter.mpr ⟨List.mem_of_getElem? (i := 459) (by decide +kernel), rfl⟩
theorem wI_X3_18 : Cond.fieldLink RX3 18 "ByteIntervals$Reading" "tos" "[I" ∈ am_gw := List.mem_filter.mpr ⟨List.mem_of_getElem? (i := 462) (by decide +kernel), rfl⟩
theorem wI_X3_21 : Cond.fieldLink RX3 21 "ByteIntervals$Reading" "looks" "[J" ∈ am_gw := List.mem_filter.mpr ⟨List.mem_of_getElem? (i := 465) (by decide +kernel), rfl⟩
theorem wI_X5_9 : Cond.fieldLink RX5 9 "ByteIntervals$Text" "clauseKinds" "[I" ∈ am_gw := List.mem_filter.mpr ⟨List.mem_of_getElem? (i := 290) (by decide +kernel), rfl⟩
theorem wI_X5_15 : Cond.fieldLink RX5 15 "ByteIntervals$Text" "first" "[I" ∈ am_gw := List.mem_filter.mpr ⟨List.mem_of_getElem? (i := 294) (by decide +kernel), rfl⟩
theorem wI_X5_18 : Cond.fieldLink RX5 18 "ByteIntervals$Text" "second" "[I" ∈ am_gw := List.mem_filter.mpr ⟨List.mem_of_getElem? (i := 298) (by decide +kernel), rfl⟩
theorem wI_X5_21 : Cond.fieldLink RX5 21 "ByteIntervals$Text" "code" "[I" ∈ am_gw := List.mem_filter.mpr ⟨List.mem_of_getElem? (i := 302) (by decide +kernel), rfl⟩
theorem wI_X5_24 : Cond.fieldLink RX5 24 "ByteIntervals$Text" "kinds" "[I" ∈ am_gw := List.mem_filter.mpr ⟨List.mem_of_getElem? (i := 312) (by decide +kernel), rfl⟩
theorem wI_X5_27 : Cond.fieldLink RX5 27 "ByteIntervals$Text" "atCode" "[I" ∈ am_gw := List.mem_filter.mpr ⟨List.mem_of_getElem? (i := 316) (by decide +kernel), rfl⟩
theorem wI_X5_30 : Cond.fieldLink RX5 30 "ByteIntervals$Text" "ofCode" "[I" ∈ am_gw := List.mem_filter.mpr ⟨List.mem_of_getElem? (i := 319) (by decide +kernel), rfl⟩
theorem wI_X5_33 : Cond.fieldLink RX5 33 "ByteIntervals$Text" "toCode" "[I" ∈ am_gw := List.mem_filter.mpr ⟨List.mem_of_getElem? (i := 322) (by decide +kernel), rfl⟩
theorem wI_X5_36 : Cond.fieldLink RX5 36 "ByteIntervals$Text" "hangs" "[I" ∈ am_gw := List.mem_filter.mpr ⟨List.mem_of_getElem? (i := 325) (by decide +kernel), rfl⟩
theorem wI_X5_39 : Cond.fieldLink RX5 39 "ByteIntervals$Text" "swayed" "[I" ∈ am_gw := List.mem_filter.mpr ⟨List.mem_of_getElem? (i := 329) (by decide +kernel), rfl⟩
theorem wI_X5_42 : Cond.fieldLink RX5 42 "ByteIntervals$Text" "sorted" "[I" ∈ am_gw := List.mem_filter.mpr ⟨List.mem_of_getElem? (i := 332) (by decide +kernel), rfl⟩
theorem wI_X5_45 : Cond.fieldLink RX5 45 "ByteIntervals$Text" "needed" "[I" ∈ am_gw := List.mem_filter.mpr ⟨List.mem_of_getElem? (i := 341) (by decide +kernel), rfl⟩
theorem wI_X1_9 : Cond.fieldLink RX1 9 "ByteIntervals$Parser" "tokens" "[I" ∈ am_gw := List.mem_filter.mpr ⟨List.mem_of_getElem? (i := 390) (by decide +kernel), rfl⟩
theorem wI_X1_15 : Cond.fieldLink RX1 15 "ByteIntervals$Parser" "starts" "[I" ∈ am_gw := List.mem_filter.mpr ⟨List.mem_of_getElem? (i := 391) (by decide +kernel), rfl⟩
theorem wI_X1_18 : Cond.fieldLink RX1 18 "ByteIntervals$Parser" "numbers" "[I" ∈ am_gw := List.mem_filter.mpr ⟨List.mem_of_getElem? (i := 392) (by decide +kernel), rfl⟩
theorem wI_X1_24 : Cond.fieldLink RX1 24 "ByteIntervals$Parser" "into" "LByteIntervals$Text;" ∈ am_gw := List.mem_filter.mpr ⟨List.mem_of_getElem? (i := 396) (by decide +kernel), rfl⟩
theorem wI_X2_9 : Cond.fieldLink RX2 9 "ByteIntervals$Reader" "stack" "[I" ∈ am_gw := List.mem_filter.mpr ⟨List.mem_of_getElem? (i := 498) (by decide +kernel), rfl⟩
theorem wI_X2_18 : Cond.fieldLink RX2 18 "ByteIntervals$Reader" "whole" "LByteIntervals$Reading;" ∈ am_gw := List.mem_filter.mpr ⟨List.mem_of_getElem? (i := 499) (by decide +kernel), rfl⟩
theorem wI_X2_22 : Cond.fieldLink RX2 22 "ByteIntervals$Reader" "nested" "LByteIntervals$Reading;" ∈ am_gw := List.mem_filter.mpr ⟨List.mem_of_getElem? (i := 500) (by decide +kernel), rfl⟩
theorem wI_X2_25 : Cond.fieldLink RX2 25 "ByteIntervals$Reader" "inmost" "LByteIntervals$Reading;" ∈ am_gw := List.mem_filter.mpr ⟨List.mem_of_getElem? (i := 501) (by decide +kernel), rfl⟩
theorem wI_X2_28 : Cond.fieldLink RX2 28 "ByteIntervals$Reader" "kept" "LByteIntervals$Reading;" ∈ am_gw := List.mem_filter.mpr ⟨List.mem_of_getElem? (i := 502) (by decide +kernel), rfl⟩
theorem wI_X2_31 : Cond.fieldLink RX2 31 "ByteIntervals$Reader" "mendedBytes" "[I" ∈ am_gw := List.mem_filter.mpr ⟨List.mem_of_getElem? (i := 504) (by decide +kernel), rfl⟩
theorem wI_X2_34 : Cond.fieldLink RX2 34 "ByteIntervals$Reader" "bytesBefore" "[I" ∈ am_gw := List.mem_filter.mpr ⟨List.mem_of_getElem? (i := 506) (by decide +kernel), rfl⟩
theorem wI_X2_37 : Cond.fieldLink RX2 37 "ByteIntervals$Reader" "bytes" "[I" ∈ am_gw := List.mem_filter.mpr ⟨List.mem_of_getElem? (i := 507) (by decide +kernel), rfl⟩
theorem wI_X4_12 : Cond.fieldLink RX4 12 "ByteIntervals$State" "now" "LByteIntervals$Moment;" ∈ am_gw := List.mem_filter.mpr ⟨List.mem_of_getElem? (i := 237) (by decide +kernel), rfl⟩
theorem wI_X4_18 : Cond.fieldLink RX4 18 "ByteIntervals$State" "steps" "[LByteIntervals$Moment;" ∈ am_gw := List.mem_filter.mpr ⟨List.mem_of_getElem? (i := 239) (by decide +kernel), rfl⟩
theorem wI_X4_22 : Cond.fieldLink RX4 22 "ByteIntervals$State" "firstStep" "I" ∈ am_gw := List.mem_filter.mpr ⟨List.mem_of_getElem? (i := 240) (by decide +kernel), rfl⟩
theorem wI_X4_26 : Cond.fieldLink RX4 26 "ByteIntervals$State" "stepCount" "I" ∈ am_gw := List.mem_filter.mpr ⟨List.mem_of_getElem? (i := 241) (by decide +kernel), rfl⟩
theorem wI_X4_29 : Cond.fieldLink RX4 29 "ByteIntervals$State" "textCount" "I" ∈ am_gw := List.mem_filter.mpr ⟨List.mem_of_getElem? (i := 243) (by decide +kernel), rfl⟩
theorem wI_X4_32 : Cond.fieldLink RX4 32 "ByteIntervals$State" "ruling" "I" ∈ am_gw := List.mem_filter.mpr ⟨List.mem_of_getElem? (i := 245) (by decide +kernel), rfl⟩
theorem wI_X4_35 : Cond.fieldLink RX4 35 "ByteIntervals$State" "saidFields" "[I" ∈ am_gw := List.mem_filter.mpr ⟨List.mem_of_getElem? (i := 247) (by decide +kernel), rfl⟩
theorem wI_X4_39 : Cond.fieldLink RX4 39 "ByteIntervals$State" "saidValues" "[I" ∈ am_gw := List.mem_filter.mpr ⟨List.mem_of_getElem? (i := 249) (by decide +kernel), rfl⟩
theorem wI_X4_42 : Cond.fieldLink RX4 42 "ByteIntervals$State" "saidCount" "I" ∈ am_gw := List.mem_filter.mpr ⟨List.mem_of_getElem? (i := 251) (by decide +kernel), rfl⟩
section CTORS
variable {d : Nat} {h : am_H} {Q : Int → am_H → Prop}
theorem c_I_X0 {m n : Nat} {a : Int} (ha : a = (m : Int) + 1) (hn : n = m + 3) (h9 : n ≤ 321) (S0 : am_sh (m + 0) = (10, 6)) (S1 : am_sh (m + 1) = (0, 40)) (S2 : am_sh (m + 2) = (0, 25)) (z : ∀ b j : Int, a ≤ b → h b j = 0) (k : ∀ h2, cpost h a ((n : Nat) : Int) h2 → Q 0 h2) : am_Cl false d M_I_X0 (m + 1) n [.inr (.inr (a))] h Q := by
  refine am_Cl_of rfl (Nat.le_of_ble_eq_true rfl) (by omega) rfl (fun _ => ?_)
  have C0 := cst_0 (h := h) (a := a) (r := 0) (by omega) z
  refine ar_aload_n (pc := 0) (i := 0) (k0 := 0) (by decide +kernel) rfl rfl ?_
  refine ar_objInit (pc := 1) (by decide +kernel) w_oi_RX0 (by omega) (Nat.le_of_ble_eq_true rfl) ?_
  refine ar_aload_n (pc := 4) (i := 0) (k0 := 0) (by decide +kernel) rfl rfl ?_
  refine ar_bipush (pc := 5) (z := 40) (by decide +kernel) (by omega) ?_
  refine ar_newi (pc := 7) (n := (m + 1)) (by decide +kernel) (S1) rfl w_aci (by omega) (by omega) (fun i => C0.2.2.2.2.2 _ _ (by omega)) ?_
  rw [show ((((m + 1) : Nat) : Int) + 1) = a + 1 by omega]
  have C1 := cst_new C0 (a + 1) (by omega) (fun _ j => ZZ_at (m := (m + 1)) (by omega) (by omega) (S1)) (fun q => by omega)
  refine ar_putF (pc := 9) (a := a) (z := a + 1) (ci := 0) (k := 0) (by decide +kernel) rfl (am_kd_at ha (by omega) (S0)) rfl (Nat.le_of_ble_eq_true rfl) (Or.inr (Or.inr (Or.inr (Or.inr ⟨_, rfl⟩)))) rfl rfl rfl rfl (fun q => q) wI_X0_9 ?_
  have C2 := cst_put (k := ((0 : Nat) : Int)) (z := a + 1) C1
  generalize am_up h (a) ((0 : Nat) : Int) (a + 1) = g1 at C2 ⊢
  refine ar_aload_n (pc := 12) (i := 0) (k0 := 0) (by decide +kernel) rfl rfl ?_
  refine ar_bipush (pc := 13) (z := 25) (by decide +kernel) (by omega) ?_
  refine ar_newi (pc := 15) (n := (m + 2)) (by decide +kernel) (S2) rfl w_aci (by omega) (by omega) (fun i => C2.2.2.2.2.2 _ _ (by omega)) ?_
  rw [show ((((m + 2) : Nat) : Int) + 1) = a + 2 by omega]
  have C3 := cst_new C2 (a + 2) (by omega) (fun _ j => ZZ_at (m := (m + 2)) (by omega) (by omega) (S2)) (fun q => by omega)
  refine ar_putF (pc := 17) (a := a) (z := a + 2) (ci := 0) (k := 1) (by decide +kernel) rfl (am_kd_at ha (by omega) (S0)) rfl (Nat.le_of_ble_eq_true rfl) (Or.inr (Or.inr (Or.inr (Or.inr ⟨_, rfl⟩)))) rfl rfl rfl rfl (fun q => q) wI_X0_15 ?_
  have C4 := cst_put (k := ((1 : Nat) : Int)) (z := a + 2) C3
  generalize am_up g1 (a) ((1 : Nat) : Int) (a + 2) = g2 at C4 ⊢
  refine ar_aload_n (pc := 20) (i := 0) (k0 := 0) (by decide +kernel) rfl rfl ?_
  refine ar_iconst (pc := 21) (z := 0) (by decide +kernel) (by unfold am_i32; omega) ?_
  refine ar_putI (pc := 22) (a := a) (z := 0) 0 2 (by decide +kernel) (am_kd_at ha (by omega) (S0)) rfl (Nat.le_of_ble_eq_true rfl) rfl (fun q => by cases q) rfl wI_X0_18 ?_
  have C5 := cst_put (k := ((2 : Nat) : Int)) (z := 0) C4
  generalize am_up g2 (a) ((2 : Nat) : Int) (0) = g3 at C5 ⊢
  refine ar_aload_n (pc := 25) (i := 0) (k0 := 0) (by decide +kernel) rfl rfl ?_
  refine ar_iconst (pc := 26) (z := 0) (by decide +kernel) (by unfold am_i32; omega) ?_
  refine ar_putI (pc := 27) (a := a) (z := 0) 0 3 (by decide +kernel) (am_kd_at ha (by omega) (S0)) rfl (Nat.le_of_ble_eq_true rfl) rfl (fun q => by cases q) rfl wI_X0_22 ?_
  have C6 := cst_put (k := ((3 : Nat) : Int)) (z := 0) C5
  generalize am_up g3 (a) ((3 : Nat) : Int) (0) = g4 at C6 ⊢
  refine ar_aload_n (pc := 30) (i := 0) (k0 := 0) (by decide +kernel) rfl rfl ?_
  refine ar_iconst (pc := 31) (z := 0) (by decide +kernel) (by unfold am_i32; omega) ?_
  refine ar_putI (pc := 32) (a := a) (z := 0) 0 4 (by decide +kernel) (am_kd_at ha (by omega) (S0)) rfl (Nat.le_of_ble_eq_true rfl) rfl (fun q => by cases q) rfl wI_X0_25 ?_
  have C7 := cst_put (k := ((4 : Nat) : Int)) (z := 0) C6
  generalize am_up g4 (a) ((4 : Nat) : Int) (0) = g5 at C7 ⊢
  refine ar_aload_n (pc := 35) (i := 0) (k0 := 0) (by decide +kernel) rfl rfl ?_
  refine ar_sipush (pc := 36) (z := 479) (by decide +kernel) (by omega) ?_
  refine ar_putI (pc := 39) (a := a) (z := 479) 0 5 (by decide +kernel) (am_kd_at ha (by omega) (S0)) rfl (Nat.le_of_ble_eq_true rfl) rfl (fun q => by cases q) rfl wI_X0_28 ?_
  have C8 := cst_put (k := ((5 : Nat) : Int)) (z := 479) C7
  generalize am_up g5 (a) ((5 : Nat) : Int) (479) = g6 at C8 ⊢
  have D := cst_done C8 (fun j => (ZZ_at (m := (m + 0)) (by omega) (by omega) (S0)).symm) (fun q => by omega) (by omega)
  exact ar_vret (pc := 42) (by decide +kernel) rfl hn.symm (k _ (cpost_eq D (by omega)))
theorem c_I_X3 {m n : Nat} {a : Int} (ha : a = (m : Int) + 1) (hn : n = m + 5) (h9 : n ≤ 321) (S0 : am_sh (m + 0) = (13, 12)) (S1 : am_sh (m + 1) = (0, 8)) (S2 : am_sh (m + 2) = (0, 8)) (S3 : am_sh (m + 3) = (0, 8)) (S4 : am_sh (m + 4) = (1, 8)) (z : ∀ b j : Int, a ≤ b → h b j = 0) (k : ∀ h2, cpost h a ((n : Nat) : Int) h2 → Q 0 h2) : am_Cl false d M_I_X3 (m + 1) n [.inr (.inr (a))] h Q := by
  refine am_Cl_of rfl (Nat.le_of_ble_eq_true rfl) (by omega) rfl (fun _ => ?_)
  have C0 := cst_0 (h := h) (a := a) (r := 0) (by omega) z
  refine ar_aload_n (pc := 0) (i := 0) (k0 := 0) (by decide +kernel) rfl rfl ?_
  refine ar_objInit (pc := 1) (by decide +kernel) w_oi_RX3 (by omega) (Nat.le_of_ble_eq_true rfl) ?_
  refine ar_aload_n (pc := 4) (i := 0) (k0 := 0) (by decide +kernel) rfl rfl ?_
  refine ar_bipush (pc := 5) (z := 8) (by decide +kernel) (by omega) ?_
  refine ar_newi (pc := 7) (n := (m + 1)) (by decide +kernel) (S1) rfl w_aci (by omega) (by omega) (fun i => C0.2.2.2.2.2 _ _ (by omega)) ?_
  rw [show ((((m + 1) : Nat) : Int) + 1) = a + 1 by omega]
  have C1 := cst_new C0 (a + 1) (by omega) (fun _ j => ZZ_at (m := (m + 1)) (by omega) (by omega) (S1)) (fun q => by omega)
  refine ar_putF (pc := 9) (a := a) (z := a + 1) (ci := 3) (k := 6) (by decide +kernel) rfl (am_kd_at ha (by omega) (S0)) rfl (Nat.le_of_ble_eq_true rfl) (Or.inr (Or.inr (Or.inr (Or.inr ⟨_, rfl⟩)))) rfl rfl rfl rfl (fun q => q) wI_X3_9 ?_
  have C2 := cst_put (k := ((6 : Nat) : Int)) (z := a + 1) C1
  generalize am_up h (a) ((6 : Nat) : Int) (a + 1) = g1 at C2 ⊢
  refine ar_aload_n (pc := 12) (i := 0) (k0 := 0) (by decide +kernel) rfl rfl ?_
  refine ar_bipush (pc := 13) (z := 8) (by decide +kernel) (by omega) ?_
  refine ar_newi (pc := 15) (n := (m + 2)) (by decide +kernel) (S2) rfl w_aci (by omega) (by omega) (fun i => C2.2.2.2.2.2 _ _ (by omega)) ?_
  rw [show ((((m + 2) : Nat) : Int) + 1) = a + 2 by omega]
  have C3 := cst_new C2 (a + 2) (by omega) (fun _ j => ZZ_at (m := (m + 2)) (by omega) (by omega) (S2)) (fun q => by omega)
  refine ar_putF (pc := 17) (a := a) (z := a + 2) (ci := 3) (k := 7) (by decide +kernel) rfl (am_kd_at ha (by omega) (S0)) rfl (Nat.le_of_ble_eq_true rfl) (Or.inr (Or.inr (Or.inr (Or.inr ⟨_, rfl⟩)))) rfl rfl rfl rfl (fun q => q) wI_X3_15 ?_
  have C4 := cst_put (k := ((7 : Nat) : Int)) (z := a + 2) C3
  generalize am_up g1 (a) ((7 : Nat) : Int) (a + 2) = g2 at C4 ⊢
  refine ar_aload_n (pc := 20) (i := 0) (k0 := 0) (by decide +kernel) rfl rfl ?_
  refine ar_bipush (pc := 21) (z := 8) (by decide +kernel) (by omega) ?_
  refine ar_newi (pc := 23) (n := (m + 3)) (by decide +kernel) (S3) rfl w_aci (by omega) (by omega) (fun i => C4.2.2.2.2.2 _ _ (by omega)) ?_
  rw [show ((((m + 3) : Nat) : Int) + 1) = a + 3 by omega]
  have C5 := cst_new C4 (a + 3) (by omega) (fun _ j => ZZ_at (m := (m + 3)) (by omega) (by omega) (S3)) (fun q => by omega)
  refine ar_putF (pc := 25) (a := a) (z := a + 3) (ci := 3) (k := 8) (by decide +kernel) rfl (am_kd_at ha (by omega) (S0)) rfl (Nat.le_of_ble_eq_true rfl) (Or.inr (Or.inr (Or.inr (Or.inr ⟨_, rfl⟩)))) rfl rfl rfl rfl (fun q => q) wI_X3_18 ?_
  have C6 := cst_put (k := ((8 : Nat) : Int)) (z := a + 3) C5
  generalize am_up g2 (a) ((8 : Nat) : Int) (a + 3) = g3 at C6 ⊢
  refine ar_aload_n (pc := 28) (i := 0) (k0 := 0) (by decide +kernel) rfl rfl ?_
  refine ar_bipush (pc := 29) (z := 8) (by decide +kernel) (by omega) ?_
  refine ar_newj (pc := 31) (n := (m + 4)) (by decide +kernel) (S4) rfl w_acj (by omega) (by omega) (fun i => C6.2.2.2.2.2 _ _ (by omega)) ?_
  rw [show ((((m + 4) : Nat) : Int) + 1) = a + 4 by omega]
  have C7 := cst_new C6 (a + 4) (by omega) (fun _ j => ZZ_at (m := (m + 4)) (by omega) (by omega) (S4)) (fun q => by omega)
  refine ar_putF (pc := 33) (a := a) (z := a + 4) (ci := 3) (k := 9) (by decide +kernel) rfl (am_kd_at ha (by omega) (S0)) rfl (Nat.le_of_ble_eq_true rfl) (Or.inr (Or.inr (Or.inr (Or.inr ⟨_, rfl⟩)))) rfl rfl rfl rfl (fun q => q) wI_X3_21 ?_
  have C8 := cst_put (k := ((9 : Nat) : Int)) (z := a + 4) C7
  generalize am_up g3 (a) ((9 : Nat) : Int) (a + 4) = g4 at C8 ⊢
  have D := cst_done C8 (fun j => (ZZ_at (m := (m + 0)) (by omega) (by omega) (S0)).symm) (fun q => by omega) (by omega)
  exact ar_vret (pc := 36) (by decide +kernel) rfl hn.symm (k _ (cpost_eq D (by omega)))
theorem c_I_X5 {m n : Nat} {a : Int} (ha : a = (m : Int) + 1) (hn : n = m + 13) (h9 : n ≤ 321) (S0 : am_sh (m + 0) = (15, 20)) (S1 : am_sh (m + 1) = (0, 24)) (S2 : am_sh (m + 2) = (0, 24)) (S3 : am_sh (m + 3) = (0, 24)) (S4 : am_sh (m + 4) = (0, 300)) (S5 : am_sh (m + 5) = (0, 8)) (S6 : am_sh (m + 6) = (0, 8)) (S7 : am_sh (m + 7) = (0, 8)) (S8 : am_sh (m + 8) = (0, 8)) (S9 : am_sh (m + 9) = (0, 8)) (S10 : am_sh (m + 10) = (0, 8)) (S11 : am_sh (m + 11) = (0, 8)) (S12 : am_sh (m + 12) = (0, 8)) (z : ∀ b j : Int, a ≤ b → h b j = 0) (k : ∀ h2, cpost h a ((n : Nat) : Int) h2 → Q 0 h2) : am_Cl false d M_I_X5 (m + 1) n [.inr (.inr (a))] h Q := by
  refine am_Cl_of rfl (Nat.le_of_ble_eq_true rfl) (by omega) rfl (fun _ => ?_)
  have C0 := cst_0 (h := h) (a := a) (r := 0) (by omega) z
  refine ar_aload_n (pc := 0) (i := 0) (k0 := 0) (by decide +kernel) rfl rfl ?_
  refine ar_objInit (pc := 1) (by decide +kernel) w_oi_RX5 (by omega) (Nat.le_of_ble_eq_true rfl) ?_
  refine ar_aload_n (pc := 4) (i := 0) (k0 := 0) (by decide +kernel) rfl rfl ?_
  refine ar_bipush (pc := 5) (z := 24) (by decide +kernel) (by omega) ?_
  refine ar_newi (pc := 7) (n := (m + 1)) (by decide +kernel) (S1) rfl w_aci (by omega) (by omega) (fun i => C0.2.2.2.2.2 _ _ (by omega)) ?_
  rw [show ((((m + 1) : Nat) : Int) + 1) = a + 1 by omega]
  have C1 := cst_new C0 (a + 1) (by omega) (fun _ j => ZZ_at (m := (m + 1)) (by omega) (by omega) (S1)) (fun q => by omega)
  refine ar_putF (pc := 9) (a := a) (z := a + 1) (ci := 5) (k := 1) (by decide +kernel) rfl (am_kd_at ha (by omega) (S0)) rfl (Nat.le_of_ble_eq_true rfl) (Or.inr (Or.inr (Or.inr (Or.inr ⟨_, rfl⟩)))) rfl rfl rfl rfl (fun q => q) wI_X5_9 ?_
  have C2 := cst_put (k := ((1 : Nat) : Int)) (z := a + 1) C1
  generalize am_up h (a) ((1 : Nat) : Int) (a + 1) = g1 at C2 ⊢
  refine ar_aload_n (pc := 12) (i := 0) (k0 := 0) (by decide +kernel) rfl rfl ?_
  refine ar_bipush (pc := 13) (z := 24) (by decide +kernel) (by omega) ?_
  refine ar_newi (pc := 15) (n := (m + 2)) (by decide +kernel) (S2) rfl w_aci (by omega) (by omega) (fun i => C2.2.2.2.2.2 _ _ (by omega)) ?_
  rw [show ((((m + 2) : Nat) : Int) + 1) = a + 2 by omega]
  have C3 := cst_new C2 (a + 2) (by omega) (fun _ j => ZZ_at (m := (m + 2)) (by omega) (by omega) (S2)) (fun q => by omega)
  refine ar_putF (pc := 17) (a := a) (z := a + 2) (ci := 5) (k := 2) (by decide +kernel) rfl (am_kd_at ha (by omega) (S0)) rfl (Nat.le_of_ble_eq_true rfl) (Or.inr (Or.inr (Or.inr (Or.inr ⟨_, rfl⟩)))) rfl rfl rfl rfl (fun q => q) wI_X5_15 ?_
  have C4 := cst_put (k := ((2 : Nat) : Int)) (z := a + 2) C3
  generalize am_up g1 (a) ((2 : Nat) : Int) (a + 2) = g2 at C4 ⊢
  refine ar_aload_n (pc := 20) (i := 0) (k0 := 0) (by decide +kernel) rfl rfl ?_
  refine ar_bipush (pc := 21) (z := 24) (by decide +kernel) (by omega) ?_
  refine ar_newi (pc := 23) (n := (m + 3)) (by decide +kernel) (S3) rfl w_aci (by omega) (by omega) (fun i => C4.2.2.2.2.2 _ _ (by omega)) ?_
  rw [show ((((m + 3) : Nat) : Int) + 1) = a + 3 by omega]
  have C5 := cst_new C4 (a + 3) (by omega) (fun _ j => ZZ_at (m := (m + 3)) (by omega) (by omega) (S3)) (fun q => by omega)
  refine ar_putF (pc := 25) (a := a) (z := a + 3) (ci := 5) (k := 3) (by decide +kernel) rfl (am_kd_at ha (by omega) (S0)) rfl (Nat.le_of_ble_eq_true rfl) (Or.inr (Or.inr (Or.inr (Or.inr ⟨_, rfl⟩)))) rfl rfl rfl rfl (fun q => q) wI_X5_18 ?_
  have C6 := cst_put (k := ((3 : Nat) : Int)) (z := a + 3) C5
  generalize am_up g2 (a) ((3 : Nat) : Int) (a + 3) = g3 at C6 ⊢
  refine ar_aload_n (pc := 28) (i := 0) (k0 := 0) (by decide +kernel) rfl rfl ?_
  refine ar_sipush (pc := 29) (z := 300) (by decide +kernel) (by omega) ?_
  refine ar_newi (pc := 32) (n := (m + 4)) (by decide +kernel) (S4) rfl w_aci (by omega) (by omega) (fun i => C6.2.2.2.2.2 _ _ (by omega)) ?_
  rw [show ((((m + 4) : Nat) : Int) + 1) = a + 4 by omega]
  have C7 := cst_new C6 (a + 4) (by omega) (fun _ j => ZZ_at (m := (m + 4)) (by omega) (by omega) (S4)) (fun q => by omega)
  refine ar_putF (pc := 34) (a := a) (z := a + 4) (ci := 5) (k := 4) (by decide +kernel) rfl (am_kd_at ha (by omega) (S0)) rfl (Nat.le_of_ble_eq_true rfl) (Or.inr (Or.inr (Or.inr (Or.inr ⟨_, rfl⟩)))) rfl rfl rfl rfl (fun q => q) wI_X5_21 ?_
  have C8 := cst_put (k := ((4 : Nat) : Int)) (z := a + 4) C7
  generalize am_up g3 (a) ((4 : Nat) : Int) (a + 4) = g4 at C8 ⊢
  refine ar_aload_n (pc := 37) (i := 0) (k0 := 0) (by decide +kernel) rfl rfl ?_
  refine ar_bipush (pc := 38) (z := 8) (by decide +kernel) (by omega) ?_
  refine ar_newi (pc := 40) (n := (m + 5)) (by decide +kernel) (S5) rfl w_aci (by omega) (by omega) (fun i => C8.2.2.2.2.2 _ _ (by omega)) ?_
  rw [show ((((m + 5) : Nat) : Int) + 1) = a + 5 by omega]
  have C9 := cst_new C8 (a + 5) (by omega) (fun _ j => ZZ_at (m := (m + 5)) (by omega) (by omega) (S5)) (fun q => by omega)
  refine ar_putF (pc := 42) (a := a) (z := a + 5) (ci := 5) (k := 7) (by decide +kernel) rfl (am_kd_at ha (by omega) (S0)) rfl (Nat.le_of_ble_eq_true rfl) (Or.inr (Or.inr (Or.inr (Or.inr ⟨_, rfl⟩)))) rfl rfl rfl rfl (fun q => q) wI_X5_24 ?_
  have C10 := cst_put (k := ((7 : Nat) : Int)) (z := a + 5) C9
  generalize am_up g4 (a) ((7 : Nat) : Int) (a + 5) = g5 at C10 ⊢
  refine ar_aload_n (pc := 45) (i := 0) (k0 := 0) (by decide +kernel) rfl rfl ?_
  refine ar_bipush (pc := 46) (z := 8) (by decide +kernel) (by omega) ?_
  refine ar_newi (pc := 48) (n := (m + 6)) (by decide +kernel) (S6) rfl w_aci (by omega) (by omega) (fun i => C10.2.2.2.2.2 _ _ (by omega)) ?_
  rw [show ((((m + 6) : Nat) : Int) + 1) = a + 6 by omega]
  have C11 := cst_new C10 (a + 6) (by omega) (fun _ j => ZZ_at (m := (m + 6)) (by omega) (by omega) (S6)) (fun q => by omega)
  refine ar_putF (pc := 50) (a := a) (z := a + 6) (ci := 5) (k := 8) (by decide +kernel) rfl (am_kd_at ha (by omega) (S0)) rfl (Nat.le_of_ble_eq_true rfl) (Or.inr (Or.inr (Or.inr (Or.inr ⟨_, rfl⟩)))) rfl rfl rfl rfl (fun q => q) wI_X5_27 ?_
  have C12 := cst_put (k := ((8 : Nat) : Int)) (z := a + 6) C11
  generalize am_up g5 (a) ((8 : Nat) : Int) (a + 6) = g6 at C12 ⊢
  refine ar_aload_n (pc := 53) (i := 0) (k0 := 0) (by decide +kernel) rfl rfl ?_
  refine ar_bipush (pc := 54) (z := 8) (by decide +kernel) (by omega) ?_
  refine ar_newi (pc := 56) (n := (m + 7)) (by decide +kernel) (S7) rfl w_aci (by omega) (by omega) (fun i => C12.2.2.2.2.2 _ _ (by omega)) ?_
  rw [show ((((m + 7) : Nat) : Int) + 1) = a + 7 by omega]
  have C13 := cst_new C12 (a + 7) (by omega) (fun _ j => ZZ_at (m := (m + 7)) (by omega) (by omega) (S7)) (fun q => by omega)
  refine ar_putF (pc := 58) (a := a) (z := a + 7) (ci := 5) (k := 9) (by decide +kernel) rfl (am_kd_at ha (by omega) (S0)) rfl (Nat.le_of_ble_eq_true rfl) (Or.inr (Or.inr (Or.inr (Or.inr ⟨_, rfl⟩)))) rfl rfl rfl rfl (fun q => q) wI_X5_30 ?_
  have C14 := cst_put (k := ((9 : Nat) : Int)) (z := a + 7) C13
  generalize am_up g6 (a) ((9 : Nat) : Int) (a + 7) = g7 at C14 ⊢
  refine ar_aload_n (pc := 61) (i := 0) (k0 := 0) (by decide +kernel) rfl rfl ?_
  refine ar_bipush (pc := 62) (z := 8) (by decide +kernel) (by omega) ?_
  refine ar_newi (pc := 64) (n := (m + 8)) (by decide +kernel) (S8) rfl w_aci (by omega) (by omega) (fun i => C14.2.2.2.2.2 _ _ (by omega)) ?_
  rw [show ((((m + 8) : Nat) : Int) + 1) = a + 8 by omega]
  have C15 := cst_new C14 (a + 8) (by omega) (fun _ j => ZZ_at (m := (m + 8)) (by omega) (by omega) (S8)) (fun q => by omega)
  refine ar_putF (pc := 66) (a := a) (z := a + 8) (ci := 5) (k := 10) (by decide +kernel) rfl (am_kd_at ha (by omega) (S0)) rfl (Nat.le_of_ble_eq_true rfl) (Or.inr (Or.inr (Or.inr (Or.inr ⟨_, rfl⟩)))) rfl rfl rfl rfl (fun q => q) wI_X5_33 ?_
  have C16 := cst_put (k := ((10 : Nat) : Int)) (z := a + 8) C15
  generalize am_up g7 (a) ((10 : Nat) : Int) (a + 8) = g8 at C16 ⊢
  refine ar_aload_n (pc := 69) (i := 0) (k0 := 0) (by decide +kernel) rfl rfl ?_
  refine ar_bipush (pc := 70) (z := 8) (by decide +kernel) (by omega) ?_
  refine ar_newi (pc := 72) (n := (m + 9)) (by decide +kernel) (S9) rfl w_aci (by omega) (by omega) (fun i => C16.2.2.2.2.2 _ _ (by omega)) ?_
  rw [show ((((m + 9) : Nat) : Int) + 1) = a + 9 by omega]
  have C17 := cst_new C16 (a + 9) (by omega) (fun _ j => ZZ_at (m := (m + 9)) (by omega) (by omega) (S9)) (fun q => by omega)
  refine ar_putF (pc := 74) (a := a) (z := a + 9) (ci := 5) (k := 11) (by decide +kernel) rfl (am_kd_at ha (by omega) (S0)) rfl (Nat.le_of_ble_eq_true rfl) (Or.inr (Or.inr (Or.inr (Or.inr ⟨_, rfl⟩)))) rfl rfl rfl rfl (fun q => q) wI_X5_36 ?_
  have C18 := cst_put (k := ((11 : Nat) : Int)) (z := a + 9) C17
  generalize am_up g8 (a) ((11 : Nat) : Int) (a + 9) = g9 at C18 ⊢
  refine ar_aload_n (pc := 77) (i := 0) (k0 := 0) (by decide +kernel) rfl rfl ?_
  refine ar_bipush (pc := 78) (z := 8) (by decide +kernel) (by omega) ?_
  refine ar_newi (pc := 80) (n := (m + 10)) (by decide +kernel) (S10) rfl w_aci (by omega) (by omega) (fun i => C18.2.2.2.2.2 _ _ (by omega)) ?_
  rw [show ((((m + 10) : Nat) : Int) + 1) = a + 10 by omega]
  have C19 := cst_new C18 (a + 10) (by omega) (fun _ j => ZZ_at (m := (m + 10)) (by omega) (by omega) (S10)) (fun q => by omega)
  refine ar_putF (pc := 82) (a := a) (z := a + 10) (ci := 5) (k := 12) (by decide +kernel) rfl (am_kd_at ha (by omega) (S0)) rfl (Nat.le_of_ble_eq_true rfl) (Or.inr (Or.inr (Or.inr (Or.inr ⟨_, rfl⟩)))) rfl rfl rfl rfl (fun q => q) wI_X5_39 ?_
  have C20 := cst_put (k := ((12 : Nat) : Int)) (z := a + 10) C19
  generalize am_up g9 (a) ((12 : Nat) : Int) (a + 10) = g10 at C20 ⊢
  refine ar_aload_n (pc := 85) (i := 0) (k0 := 0) (by decide +kernel) rfl rfl ?_
  refine ar_bipush (pc := 86) (z := 8) (by decide +kernel) (by omega) ?_
  refine ar_newi (pc := 88) (n := (m + 11)) (by decide +kernel) (S11) rfl w_aci (by omega) (by omega) (fun i => C20.2.2.2.2.2 _ _ (by omega)) ?_
  rw [show ((((m + 11) : Nat) : Int) + 1) = a + 11 by omega]
  have C21 := cst_new C20 (a + 11) (by omega) (fun _ j => ZZ_at (m := (m + 11)) (by omega) (by omega) (S11)) (fun q => by omega)
  refine ar_putF (pc := 90) (a := a) (z := a + 11) (ci := 5) (k := 13) (by decide +kernel) rfl (am_kd_at ha (by omega) (S0)) rfl (Nat.le_of_ble_eq_true rfl) (Or.inr (Or.inr (Or.inr (Or.inr ⟨_, rfl⟩)))) rfl rfl rfl rfl (fun q => q) wI_X5_42 ?_
  have C22 := cst_put (k := ((13 : Nat) : Int)) (z := a + 11) C21
  generalize am_up g10 (a) ((13 : Nat) : Int) (a + 11) = g11 at C22 ⊢
  refine ar_aload_n (pc := 93) (i := 0) (k0 := 0) (by decide +kernel) rfl rfl ?_
  refine ar_bipush (pc := 94) (z := 8) (by decide +kernel) (by omega) ?_
  refine ar_newi (pc := 96) (n := (m + 12)) (by decide +kernel) (S12) rfl w_aci (by omega) (by omega) (fun i => C22.2.2.2.2.2 _ _ (by omega)) ?_
  rw [show ((((m + 12) : Nat) : Int) + 1) = a + 12 by omega]
  have C23 := cst_new C22 (a + 12) (by omega) (fun _ j => ZZ_at (m := (m + 12)) (by omega) (by omega) (S12)) (fun q => by omega)
  refine ar_putF (pc := 98) (a := a) (z := a + 12) (ci := 5) (k := 16) (by decide +kernel) rfl (am_kd_at ha (by omega) (S0)) rfl (Nat.le_of_ble_eq_true rfl) (Or.inr (Or.inr (Or.inr (Or.inr ⟨_, rfl⟩)))) rfl rfl rfl rfl (fun q => q) wI_X5_45 ?_
  have C24 := cst_put (k := ((16 : Nat) : Int)) (z := a + 12) C23
  generalize am_up g11 (a) ((16 : Nat) : Int) (a + 12) = g12 at C24 ⊢
  have D := cst_done C24 (fun j => (ZZ_at (m := (m + 0)) (by omega) (by omega) (S0)).symm) (fun q => by omega) (by omega)
  exact ar_vret (pc := 101) (by decide +kernel) rfl hn.symm (k _ (cpost_eq D (by omega)))
theorem c_I_X1 {m n : Nat} {a : Int} (ha : a = (m : Int) + 1) (hn : n = m + 17) (h9 : n ≤ 321) (S0 : am_sh (m + 0) = (11, 14)) (S1 : am_sh (m + 1) = (0, 301)) (S2 : am_sh (m + 2) = (0, 301)) (S3 : am_sh (m + 3) = (0, 301)) (S4 : am_sh (m + 4) = (15, 20)) (S5 : am_sh (m + 5) = (0, 24)) (S6 : am_sh (m + 6) = (0, 24)) (S7 : am_sh (m + 7) = (0, 24)) (S8 : am_sh (m + 8) = (0, 300)) (S9 : am_sh (m + 9) = (0, 8)) (S10 : am_sh (m + 10) = (0, 8)) (S11 : am_sh (m + 11) = (0, 8)) (S12 : am_sh (m + 12) = (0, 8)) (S13 : am_sh (m + 13) = (0, 8)) (S14 : am_sh (m + 14) = (0, 8)) (S15 : am_sh (m + 15) = (0, 8)) (S16 : am_sh (m + 16) = (0, 8)) (z : ∀ b j : Int, a ≤ b → h b j = 0) (k : ∀ h2, cpost h a ((n : Nat) : Int) h2 → Q 0 h2) : am_Cl false (d + 1) M_I_X1 (m + 1) n [.inr (.inr (a))] h Q := by
  refine am_Cl_of rfl (Nat.le_of_ble_eq_true rfl) (by omega) rfl (fun _ => ?_)
  have C0 := cst_0 (h := h) (a := a) (r := 0) (by omega) z
  refine ar_aload_n (pc := 0) (i := 0) (k0 := 0) (by decide +kernel) rfl rfl ?_
  refine ar_objInit (pc := 1) (by decide +kernel) w_oi_RX1 (by omega) (Nat.le_of_ble_eq_true rfl) ?_
  refine ar_aload_n (pc := 4) (i := 0) (k0 := 0) (by decide +kernel) rfl rfl ?_
  refine ar_sipush (pc := 5) (z := 301) (by decide +kernel) (by omega) ?_
  refine ar_newi (pc := 8) (n := (m + 1)) (by decide +kernel) (S1) rfl w_aci (by omega) (by omega) (fun i => C0.2.2.2.2.2 _ _ (by omega)) ?_
  rw [show ((((m + 1) : Nat) : Int) + 1) = a + 1 by omega]
  have C1 := cst_new C0 (a + 1) (by omega) (fun _ j => ZZ_at (m := (m + 1)) (by omega) (by omega) (S1)) (fun q => by omega)
  refine ar_putF (pc := 10) (a := a) (z := a + 1) (ci := 1) (k := 0) (by decide +kernel) rfl (am_kd_at ha (by omega) (S0)) rfl (Nat.le_of_ble_eq_true rfl) (Or.inr (Or.inr (Or.inr (Or.inr ⟨_, rfl⟩)))) rfl rfl rfl rfl (fun q => q) wI_X1_9 ?_
  have C2 := cst_put (k := ((0 : Nat) : Int)) (z := a + 1) C1
  generalize am_up h (a) ((0 : Nat) : Int) (a + 1) = g1 at C2 ⊢
  refine ar_aload_n (pc := 13) (i := 0) (k0 := 0) (by decide +kernel) rfl rfl ?_
  refine ar_sipush (pc := 14) (z := 301) (by decide +kernel) (by omega) ?_
  refine ar_newi (pc := 17) (n := (m + 2)) (by decide +kernel) (S2) rfl w_aci (by omega) (by omega) (fun i => C2.2.2.2.2.2 _ _ (by omega)) ?_
  rw [show ((((m + 2) : Nat) : Int) + 1) = a + 2 by omega]
  have C3 := cst_new C2 (a + 2) (by omega) (fun _ j => ZZ_at (m := (m + 2)) (by omega) (by omega) (S2)) (fun q => by omega)
  refine ar_putF (pc := 19) (a := a) (z := a + 2) (ci := 1) (k := 1) (by decide +kernel) rfl (am_kd_at ha (by omega) (S0)) rfl (Nat.le_of_ble_eq_true rfl) (Or.inr (Or.inr (Or.inr (Or.inr ⟨_, rfl⟩)))) rfl rfl rfl rfl (fun q => q) wI_X1_15 ?_
  have C4 := cst_put (k := ((1 : Nat) : Int)) (z := a + 2) C3
  generalize am_up g1 (a) ((1 : Nat) : Int) (a + 2) = g2 at C4 ⊢
  refine ar_aload_n (pc := 22) (i := 0) (k0 := 0) (by decide +kernel) rfl rfl ?_
  refine ar_sipush (pc := 23) (z := 301) (by decide +kernel) (by omega) ?_
  refine ar_newi (pc := 26) (n := (m + 3)) (by decide +kernel) (S3) rfl w_aci (by omega) (by omega) (fun i => C4.2.2.2.2.2 _ _ (by omega)) ?_
  rw [show ((((m + 3) : Nat) : Int) + 1) = a + 3 by omega]
  have C5 := cst_new C4 (a + 3) (by omega) (fun _ j => ZZ_at (m := (m + 3)) (by omega) (by omega) (S3)) (fun q => by omega)
  refine ar_putF (pc := 28) (a := a) (z := a + 3) (ci := 1) (k := 2) (by decide +kernel) rfl (am_kd_at ha (by omega) (S0)) rfl (Nat.le_of_ble_eq_true rfl) (Or.inr (Or.inr (Or.inr (Or.inr ⟨_, rfl⟩)))) rfl rfl rfl rfl (fun q => q) wI_X1_18 ?_
  have C6 := cst_put (k := ((2 : Nat) : Int)) (z := a + 3) C5
  generalize am_up g2 (a) ((2 : Nat) : Int) (a + 3) = g3 at C6 ⊢
  refine ar_aload_n (pc := 31) (i := 0) (k0 := 0) (by decide +kernel) rfl rfl ?_
  refine ar_new (pc := 32) (n := (m + 4)) (N := 20) (ci := 5) (by decide +kernel) (S4) rfl w_clX1_21 w_inRX5 wz_RX5 (by omega) (by omega) (fun i => C6.2.2.2.2.2 _ _ (by omega)) ?_
  rw [show ((((m + 4) : Nat) : Int) + 1) = a + 4 by omega]
  refine ar_dup (pc := 35) (by decide +kernel) trivial ?_
  refine ar_callIN (pc := 36) (M2 := M_I_X5) (as := []) (a := a + 4) (n := (m + 4) + 1) (n2 := (m + 17)) (st := [.inr (.inr (a + 4)), .inr (.inr (a))]) (by decide +kernel) rfl w_nlX1_23 w_im_RX5 (by omega) wz_RX5 w_co_RX5 rfl rfl ⟨by decide, by decide, rfl⟩ (Nat.le_of_ble_eq_true rfl) (Nat.le_of_ble_eq_true rfl) (by omega) (by omega) (c_I_X5 (m := (m + 4)) (by omega) (by omega) (by omega) (S4) (S5) (S6) (S7) (S8) (S9) (S10) (S11) (S12) (S13) (S14) (S15) (S16) (fun b j q => C6.2.2.2.2.2 b j (by omega)) (fun g4 P4 => ?_))
  have C7 := cst_call C6 (b := a + 4) (n := (((m + 17) : Nat) : Int)) (by omega) (by omega) (by omega) P4
  refine ar_putA (pc := 39) (a := a) (z := a + 4) 1 6 (by decide +kernel) (am_kd_at ha (by omega) (S0)) rfl (Nat.le_of_ble_eq_true rfl) (Or.inl ⟨_, rfl⟩) (fun q => by cases q) rfl wI_X1_24 ?_
  have C8 := cst_put (k := ((6 : Nat) : Int)) (z := a + 4) C7
  generalize am_up g4 (a) ((6 : Nat) : Int) (a + 4) = g5 at C8 ⊢
  have D := cst_done C8 (fun j => (ZZ_at (m := (m + 0)) (by omega) (by omega) (S0)).symm) (fun q => by omega) (by omega)
  exact ar_vret (pc := 42) (by decide +kernel) rfl hn.symm (k _ (cpost_eq D (by omega)))
theorem c_I_X2 {m n : Nat} {a : Int} (ha : a = (m : Int) + 1) (hn : n = m + 24) (h9 : n ≤ 321) (S0 : am_sh (m + 0) = (12, 14)) (S1 : am_sh (m + 1) = (0, 64)) (S2 : am_sh (m + 2) = (13, 12)) (S3 : am_sh (m + 3) = (0, 8)) (S4 : am_sh (m + 4) = (0, 8)) (S5 : am_sh (m + 5) = (0, 8)) (S6 : am_sh (m + 6) = (1, 8)) (S7 : am_sh (m + 7) = (13, 12)) (S8 : am_sh (m + 8) = (0, 8)) (S9 : am_sh (m + 9) = (0, 8)) (S10 : am_sh (m + 10) = (0, 8)) (S11 : am_sh (m + 11) = (1, 8)) (S12 : am_sh (m + 12) = (13, 12)) (S13 : am_sh (m + 13) = (0, 8)) (S14 : am_sh (m + 14) = (0, 8)) (S15 : am_sh (m + 15) = (0, 8)) (S16 : am_sh (m + 16) = (1, 8)) (S17 : am_sh (m + 17) = (13, 12)) (S18 : am_sh (m + 18) = (0, 8)) (S19 : am_sh (m + 19) = (0, 8)) (S20 : am_sh (m + 20) = (0, 8)) (S21 : am_sh (m + 21) = (1, 8)) (S22 : am_sh (m + 22) = (0, 40)) (S23 : am_sh (m + 23) = (0, 40)) (z : ∀ b j : Int, a ≤ b → h b j = 0) (k : ∀ h2, cpost h a ((n : Nat) : Int) h2 → Q 0 h2) : am_Cl false (d + 1) M_I_X2 (m + 1) n [.inr (.inr (a))] h Q := by
  refine am_Cl_of rfl (Nat.le_of_ble_eq_true rfl) (by omega) rfl (fun _ => ?_)
  have C0 := cst_0 (h := h) (a := a) (r := 0) (by omega) z
  refine ar_aload_n (pc := 0) (i := 0) (k0 := 0) (by decide +kernel) rfl rfl ?_
  refine ar_objInit (pc := 1) (by decide +kernel) w_oi_RX2 (by omega) (Nat.le_of_ble_eq_true rfl) ?_
  refine ar_aload_n (pc := 4) (i := 0) (k0 := 0) (by decide +kernel) rfl rfl ?_
  refine ar_bipush (pc := 5) (z := 64) (by decide +kernel) (by omega) ?_
  refine ar_newi (pc := 7) (n := (m + 1)) (by decide +kernel) (S1) rfl w_aci (by omega) (by omega) (fun i => C0.2.2.2.2.2 _ _ (by omega)) ?_
  rw [show ((((m + 1) : Nat) : Int) + 1) = a + 1 by omega]
  have C1 := cst_new C0 (a + 1) (by omega) (fun _ j => ZZ_at (m := (m + 1)) (by omega) (by omega) (S1)) (fun q => by omega)
  refine ar_putF (pc := 9) (a := a) (z := a + 1) (ci := 2) (k := 0) (by decide +kernel) rfl (am_kd_at ha (by omega) (S0)) rfl (Nat.le_of_ble_eq_true rfl) (Or.inr (Or.inr (Or.inr (Or.inr ⟨_, rfl⟩)))) rfl rfl rfl rfl (fun q => q) wI_X2_9 ?_
  have C2 := cst_put (k := ((0 : Nat) : Int)) (z := a + 1) C1
  generalize am_up h (a) ((0 : Nat) : Int) (a + 1) = g1 at C2 ⊢
  refine ar_aload_n (pc := 12) (i := 0) (k0 := 0) (by decide +kernel) rfl rfl ?_
  refine ar_new (pc := 13) (n := (m + 2)) (N := 12) (ci := 3) (by decide +kernel) (S2) rfl w_clX2_15 w_inRX3 wz_RX3 (by omega) (by omega) (fun i => C2.2.2.2.2.2 _ _ (by omega)) ?_
  rw [show ((((m + 2) : Nat) : Int) + 1) = a + 2 by omega]
  refine ar_dup (pc := 16) (by decide +kernel) trivial ?_
  refine ar_callIN (pc := 17) (M2 := M_I_X3) (as := []) (a := a + 2) (n := (m + 2) + 1) (n2 := (m + 7)) (st := [.inr (.inr (a + 2)), .inr (.inr (a))]) (by decide +kernel) rfl w_nlX2_17 w_im_RX3 (by omega) wz_RX3 w_co_RX3 rfl rfl ⟨by decide, by decide, rfl⟩ (Nat.le_of_ble_eq_true rfl) (Nat.le_of_ble_eq_true rfl) (by omega) (by omega) (c_I_X3 (m := (m + 2)) (by omega) (by omega) (by omega) (S2) (S3) (S4) (S5) (S6) (fun b j q => C2.2.2.2.2.2 b j (by omega)) (fun g2 P2 => ?_))
  have C3 := cst_call C2 (b := a + 2) (n := (((m + 7) : Nat) : Int)) (by omega) (by omega) (by omega) P2
  refine ar_putF (pc := 20) (a := a) (z := a + 2) (ci := 2) (k := 1) (by decide +kernel) rfl (am_kd_at ha (by omega) (S0)) rfl (Nat.le_of_ble_eq_true rfl) (Or.inr (Or.inr (Or.inr (Or.inl ⟨_, rfl⟩)))) rfl rfl rfl rfl (fun q => q) wI_X2_18 ?_
  have C4 := cst_put (k := ((1 : Nat) : Int)) (z := a + 2) C3
  generalize am_up g2 (a) ((1 : Nat) : Int) (a + 2) = g3 at C4 ⊢
  refine ar_aload_n (pc := 23) (i := 0) (k0 := 0) (by decide +kernel) rfl rfl ?_
  refine ar_new (pc := 24) (n := (m + 7)) (N := 12) (ci := 3) (by decide +kernel) (S7) rfl w_clX2_15 w_inRX3 wz_RX3 (by omega) (by omega) (fun i => C4.2.2.2.2.2 _ _ (by omega)) ?_
  rw [show ((((m + 7) : Nat) : Int) + 1) = a + 7 by omega]
  refine ar_dup (pc := 27) (by decide +kernel) trivial ?_
  refine ar_callIN (pc := 28) (M2 := M_I_X3) (as := []) (a := a + 7) (n := (m + 7) + 1) (n2 := (m + 12)) (st := [.inr (.inr (a + 7)), .inr (.inr (a))]) (by decide +kernel) rfl w_nlX2_17 w_im_RX3 (by omega) wz_RX3 w_co_RX3 rfl rfl ⟨by decide, by decide, rfl⟩ (Nat.le_of_ble_eq_true rfl) (Nat.le_of_ble_eq_true rfl) (by omega) (by omega) (c_I_X3 (m := (m + 7)) (by omega) (by omega) (by omega) (S7) (S8) (S9) (S10) (S11) (fun b j q => C4.2.2.2.2.2 b j (by omega)) (fun g4 P4 => ?_))
  have C5 := cst_call C4 (b := a + 7) (n := (((m + 12) : Nat) : Int)) (by omega) (by omega) (by omega) P4
  refine ar_putF (pc := 31) (a := a) (z := a + 7) (ci := 2) (k := 2) (by decide +kernel) rfl (am_kd_at ha (by omega) (S0)) rfl (Nat.le_of_ble_eq_true rfl) (Or.inr (Or.inr (Or.inr (Or.inl ⟨_, rfl⟩)))) rfl rfl rfl rfl (fun q => q) wI_X2_22 ?_
  have C6 := cst_put (k := ((2 : Nat) : Int)) (z := a + 7) C5
  generalize am_up g4 (a) ((2 : Nat) : Int) (a + 7) = g5 at C6 ⊢
  refine ar_aload_n (pc := 34) (i := 0) (k0 := 0) (by decide +kernel) rfl rfl ?_
  refine ar_new (pc := 35) (n := (m + 12)) (N := 12) (ci := 3) (by decide +kernel) (S12) rfl w_clX2_15 w_inRX3 wz_RX3 (by omega) (by omega) (fun i => C6.2.2.2.2.2 _ _ (by omega)) ?_
  rw [show ((((m + 12) : Nat) : Int) + 1) = a + 12 by omega]
  refine ar_dup (pc := 38) (by decide +kernel) trivial ?_
  refine ar_callIN (pc := 39) (M2 := M_I_X3) (as := []) (a := a + 12) (n := (m + 12) + 1) (n2 := (m + 17)) (st := [.inr (.inr (a + 12)), .inr (.inr (a))]) (by decide +kernel) rfl w_nlX2_17 w_im_RX3 (by omega) wz_RX3 w_co_RX3 rfl rfl ⟨by decide, by decide, rfl⟩ (Nat.le_of_ble_eq_true rfl) (Nat.le_of_ble_eq_true rfl) (by omega) (by omega) (c_I_X3 (m := (m + 12)) (by omega) (by omega) (by omega) (S12) (S13) (S14) (S15) (S16) (fun b j q => C6.2.2.2.2.2 b j (by omega)) (fun g6 P6 => ?_))
  have C7 := cst_call C6 (b := a + 12) (n := (((m + 17) : Nat) : Int)) (by omega) (by omega) (by omega) P6
  refine ar_putF (pc := 42) (a := a) (z := a + 12) (ci := 2) (k := 3) (by decide +kernel) rfl (am_kd_at ha (by omega) (S0)) rfl (Nat.le_of_ble_eq_true rfl) (Or.inr (Or.inr (Or.inr (Or.inl ⟨_, rfl⟩)))) rfl rfl rfl rfl (fun q => q) wI_X2_25 ?_
  have C8 := cst_put (k := ((3 : Nat) : Int)) (z := a + 12) C7
  generalize am_up g6 (a) ((3 : Nat) : Int) (a + 12) = g7 at C8 ⊢
  refine ar_aload_n (pc := 45) (i := 0) (k0 := 0) (by decide +kernel) rfl rfl ?_
  refine ar_new (pc := 46) (n := (m + 17)) (N := 12) (ci := 3) (by decide +kernel) (S17) rfl w_clX2_15 w_inRX3 wz_RX3 (by omega) (by omega) (fun i => C8.2.2.2.2.2 _ _ (by omega)) ?_
  rw [show ((((m + 17) : Nat) : Int) + 1) = a + 17 by omega]
  refine ar_dup (pc := 49) (by decide +kernel) trivial ?_
  refine ar_callIN (pc := 50) (M2 := M_I_X3) (as := []) (a := a + 17) (n := (m + 17) + 1) (n2 := (m + 22)) (st := [.inr (.inr (a + 17)), .inr (.inr (a))]) (by decide +kernel) rfl w_nlX2_17 w_im_RX3 (by omega) wz_RX3 w_co_RX3 rfl rfl ⟨by decide, by decide, rfl⟩ (Nat.le_of_ble_eq_true rfl) (Nat.le_of_ble_eq_true rfl) (by omega) (by omega) (c_I_X3 (m := (m + 17)) (by omega) (by omega) (by omega) (S17) (S18) (S19) (S20) (S21) (fun b j q => C8.2.2.2.2.2 b j (by omega)) (fun g8 P8 => ?_))
  have C9 := cst_call C8 (b := a + 17) (n := (((m + 22) : Nat) : Int)) (by omega) (by omega) (by omega) P8
  refine ar_putF (pc := 53) (a := a) (z := a + 17) (ci := 2) (k := 4) (by decide +kernel) rfl (am_kd_at ha (by omega) (S0)) rfl (Nat.le_of_ble_eq_true rfl) (Or.inr (Or.inr (Or.inr (Or.inl ⟨_, rfl⟩)))) rfl rfl rfl rfl (fun q => q) wI_X2_28 ?_
  have C10 := cst_put (k := ((4 : Nat) : Int)) (z := a + 17) C9
  generalize am_up g8 (a) ((4 : Nat) : Int) (a + 17) = g9 at C10 ⊢
  refine ar_aload_n (pc := 56) (i := 0) (k0 := 0) (by decide +kernel) rfl rfl ?_
  refine ar_bipush (pc := 57) (z := 40) (by decide +kernel) (by omega) ?_
  refine ar_newi (pc := 59) (n := (m + 22)) (by decide +kernel) (S22) rfl w_aci (by omega) (by omega) (fun i => C10.2.2.2.2.2 _ _ (by omega)) ?_
  rw [show ((((m + 22) : Nat) : Int) + 1) = a + 22 by omega]
  have C11 := cst_new C10 (a + 22) (by omega) (fun _ j => ZZ_at (m := (m + 22)) (by omega) (by omega) (S22)) (fun q => by omega)
  refine ar_putF (pc := 61) (a := a) (z := a + 22) (ci := 2) (k := 5) (by decide +kernel) rfl (am_kd_at ha (by omega) (S0)) rfl (Nat.le_of_ble_eq_true rfl) (Or.inr (Or.inr (Or.inr (Or.inr ⟨_, rfl⟩)))) rfl rfl rfl rfl (fun q => q) wI_X2_31 ?_
  have C12 := cst_put (k := ((5 : Nat) : Int)) (z := a + 22) C11
  generalize am_up g9 (a) ((5 : Nat) : Int) (a + 22) = g10 at C12 ⊢
  refine ar_aload_n (pc := 64) (i := 0) (k0 := 0) (by decide +kernel) rfl rfl ?_
  refine ar_bipush (pc := 65) (z := 40) (by decide +kernel) (by omega) ?_
  refine ar_newi (pc := 67) (n := (m + 23)) (by decide +kernel) (S23) rfl w_aci (by omega) (by omega) (fun i => C12.2.2.2.2.2 _ _ (by omega)) ?_
  rw [show ((((m + 23) : Nat) : Int) + 1) = a + 23 by omega]
  have C13 := cst_new C12 (a + 23) (by omega) (fun _ j => ZZ_at (m := (m + 23)) (by omega) (by omega) (S23)) (fun q => by omega)
  refine ar_putF (pc := 69) (a := a) (z := a + 23) (ci := 2) (k := 6) (by decide +kernel) rfl (am_kd_at ha (by omega) (S0)) rfl (Nat.le_of_ble_eq_true rfl) (Or.inr (Or.inr (Or.inr (Or.inr ⟨_, rfl⟩)))) rfl rfl rfl rfl (fun q => q) wI_X2_34 ?_
  have C14 := cst_put (k := ((6 : Nat) : Int)) (z := a + 23) C13
  generalize am_up g10 (a) ((6 : Nat) : Int) (a + 23) = g11 at C14 ⊢
  refine ar_aload_n (pc := 72) (i := 0) (k0 := 0) (by decide +kernel) rfl rfl ?_
  refine ar_aload_n (pc := 73) (i := 0) (k0 := 0) (by decide +kernel) rfl rfl ?_
  refine ar_getV (pc := 74) (a := a) (v := .inr (.inr (a + 22))) 2 5 (by decide +kernel) (am_kd_at ha (by omega) (S0)) rfl (Nat.le_of_ble_eq_true rfl) wI_X2_31 (by show (Sum.inr (Sum.inr (g11 _ _)) : am_V) = _; rw [C14.2.1]; rfl) ?_
  refine ar_putA (pc := 77) (a := a) (z := a + 22) 2 7 (by decide +kernel) (am_kd_at ha (by omega) (S0)) rfl (Nat.le_of_ble_eq_true rfl) (Or.inr ⟨_, rfl⟩) (fun q => by cases q) rfl wI_X2_37 ?_
  have C15 := cst_put (k := ((7 : Nat) : Int)) (z := a + 22) C14
  generalize am_up g11 (a) ((7 : Nat) : Int) (a + 22) = g12 at C15 ⊢
  have D := cst_done C15 (fun j => (ZZ_at (m := (m + 0)) (by omega) (by omega) (S0)).symm) (fun q => by omega) (by omega)
  exact ar_vret (pc := 80) (by decide +kernel) rfl hn.symm (k _ (cpost_eq D (by omega)))
theorem c_I_X4 {m n : Nat} {a : Int} (ha : a = (m : Int) + 1) (hn : n = m + 97) (h9 : n ≤ 321) (S0 : am_sh (m + 0) = (14, 9)) (S1 : am_sh (m + 1) = (10, 6)) (S2 : am_sh (m + 2) = (0, 40)) (S3 : am_sh (m + 3) = (0, 25)) (S4 : am_sh (m + 4) = (3, 30)) (S5 : am_sh (m + 5) = (0, 8)) (S6 : am_sh (m + 6) = (0, 8)) (SM : ∀ i : Nat, i < 30 → am_sh (m + (7 + 3 * i)) = (10, 6) ∧ am_sh (m + (7 + 3 * i) + 1) = (0, 40) ∧ am_sh (m + (7 + 3 * i) + 2) = (0, 25)) (z : ∀ b j : Int, a ≤ b → h b j = 0) (k : ∀ h2, cpost h a ((n : Nat) : Int) h2 → Q 0 h2) : am_Cl false (d + 1) M_I_X4 (m + 1) n [.inr (.inr (a))] h Q := by
  refine am_Cl_of rfl (Nat.le_of_ble_eq_true rfl) (by omega) rfl (fun _ => ?_)
  have C0 := cst_0 (h := h) (a := a) (r := a + 4) (by omega) z
  refine ar_aload_n (pc := 0) (i := 0) (k0 := 0) (by decide +kernel) rfl rfl ?_
  refine ar_objInit (pc := 1) (by decide +kernel) w_oi_RX4 (by omega) (Nat.le_of_ble_eq_true rfl) ?_
  refine ar_aload_n (pc := 4) (i := 0) (k0 := 0) (by decide +kernel) rfl rfl ?_
  refine ar_new (pc := 5) (n := (m + 1)) (N := 6) (ci := 0) (by decide +kernel) (S1) rfl w_clX4_9 w_inRX0 wz_RX0 (by omega) (by omega) (fun i => C0.2.2.2.2.2 _ _ (by omega)) ?_
  rw [show ((((m + 1) : Nat) : Int) + 1) = a + 1 by omega]
  refine ar_dup (pc := 8) (by decide +kernel) trivial ?_
  refine ar_callIN (pc := 9) (M2 := M_I_X0) (as := []) (a := a + 1) (n := (m + 1) + 1) (n2 := (m + 4)) (st := [.inr (.inr (a + 1)), .inr (.inr (a))]) (by decide +kernel) rfl w_nlX4_11 w_im_RX0 (by omega) wz_RX0 w_co_RX0 rfl rfl ⟨by decide, by decide, rfl⟩ (Nat.le_of_ble_eq_true rfl) (Nat.le_of_ble_eq_true rfl) (by omega) (by omega) (c_I_X0 (m := (m + 1)) (by omega) (by omega) (by omega) (S1) (S2) (S3) (fun b j q => C0.2.2.2.2.2 b j (by omega)) (fun g1 P1 => ?_))
  have C1 := cst_call C0 (b := a + 1) (n := (((m + 4) : Nat) : Int)) (by omega) (by omega) (by omega) P1
  refine ar_putF (pc := 12) (a := a) (z := a + 1) (ci := 4) (k := 0) (by decide +kernel) rfl (am_kd_at ha (by omega) (S0)) rfl (Nat.le_of_ble_eq_true rfl) (Or.inr (Or.inr (Or.inr (Or.inl ⟨_, rfl⟩)))) rfl rfl rfl rfl (fun q => q) wI_X4_12 ?_
  have C2 := cst_put (k := ((0 : Nat) : Int)) (z := a + 1) C1
  generalize am_up g1 (a) ((0 : Nat) : Int) (a + 1) = g2 at C2 ⊢
  refine ar_aload_n (pc := 15) (i := 0) (k0 := 0) (by decide +kernel) rfl rfl ?_
  refine ar_bipush (pc := 16) (z := 30) (by decide +kernel) (by omega) ?_
  refine ar_anewM (pc := 18) (n := (m + 4)) (by decide +kernel) (S4) rfl w_clX4_9 (by omega) (by omega) (fun i => C2.2.2.2.2.2 _ _ (by omega)) ?_
  rw [show ((((m + 4) : Nat) : Int) + 1) = a + 4 by omega]
  have C3 := cst_new C2 (a + 4) (by omega) (fun q => absurd rfl q) (fun _ j => rfl)
  refine ar_putF (pc := 21) (a := a) (z := a + 4) (ci := 4) (k := 1) (by decide +kernel) rfl (am_kd_at ha (by omega) (S0)) rfl (Nat.le_of_ble_eq_true rfl) (Or.inr (Or.inr (Or.inr (Or.inr ⟨_, rfl⟩)))) rfl rfl rfl rfl (fun q => q) wI_X4_18 ?_
  have C4 := cst_put (k := ((1 : Nat) : Int)) (z := a + 4) C3
  generalize am_up g2 (a) ((1 : Nat) : Int) (a + 4) = g3 at C4 ⊢
  refine ar_aload_n (pc := 24) (i := 0) (k0 := 0) (by decide +kernel) rfl rfl ?_
  refine ar_iconst (pc := 25) (z := 0) (by decide +kernel) (by unfold am_i32; omega) ?_
  refine ar_putI (pc := 26) (a := a) (z := 0) 4 2 (by decide +kernel) (am_kd_at ha (by omega) (S0)) rfl (Nat.le_of_ble_eq_true rfl) rfl (fun q => by cases q) rfl wI_X4_22 ?_
  have C5 := cst_put (k := ((2 : Nat) : Int)) (z := 0) C4
  generalize am_up g3 (a) ((2 : Nat) : Int) (0) = g4 at C5 ⊢
  refine ar_aload_n (pc := 29) (i := 0) (k0 := 0) (by decide +kernel) rfl rfl ?_
  refine ar_iconst (pc := 30) (z := 0) (by decide +kernel) (by unfold am_i32; omega) ?_
  refine ar_putI (pc := 31) (a := a) (z := 0) 4 3 (by decide +kernel) (am_kd_at ha (by omega) (S0)) rfl (Nat.le_of_ble_eq_true rfl) rfl (fun q => by cases q) rfl wI_X4_26 ?_
  have C6 := cst_put (k := ((3 : Nat) : Int)) (z := 0) C5
  generalize am_up g4 (a) ((3 : Nat) : Int) (0) = g5 at C6 ⊢
  refine ar_aload_n (pc := 34) (i := 0) (k0 := 0) (by decide +kernel) rfl rfl ?_
  refine ar_iconst (pc := 35) (z := 0) (by decide +kernel) (by unfold am_i32; omega) ?_
  refine ar_putI (pc := 36) (a := a) (z := 0) 4 4 (by decide +kernel) (am_kd_at ha (by omega) (S0)) rfl (Nat.le_of_ble_eq_true rfl) rfl (fun q => by cases q) rfl wI_X4_29 ?_
  have C7 := cst_put (k := ((4 : Nat) : Int)) (z := 0) C6
  generalize am_up g5 (a) ((4 : Nat) : Int) (0) = g6 at C7 ⊢
  refine ar_aload_n (pc := 39) (i := 0) (k0 := 0) (by decide +kernel) rfl rfl ?_
  refine ar_iconst (pc := 40) (z := -1) (by decide +kernel) (by unfold am_i32; omega) ?_
  refine ar_putI (pc := 41) (a := a) (z := -1) 4 5 (by decide +kernel) (am_kd_at ha (by omega) (S0)) rfl (Nat.le_of_ble_eq_true rfl) rfl (fun q => by cases q) rfl wI_X4_32 ?_
  have C8 := cst_put (k := ((5 : Nat) : Int)) (z := -1) C7
  generalize am_up g6 (a) ((5 : Nat) : Int) (-1) = g7 at C8 ⊢
  refine ar_aload_n (pc := 44) (i := 0) (k0 := 0) (by decide +kernel) rfl rfl ?_
  refine ar_bipush (pc := 45) (z := 8) (by decide +kernel) (by omega) ?_
  refine ar_newi (pc := 47) (n := (m + 5)) (by decide +kernel) (S5) rfl w_aci (by omega) (by omega) (fun i => C8.2.2.2.2.2 _ _ (by omega)) ?_
  rw [show ((((m + 5) : Nat) : Int) + 1) = a + 5 by omega]
  have C9 := cst_new C8 (a + 5) (by omega) (fun _ j => ZZ_at (m := (m + 5)) (by omega) (by omega) (S5)) (fun q => by omega)
  refine ar_putF (pc := 49) (a := a) (z := a + 5) (ci := 4) (k := 6) (by decide +kernel) rfl (am_kd_at ha (by omega) (S0)) rfl (Nat.le_of_ble_eq_true rfl) (Or.inr (Or.inr (Or.inr (Or.inr ⟨_, rfl⟩)))) rfl rfl rfl rfl (fun q => q) wI_X4_35 ?_
  have C10 := cst_put (k := ((6 : Nat) : Int)) (z := a + 5) C9
  generalize am_up g7 (a) ((6 : Nat) : Int) (a + 5) = g8 at C10 ⊢
  refine ar_aload_n (pc := 52) (i := 0) (k0 := 0) (by decide +kernel) rfl rfl ?_
  refine ar_bipush (pc := 53) (z := 8) (by decide +kernel) (by omega) ?_
  refine ar_newi (pc := 55) (n := (m + 6)) (by decide +kernel) (S6) rfl w_aci (by omega) (by omega) (fun i => C10.2.2.2.2.2 _ _ (by omega)) ?_
  rw [show ((((m + 6) : Nat) : Int) + 1) = a + 6 by omega]
  have C11 := cst_new C10 (a + 6) (by omega) (fun _ j => ZZ_at (m := (m + 6)) (by omega) (by omega) (S6)) (fun q => by omega)
  refine ar_putF (pc := 57) (a := a) (z := a + 6) (ci := 4) (k := 7) (by decide +kernel) rfl (am_kd_at ha (by omega) (S0)) rfl (Nat.le_of_ble_eq_true rfl) (Or.inr (Or.inr (Or.inr (Or.inr ⟨_, rfl⟩)))) rfl rfl rfl rfl (fun q => q) wI_X4_39 ?_
  have C12 := cst_put (k := ((7 : Nat) : Int)) (z := a + 6) C11
  generalize am_up g8 (a) ((7 : Nat) : Int) (a + 6) = g9 at C12 ⊢
  refine ar_aload_n (pc := 60) (i := 0) (k0 := 0) (by decide +kernel) rfl rfl ?_
  refine ar_iconst (pc := 61) (z := 0) (by decide +kernel) (by unfold am_i32; omega) ?_
  refine ar_putI (pc := 62) (a := a) (z := 0) 4 8 (by decide +kernel) (am_kd_at ha (by omega) (S0)) rfl (Nat.le_of_ble_eq_true rfl) rfl (fun q => by cases q) rfl wI_X4_42 ?_
  have C13 := cst_put (k := ((8 : Nat) : Int)) (z := 0) C12
  generalize am_up g9 (a) ((8 : Nat) : Int) (0) = g10 at C13 ⊢
  have lo : ∀ (u i : Nat) (g : am_H), 30 - i ≤ u → i ≤ 30 → cst h a (a + 4) (((m + (7 + 3 * i) : Nat)) : Int) (fun j => if j = ((8 : Nat) : Int) then 0 else if j = ((7 : Nat) : Int) then a + 6 else if j = ((6 : Nat) : Int) then a + 5 else if j = ((5 : Nat) : Int) then -1 else if j = ((4 : Nat) : Int) then 0 else if j = ((3 : Nat) : Int) then 0 else if j = ((2 : Nat) : Int) then 0 else if j = ((1 : Nat) : Int) then a + 4 else if j = ((0 : Nat) : Int) then a + 1 else 0) (fun j => if 0 ≤ j ∧ j < (i : Int) then a + 4 + 3 + 3 * j else 0) g → am_Wp false (d + 1) M_I_X4 (m + 1) n h Q 67 [some (.inr (.inr a)), some (.inl (i : Int))] [] (m + (7 + 3 * i)) g := by
    intro u
    induction u with
    | zero =>
      intro i g u1 u2 C
      have i30 : i = 30 := by omega
      subst i30
      refine ar_iload_n (pc := 67) (i := 1) (k0 := 1) (by decide +kernel) rfl rfl ?_
      refine ar_aload_n (pc := 68) (i := 0) (k0 := 0) (by decide +kernel) rfl rfl ?_
      refine ar_getV (pc := 69) (a := a) (v := .inr (.inr (a + 4))) 4 1 (by decide +kernel) (am_kd_at ha (by omega) (S0)) rfl (Nat.le_of_ble_eq_true rfl) wI_X4_18 (by show (Sum.inr (Sum.inr (g _ _)) : am_V) = _; rw [C.2.1]; rfl) ?_
      refine ar_alen (pc := 72) (by decide +kernel) (by rw [am_kd_at (m := m + 4) (by omega) (by omega) S4]; decide) ?_
      rw [am_ln_at (m := m + 4) (by omega) S4]
      refine ar_icmp_ge (pc := 73) (x := ((30 : Nat) : Int)) (y := ((30 : Nat) : Int)) (tgt := 95) (off := 22) (by decide +kernel) (by decide) (fun _ => ?_) (fun q => by omega)
      refine ar_vret (pc := 95) (by decide +kernel) rfl (by omega) (k _ (cpost_eq (cst_done C (fun j => (ZZ_at (m := m + 0) (by omega) (by omega) (S0)).symm) (fun _ j => (ZZ_at (m := m + 4) (by omega) (by omega) S4).symm) (by omega)) (by omega)))
    | succ u ih =>
      intro i g u1 u2 C
      refine ar_iload_n (pc := 67) (i := 1) (k0 := 1) (by decide +kernel) rfl rfl ?_
      refine ar_aload_n (pc := 68) (i := 0) (k0 := 0) (by decide +kernel) rfl rfl ?_
      refine ar_getV (pc := 69) (a := a) (v := .inr (.inr (a + 4))) 4 1 (by decide +kernel) (am_kd_at ha (by omega) (S0)) rfl (Nat.le_of_ble_eq_true rfl) wI_X4_18 (by show (Sum.inr (Sum.inr (g _ _)) : am_V) = _; rw [C.2.1]; rfl) ?_
      refine ar_alen (pc := 72) (by decide +kernel) (by rw [am_kd_at (m := m + 4) (by omega) (by omega) S4]; decide) ?_
      rw [am_ln_at (m := m + 4) (by omega) S4]
      refine ar_icmp_ge (pc := 73) (x := (i : Int)) (y := ((30 : Nat) : Int)) (tgt := 95) (off := 22) (by decide +kernel) (by decide) (fun q => ?_) (fun q => ?_)
      · have i30 : i = 30 := by omega
        subst i30
        refine ar_vret (pc := 95) (by decide +kernel) rfl (by omega) (k _ (cpost_eq (cst_done C (fun j => (ZZ_at (m := m + 0) (by omega) (by omega) (S0)).symm) (fun _ j => (ZZ_at (m := m + 4) (by omega) (by omega) S4).symm) (by omega)) (by omega)))
      · have S := SM i (by omega)
        refine ar_aload_n (pc := 76) (i := 0) (k0 := 0) (by decide +kernel) rfl rfl ?_
        refine ar_getV (pc := 77) (a := a) (v := .inr (.inr (a + 4))) 4 1 (by decide +kernel) (am_kd_at ha (by omega) (S0)) rfl (Nat.le_of_ble_eq_true rfl) wI_X4_18 (by show (Sum.inr (Sum.inr (g _ _)) : am_V) = _; rw [C.2.1]; rfl) ?_
        refine ar_iload_n (pc := 80) (i := 1) (k0 := 1) (by decide +kernel) rfl rfl ?_
        refine ar_new (pc := 81) (n := m + (7 + 3 * i)) (N := 6) (ci := 0) (by decide +kernel) S.1 rfl w_clX4_9 w_inRX0 wz_RX0 (by omega) (by omega) (fun i => C.2.2.2.2.2 _ _ (by omega)) ?_
        rw [show (((m + (7 + 3 * i) : Nat) : Int) + 1) = a + 4 + 3 + 3 * (i : Int) by omega]
        refine ar_dup (pc := 84) (by decide +kernel) trivial ?_
        refine ar_callIN (pc := 85) (M2 := M_I_X0) (as := []) (a := a + 4 + 3 + 3 * (i : Int)) (n := m + (7 + 3 * i) + 1) (n2 := m + (7 + 3 * (i + 1))) (st := [.inr (.inr (a + 4 + 3 + 3 * (i : Int))), .inl (i : Int), .inr (.inr (a + 4))]) (by decide +kernel) rfl w_nlX4_11 w_im_RX0 (by omega) wz_RX0 w_co_RX0 rfl rfl ⟨by decide, by decide, rfl⟩ (Nat.le_of_ble_eq_true rfl) (Nat.le_of_ble_eq_true rfl) (by omega) (by omega) (c_I_X0 (m := m + (7 + 3 * i)) (by omega) (by omega) (by omega) S.1 S.2.1 S.2.2 (fun b j q => C.2.2.2.2.2 b j (by omega)) (fun g2 P => ?_))
        have C2 := cst_call C (b := a + 4 + 3 + 3 * (i : Int)) (n := ((m + (7 + 3 * (i + 1)) : Nat) : Int)) (by omega) (by omega) (by omega) P
        refine ar_aastM (pc := 88) (by decide +kernel) (am_kd_at (m := m + 4) (by omega) (by omega) S4) (am_kd_at (m := m + (7 + 3 * i)) (by omega) (by omega) S.1) (by omega) (by rw [am_ln_at (m := m + 4) (by omega) S4]; exact q) ?_
        have C3 := cst_row (row2 := fun j => if 0 ≤ j ∧ j < ((i + 1 : Nat) : Int) then a + 4 + 3 + 3 * j else 0) C2 (by omega) (i := (i : Int)) (z := a + 4 + 3 + 3 * (i : Int)) (by rw [if_pos (by omega)]) (fun j hj => by
          by_cases q1 : 0 ≤ j ∧ j < (i : Int)
          · rw [if_pos q1, if_pos (by omega)]
          · rw [if_neg q1, if_neg (by omega)])
        refine ar_iinc (pc := 89) (i := 1) (z := 1) (x := (i : Int)) (ls2 := [some (.inr (.inr a)), some (.inl (am_w32 ((i : Int) + 1)))]) (by decide +kernel) rfl (by decide) rfl ?_
        refine ar_goto (pc := 92) (tgt := 67) (off := -25) (by decide +kernel) (by decide) ?_
        rw [w32e (z := (i : Int) + 1) (by omega) (by omega), show (i : Int) + 1 = ((i + 1 : Nat) : Int) by omega]
        exact ih (i + 1) _ (by omega) (by omega) C3
  refine ar_iconst (pc := 65) (z := 0) (by decide +kernel) (by unfold am_i32; omega) ?_
  refine ar_istore_n (pc := 66) (i := 1) (k0 := 1) (ls2 := [some (.inr (.inr a)), some (.inl 0)]) (by decide +kernel) rfl (by decide) rfl ?_
  refine lo 30 0 _ (by omega) (by omega) (cst_eq C13 (by omega) (fun j => by rw [if_neg (by omega)]))
end CTORS
