section OP2
variable {d : Nat} {h : am_H} {Q : Int → am_H → Prop}
/-- what a comparing step makes of two -/
def cmp2 (o x y : Int) : Int := if o = 14 then (if x < y then 1 else 0) else if o = 15 then (if x ≤ y then 1 else 0) else if o = 16 then (if y < x then 1 else 0) else if o = 17 then (if y ≤ x then 1 else 0) else if o = 18 then (if x = y then 1 else 0) else (if x = y then 0 else 1)
theorem c_X2_compares {o x y : Int} (k1 : cmp2 o x y = 1 → Q 1 h) (k0 : cmp2 o x y = 0 → Q 0 h) : cf d M_X2_compares [.inl o, .inl x, .inl y] h Q := by
  refine cf_of pX2 (Nat.le_of_ble_eq_true rfl) rfl (fun _ => B_X2_compares_0 ⟨fun c => ⟨fun q => k0 ?_, fun q => k1 ?_⟩, fun c => ⟨fun q => k0 ?_, fun q => k1 ?_⟩, fun c => ⟨fun q => k0 ?_, fun q => k1 ?_⟩, fun c => ⟨fun q => k0 ?_, fun q => k1 ?_⟩, fun c => ⟨fun q => k0 ?_, fun q => k1 ?_⟩, fun c => ⟨fun q => k0 ?_, fun q => k1 ?_⟩⟩) <;> (unfold cmp2; repeat' split) <;> omega
theorem mul_bd {x y : Int} (hx : -20000000 ≤ x ∧ x ≤ 20000000) (hy : -20000000 ≤ y ∧ y ≤ 20000000) : -400000000000000 ≤ x * y ∧ x * y ≤ 400000000000000 := by
  have e := Int.natAbs_mul x y
  have b : x.natAbs * y.natAbs ≤ 20000000 * 20000000 := Nat.mul_le_mul (by omega) (by omega)
  omega
theorem tdiv_bd {x y : Int} (hx : -20000000 ≤ x ∧ x ≤ 20000000) : -20000000 ≤ x.tdiv y ∧ x.tdiv y ≤ 20000000 := by
  have e : (x.tdiv y).natAbs = x.natAbs / y.natAbs := Int.natAbs_tdiv x y
  have b : x.natAbs / y.natAbs ≤ x.natAbs := Nat.div_le_self _ _
  omega
theorem c_X2_confined {v : Int} (k : Q (clp v) h) : cf (d + 1) M_X2_confined [.inr (.inl v)] h Q := by
  have r := clp_rng v
  unfold clp at k r
  refine cf_of pX2 (Nat.le_of_ble_eq_true rfl) rfl (fun _ => B_X2_confined_0 (c_lmin (fun c => ?_) (fun c => ?_)))
  · refine c_lmax (fun c2 => ?_) (fun c2 => ?_)
    · rw [if_neg (by omega)] at k r
      by_cases q : v < -1000000
      · omega
      · rw [if_neg q] at k r
        rw [l2i_id (by omega) (by omega)]; exact k
    · rw [if_neg (by omega)] at k r
      rw [l2i_id (by omega) (by omega)]
      by_cases q : v < -1000000
      · rw [if_pos q] at k; exact k
      · have : v = -1000000 := by omega
        rw [if_neg q, this] at k; exact k
  · refine c_lmax (fun c2 => ?_) (fun c2 => by omega)
    rw [l2i_id (by omega) (by omega)]
    by_cases q : 1000000 < v
    · rw [if_pos q] at k; exact k
    · have : v = 1000000 := by omega
      rw [if_neg q, if_neg (by omega), this] at k; exact k
/-- what a step of two makes -/
def op2 (o x y : Int) : Int := if o = 10 then clp (x + y) else if o = 11 then clp (x - y) else if o = 12 then clp (x * y) else if o = 13 then (if y = 0 then 0 else clp (x.tdiv y)) else if o = 20 then (if x ≠ 0 ∧ y ≠ 0 then 1 else 0) else if o = 21 then (if x ≠ 0 ∨ y ≠ 0 then 1 else 0) else cmp2 o x y
theorem cmp2_01 (o x y : Int) : cmp2 o x y = 0 ∨ cmp2 o x y = 1 := by
  unfold cmp2; repeat' split
  all_goals omega
theorem op2_c {o x y : Int} (q : o < 10 ∨ (14 ≤ o ∧ o ≤ 19) ∨ 21 < o) : op2 o x y = cmp2 o x y := by
  unfold op2
  rw [if_neg (by omega), if_neg (by omega), if_neg (by omega), if_neg (by omega), if_neg (by omega), if_neg (by omega)]
theorem c_X2_ofTwo {o x y : Int} (hx : -20000000 ≤ x ∧ x ≤ 20000000) (hy : -20000000 ≤ y ∧ y ≤ 20000000) (hb : o = 20 ∨ o = 21 → (x = 0 ∨ x = 1) ∧ (y = 0 ∨ y = 1)) (k : Q (op2 o x y) h) : cf (d + 2) M_X2_ofTwo [.inl o, .inl x, .inl y] h Q := by
  have cc : (o < 10 ∨ (14 ≤ o ∧ o ≤ 19) ∨ 21 < o) → cf (d + 1) M_X2_compares [.inl o, .inl x, .inl y] h (fun r h => (r = 0 → Q 0 h) ∧ (¬ r = 0 → Q 1 h)) := by
    intro q
    rw [op2_c q] at k
    exact c_X2_compares (fun e => ⟨fun q => by omega, fun _ => by rw [e] at k; exact k⟩) (fun e => ⟨fun _ => by rw [e] at k; exact k, fun q => absurd rfl q⟩)
  have m := mul_bd hx hy
  have t := tdiv_bd (y := y) hx
  refine cf_of pX2 (Nat.le_of_ble_eq_true rfl) rfl (fun _ => B_X2_ofTwo_0 ⟨fun c => cc (by omega), fun c => ?_, fun c => ?_, fun c => ?_, fun c => ⟨fun c2 => ⟨c2, ?_⟩, fun c2 => ?_⟩, fun c => cc (by omega), fun c => cc (by omega), fun c => cc (by omega), fun c => cc (by omega), fun c => cc (by omega), fun c => cc (by omega), fun c => ?_, fun c => ?_⟩)
  · rw [w64e (by omega) (by omega)]
    refine c_X2_confined ?_
    rw [c, op2, if_pos rfl] at k
    exact k
  · rw [w64e (by omega) (by omega)]
    refine c_X2_confined ?_
    rw [c, op2, if_neg (by omega), if_pos rfl] at k
    exact k
  · rw [w64e (by omega) (by omega)]
    refine c_X2_confined ?_
    rw [c, op2, if_neg (by omega), if_neg (by omega), if_pos rfl] at k
    exact k
  · rw [w64e (by omega) (by omega)]
    refine c_X2_confined ?_
    rw [c, op2, if_neg (by omega), if_neg (by omega), if_neg (by omega), if_pos rfl, if_neg c2] at k
    exact k
  · rw [c, op2, if_neg (by omega), if_neg (by omega), if_neg (by omega), if_pos rfl, if_pos c2] at k
    exact k
  · obtain ⟨x01, y01⟩ := hb (Or.inl c)
    rw [c, op2, if_neg (by omega), if_neg (by omega), if_neg (by omega), if_neg (by omega), if_pos rfl] at k
    have e := iand_n (a := x.toNat) (b := y.toNat) (by omega)
    rw [show ((x.toNat : Nat) : Int) = x by omega, show ((y.toNat : Nat) : Int) = y by omega] at e
    rw [e]
    rcases x01 with rfl | rfl <;> rcases y01 with rfl | rfl <;> simpa using k
  · obtain ⟨x01, y01⟩ := hb (Or.inr c)
    rw [c, op2, if_neg (by omega), if_neg (by omega), if_neg (by omega), if_neg (by omega), if_neg (by omega), if_pos rfl] at k
    have e := ior_n (a := x.toNat) (b := y.toNat) (by omega) (by omega)
    rw [show ((x.toNat : Nat) : Int) = x by omega, show ((y.toNat : Nat) : Int) = y by omega] at e
    rw [e]
    rcases x01 with rfl | rfl <;> rcases y01 with rfl | rfl <;> simpa using k
end OP2
