/-! LEVEL 3, leaves: the JDK's numbers, and what asks of one number -/
section LEAF
variable {d : Nat} {h : am_H} {Q : Int → am_H → Prop}
theorem c_max {x y : Int} (k1 : x < y → Q y h) (k2 : y ≤ x → Q x h) : cf d M_J9_max_7cf53 [.inl x, .inl y] h Q :=
  cf_ofF pf_max_7cf53 (Nat.le_of_ble_eq_true rfl) rfl (fun _ => B_J9_max_7cf53_0 ⟨k1, k2⟩)
theorem c_min {x y : Int} (k1 : y < x → Q y h) (k2 : x ≤ y → Q x h) : cf d M_J9_min_7cf53 [.inl x, .inl y] h Q :=
  cf_ofF pf_min_7cf53 (Nat.le_of_ble_eq_true rfl) rfl (fun _ => B_J9_min_7cf53_0 ⟨k1, k2⟩)
theorem lcmp_neg {x y : Int} (h : am_lcmp x y < 0) : x < y := by
  unfold am_lcmp at h
  split at h
  · omega
  · split at h <;> omega
theorem lcmp_nn {x y : Int} (h : 0 ≤ am_lcmp x y) : y ≤ x := by
  unfold am_lcmp at h
  split at h
  · omega
  · split at h <;> omega
theorem lcmp_pos {x y : Int} (h : 0 < am_lcmp x y) : y < x := by
  unfold am_lcmp at h
  split at h
  · omega
  · split at h <;> omega
theorem lcmp_np {x y : Int} (h : am_lcmp x y ≤ 0) : x ≤ y := by
  unfold am_lcmp at h
  split at h
  · omega
  · split at h <;> omega
theorem c_lmax {x y : Int} (k1 : x < y → Q y h) (k2 : y ≤ x → Q x h) : cf d M_J9_max_f86c9 [.inr (.inl x), .inr (.inl y)] h Q :=
  cf_ofF pf_max_f86c9 (Nat.le_of_ble_eq_true rfl) rfl (fun _ => B_J9_max_f86c9_0 ⟨fun c => k1 (lcmp_neg c), fun c => k2 (lcmp_nn c)⟩)
theorem c_lmin {x y : Int} (k1 : y < x → Q y h) (k2 : x ≤ y → Q x h) : cf d M_J9_min_f86c9 [.inr (.inl x), .inr (.inl y)] h Q :=
  cf_ofF pf_min_f86c9 (Nat.le_of_ble_eq_true rfl) rfl (fun _ => B_J9_min_f86c9_0 ⟨fun c => k1 (lcmp_pos c), fun c => k2 (lcmp_np c)⟩)
theorem c_fmod {x m : Int} (hx : 0 ≤ x) (hx2 : x ≤ 2147483647) (hm : 0 < m) (hm2 : m ≤ 2147483647) (k : Q (x % m) h) : cf d M_J9_floorMod_7cf53 [.inl x, .inl m] h Q := by
  have e : am_w32 (x.tmod m) = x % m := by
    rw [Int.tmod_eq_emod_of_nonneg hx]
    have := Int.emod_nonneg x (by omega : m ≠ 0)
    have := Int.emod_lt_of_pos x hm
    exact w32e (by omega) (by omega)
  have x0 : 0 ≤ am_ixor x m := by
    rw [show x = ((x.toNat : Nat) : Int) by omega, show m = ((m.toNat : Nat) : Int) by omega, ixor_n (by omega) (by omega)]
    omega
  refine cf_ofF pf_floorMod_7cf53 (Nat.le_of_ble_eq_true rfl) rfl (fun _ => B_J9_floorMod_7cf53_0 ⟨by omega, fun c => ?_, fun c => by omega⟩)
  rw [e]
  exact k
theorem c_X7_isIn {v lo hi : Int} (k1 : lo ≤ v → v ≤ hi → Q 1 h) (k0 : v < lo ∨ hi < v → Q 0 h) : cf d M_X7_isIn [.inl v, .inl lo, .inl hi] h Q :=
  cf_of pX7 (Nat.le_of_ble_eq_true rfl) rfl (fun _ => B_X7_isIn_0 ⟨fun c => k0 (Or.inl c), fun c => ⟨fun c2 => k0 (Or.inr c2), fun c2 => k1 c c2⟩⟩)
theorem c_X7_isField {v : Int} (k1 : 0 ≤ v → v ≤ 7 → Q 1 h) (k0 : v < 0 ∨ 7 < v → Q 0 h) : cf (d + 1) M_X7_isField [.inl v] h Q :=
  cf_of pX7 (Nat.le_of_ble_eq_true rfl) rfl (fun _ => B_X7_isField_0 (c_X7_isIn (fun a b => ⟨Or.inr rfl, k1 a b⟩) (fun a => ⟨Or.inl rfl, k0 a⟩)))
theorem c_X6_isField {v : Int} (k1 : 0 ≤ v → v ≤ 7 → Q 1 h) (k0 : v < 0 ∨ 7 < v → Q 0 h) : cf d M_X6_isField [.inl v] h Q := by
  refine cf_of pX6 (Nat.le_of_ble_eq_true rfl) rfl (fun _ => B_X6_isField_0 ?_)
  exact ⟨fun c => k0 (Or.inl c), fun c => ⟨fun c2 => k0 (Or.inr (by omega)), fun c2 => k1 c (by omega)⟩⟩
/-- a member of a set -/
theorem c_X7_has {s k : Nat} (hs : s < 2147483648) (hk : k < 32) (k1 : s.testBit k = true → Q 1 h) (k0 : s.testBit k = false → Q 0 h) : cf d M_X7_has [.inl (s : Int), .inl (k : Int)] h Q := by
  refine cf_of pX7 (Nat.le_of_ble_eq_true rfl) rfl (fun _ => B_X7_has_0 ?_)
  rw [bit_n hk hs]
  constructor
  · intro c
    refine k0 ?_
    cases q : s.testBit k with
    | false => rfl
    | true => rw [q] at c; exact absurd rfl c
  · intro c
    refine k1 ?_
    cases q : s.testBit k with
    | true => rfl
    | false => rw [q] at c; simp at c
end LEAF
