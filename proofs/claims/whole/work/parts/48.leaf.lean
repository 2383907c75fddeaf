section LEAF3
variable {d : Nat} {h : am_H} {Q : Int → am_H → Prop}
theorem l2i_id {x : Int} (h1 : -2147483648 ≤ x) (h2 : x ≤ 2147483647) : am_l2i x = x := by
  unfold am_l2i
  rw [Int64.toInt_toInt32, Int64.toInt_ofInt_of_le (by omega) (by omega)]
  exact Int.bmod_eq_of_le (by omega) (by omega)
def hld (v lo hi : Int) : Int := if v < lo then lo else if hi < v then hi else v
theorem c_X7_held {v lo hi : Int} (h0 : -2147483648 ≤ lo) (h1 : hi ≤ 2147483647) (k : Q (hld v lo hi) h) : cf d M_X7_held [.inr (.inl v), .inl lo, .inl hi] h Q := by
  unfold hld at k
  refine cf_of pX7 (Nat.le_of_ble_eq_true rfl) rfl (fun _ => B_X7_held_0 ⟨fun c => ⟨fun c2 => ?_, fun c2 => ?_⟩, fun c => ?_⟩)
  · have a := lcmp_nn c
    have b := lcmp_np c2
    rw [if_neg (by omega), if_neg (by omega)] at k
    rw [l2i_id (by omega) (by omega)]
    exact k
  · have a := lcmp_nn c
    have b := lcmp_pos c2
    rw [if_neg (by omega), if_pos b] at k; exact k
  · have a := lcmp_neg c
    rw [if_pos a] at k; exact k
end LEAF3
