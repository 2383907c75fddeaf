section LEAF2
variable {d : Nat} {h : am_H} {Q : Int → am_H → Prop} {α : Int → Int}
theorem c_X6_theText (hr : srep h 4 α) (ha : oka α) (k1 : 0 ≤ α 1 → Q (242 + 13 * α 1) h) (k0 : α 1 = -1 → Q 0 h) : cf (d + 1) M_X6_theText [.inr (.inr 1)] h Q := by
  have e := hr.2.2.2.2.2.1
  have a1 := ha.2.1
  refine cf_of pX6 (Nat.le_of_ble_eq_true rfl) rfl (fun _ => B_X6_theText_0 ?_)
  rw [e]
  exact c_X6_textAt hr ha (fun a b => k1 a) (fun a => k0 (by omega))
def clp (v : Int) : Int := if 1000000 < v then 1000000 else if v < -1000000 then -1000000 else v
theorem clp_rng (v : Int) : -1000000 ≤ clp v ∧ clp v ≤ 1000000 := by
  unfold clp
  by_cases c : 1000000 < v
  · rw [if_pos c]; omega
  · rw [if_neg c]
    by_cases c2 : v < -1000000
    · rw [if_pos c2]; omega
    · rw [if_neg c2]; omega
theorem c_X7_clip {v : Int} (k : Q (clp v) h) : cf d M_X7_clip [.inr (.inl v)] h Q := by
  unfold clp at k
  refine cf_of pX7 (Nat.le_of_ble_eq_true rfl) rfl (fun _ => B_X7_clip_0 ⟨fun c => ⟨fun c2 => ?_, fun c2 => ?_⟩, fun c => ?_⟩)
  · have := lcmp_np c
    have := lcmp_nn c2
    rw [if_neg (by omega), if_neg (by omega)] at k; exact k
  · have := lcmp_np c
    have := lcmp_neg c2
    rw [if_neg (by omega), if_pos (by omega)] at k; exact k
  · have := lcmp_pos c
    rw [if_pos (by omega)] at k; exact k
theorem c_X7_byteAt {p : Int} (h4 : 0 ≤ h 294 4 ∧ h 294 4 ≤ 300) (hp : 0 ≤ p) (k : Q (if p < h 294 4 then h 298 p else -1) h) : cf d M_X7_byteAt [.inr (.inr 294), .inl p] h Q := by
  refine cf_of pX7 (Nat.le_of_ble_eq_true rfl) rfl (fun _ => B_X7_byteAt_0 ⟨fun c => ?_, fun c => ⟨hp, by omega, ?_⟩⟩)
  · rw [if_neg (by omega)] at k; exact k
  · rw [if_pos c] at k; exact k
theorem c_X6_hasBit {s k : Nat} (hs : s < 2147483648) (hk : k < 32) (k1 : s.testBit k = true → Q 1 h) (k0 : s.testBit k = false → Q 0 h) : cf d M_X6_hasBit [.inl (s : Int), .inl (k : Int)] h Q := by
  refine cf_of pX6 (Nat.le_of_ble_eq_true rfl) rfl (fun _ => B_X6_hasBit_0 ?_)
  rw [bit_n hk hs]
  by_cases c : s.testBit k = true
  · rw [if_pos c]
    exact ⟨fun q => absurd q (by omega), fun _ => k1 c⟩
  · rw [if_neg c]
    exact ⟨fun _ => k0 (by simpa using c), fun q => absurd rfl q⟩
end LEAF2
