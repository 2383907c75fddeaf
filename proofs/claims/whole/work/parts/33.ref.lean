/-! LEVEL 3, the reference's file: one row (295), exactly -/
section REF
variable {d : Nat} {h : am_H} {Q : Int → am_H → Prop}
/-- a line is written -/
def rw_ (α : Int → Int) (what v b : Int) : Int → Int :=
  let β := if α 7 = 25 then up1 (cp1 α 2134 2133 1 25) 7 24 else α
  up1 (up1 β (2134 + β 7) (((β 4 * 4 + what) * 41 + v) * 256 + b)) 7 (β 7 + 1)
theorem l_X7_write_23 {v1 v2 v3 : Int} (k : wf d M_X7_write Q 71 [some (.inr (.inr 294)), some (.inl v1), some (.inl v2), some (.inl v3), none] [] (am_row h 295 (up1 (cp1 (h 295) 2134 2133 1 25) 7 24))) (h7 : h 295 7 = 25) : wf d M_X7_write Q 23 [some (.inr (.inr 294)), some (.inl v1), some (.inl v2), some (.inl v3), some (.inl 1)] [] h := by
  have key : ∀ (n : Nat) (v : Int) (g : am_H), v + n = 25 → 1 ≤ v → g 295 7 = 25 → wf d M_X7_write Q 71 [some (.inr (.inr 294)), some (.inl v1), some (.inl v2), some (.inl v3), none] [] (am_row g 295 (up1 (cp1 (g 295) 2134 2133 v 25) 7 24)) → wf d M_X7_write Q 23 [some (.inr (.inr 294)), some (.inl v1), some (.inl v2), some (.inl v3), some (.inl v)] [] g := by
    intro n
    induction n with
    | zero =>
      intro v g hv h1 g7 k
      refine B_X7_write_23 ⟨fun c => ?_, fun c => by omega⟩
      rw [cp1_done (by omega)] at k
      rw [g7, up_row]
      exact k
    | succ n ih =>
      intro v g hv h1 g7 k
      refine B_X7_write_23 ⟨fun c => by omega, fun c => ?_⟩
      rw [w32e (z := 2134 + v) (by omega) (by omega), w32e (z := 2134 + v - 1) (by omega) (by omega), w32e (z := v + 1) (by omega) (by omega)]
      refine ⟨by omega, by omega, by omega, by omega, ?_⟩
      refine ih (v + 1) _ (by omega) (by omega) ?_ ?_
      · rw [up_row, row_at, up1_ne (by omega), g7]
      · rw [up_row, row_at, row_row]
        rw [show 2134 + v - 1 = 2133 + v by omega, cp1_step (by omega) (by omega) (by omega)]
        exact k
  exact key 24 1 h (by omega) (by omega) h7 k
theorem c_X7_write {what v b : Int} (hw : ¬ h 294 50 = 0) (h7 : 0 ≤ h 295 7 ∧ h 295 7 ≤ 25) (h4 : 0 ≤ h 295 4 ∧ h 295 4 ≤ 9999) (h1 : 0 ≤ what ∧ what ≤ 3) (h2 : 0 ≤ v ∧ v ≤ 40) (h3 : 0 ≤ b ∧ b ≤ 255) (k : Q 0 (am_row h 295 (rw_ (h 295) what v b))) : cf d M_X7_write [.inr (.inr 294), .inl what, .inl v, .inl b] h Q := by
  have fin : ∀ g : am_H, (0 ≤ g 295 7 ∧ g 295 7 ≤ 24) → (0 ≤ g 295 4 ∧ g 295 4 ≤ 9999) → Q 0 (am_row g 295 (up1 (up1 (g 295) (2134 + g 295 7) (((g 295 4 * 4 + what) * 41 + v) * 256 + b)) 7 (g 295 7 + 1))) → wf d M_X7_write Q 71 [some (.inr (.inr 294)), some (.inl what), some (.inl v), some (.inl b), none] [] g := by
    intro g g7 g4 k
    refine B_X7_write_71 ?_
    rw [w32e (z := 2134 + g 295 7) (by omega) (by omega), w32e (z := g 295 4 * 4) (by omega) (by omega), w32e (z := g 295 4 * 4 + what) (by omega) (by omega), w32e (z := (g 295 4 * 4 + what) * 41) (by omega) (by omega), w32e (z := (g 295 4 * 4 + what) * 41 + v) (by omega) (by omega), w32e (z := ((g 295 4 * 4 + what) * 41 + v) * 256) (by omega) (by omega), w32e (z := ((g 295 4 * 4 + what) * 41 + v) * 256 + b) (by omega) (by omega)]
    refine ⟨by omega, by omega, ?_⟩
    rw [up_row (h := g), row_at, up1_ne (by omega), w32e (z := g 295 7 + 1) (by omega) (by omega), up_row2]
    exact k
  refine cf_of pX7 (Nat.le_of_ble_eq_true rfl) rfl (fun _ => B_X7_write_0 ⟨fun _ => ⟨fun c => ?_, fun c => ?_⟩, fun c => absurd c hw⟩)
  · refine fin h (by omega) h4 ?_
    have e : rw_ (h 295) what v b = up1 (up1 (h 295) (2134 + h 295 7) (((h 295 4 * 4 + what) * 41 + v) * 256 + b)) 7 (h 295 7 + 1) := by
      unfold rw_
      rw [if_neg c]
    rw [← e]
    exact k
  · refine l_X7_write_23 (fin _ ?_ ?_ ?_) c
    · rw [row_at, up1_at]; omega
    · rw [row_at, up1_ne (by omega)]
      unfold cp1
      rw [if_neg (by omega)]
      exact h4
    · rw [row_at, row_row]
      have e : rw_ (h 295) what v b = up1 (up1 (up1 (cp1 (h 295) 2134 2133 1 25) 7 24) (2134 + up1 (cp1 (h 295) 2134 2133 1 25) 7 24 7) (((up1 (cp1 (h 295) 2134 2133 1 25) 7 24 4 * 4 + what) * 41 + v) * 256 + b)) 7 (up1 (cp1 (h 295) 2134 2133 1 25) 7 24 7 + 1) := by
        unfold rw_
        rw [if_pos c]
      rw [← e]
      exact k
theorem c_X7_anew (hx : 0 ≤ h 295 5 ∧ h 295 5 ≤ 40000) (k : Q 0 (am_row h 295 (up1 (h 295) 5 ((h 295 5 * 743 + 607) % 31079)))) : cf d M_X7_anew [.inr (.inr 294)] h Q := by
  refine cf_of pX7 (Nat.le_of_ble_eq_true rfl) rfl (fun _ => B_X7_anew_0 ?_)
  have e : am_l2i (am_w64 ((am_w64 ((am_w64 ((h 295 5) * 743)) + 607)).tmod 31079)) = (h 295 5 * 743 + 607) % 31079 := by
    rw [w64e (z := h 295 5 * 743) (by omega) (by omega), w64e (z := h 295 5 * 743 + 607) (by omega) (by omega), Int.tmod_eq_emod_of_nonneg (by omega), w64e (by omega) (by omega)]
    unfold am_l2i
    have z : 0 ≤ (h 295 5 * 743 + 607) % 31079 ∧ (h 295 5 * 743 + 607) % 31079 < 31079 := by omega
    generalize (h 295 5 * 743 + 607) % 31079 = y at z
    rw [show y = ((y.toNat : Nat) : Int) by omega, Int64.ofInt_eq_ofNat]
    show (Int64.toInt32 (lN y.toNat)).toInt = _
    rw [lN_i, nI_toInt (by omega)]
  rw [e, up_row]
  exact k
theorem c_X7_drawnBy {m : Int} (hm : 0 < m) (hm2 : m ≤ 40000) (hx : 0 ≤ h 295 5 ∧ h 295 5 ≤ 40000) (k : Q (h 295 5 % m) (am_row h 295 (up1 (h 295) 5 ((h 295 5 * 743 + 607) % 31079)))) : cf (d + 1) M_X7_drawnBy [.inr (.inr 294), .inl m] h Q := by
  refine cf_of pX7 (Nat.le_of_ble_eq_true rfl) rfl (fun _ => B_X7_drawnBy_0 ⟨by omega, c_X7_anew hx ?_⟩)
  rw [Int.tmod_eq_emod_of_nonneg hx.1, w32e (by have := Int.emod_nonneg (h 295 5) (by omega : m ≠ 0); omega) (by have := Int.emod_lt_of_pos (h 295 5) hm; omega)]
  exact k
end REF
