section YEAR3
variable {d D : Nat} {h : am_H} {Q : Int → am_H → Prop} {tx : Nat → List Cl} {t : List Cl} {α : Int → Int}
/-- what happens may change of the reference -/
def fN7 (h g : am_H) : Prop := (∀ b : Int, b < 294 ∨ (296 ≤ b ∧ b ≤ 298) → g b = h b) ∧ ∀ j : Int, j = 4 ∨ j = 5 ∨ j = 6 ∨ j = 50 → g 294 j = h 294 j
theorem fN7_refl : fN7 h h := ⟨fun _ _ => rfl, fun _ _ => rfl⟩
theorem fN7_trans {g g2 : am_H} (a : fN7 h g) (b : fN7 g g2) : fN7 h g2 := ⟨fun c q => (b.1 c q).trans (a.1 c q), fun j q => (b.2 j q).trans (a.2 j q)⟩
theorem fN7_row {β : Int → Int} : fN7 h (am_row h 295 β) := ⟨fun b q => row_ne (by omega), fun j _ => by rw [row_ne (by omega)]⟩
theorem fN7_P {g : am_H} (f : fP2 h g) : fN7 h g := ⟨fun b q => f.1 b (by omega) (by omega) (by omega), fun j q => f.2 j (by omega) (by omega) (by omega)⟩
theorem fN7_M {g : am_H} (f : fMN h g) : fN7 h g := ⟨fun b q => f.1 b q, fun j q => f.2.2 j (by omega)⟩
theorem c_X7_happens {x : Int} (hx : 0 ≤ x ∧ x ≤ 40000) (e295 : h 295 = α) (ha : oka α) (hw : ¬ h 294 50 = 0) (r0 : rul7 h tx (α 1)) (k : ∀ g, fN7 h g → g 295 = hap tx x α → Q 0 g) : cf (D + 9) M_X7_happens [.inr (.inr 294), .inl (x)] h Q := by
  have o := ha.2.2.2.2.1
  have o2 := okm_iff.mp o
  have t6 := tm_n (x := x) (n := 6) hx (by omega)
  have t4 := tm_n (x := x) (n := 4) hx (by omega)
  have t256 := tm_n (x := x) (n := 256) hx (by omega)
  have d0 : 0 ≤ x / 6 ∧ x / 6 ≤ 40000 := by omega
  have t40 := tm_n (x := x / 6) (n := 40) d0 (by omega)
  have t41 := tm_n (x := x / 6) (n := 41) d0 (by omega)
  have m0 := Int.emod_nonneg (x) (show (6 : Int) ≠ 0 by decide)
  have same : hap tx x α = α → Q 0 h := fun e => k h fN7_refl (by rw [e]; exact e295)
  refine cf_of pX7 (Nat.le_of_ble_eq_true rfl) rfl (fun _ => B_X7_happens_0 ?_)
  rw [t6.1, t6.2, t4.1, t256.1, t40.1, t41.1, e295]
  refine ⟨fun n => ?_, fun n0 => ?_, fun n1 => ⟨fun q => ?_, fun q => ?_⟩, fun n2 => ⟨fun q => ?_, fun q => ?_⟩⟩
  · have a0 : ¬ x % 6 = 0 := by omega
    have a1 : ¬ x % 6 = 1 := by omega
    have a2 : ¬ x % 6 = 2 := by omega
    refine ⟨fun q => same (by unfold hap; rw [if_neg a0, if_neg a1, if_neg a2, if_neg (by omega)]), fun q => ?_⟩
    refine c_X7_pass (d := D + 3) (w := true) (tx := tx) (α := α) e295 ⟨fun _ => hw, fun _ => rfl⟩ o q r0 (fun g f e _ => ?_)
    rw [pdW_t] at e
    exact k g (fN7_P f) (by rw [e]; unfold hap; rw [if_neg a0, if_neg a1, if_neg a2, if_pos q])
  · have b1 := Int.emod_nonneg (x / 6) (show (40 : Int) ≠ 0 by decide)
    have b2 := Int.emod_lt_of_pos (x / 6) (show (0 : Int) < 40 by decide)
    refine c_X7_canSet (d := D + 6) (by rw [e295]; exact o2.2.2.1) (fun c => ⟨fun y => by omega, fun _ => ?_⟩) (fun c => ⟨fun _ => same ?_, fun y => absurd rfl y⟩)
    · rw [e295] at c
      have c' := c
      obtain ⟨c0, c1, c2, c3, c4⟩ := c'
      refine c_X7_setNow (d := D + 7) hw (by rw [e295]; exact o2.2.2.2.1) (by rw [e295]; exact o2.1) ⟨b1, b2⟩ ⟨c2, c3⟩ ?_
      rw [e295]
      exact k _ fN7_row (by rw [row_at]; unfold hap; rw [if_pos n0, if_pos ⟨c0, c1, c2, c3, c4⟩]; rfl)
    · rw [e295] at c
      unfold hap
      rw [if_pos n0]
      exact if_neg c
  · exact same (by unfold hap; rw [if_neg (by omega), if_pos n1, if_neg (fun y => q y.1)])
  · refine c_X7_canSize (d := D + 7) (fun c => ⟨fun y => by omega, fun _ => ?_⟩) (fun c => ⟨fun _ => same ?_, fun y => absurd rfl y⟩)
    · rw [e295] at c
      have c' := c
      obtain ⟨c0, c1, c2⟩ := c'
      refine c_X7_sizeNow (d := D + 7) hw (by rw [e295]; exact o2.2.2.2.1) (by rw [e295]; exact o2.1) ⟨c0, c1⟩ ?_
      rw [e295]
      exact k _ fN7_row (by rw [row_at]; unfold hap; rw [if_neg (by omega), if_pos n1, if_pos ⟨q, c0, c1, c2⟩]; rfl)
    · rw [e295] at c
      unfold hap
      rw [if_neg (by omega), if_pos n1, if_neg (fun y => c y.2)]
  · exact B_X7_happens_125 ⟨fun _ => same (by unfold hap; rw [if_neg (by omega), if_neg (by omega), if_pos n2, if_neg q]), fun y => absurd rfl y⟩
  · have hp : hap tx x α = mdO tx α := by unfold hap; rw [if_neg (by omega), if_neg (by omega), if_pos n2, if_pos q]
    refine c_X7_mendNow (D := D) (tx := tx) e295 o r0 (fun e g f e2 => B_X7_happens_125 ⟨fun _ => k g (fN7_M f) (by rw [e2, hp, mdO_n e]), fun y => absurd rfl y⟩) (fun γ e g f b p => B_X7_happens_125 ⟨fun y => by have := (unl_rng (γ := γ) (β := bR α) 40 0); omega, fun _ => ?_⟩)
    have un := unl_rng (γ := γ) (β := bR α) 40 0
    have e5 : g 295 = putB α γ := by
      funext j
      by_cases z : j < 8 ∨ 48 ≤ j
      · rw [f.2.1 j z, e295, putB_ne z]
      · have := b (j - 8) (by omega) (by omega)
        rw [show 8 + (j - 8) = j by omega] at this
        rw [this]
        unfold putB
        rw [if_pos (by omega)]
    refine c_X7_write (by rw [f.2.2 50 (by omega)]; exact hw) (by rw [e5, putB_ne (by omega)]; exact o2.2.2.2.1) (by rw [e5, putB_ne (by omega)]; exact o2.1) (by omega) (by omega) (by omega) ?_
    rw [e5]
    exact k _ (fN7_trans (fN7_M f) fN7_row) (by rw [row_at, hp, mdO_s e]; rfl)
end YEAR3
