section PASS3
variable {d D : Nat} {h : am_H} {Q : Int → am_H → Prop} {tx : Nat → List Cl} {t : List Cl} {α : Int → Int} {m : Int} {w : Bool}
/-- a place rots, with a line of the book or without -/
def rotW (w : Bool) (α : Int → Int) (p b : Nat) : Int → Int := if w = true then rotA α p b else up1 α (8 + (p : Int)) (((α (8 + (p : Int))).toNat ^^^ 2 ^ b : Nat) : Int)
def pdW (w : Bool) (tx : Nat → List Cl) (α : Int → Int) : Int → Int := dayA (if 0 < α 6 then (if prB tx α = true then rotW w (xs (xs (xs α))) (α 5 % α 6).toNat (xs α 5 % 8).toNat else xs (xs (xs α))) else α)
theorem pdW_t : pdW true tx α = pd tx α := by
  unfold pdW pd rotW
  rfl
/-- a day passes over the reference's row -/
def fP2 (h g : am_H) : Prop := (∀ b : Int, b ≠ 294 → b ≠ 295 → b < 300 ∨ 304 < b → g b = h b) ∧ ∀ j : Int, j ≠ 22 → j ≠ 23 → j ≠ 51 → g 294 j = h 294 j
theorem fP2_refl : fP2 h h := ⟨fun _ _ _ _ => rfl, fun _ _ _ _ => rfl⟩
theorem fP2_trans {g g2 : am_H} (a : fP2 h g) (b : fP2 g g2) : fP2 h g2 := ⟨fun c q1 q2 q3 => (b.1 c q1 q2 q3).trans (a.1 c q1 q2 q3), fun j q1 q2 q3 => (b.2 j q1 q2 q3).trans (a.2 j q1 q2 q3)⟩
theorem fP2_P {g : am_H} (f : fP h g) : fP2 h g := ⟨fun b q1 _ q3 => f.1 b q1 q3, fun j q1 q2 _ => f.2 j q1 q2⟩
theorem fP2_row {β : Int → Int} : fP2 h (am_row h 295 β) := ⟨fun b _ q2 _ => row_ne q2, fun j _ _ _ => by rw [row_ne (by omega)]⟩
theorem fP2_51 {v : Int} : fP2 h (am_up h 294 51 v) := ⟨fun b q1 _ _ => by funext j; exact am_up_ne (by omega), fun j _ _ q3 => am_up_ne (by omega)⟩
theorem c_writeW {what v b : Int} (hw : w = true ↔ ¬ h 294 50 = 0) (h7 : 0 ≤ h 295 7 ∧ h 295 7 ≤ 25) (h4 : 0 ≤ h 295 4 ∧ h 295 4 ≤ 9999) (h1 : 0 ≤ what ∧ what ≤ 3) (h2 : 0 ≤ v ∧ v ≤ 40) (h3 : 0 ≤ b ∧ b ≤ 255) (k : Q 0 (am_row h 295 (if w = true then rw_ (h 295) what v b else h 295))) : cf d M_X7_write [.inr (.inr 294), .inl what, .inl v, .inl b] h Q := by
  by_cases c : w = true
  · rw [if_pos c] at k
    exact c_X7_write (hw.mp c) h7 h4 h1 h2 h3 k
  · rw [if_neg c, row_id] at k
    have e : h 294 50 = 0 := by
      by_cases z : h 294 50 = 0
      · exact z
      · exact absurd (hw.mpr z) c
    refine cf_of pX7 (Nat.le_of_ble_eq_true rfl) rfl (fun _ => B_X7_write_0 ⟨fun y => absurd e y, fun _ => k⟩)
/-- the ruling TEXT, as the reference finds it -/
def rul7 (h : am_H) (tx : Nat → List Cl) (ru : Int) : Prop := (-1 ≤ ru ∧ ru ≤ 3) ∧ (0 ≤ ru → rtx h ru (tx ru.toNat) ∧ okx (tx ru.toNat))
theorem rul7_congr {h2 : am_H} {ru : Int} (r : rul7 h tx ru) (e : h2 297 = h 297) : rul7 h2 tx ru := ⟨r.1, fun q => ⟨rtx_congr (r.2 q).1 e, (r.2 q).2⟩⟩
theorem c_X7_pass (e295 : h 295 = α) (hw : w = true ↔ ¬ h 294 50 = 0) (o : okm (cur α)) (h4 : α 4 < 9999) (ru : rul7 h tx (α 1)) (k : ∀ g, fP2 h g → g 295 = pdW w tx α → g 294 51 = (if prB tx α = true then am_w32 (h 294 51 + 1) else h 294 51) → Q 0 g) : cf (d + 5) M_X7_pass [.inr (.inr 294)] h Q := by
  have o2 := okm_iff.mp o
  have fin : ∀ (g : am_H) (γ : Int → Int), fP2 h g → g 295 = γ → γ 4 = α 4 → pdW w tx α = dayA γ → g 294 51 = (if prB tx α = true then am_w32 (h 294 51 + 1) else h 294 51) → wf (d + 5) M_X7_pass Q 83 [some (.inr (.inr 294)), none, none] [] g := by
    intro g γ fg eg g4 e e51
    refine B_X7_pass_83 ?_
    rw [up_row, eg, g4, w32e (by omega) (by omega)]
    refine k _ (fP2_trans fg fP2_row) ?_ (by rw [row_ne (by omega)]; exact e51)
    rw [row_at, e]
    unfold dayA
    rw [g4]
  refine cf_of pX7 (Nat.le_of_ble_eq_true rfl) rfl (fun _ => B_X7_pass_0 ?_)
  rw [e295]
  refine ⟨fun q => ?_, fun q => ?_⟩
  · have e : prB tx α = false := by unfold prB; rw [decide_eq_false (by omega)]; rfl
    exact fin h α fP2_refl e295 rfl (by unfold pdW; rw [if_neg (by omega)]) (by rw [e]; rfl)
  · have o1 := okm_xs o
    have oo2 := okm_xs o1
    have o3 := okm_xs oo2
    have b1 := Int.emod_nonneg (α 5) (show α 6 ≠ 0 by omega)
    have b2 := Int.emod_lt_of_pos (α 5) q
    have bx := Int.emod_nonneg (xs α 5) (show (8 : Int) ≠ 0 by decide)
    have by_ := Int.emod_lt_of_pos (xs α 5) (show (0 : Int) < 8 by decide)
    have x4 : xs (xs (xs α)) 4 = α 4 := by unfold xs; rw [up1_ne (by omega), up1_ne (by omega), up1_ne (by omega)]
    have x1 : xs (xs (xs α)) 1 = α 1 := by unfold xs; rw [up1_ne (by omega), up1_ne (by omega), up1_ne (by omega)]
    have x6 : xs (xs (xs α)) 6 = α 6 := by rw [xs_6, xs_6, xs_6]
    refine c_X7_drawnBy (d := d + 3) q (by omega) (by rw [e295]; exact o2.2.1) ?_
    rw [e295]
    show cf (d + 4) M_X7_drawnBy [.inr (.inr 294), .inl 8] (am_row h 295 (xs α)) _
    refine c_X7_drawnBy (d := d + 3) (by decide) (by decide) (by rw [row_at]; exact (okm_iff.mp o1).2.1) ?_
    rw [row_at, row_row]
    show cf (d + 4) M_X7_drawnBy [.inr (.inr 294), .inl 10] (am_row h 295 (xs (xs α))) _
    refine c_X7_drawnBy (d := d + 3) (by decide) (by decide) (by rw [row_at]; exact (okm_iff.mp oo2).2.1) ?_
    rw [row_at, row_row]
    show cf (d + 4) M_X7_rotsNow [.inr (.inr 294), .inl (α 5 % α 6)] (am_row h 295 (xs (xs (xs α)))) _
    refine c_X7_rotsNow (d := d) (tx := tx) (α := xs (xs (xs α))) row_at (by rw [x1]; exact ru.1) o3 (by omega) (by rw [x1]; exact (rul7_congr ru (row_ne (by omega))).2) (fun g fg => ?_)
    have eg : g 295 = xs (xs (xs α)) := by rw [fg.1 295 (by omega) (by omega), row_at]
    have fg2 : fP2 h g := fP2_trans fP2_row (fP2_P fg)
    have g51 : g 294 51 = h 294 51 := by rw [fg.2 51 (by omega) (by omega), row_ne (by omega)]
    have g50 : g 294 50 = h 294 50 := by rw [fg.2 50 (by omega) (by omega), row_ne (by omega)]
    refine ⟨fun c => ?_, fun c => ?_⟩
    · have e : prB tx α = false := by unfold prB; rw [decide_eq_false (show ¬ xs (xs α) 5 % 10 < rots tx (xs (xs (xs α))) (α 5 % α 6) from fun y => absurd y (by have c2 : rots tx (xs (xs (xs α))) (α 5 % α 6) ≤ xs (xs α) 5 % 10 := c; omega)), Bool.and_false]
      exact fin g _ fg2 eg x4 (by unfold pdW; rw [if_pos q, e, if_neg (by decide)]) (by rw [e, g51]; rfl)
    · have e : prB tx α = true := by unfold prB; rw [decide_eq_true (show xs (xs α) 5 % 10 < rots tx (xs (xs (xs α))) (α 5 % α 6) from c), decide_eq_true q]; rfl
      obtain ⟨p, hp⟩ : ∃ p : Nat, α 5 % α 6 = (p : Int) := ⟨(α 5 % α 6).toNat, by omega⟩
      obtain ⟨b, hb⟩ : ∃ b : Nat, xs α 5 % 8 = (b : Int) := ⟨(xs α 5 % 8).toNat, by omega⟩
      have ob := (okm_iff.mp o3).2.2.2.2.1 p (by omega) (by omega)
      have o37 := (okm_iff.mp o3).2.2.2.1
      have o34 := (okm_iff.mp o3).1
      rw [hp, show xs α 5 % 8 = (b : Int) from hb, w32e (z := 8 + (p : Int)) (by omega) (by omega), eg, g51]
      have xb := xor_bit (x := (xs (xs (xs α)) (8 + (p : Int))).toNat) (k := b) (by omega) (by omega)
      rw [show (((xs (xs (xs α)) (8 + (p : Int))).toNat : Nat) : Int) = xs (xs (xs α)) (8 + (p : Int)) by omega] at xb
      rw [show am_ixor (xs (xs (xs α)) (8 + (p : Int))) (am_ishl 1 (b : Int)) = (((xs (xs (xs α)) (8 + (p : Int))).toNat ^^^ 2 ^ b : Nat) : Int) from xb.1]
      generalize hv : (xs (xs (xs α)) (8 + (p : Int))).toNat ^^^ 2 ^ b = v at xb ⊢
      have vb := xb.2
      rw [up_row (h := g) (a := 295), eg]
      generalize hu : am_up (am_row g 295 (up1 (xs (xs (xs α))) (8 + (p : Int)) (v : Int))) 294 51 (am_w32 (h 294 51 + 1)) = u
      have u295 : u 295 = up1 (xs (xs (xs α))) (8 + (p : Int)) (v : Int) := by
        rw [← hu]
        funext j
        rw [am_up_ne (by omega), row_at]
      have u51 : u 294 51 = am_w32 (h 294 51 + 1) := by rw [← hu, am_up_at]
      have u50 : u 294 50 = h 294 50 := by rw [← hu, am_up_ne (by omega), row_ne (by omega)]; exact g50
      have fu : fP2 h u := by
        rw [← hu]
        exact fP2_trans (fP2_trans fg2 fP2_row) fP2_51
      refine ⟨by omega, by omega, c_writeW (w := w) (by rw [u50]; exact hw) (by rw [u295, up1_ne (by omega)]; exact o37) (by rw [u295, up1_ne (by omega)]; exact o34) (by omega) (by omega) (by omega) ?_⟩
      rw [u295]
      have er : (if w = true then rw_ (up1 (xs (xs (xs α))) (8 + (p : Int)) (v : Int)) 3 (p : Int) (v : Int) else up1 (xs (xs (xs α))) (8 + (p : Int)) (v : Int)) = rotW w (xs (xs (xs α))) p b := by
        unfold rotW rotA
        rw [hv]
      rw [er]
      refine fin _ _ (fP2_trans fu fP2_row) row_at ?_ (by unfold pdW; rw [if_pos q, e, if_pos rfl, hp, hb, Int.toNat_natCast, Int.toNat_natCast]) (by rw [row_ne (by omega), e, if_pos rfl]; exact u51)
      unfold rotW
      split
      · rw [rotA_lo o37 (by omega) (by omega) (by omega)]; exact x4
      · rw [up1_ne (by omega)]; exact x4
end PASS3
