section YEAR5
variable {d D : Nat} {h : am_H} {Q : Int → am_H → Prop} {tx : Nat → List Cl} {t : List Cl} {α : Int → Int}
theorem l_X7_years {n0 : Nat} (n40 : n0 ≤ 40) (hw : ¬ h 294 50 = 0) (r0 : rul7 h tx (α 1)) (k : ∀ g, fN7 h g → g 295 = yrN tx n0 α → Q (yrN tx n0 α 4) g) : ∀ (n i : Nat) (β : Int → Int) (g : am_H), i + n = n0 → fN7 h g → g 295 = β → oka β → β 1 = α 1 → yrN tx n0 α = yrN tx n β → wf (D + 10) M_X7_years Q 42 [some (.inr (.inr 294)), none, some (.inl (n0 : Int)), some (.inl (i : Int)), none] [] g
  | 0, i, β, g, hn, fg, r, hb, b1, e => by
    have kk := k g fg (by rw [e]; exact r)
    have e4 : yrN tx n0 α = β := e
    rw [e4] at kk
    refine B_X7_years_42 ?_
    rw [r]
    exact ⟨fun _ => kk, fun q => by omega⟩
  | n + 1, i, β, g, hn, fg, r, hb, b1, e => by
    have x5 := (okm_iff.mp hb.2.2.2.2.1).2.1
    have l8 : yrN tx (n + 1) β = yrN tx n (hap tx (β 5) (xs β)) := rfl
    rw [l8] at e
    have z := yrS_ok (tx := tx) hb
    refine B_X7_years_42 ⟨fun q => by omega, fun _ => c_X7_anew (d := D + 9) (by rw [r]; exact x5) ?_⟩
    rw [r]
    have f3 : fN7 h (am_row g 295 (up1 β 5 ((β 5 * 743 + 607) % 31079))) := fN7_trans fg fN7_row
    refine c_X7_happens (D := D) (tx := tx) (α := xs β) x5 row_at (oka_xs hb) (by rw [f3.2 50 (by omega)]; exact hw) (by rw [xs_1, b1]; exact rul7_congr r0 (f3.1 297 (by omega))) (fun g5 f5 e5 => ?_)
    rw [w32e (by omega) (by omega), show (i : Int) + 1 = ((i + 1 : Nat) : Int) by omega]
    exact l_X7_years n40 hw r0 k n (i + 1) _ g5 (by omega) (fN7_trans f3 f5) e5 z.1 (by rw [z.2 1 (by omega)]; exact b1) e
theorem c_X7_years {x n : Int} (I : INV7 h tx) (k1 : cyrs x n → ∀ g, fN7 h g → g 295 = yrN tx n.toNat (x0S (h 295) x) → Q (yrN tx n.toNat (x0S (h 295) x) 4) g) (k0 : ¬ cyrs x n → Q (-1) h) : cf (D + 10) M_X7_years [.inr (.inr 294), .inl x, .inl n] h Q := by
  have ha := I.1
  unfold cyrs at k1 k0
  refine cf_of pX7 (Nat.le_of_ble_eq_true rfl) rfl (fun _ => B_X7_years_0 (c_X7_isIn (fun a b => ⟨fun q => by omega, fun _ => c_X7_isIn (fun a2 b2 => ⟨fun _ => ?_, fun q => by omega⟩) (fun a2 => ⟨fun q => absurd rfl q, fun _ => k0 (by omega)⟩)⟩) (fun a => ⟨fun _ => k0 (by omega), fun q => absurd rfl q⟩)))
  obtain ⟨n0, hn⟩ : ∃ n0 : Nat, n = (n0 : Int) := ⟨n.toNat, by omega⟩
  subst hn
  rw [Int.toNat_natCast] at k1
  refine c_X7_keep (d := D + 9) ha.2.2.1 ?_
  rw [w32e (z := x * 2) (by omega) (by omega), w32e (z := x * 2 + 479) (by omega) (by omega), up_row2]
  have f3 : fN7 h (am_row h 295 (up1 (rk_ (h 295)) 5 (x * 2 + 479))) := fN7_row
  have x1 : x0S (h 295) x 1 = h 295 1 := x0_lo ha (by omega)
  refine l_X7_years (h := am_row h 295 (up1 (rk_ (h 295)) 5 (x * 2 + 479))) (α := x0S (h 295) x) (by omega) (by rw [f3.2 50 (by omega)]; exact I.2.1) (by rw [x1]; exact rul7_congr (INV7_rul I) (f3.1 297 (by omega))) (fun g f e => k1 (by omega) g (fN7_trans f3 f) e) n0 0 _ _ (by omega) fN7_refl row_at (oka_x0 ha (by omega)) rfl rfl
end YEAR5
