section PAIRS2
variable {d D : Nat} {h : am_H} {K : Int → Int → am_H → Prop} {tx : Nat → List Cl}
theorem INV_sok (I : INV h tx) : sok (h 295) := I.2.2.2.2.2.2.2.2.1.2.1
theorem p_day {n : Int} (I : INV h tx) (k : ∀ g r, INV g tx → K r r g) : cf (D + 14) M_X6_day [.inr (.inr 1), .inl n] h (fun r6 g6 => cf (D + 14) M_X7_day [.inr (.inr 294), .inl n] g6 (fun r7 g7 => K r6 r7 g7)) := by
  refine c_X6_day (d := D + 7) I (fun c g f r => ?_) (fun c => c_X7_day (d := D + 7) (INV_7 I) (fun c2 => absurd c2 c) (fun _ => k h _ I))
  have e295 : g 295 = h 295 := f.1 295 (by omega)
  refine c_X7_day (d := D + 7) (INV7_congr (INV_7 I) e295 (f.1 297 (by omega)) (by rw [f.1 294 (by omega)])) (fun c2 g2 f2 e => ?_) (fun c2 => absurd (by rw [e295]; exact c) c2)
  rw [e295] at e ⊢
  have cc := c
  unfold cday at cc
  have z := dayN_ok (tx := tx) n.toNat (h 295) I.2.1 (by omega)
  exact k g2 _ (INV_both I (fE2_D f) r z.1 (fN7_P f2) e z.2.2.1 (sok_of (INV_sok I) I.2.1 z.2.2.2.2.1 z.2.2.2.2.2))
theorem p_mend (I : INV h tx) (k : ∀ g r, INV g tx → K r r g) : cf (D + 14) M_X6_mend [.inr (.inr 1)] h (fun r6 g6 => cf (D + 14) M_X7_mend [.inr (.inr 294)] g6 (fun r7 g7 => K r6 r7 g7)) := by
  have h7 := I.2.2.2.2.2.2.1
  refine c_mendW (D := D + 1) (tx := tx) I.1 I.2.1 (INV_rul I) h7.1 h7.2 (fun en g f => ?_) (fun γ es g f r => ?_)
  · have e295 : g 295 = h 295 := f.1 295 (by omega)
    refine c_X7_mend (D := D + 5) (tx := tx) (INV7_congr (INV_7 I) e295 (f.1 297 (by omega)) (by rw [f.1 294 (by omega)])) (fun e g2 f2 e2 => ?_) (fun γ e => by rw [e295, en] at e; cases e)
    rw [e295] at e2
    exact k g2 _ (INV_both I (fE2_M f) (srep_fr I.1 (fun b q1 q2 => f.1 b (by omega))) I.2.1 (fN7_M f2) e2 rfl (INV_sok I))
  · have e295 : g 295 = h 295 := f.1 295 (by omega)
    refine c_X7_mend (D := D + 5) (tx := tx) (INV7_congr (INV_7 I) e295 (f.1 297 (by omega)) (by rw [f.1 294 (by omega)])) (fun e => by rw [e295, es] at e; cases e) (fun γ2 e g2 f1 f2 e2 => ?_)
    rw [e295, es] at e
    have eg : γ = γ2 := Option.some.inj e
    subst eg
    rw [e295] at e2 ⊢
    have z := mdK_ok (tx := tx) I.2.1
    have ek : mdK tx (h 295) = mdS (rk_ (h 295)) γ (unl γ (bR (h 295)) 0 40) := by unfold mdK; rw [es]
    rw [ek] at z
    exact k g2 _ (INV_both I f r z.1 ⟨f1, fun j qj => f2 j (by omega)⟩ e2 (z.2 0 (by omega)) (sok_of (INV_sok I) I.2.1 (z.2 3 (by omega)) (fun j j0 j1 => z.2 j (by omega))))
theorem p_years {x n : Int} (I : INV h tx) (k : ∀ g r, INV g tx → K r r g) : cf (D + 14) M_X6_years [.inr (.inr 1), .inl x, .inl n] h (fun r6 g6 => cf (D + 14) M_X7_years [.inr (.inr 294), .inl x, .inl n] g6 (fun r7 g7 => K r6 r7 g7)) := by
  refine c_X6_years (D := D) I (fun c g f r => ?_) (fun c => c_X7_years (D := D + 4) (INV_7 I) (fun c2 => absurd c2 c) (fun _ => k h _ I))
  have e295 : g 295 = h 295 := f.1 295 (by omega)
  refine c_X7_years (D := D + 4) (INV7_congr (INV_7 I) e295 (f.1 297 (by omega)) (by rw [f.1 294 (by omega)])) (fun c2 g2 f2 e => ?_) (fun c2 => c2 c |> False.elim)
  rw [e295] at e ⊢
  have cc := c
  unfold cyrs at cc
  have o0 := oka_x0 (x := x) I.2.1 (by omega)
  have z := yrN_ok (tx := tx) n.toNat (x0S (h 295) x) o0
  have hd : ∀ j : Int, j = 0 ∨ j = 1 ∨ j = 3 ∨ (48 ≤ j ∧ j < 64) → yrN tx n.toNat (x0S (h 295) x) j = h 295 j := fun j hj => (z.2 j (by omega)).trans (x0_lo I.2.1 hj)
  exact k g2 _ (INV_both I f r z.1 f2 e (hd 0 (by omega)) (sok_of (INV_sok I) I.2.1 (hd 3 (by omega)) (fun j j0 j1 => hd j (by omega))))
theorem p_played {u : Int} (I : INV h tx) (k : ∀ g r, INV g tx → K r r g) : cf (D + 14) M_X6_played [.inr (.inr 1), .inl u] h (fun r6 g6 => cf (D + 14) M_X7_played [.inr (.inr 294), .inl u] g6 (fun r7 g7 => K r6 r7 g7)) := by
  refine c_X6_played (D := D) I (fun c g f r => ?_) (fun c => c_X7_played (D := D + 3) (INV_7 I) (fun c2 => absurd c2 c) (fun _ => k h _ I))
  have e295 : g 295 = h 295 := f.1 295 (by omega)
  refine c_X7_played (D := D + 3) (INV7_congr (INV_7 I) e295 (f.1 297 (by omega)) (by rw [f.1 294 (by omega)])) (fun c2 g2 f2 e => ?_) (fun c2 => absurd (by rw [e295]; exact c) c2)
  rw [e295] at e ⊢
  have z := plyS_ok (tx := tx) (tx u.toNat) (h 295) I.2.1
  exact k g2 _ (INV_both I f r z.1 f2 e (z.2 0 (by omega)) (sok_of (INV_sok I) I.2.1 (z.2 3 (by omega)) (fun j j0 j1 => z.2 j (by omega))))
end PAIRS2
