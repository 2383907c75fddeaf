section DAY7
variable {d D : Nat} {h : am_H} {Q : Int → am_H → Prop} {tx : Nat → List Cl} {t : List Cl} {α : Int → Int} {m : Int} {w : Bool}
/-- what the reference holds, for itself -/
def INV7 (h : am_H) (tx : Nat → List Cl) : Prop := oka (h 295) ∧ ¬ h 294 50 = 0 ∧ ∀ i : Nat, (i : Int) < h 295 0 → rtx h i (tx i) ∧ okx (tx i)
theorem INV_7 (I : INV h tx) : INV7 h tx := ⟨I.2.1, I.2.2.2.2.2.1, fun i hi => ⟨(I.2.2.2.2.2.2.2.2.2 i hi).2.1, (I.2.2.2.2.2.2.2.2.2 i hi).2.2⟩⟩
theorem INV7_congr {g : am_H} (I : INV7 h tx) (e295 : g 295 = h 295) (e297 : g 297 = h 297) (e50 : g 294 50 = h 294 50) : INV7 g tx := ⟨by rw [e295]; exact I.1, by rw [e50]; exact I.2.1, fun i hi => by
  rw [e295] at hi
  exact ⟨rtx_congr (I.2.2 i hi).1 e297, (I.2.2 i hi).2⟩⟩
theorem INV7_rul (I : INV7 h tx) : rul7 h tx (h 295 1) := by
  have o := I.1
  refine ⟨by have := o.2.1; have := o.1; omega, fun q => ?_⟩
  have z := I.2.2 (h 295 1).toNat (by have := o.2.1; omega)
  rw [show (((h 295 1).toNat : Nat) : Int) = h 295 1 by omega] at z
  exact z
theorem l_arePassed {n0 : Nat} (k : ∀ g, fP2 h g → g 295 = dayN tx n0 α → g 294 51 = cntN tx n0 α → Q 1 g) (hw : ¬ h 294 50 = 0) (r0 : rul7 h tx (α 1)) (h4 : α 4 + n0 ≤ 9999) (n60 : n0 ≤ 60) :
    ∀ (n i : Nat) (β : Int → Int) (g : am_H), i + n = n0 → fP2 h g → g 295 = β → oka β → β 4 + n ≤ 9999 → β 1 = α 1 → dayN tx n0 α = dayN tx n β → g 294 51 + cntN tx n β = cntN tx n0 α → 0 ≤ g 294 51 → wf (d + 6) M_X7_arePassed Q 7 [some (.inr (.inr 294)), some (.inl (n0 : Int)), some (.inl (i : Int))] [] g
  | 0, i, β, g, hn, fg, r, hb, b4, b1, e, ec, hc => by
    simp only [cntN, Int.add_zero] at ec
    exact B_X7_arePassed_7 ⟨fun _ => k g fg (by rw [e]; exact r) ec, fun q => by omega⟩
  | n + 1, i, β, g, hn, fg, r, hb, b4, b1, e, ec, hc => by
    have rm := rk_m hb
    have cr := cntN_rng (tx := tx) n0 α
    have cr2 := cntN_rng (tx := tx) n (dayS tx β)
    have c01 := bi01 (prB tx (rk_ β))
    simp only [dayN] at e
    simp only [cntN] at ec
    refine B_X7_arePassed_7 ⟨fun q => by omega, fun _ => ?_⟩
    rw [r]
    refine ⟨fun _ => c_X7_keep (d := d + 5) (by rw [r]; exact hb.2.2.1) ?_, fun q => by omega⟩
    rw [r]
    have f3 : fP2 h (am_row g 295 (rk_ β)) := fP2_trans fg fP2_row
    refine c_X7_pass (d := d) (w := true) (tx := tx) (α := rk_ β) row_at ⟨fun _ => by rw [row_ne (by omega), fg.2 50 (by omega) (by omega) (by omega)]; exact hw, fun _ => rfl⟩ rm.1 (by omega) (by rw [rm.2.2.2.1, b1]; exact rul7_congr r0 (f3.1 297 (by omega) (by omega) (by omega))) (fun g5 f5 e5 e51 => ?_)
    have so := dayS_ok (tx := tx) hb (by omega)
    rw [pdW_t] at e5
    rw [row_ne (by omega)] at e51
    have x51 : g5 294 51 = g 294 51 + bi (prB tx (rk_ β)) := by
      rw [e51]
      unfold bi
      split
      · rw [w32e (by omega) (by omega)]
      · omega
    rw [w32e (by omega) (by omega), show (i : Int) + 1 = ((i + 1 : Nat) : Int) by omega]
    exact l_arePassed k hw r0 h4 n60 n (i + 1) (dayS tx β) g5 (by omega) (fP2_trans f3 f5) e5 so.1 (by omega) (by rw [so.2.2.2.1]; exact b1) e (by omega) (by omega)
theorem c_X7_arePassed {n : Nat} (I : INV7 h tx) (h4 : h 295 4 + n ≤ 9999) (n60 : n ≤ 60) (k : ∀ g, fP2 h g → g 295 = dayN tx n (h 295) → g 294 51 = cntN tx n (h 295) → Q 1 g) : cf (d + 6) M_X7_arePassed [.inr (.inr 294), .inl (n : Int)] h Q := by
  refine cf_of pX7 (Nat.le_of_ble_eq_true rfl) rfl (fun _ => B_X7_arePassed_0 ?_)
  have e295 : am_up h 294 51 0 295 = h 295 := by funext j; exact am_up_ne (by omega)
  refine l_arePassed (h := h) k I.2.1 (INV7_rul I) h4 n60 n 0 (h 295) _ (by omega) fP2_51 e295 I.1 h4 rfl rfl (by rw [am_up_at]; omega) (by rw [am_up_at]; omega)
theorem c_X7_day {n : Int} (I : INV7 h tx) (k1 : cday (h 295) n → ∀ g, fP2 h g → g 295 = dayN tx n.toNat (h 295) → Q (cntN tx n.toNat (h 295)) g) (k0 : ¬ cday (h 295) n → Q (-1) h) : cf (d + 7) M_X7_day [.inr (.inr 294), .inl n] h Q := by
  have o4 := (okm_iff.mp I.1.2.2.2.2.1).1
  unfold cday at k1 k0
  refine cf_of pX7 (Nat.le_of_ble_eq_true rfl) rfl (fun _ => B_X7_day_0 (c_X7_isIn (fun a b => ⟨fun q => by omega, fun _ => ?_⟩) (fun a => ⟨fun _ => k0 (by omega), fun q => absurd rfl q⟩)))
  rw [w32e (by omega) (by omega)]
  refine ⟨fun q => k0 (by omega), fun q => ?_⟩
  obtain ⟨n0, hn⟩ : ∃ n0 : Nat, n = (n0 : Int) := ⟨n.toNat, by omega⟩
  subst hn
  rw [Int.toNat_natCast] at k1
  refine c_X7_arePassed (d := d) I (by omega) (by omega) (fun g f e e51 => ⟨fun q => by omega, fun _ => ?_⟩)
  rw [e51]
  exact k1 (by omega) g f e
end DAY7
