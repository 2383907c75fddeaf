section PLAYED
variable {d D : Nat} {h : am_H} {Q : Int → am_H → Prop} {tx : Nat → List Cl} {t : List Cl} {α : Int → Int}
/-- days pass, as many as there are -/
theorem l_arePassedM {n0 m0 : Nat} (k : ∀ g, fP2 h g → g 295 = dayN tx m0 α → Q (if m0 = n0 then 1 else 0) g) (hw : ¬ h 294 50 = 0) (r0 : rul7 h tx (α 1)) (n60 : n0 ≤ 60) (le : m0 ≤ n0) (full : m0 < n0 → α 4 + m0 = 9999) :
    ∀ (n i : Nat) (β : Int → Int) (g : am_H), i + n = m0 → fP2 h g → g 295 = β → oka β → β 4 + n ≤ 9999 → β 4 + n = α 4 + m0 → β 1 = α 1 → dayN tx m0 α = dayN tx n β → wf (d + 6) M_X7_arePassed Q 7 [some (.inr (.inr 294)), some (.inl (n0 : Int)), some (.inl (i : Int))] [] g
  | 0, i, β, g, hn, fg, r, hb, b4, b5, b1, e => by
    have kk := k g fg (by rw [e]; exact r)
    refine B_X7_arePassed_7 ⟨fun q => ?_, fun q => ?_⟩
    · rw [if_pos (by omega)] at kk; exact kk
    · rw [if_neg (by omega)] at kk
      rw [r]
      have f := full (by omega)
      exact ⟨fun y => absurd (show β 4 = 9999 by omega) y, fun _ => kk⟩
  | n + 1, i, β, g, hn, fg, r, hb, b4, b5, b1, e => by
    have rm := rk_m hb
    simp only [dayN] at e
    refine B_X7_arePassed_7 ⟨fun q => by omega, fun _ => ?_⟩
    rw [r]
    refine ⟨fun _ => c_X7_keep (d := d + 5) (by rw [r]; exact hb.2.2.1) ?_, fun q => by omega⟩
    rw [r]
    have f3 : fP2 h (am_row g 295 (rk_ β)) := fP2_trans fg fP2_row
    refine c_X7_pass (d := d) (w := true) (tx := tx) (α := rk_ β) row_at ⟨fun _ => by rw [row_ne (by omega), fg.2 50 (by omega) (by omega) (by omega)]; exact hw, fun _ => rfl⟩ rm.1 (by omega) (by rw [rm.2.2.2.1, b1]; exact rul7_congr r0 (f3.1 297 (by omega) (by omega) (by omega))) (fun g5 f5 e5 _ => ?_)
    have so := dayS_ok (tx := tx) hb (by omega)
    rw [pdW_t] at e5
    rw [w32e (by omega) (by omega), show (i : Int) + 1 = ((i + 1 : Nat) : Int) by omega]
    exact l_arePassedM k hw r0 n60 le full n (i + 1) (dayS tx β) g5 (by omega) (fP2_trans f3 f5) e5 so.1 (by omega) (by omega) (by rw [so.2.2.2.1]; exact b1) e
/-- how many days there are -/
def mday (α : Int → Int) (n : Int) : Nat := (min n (9999 - α 4)).toNat
theorem c_arePassedM {n : Nat} (I : INV7 h tx) (n60 : n ≤ 60) (k : ∀ g, fP2 h g → g 295 = dayN tx (mday (h 295) n) (h 295) → Q (if mday (h 295) n = n then 1 else 0) g) : cf (d + 6) M_X7_arePassed [.inr (.inr 294), .inl (n : Int)] h Q := by
  have o4 := (okm_iff.mp I.1.2.2.2.2.1).1
  refine cf_of pX7 (Nat.le_of_ble_eq_true rfl) rfl (fun _ => B_X7_arePassed_0 ?_)
  have e295 : am_up h 294 51 0 295 = h 295 := by funext j; exact am_up_ne (by omega)
  refine l_arePassedM (h := h) k I.2.1 (INV7_rul I) n60 (by unfold mday; omega) (fun q => by unfold mday at q ⊢; omega) (mday (h 295) n) 0 (h 295) _ (by omega) fP2_51 e295 I.1 (by unfold mday; omega) rfl rfl rfl
/-- a CLAUSE is played: whether it could be, what it leaves -/
def actB (tx : Nat → List Cl) (α : Int → Int) (c : Cl) : Bool :=
  if c.1 = 5 then decide (0 ≤ c.2.1 ∧ c.2.1 < α 6 ∧ 0 ≤ c.2.2.1 ∧ c.2.2.1 ≤ 255 ∧ ¬ α (8 + c.2.1) = c.2.2.1)
  else if c.1 = 6 then decide (0 ≤ c.2.1 ∧ c.2.1 ≤ 40 ∧ ¬ c.2.1 = α 6)
  else if c.1 = 7 then (mndO tx α).isSome
  else if c.1 = 8 then decide ((mday α c.2.1 : Int) = c.2.1)
  else true
def mdK (tx : Nat → List Cl) (α : Int → Int) : Int → Int := match mndO tx α with
  | none => α
  | some γ => mdS (rk_ α) γ (unl γ (bR α) 0 40)
def actS (tx : Nat → List Cl) (α : Int → Int) (c : Cl) : Int → Int :=
  if c.1 = 5 then (if actB tx α c = true then s_set α c.2.1 c.2.2.1 else α)
  else if c.1 = 6 then (if actB tx α c = true then s_size α c.2.1 else α)
  else if c.1 = 7 then mdK tx α
  else if c.1 = 8 then dayN tx (mday α c.2.1) α
  else α
/-- a TEXT is played: at which CLAUSE it ends, what it leaves -/
def plyI (tx : Nat → List Cl) : List Cl → Int → (Int → Int) → Int
  | [], _, _ => -1
  | c :: r, k, α => if actB tx α c = true then plyI tx r (k + 1) (actS tx α c) else k
def plyS (tx : Nat → List Cl) : List Cl → (Int → Int) → Int → Int
  | [], α => α
  | c :: r, α => if actB tx α c = true then plyS tx r (actS tx α c) else actS tx α c
end PLAYED
