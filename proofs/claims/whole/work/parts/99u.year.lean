section YEAR4
variable {d D : Nat} {h : am_H} {Q : Int → am_H → Prop} {tx : Nat → List Cl} {t : List Cl} {α : Int → Int}
theorem hap_ok {x : Int} (hx : 0 ≤ x ∧ x ≤ 40000) (ha : oka α) : oka (hap tx x α) ∧ ∀ j : Int, (0 ≤ j ∧ j < 4) ∨ (48 ≤ j ∧ j < 2134) → hap tx x α j = α j := by
  have o := ha.2.2.2.2.1
  have b1 := Int.emod_nonneg (x / 6) (show (40 : Int) ≠ 0 by decide)
  have b2 := Int.emod_lt_of_pos (x / 6) (show (0 : Int) < 40 by decide)
  unfold hap
  split
  · split
    · rename_i c
      exact ⟨oka_ptS ha c, fun j hj => ptS_lo ha ⟨b1, b2⟩ (by omega)⟩
    · exact ⟨ha, fun _ _ => rfl⟩
  · split
    · split
      · rename_i c
        exact ⟨oka_szS ha c.2, fun j hj => szS_lo ha ⟨c.2.1, c.2.2.1⟩ (by omega)⟩
      · exact ⟨ha, fun _ _ => rfl⟩
    · split
      · split
        · cases e : mndO tx α with
          | none => rw [mdO_n e]; exact ⟨ha, fun _ _ => rfl⟩
          | some γ =>
            rw [mdO_s e]
            have lo : ∀ j : Int, (0 ≤ j ∧ j < 4) ∨ (48 ≤ j ∧ j < 2134) → mdS α γ (unl γ (bR α) 0 40) j = α j := fun j hj => mdS_lo o (by omega)
            exact ⟨oka_now ha (okm_mdS o (mndO_ok o e)) lo, lo⟩
        · exact ⟨ha, fun _ _ => rfl⟩
      · split
        · rename_i c
          have lo : ∀ j : Int, (0 ≤ j ∧ j < 4) ∨ (48 ≤ j ∧ j < 2134) → pd tx α j = α j := fun j hj => pd_lo o (by omega)
          exact ⟨oka_now ha (okm_pd o c) lo, lo⟩
        · exact ⟨ha, fun _ _ => rfl⟩
def yrN (tx : Nat → List Cl) : Nat → (Int → Int) → Int → Int
  | 0, α => α
  | n + 1, α => yrN tx n (hap tx (α 5) (xs α))
theorem yrS_ok (ha : oka α) : oka (hap tx (α 5) (xs α)) ∧ ∀ j : Int, (0 ≤ j ∧ j < 4) ∨ (48 ≤ j ∧ j < 2134) → hap tx (α 5) (xs α) j = α j := by
  have z := hap_ok (tx := tx) (okm_iff.mp ha.2.2.2.2.1).2.1 (oka_xs ha)
  exact ⟨z.1, fun j hj => by rw [z.2 j hj]; unfold xs; exact up1_ne (by omega)⟩
def x0S (α : Int → Int) (x : Int) : Int → Int := up1 (rk_ α) 5 (x * 2 + 479)
theorem oka_x0 {x : Int} (ha : oka α) (hx : 0 ≤ x ∧ x ≤ 9999) : oka (x0S α x) := oka_now (oka_rk ha) (okm_x (rk_m ha).1 (by omega)) (fun j hj => up1_ne (by omega))
theorem x0_lo {x j : Int} (ha : oka α) (hj : j = 0 ∨ j = 1 ∨ j = 3 ∨ (48 ≤ j ∧ j < 64)) : x0S α x j = α j := by
  unfold x0S
  rw [up1_ne (by omega)]
  exact rk_lo ha.2.2.1 (by omega)
theorem yrN_ok : ∀ (n : Nat) (α : Int → Int), oka α → oka (yrN tx n α) ∧ ∀ j : Int, (0 ≤ j ∧ j < 4) ∨ (48 ≤ j ∧ j < 2134) → yrN tx n α j = α j
  | 0, α, ha => ⟨ha, fun _ _ => rfl⟩
  | n + 1, α, ha => by
    have z := yrS_ok (tx := tx) ha
    have i := yrN_ok n _ z.1
    exact ⟨i.1, fun j hj => (i.2 j hj).trans (z.2 j hj)⟩
theorem srep_x {v : Int} (r : srep h 4 α) (ha : oka α) (e : ∀ j : Int, (0 ≤ j ∧ j < 4) ∨ (48 ≤ j ∧ j < 2134) → up1 α 5 v j = α j) : srep (am_up h 5 5 v) 4 (up1 α 5 v) :=
  srep_now r ha (fr3_up (m := 5) (a := 5) (i := 5) (v := v) (h := h) (Or.inl rfl)) (mrep_up5 k_5 r.1 ha.2.2.2.2.1) e
theorem l_X6_years {n0 : Nat} (n40 : n0 ≤ 40) (h9 : h 218 9 = 0) (oP : okP h) (ru : rul h tx (α 1)) (e0 : h 4 4 = α 0) (k : ∀ g, fE2 h g → srep g 4 (yrN tx n0 α) → Q (yrN tx n0 α 4) g) : ∀ (n i : Nat) (β : Int → Int) (g : am_H), i + n = n0 → fE2 h g → srep g 4 β → oka β → β 0 = α 0 → β 1 = α 1 → yrN tx n0 α = yrN tx n β → wf (D + 14) M_X6_years Q 53 [some (.inr (.inr 1)), none, some (.inl (n0 : Int)), some (.inr (.inr 5)), some (.inl (i : Int)), none] [] g
  | 0, i, β, g, hn, fg, r, hb, b0, b1, e => by
    have kk := k g fg (by rw [e]; exact r)
    have e4 : yrN tx n0 α = β := e
    rw [e4] at kk
    refine B_X6_years_53 ?_
    rw [s_4 r]
    exact ⟨fun _ => kk, fun q => by omega⟩
  | n + 1, i, β, g, hn, fg, r, hb, b0, b1, e => by
    have x5 := (okm_iff.mp hb.2.2.2.2.1).2.1
    have l8 : yrN tx (n + 1) β = yrN tx n (hap tx (β 5) (xs β)) := rfl
    rw [l8] at e
    have z := yrS_ok (tx := tx) hb
    refine B_X6_years_53 ⟨fun q => by omega, fun _ => c_X0_drawAnew (d := D + 13) k_5 (by rw [s_5 r]; exact x5) ?_⟩
    rw [s_5 r]
    have r3 : srep (am_up g 5 5 ((β 5 * 743 + 607) % 31079)) 4 (xs β) := srep_x r hb (fun j hj => up1_ne (by omega))
    have f3 : fE2 h (am_up g 5 5 ((β 5 * 743 + 607) % 31079)) := fE2_trans fg (fE2_3 (fr3_up (Or.inl rfl)))
    generalize am_up g 5 5 ((β 5 * 743 + 607) % 31079) = g3 at r3 f3 ⊢
    have xl : xs β 1 = β 1 ∧ xs β 0 = β 0 := ⟨xs_1, by unfold xs; exact up1_ne (by omega)⟩
    refine c_X6_passYear (D := D) (tx := tx) (α := xs β) x5 r3 (oka_xs hb) ?_ (by rw [f3.2.1]; exact h9) (f3.2.2 oP) (fun g5 f5 r5 => ?_)
    · rw [xl.1, b1]
      refine rul_fE f3 ru ?_ ?_
      · rw [r3.2.2.2.2.2.1, ru.1, xl.1, b1]
      · rw [r3.2.2.2.2.1, e0, xl.2, b0]
    · rw [w32e (by omega) (by omega), show (i : Int) + 1 = ((i + 1 : Nat) : Int) by omega]
      exact l_X6_years n40 h9 oP ru e0 k n (i + 1) _ g5 (by omega) (fE2_trans f3 f5) r5 z.1 (by rw [z.2 0 (by omega)]; exact b0) (by rw [z.2 1 (by omega)]; exact b1) e
def cyrs (x n : Int) : Prop := (0 ≤ x ∧ x ≤ 9999) ∧ 1 ≤ n ∧ n ≤ 40
theorem c_X6_years {x n : Int} (I : INV h tx) (k1 : cyrs x n → ∀ g, fE2 h g → srep g 4 (yrN tx n.toNat (x0S (h 295) x)) → Q (yrN tx n.toNat (x0S (h 295) x) 4) g) (k0 : ¬ cyrs x n → Q (-1) h) : cf (D + 14) M_X6_years [.inr (.inr 1), .inl x, .inl n] h Q := by
  have ha := I.2.1
  have h7 := I.2.2.2.2.2.2.1
  unfold cyrs at k1 k0
  refine cf_of pX6 (Nat.le_of_ble_eq_true rfl) rfl (fun _ => B_X6_years_0 ⟨fun q => k0 (by omega), fun q => ⟨fun q2 => k0 (by omega), fun q2 => ⟨fun q3 => k0 (by omega), fun q3 => ⟨fun q4 => ?_, fun q4 => k0 (by omega)⟩⟩⟩⟩)
  obtain ⟨n0, hn⟩ : ∃ n0 : Nat, n = (n0 : Int) := ⟨n.toNat, by omega⟩
  subst hn
  rw [Int.toNat_natCast] at k1
  refine c_X4_keepStep (d := D + 11) (Or.inl rfl) I.1 ha (fun g f r => ?_)
  rw [w32e (z := x * 2) (by omega) (by omega), w32e (z := x * 2 + 479) (by omega) (by omega)]
  have r3 : srep (am_up g 5 5 (x * 2 + 479)) 4 (x0S (h 295) x) := srep_x r (oka_rk ha) (fun j hj => up1_ne (by omega))
  have f3 : fE2 h (am_up g 5 5 (x * 2 + 479)) := fE2_trans (fE2_D (fD_S f)) (fE2_3 (fr3_up (Or.inl rfl)))
  have x1 : x0S (h 295) x 1 = h 295 1 := x0_lo ha (by omega)
  have x0' : x0S (h 295) x 0 = h 295 0 := x0_lo ha (by omega)
  generalize am_up g 5 5 (x * 2 + 479) = g3 at r3 f3 ⊢
  refine l_X6_years (h := g3) (α := x0S (h 295) x) (by omega) (by rw [f3.2.1]; exact h7.1) (f3.2.2 h7.2) ?_ r3.2.2.2.2.1 (fun g5 f5 r5 => k1 (by omega) g5 (fE2_trans f3 f5) r5) n0 0 _ g3 (by omega) fE2_refl r3 (oka_x0 ha (by omega)) rfl rfl rfl
  rw [x1]
  refine rul_fE f3 (INV_rul I) ?_ ?_
  · rw [r3.2.2.2.2.2.1, (INV_rul I).1, x1]
  · rw [r3.2.2.2.2.1, I.1.2.2.2.2.1, x0']
end YEAR4
