section YEAR
variable {d D : Nat} {h : am_H} {Q : Int → am_H → Prop} {tx : Nat → List Cl} {t : List Cl} {α : Int → Int}
def ptS (α : Int → Int) (p v : Int) : Int → Int := rw_ (up1 α (8 + p) v) 0 p v
def szS (α : Int → Int) (n : Int) : Int → Int := rw_ (fl1 (up1 α 6 n) 8 n 40 0) 1 n 0
theorem oka_7 (ha : oka α) : 0 ≤ α 7 ∧ α 7 ≤ 25 := (okm_iff.mp ha.2.2.2.2.1).2.2.2.1
theorem cur_ptS {p v j : Int} (ha : oka α) (hp : 0 ≤ p ∧ p < 40) (j0 : 0 ≤ j) (j1 : j < 69) : cur (ptS α p v) j = mw (up1 (cur α) (4 + p) v) 0 p v j := by
  unfold ptS
  rw [cur_rw (by rw [up1_ne (by omega)]; exact oka_7 ha) j0 j1]
  exact mw_congr (fun i i0 => cur_up8 hp i0) (by rw [up1_ne (by omega)]; exact ha.2.2.2.2.1.2.2.2.1.1) j0
theorem cur_szS {n j : Int} (ha : oka α) (hn : 0 ≤ n ∧ n ≤ 40) (j0 : 0 ≤ j) (j1 : j < 69) : cur (szS α n) j = mw (mz (cur α) n) 1 n 0 j := by
  unfold szS
  rw [cur_rw (by rw [fl_lo (by omega) (by omega) hn.1]; exact oka_7 ha) j0 j1]
  refine mw_congr (fun i i0 => cur_fl hn i0) ?_ j0
  unfold mz
  rw [if_neg (by omega), if_neg (by omega)]
  exact ha.2.2.2.2.1.2.2.2.1.1
theorem ptS_lo {p v j : Int} (ha : oka α) (hp : 0 ≤ p ∧ p < 40) (hj : (0 ≤ j ∧ j < 4) ∨ j = 4 ∨ (48 ≤ j ∧ j < 2134)) : ptS α p v j = α j := by
  unfold ptS
  rw [rw_lo (by rw [up1_ne (by omega)]; exact oka_7 ha) (by omega) (by omega), up1_ne (by omega)]
theorem szS_lo {n j : Int} (ha : oka α) (hn : 0 ≤ n ∧ n ≤ 40) (hj : (0 ≤ j ∧ j < 4) ∨ j = 4 ∨ (48 ≤ j ∧ j < 2134)) : szS α n j = α j := by
  unfold szS
  rw [rw_lo (by rw [fl_lo (by omega) (by omega) hn.1]; exact oka_7 ha) (by omega) (by omega), fl_lo (by omega) (by omega) hn.1]
theorem oka_ptS {p v : Int} (ha : oka α) (c : cset α p v) : oka (ptS α p v) := by
  obtain ⟨c0, c1, c2, c3, _⟩ := c
  have o6 := ok6 ha
  refine oka_now ha (okm_eq (okm_mw (what := 0) (v := p) (b := v) (okm_byte ha.2.2.2.2.1 (by rw [cur_2]; exact ⟨c0, c1⟩) ⟨c2, c3⟩)) (fun j j0 j1 => cur_ptS ha (by omega) j0 (by omega))) (fun j hj => ptS_lo ha (by omega) (by omega))
theorem oka_szS {n : Int} (ha : oka α) (c : csize α n) : oka (szS α n) := by
  obtain ⟨c0, c1, _⟩ := c
  exact oka_now ha (okm_eq (okm_mw (what := 1) (v := n) (b := 0) (okm_mz ha.2.2.2.2.1 ⟨c0, c1⟩)) (fun j j0 j1 => cur_szS ha ⟨c0, c1⟩ j0 (by omega))) (fun j hj => szS_lo ha ⟨c0, c1⟩ (by omega))
/-- mended, where it can be -/
def mdO (tx : Nat → List Cl) (α : Int → Int) : Int → Int := match mndO tx α with
  | none => α
  | some γ => mdS α γ (unl γ (bR α) 0 40)
theorem mdO_n (e : mndO tx α = none) : mdO tx α = α := by unfold mdO; rw [e]
theorem mdO_s {γ : Int → Int} (e : mndO tx α = some γ) : mdO tx α = mdS α γ (unl γ (bR α) 0 40) := by unfold mdO; rw [e]
/-- what happens in a year, x being drawn -/
def hap (tx : Nat → List Cl) (x : Int) (α : Int → Int) : Int → Int :=
  if x % 6 = 0 then (if 0 ≤ x / 6 % 40 ∧ x / 6 % 40 < α 6 ∧ 0 ≤ x % 256 ∧ x % 256 ≤ 255 ∧ ¬ α (8 + x / 6 % 40) = x % 256 then ptS α (x / 6 % 40) (x % 256) else α)
  else if x % 6 = 1 then (if x % 4 = 3 ∧ (0 ≤ x / 6 % 41 ∧ x / 6 % 41 ≤ 40 ∧ ¬ x / 6 % 41 = α 6) then szS α (x / 6 % 41) else α)
  else if x % 6 = 2 then (if x % 4 = 0 then mdO tx α else α)
  else if α 4 < 9999 then pd tx α else α
theorem oka_xs (ha : oka α) : oka (xs α) := oka_now ha (okm_xs ha.2.2.2.2.1) (fun j hj => by unfold xs; exact up1_ne (by omega))
theorem tm_n {x n : Int} (hx : 0 ≤ x ∧ x ≤ 40000) (hn : 0 < n ∧ n ≤ 1000) : am_w32 (x.tmod n) = x % n ∧ am_w32 (x.tdiv n) = x / n := by
  have a := Int.emod_nonneg x (show n ≠ 0 by omega)
  have b := Int.emod_lt_of_pos x hn.1
  have c := Int.ediv_nonneg hx.1 (show 0 ≤ n by omega)
  have e := Int.ediv_le_self n hx.1
  rw [Int.tmod_eq_emod_of_nonneg hx.1, Int.tdiv_eq_ediv_of_nonneg hx.1]
  exact ⟨w32e (by omega) (by omega), w32e (by omega) (by omega)⟩
end YEAR
