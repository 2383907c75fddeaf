section PASS
variable {d D : Nat} {h : am_H} {Q : Int → am_H → Prop} {tx : Nat → List Cl} {t : List Cl} {α : Int → Int} {m : Int}
theorem okm_iff : okm (cur α) ↔ (0 ≤ α 4 ∧ α 4 ≤ 9999) ∧ (0 ≤ α 5 ∧ α 5 ≤ 40000) ∧ (0 ≤ α 6 ∧ α 6 ≤ 40) ∧ (0 ≤ α 7 ∧ α 7 ≤ 25) ∧ (∀ i : Int, 0 ≤ i → i < 40 → 0 ≤ α (8 + i) ∧ α (8 + i) ≤ 255) ∧ ∀ i : Int, α 6 ≤ i → i < 40 → α (8 + i) = 0 := by
  unfold okm
  have e0 : cur α 0 = α 4 := cur_lo (by omega)
  have e1 : cur α 1 = α 5 := cur_lo (by omega)
  have e2 : cur α 2 = α 6 := cur_lo (by omega)
  have e3 : cur α 3 = α 7 := cur_lo (by omega)
  have e4 : ∀ i : Int, i < 40 → cur α (4 + i) = α (8 + i) := fun i hi => by rw [cur_lo (by omega), show 4 + (4 + i) = 8 + i by omega]
  rw [e0, e1, e2, e3]
  constructor
  · rintro ⟨m0, m1, m2, m3, m4, m5⟩
    exact ⟨m0, m1, m2, m3, fun i i0 i1 => by rw [← e4 i i1]; exact m4 i i0 i1, fun i i0 i1 => by rw [← e4 i i1]; exact m5 i i0 i1⟩
  · rintro ⟨m0, m1, m2, m3, m4, m5⟩
    exact ⟨m0, m1, m2, m3, fun i i0 i1 => by rw [e4 i i1]; exact m4 i i0 i1, fun i i0 i1 => by rw [e4 i i1]; exact m5 i i0 i1⟩
/-- x is drawn anew -/
def xs (α : Int → Int) : Int → Int := up1 α 5 ((α 5 * 743 + 607) % 31079)
def rotA (α : Int → Int) (p b : Nat) : Int → Int := rw_ (up1 α (8 + (p : Int)) (((α (8 + (p : Int))).toNat ^^^ 2 ^ b : Nat) : Int)) 3 p (((α (8 + (p : Int))).toNat ^^^ 2 ^ b : Nat) : Int)
def dayA (α : Int → Int) : Int → Int := up1 α 4 (α 4 + 1)
/-- whether a place rots on a day, what the day leaves -/
def prB (tx : Nat → List Cl) (α : Int → Int) : Bool := decide (0 < α 6) && decide (xs (xs α) 5 % 10 < rots tx (xs (xs (xs α))) (α 5 % α 6))
def pd (tx : Nat → List Cl) (α : Int → Int) : Int → Int := dayA (if 0 < α 6 then (if prB tx α = true then rotA (xs (xs (xs α))) (α 5 % α 6).toNat (xs α 5 % 8).toNat else xs (xs (xs α))) else α)
theorem cur_up {j v : Int} {c : Int} (hc : 4 ≤ c ∧ c < 48) (h0 : 0 ≤ j) : cur (up1 α c v) j = up1 (cur α) (c - 4) v j := by
  unfold cur mv up1
  by_cases q : j < 44
  · rw [if_pos q]
    by_cases q2 : j = c - 4
    · rw [if_pos (by omega), if_pos q2]
    · rw [if_neg (by omega), if_neg q2]
      exact (if_pos q).symm
  · rw [if_neg q, if_neg (by omega), if_neg (by omega)]
    exact (if_neg q).symm
theorem mrep_up5 {v : Int} (km : am_kd 321 m = 10) (r : mrep h m (cur α)) (o : okm (cur α)) : mrep (am_up h m 5 v) m (cur (up1 α 5 v)) := by
  obtain ⟨q0, q1, q2, q3, q4, q5⟩ := r
  have c : ∀ j, 0 ≤ j → cur (up1 α 5 v) j = up1 (cur α) 1 v j := fun j j0 => cur_up (by omega) j0
  refine ⟨?_, ?_, ?_, ?_, fun i i0 i1 => ?_, fun j j0 j1 => ?_⟩
  · rw [c 0 (by omega), up1_ne (by omega), am_up_ne (by omega)]; exact q0
  · rw [c 1 (by omega), up1_at, am_up_at]
  · rw [c 2 (by omega), up1_ne (by omega), am_up_ne (by omega)]; exact q2
  · rw [c 3 (by omega), up1_ne (by omega), am_up_ne (by omega)]; exact q3
  · rw [c _ (by omega), up1_ne (by omega), am_up_ne (by omega)]; exact q4 i i0 i1
  · rw [c 3 (by omega), up1_ne (by omega)] at j1
    rw [c _ (by omega), up1_ne (by omega), show am_up h m 5 v (m + 2) j = h (m + 2) j from am_up_ne (by omega)]; exact q5 j j0 j1
theorem mrep_up4 {v : Int} (km : am_kd 321 m = 10) (r : mrep h m (cur α)) (o : okm (cur α)) : mrep (am_up h m 4 v) m (cur (up1 α 4 v)) := by
  obtain ⟨q0, q1, q2, q3, q4, q5⟩ := r
  have c : ∀ j, 0 ≤ j → cur (up1 α 4 v) j = up1 (cur α) 0 v j := fun j j0 => cur_up (by omega) j0
  refine ⟨?_, ?_, ?_, ?_, fun i i0 i1 => ?_, fun j j0 j1 => ?_⟩
  · rw [c 0 (by omega), up1_at, am_up_at]
  · rw [c 1 (by omega), up1_ne (by omega), am_up_ne (by omega)]; exact q1
  · rw [c 2 (by omega), up1_ne (by omega), am_up_ne (by omega)]; exact q2
  · rw [c 3 (by omega), up1_ne (by omega), am_up_ne (by omega)]; exact q3
  · rw [c _ (by omega), up1_ne (by omega), am_up_ne (by omega)]; exact q4 i i0 i1
  · rw [c 3 (by omega), up1_ne (by omega)] at j1
    rw [c _ (by omega), up1_ne (by omega), show am_up h m 4 v (m + 2) j = h (m + 2) j from am_up_ne (by omega)]; exact q5 j j0 j1
theorem okm_x {v : Int} (o : okm (cur α)) (hv : 0 ≤ v ∧ v ≤ 40000) : okm (cur (up1 α 5 v)) := by
  rw [okm_iff] at o ⊢
  obtain ⟨o4, o5, o6, o7, ob, oz⟩ := o
  rw [up1_ne (by omega), up1_at, up1_ne (by omega), up1_ne (by omega)]
  exact ⟨o4, hv, o6, o7, fun i i0 i1 => by rw [up1_ne (by omega)]; exact ob i i0 i1, fun i i0 i1 => by rw [up1_ne (by omega)]; exact oz i i0 i1⟩
theorem xs_v (o : okm (cur α)) : 0 ≤ (α 5 * 743 + 607) % 31079 ∧ (α 5 * 743 + 607) % 31079 ≤ 40000 := by omega
theorem okm_xs (o : okm (cur α)) : okm (cur (xs α)) := okm_x o (xs_v o)
theorem okm_day (o : okm (cur α)) (h4 : α 4 < 9999) : okm (cur (dayA α)) := by
  unfold dayA
  rw [okm_iff] at o ⊢
  obtain ⟨o4, o5, o6, o7, ob, oz⟩ := o
  rw [up1_at, up1_ne (by omega), up1_ne (by omega), up1_ne (by omega)]
  exact ⟨by omega, o5, o6, o7, fun i i0 i1 => by rw [up1_ne (by omega)]; exact ob i i0 i1, fun i i0 i1 => by rw [up1_ne (by omega)]; exact oz i i0 i1⟩
theorem rot_v {x b : Nat} (hx : x < 256) (hb : b < 8) : x ^^^ 2 ^ b < 256 := (xor_bit hx hb).2
theorem cur_rot {p b : Nat} (o : okm (cur α)) (hp : p < 40) {j : Int} (j0 : 0 ≤ j) (j1 : j < 69) : cur (rotA α p b) j = mw (up1 (cur α) (4 + (p : Int)) (((α (8 + (p : Int))).toNat ^^^ 2 ^ b : Nat) : Int)) 3 p (((α (8 + (p : Int))).toNat ^^^ 2 ^ b : Nat) : Int) j := by
  have o2 := okm_iff.mp o
  unfold rotA
  rw [cur_rw (by rw [up1_ne (by omega)]; exact o2.2.2.2.1) j0 j1]
  exact mw_congr (fun i i0 => cur_up8 (by omega) i0) (by rw [up1_ne (by omega)]; exact o.2.2.2.1.1) j0
theorem okm_rot {p b : Nat} (o : okm (cur α)) (hp : (p : Int) < α 6) (hb : b < 8) : okm (cur (rotA α p b)) := by
  have o2 := okm_iff.mp o
  obtain ⟨o4, o5, o6, o7, ob, oz⟩ := o2
  have bp := ob p (by omega) (by omega)
  have rv := rot_v (x := (α (8 + (p : Int))).toNat) (b := b) (by omega) hb
  have e2 : cur α 2 = α 6 := cur_lo (by omega)
  refine okm_eq (okm_mw (what := 3) (v := p) (b := (((α (8 + (p : Int))).toNat ^^^ 2 ^ b : Nat) : Int)) (okm_byte (p := p) (v := (((α (8 + (p : Int))).toNat ^^^ 2 ^ b : Nat) : Int)) o (by omega) (by omega))) (fun j j0 j1 => cur_rot o (by omega) j0 (by omega))
theorem xs_6 : xs α 6 = α 6 := up1_ne (by omega)
theorem xs_1 : xs α 1 = α 1 := up1_ne (by omega)
theorem rotA_lo {p b : Nat} {j : Int} (h7 : 0 ≤ α 7 ∧ α 7 ≤ 25) (hj : j < 8 ∨ (48 ≤ j ∧ j < 2134)) (j7 : j ≠ 7) (hp : p < 40) : rotA α p b j = α j := by
  unfold rotA
  rw [rw_lo (by rw [up1_ne (by omega)]; exact h7) (by omega) j7, up1_ne (by omega)]
theorem okm_pd (o : okm (cur α)) (h4 : α 4 < 9999) : okm (cur (pd tx α)) := by
  have o3 := okm_xs (okm_xs (okm_xs o))
  have o2 := okm_iff.mp o
  have x4 : xs (xs (xs α)) 4 = α 4 := by unfold xs; rw [up1_ne (by omega), up1_ne (by omega), up1_ne (by omega)]
  unfold pd
  refine okm_day ?_ ?_
  · split
    · split
      · have b1 := Int.emod_nonneg (α 5) (show α 6 ≠ 0 by omega)
        have b2 := Int.emod_lt_of_pos (α 5) (show 0 < α 6 by omega)
        exact okm_rot o3 (by rw [xs_6, xs_6, xs_6]; omega) (by omega)
      · exact o3
    · exact o
  · split
    · split
      · have b1 := Int.emod_nonneg (α 5) (show α 6 ≠ 0 by omega)
        have b2 := Int.emod_lt_of_pos (α 5) (show 0 < α 6 by omega)
        rw [rotA_lo (okm_iff.mp o3).2.2.2.1 (by omega) (by omega) (by omega), x4]; exact h4
      · rw [x4]; exact h4
    · exact h4
/-- the head of the row stays -/
theorem pd_lo {j : Int} (o : okm (cur α)) (hj : (0 ≤ j ∧ j < 4) ∨ j = 6 ∨ (48 ≤ j ∧ j < 2134)) : pd tx α j = α j := by
  have o3 := okm_xs (okm_xs (okm_xs o))
  have xj : xs (xs (xs α)) j = α j := by unfold xs; rw [up1_ne (by omega), up1_ne (by omega), up1_ne (by omega)]
  have o2 := okm_iff.mp o
  unfold pd dayA
  rw [up1_ne (by omega)]
  split
  · split
    · have b1 := Int.emod_nonneg (α 5) (show α 6 ≠ 0 by omega)
      have b2 := Int.emod_lt_of_pos (α 5) (show 0 < α 6 by omega)
      rw [rotA_lo (okm_iff.mp o3).2.2.2.1 (by omega) (by omega) (by omega), xj]
    · exact xj
  · rfl
theorem pd_4 (o : okm (cur α)) : pd tx α 4 = α 4 + 1 := by
  have o3 := okm_xs (okm_xs (okm_xs o))
  have xj : xs (xs (xs α)) 4 = α 4 := by unfold xs; rw [up1_ne (by omega), up1_ne (by omega), up1_ne (by omega)]
  have o2 := okm_iff.mp o
  unfold pd dayA
  rw [up1_at]
  split
  · split
    · have b1 := Int.emod_nonneg (α 5) (show α 6 ≠ 0 by omega)
      have b2 := Int.emod_lt_of_pos (α 5) (show 0 < α 6 by omega)
      rw [rotA_lo (okm_iff.mp o3).2.2.2.1 (by omega) (by omega) (by omega), xj]
    · rw [xj]
  · rfl
end PASS
