section MOM3
variable {d : Nat} {h : am_H} {Q : Int → am_H → Prop} {m o : Int} {μ : Int → Int}
/-- two moments' cells are apart -/
theorem mom_apart (t0 : am_kd 321 m = 10) (t1 : am_kd 321 o = 10) (hne : o ≠ m) : o ≠ m + 1 ∧ o ≠ m + 2 ∧ o + 1 ≠ m ∧ o + 1 ≠ m + 1 ∧ o + 1 ≠ m + 2 ∧ o + 2 ≠ m ∧ o + 2 ≠ m + 1 ∧ o + 2 ≠ m + 2 := by
  have a1 := (kX0_0 t0).1
  have a2 := (kX0_1 t0).1
  have b1 := (kX0_0 t1).1
  have b2 := (kX0_1 t1).1
  have e1 : o ≠ m + 1 := fun q => by rw [q, a1] at t1; cases t1
  have e2 : o ≠ m + 2 := fun q => by rw [q, a2] at t1; cases t1
  have e3 : m ≠ o + 1 := fun q => by rw [q, b1] at t0; cases t0
  have e4 : m ≠ o + 2 := fun q => by rw [q, b2] at t0; cases t0
  omega
theorem c_X0_copy (t0 : am_kd 321 m = 10) (t1 : am_kd 321 o = 10) (hne : o ≠ m) (hm : mrep h o μ) (h3 : 0 ≤ μ 3 ∧ μ 3 ≤ 25) (k : ∀ h2, fr3 h h2 m → mrep h2 m μ → Q 0 h2) : cf d M_X0_copy [.inr (.inr m), .inr (.inr o)] h Q := by
  have ap := mom_apart t0 t1 hne
  obtain ⟨q0, q1, q2, q3, q4, q5⟩ := hm
  refine cf_of pX0 (Nat.le_of_ble_eq_true rfl) rfl (fun _ => B_X0_copy_0 t0 ⟨t1, k _ ?_ ⟨?_, ?_, ?_, ?_, fun i a c => ?_, fun j a c => ?_⟩⟩)
  · intro b z1 z2 z3
    funext j
    repeat (first | rw [am_up_ne (by omega)] | rw [am_cp_other _ _ (by omega)])
  · repeat (first | rw [am_up_at] | rw [am_up_ne (by omega)] | rw [am_cp_other _ _ (by omega)])
    exact q0
  · repeat (first | rw [am_up_at] | rw [am_up_ne (by omega)] | rw [am_cp_other _ _ (by omega)])
    exact q1
  · repeat (first | rw [am_up_at] | rw [am_up_ne (by omega)] | rw [am_cp_other _ _ (by omega)])
    exact q2
  · repeat (first | rw [am_up_at] | rw [am_up_ne (by omega)] | rw [am_cp_other _ _ (by omega)])
    exact q3
  · repeat (first | rw [am_up_ne (by omega)] | rw [am_cp_other _ _ (by omega)])
    unfold am_cp
    rw [if_pos ⟨rfl, by omega, by omega⟩, show 0 + (i - 0) = i by omega]
    exact q4 i a c
  · repeat (first | rw [am_up_ne (by omega)])
    have e : am_cp (am_cp h (o + 1) 0 (m + 1) 0 40) (o + 2) 0 (m + 2) 0 25 (m + 2) j = h (o + 2) j := by
      rw [am_cp, if_pos ⟨rfl, by omega, by omega⟩, show 0 + (j - 0) = j by omega, am_cp_other _ _ (by omega)]
    rw [e]
    exact q5 j a c
theorem c_X0_takeMended {a n : Int} (t0 : am_kd 321 m = 10) (ta : am_kd 321 a = 0) (la : am_ln a = 40) (hne : a ≠ m + 1 ∧ a ≠ m ∧ a ≠ m + 2) (hm : mrep h m μ) (h0 : 0 ≤ μ 0 ∧ μ 0 ≤ 9999) (h3 : 0 ≤ μ 3 ∧ μ 3 ≤ 25) (hn : 0 ≤ n ∧ n ≤ 40) (k : ∀ h2, fr3 h h2 m → mrep h2 m (mw (fun j => if 4 ≤ j ∧ j < 44 then h a (j - 4) else μ j) 2 n 0) → Q 0 h2) : cf (d + 1) M_X0_takeMended [.inr (.inr m), .inr (.inr a), .inl n] h Q := by
  have loop : ∀ (c : Nat) (p : Int) (g : am_H), p + c = 40 → 0 ≤ p → fr3 h g m → mrep g m (fun j => if 4 ≤ j ∧ j < 4 + p then h a (j - 4) else μ j) → wf (d + 1) M_X0_takeMended Q 2 [some (.inr (.inr m)), some (.inr (.inr a)), some (.inl n), some (.inl p)] [] g := by
    intro c
    induction c with
    | zero =>
      intro p g hp h0p hf hr
      refine B_X0_takeMended_2 t0 ⟨ta, fun _ => ?_, fun c => by rw [la] at c; omega⟩
      have ep : p = 40 := by omega
      subst ep
      refine B_X0_takeMended_29 t0 (c_X0_write t0 hr ?_ ?_ (by omega) (by omega) (by omega) (fun h2 f r => k h2 (fr3_trans hf f) r))
      · simpa using h0
      · simpa using h3
    | succ c ih =>
      intro p g hp h0p hf hr
      refine B_X0_takeMended_2 t0 ⟨ta, fun c => by rw [la] at c; omega, fun _ => ⟨fun c => by omega, fun _ => ⟨h0p, by rw [la]; omega, ?_⟩⟩⟩
      rw [w32e (z := p + 1) (by omega) (by omega)]
      refine ih (p + 1) _ (by omega) (by omega) (fr3_trans hf (fr3_up (Or.inr (Or.inl rfl)))) ?_
      have e0 : g a p = h a p := congrFun (hf a hne.2.1 hne.1 hne.2.2) p
      have := mrep_byte (v := g a p) hr (p := p) (by omega)
      rw [e0] at this ⊢
      have e : (fun j => if 4 ≤ j ∧ j < 4 + (p + 1) then h a (j - 4) else μ j) = up1 (fun j => if 4 ≤ j ∧ j < 4 + p then h a (j - 4) else μ j) (4 + p) (h a p) := by
        funext j
        unfold up1
        by_cases c1 : j = 4 + p
        · rw [if_pos c1, c1]
          skip
          rw [if_pos (by omega), show 4 + p - 4 = p by omega]
        · rw [if_neg c1]
          dsimp only
          by_cases c2 : 4 ≤ j ∧ j < 4 + p
          · rw [if_pos (by omega), if_pos c2]
          · rw [if_neg (by omega), if_neg c2]
      rw [e]
      exact this
  refine cf_of pX0 (Nat.le_of_ble_eq_true rfl) rfl (fun _ => B_X0_takeMended_0 t0 (loop 40 0 h (by omega) (by omega) fr3_refl ?_))
  have e : (fun j => if 4 ≤ j ∧ j < 4 + (0 : Int) then h a (j - 4) else μ j) = μ := by
    funext j
    skip
    rw [if_neg (by omega)]
  rw [e]
  exact hm
theorem c_X0_tell {c r what : Int} (hl : lr c r) (k : Q (if what = 0 then r / 41984 else if what = 1 then r / 10496 % 4 else if what = 2 then r / 256 % 41 else if what = 3 then r % 256 else -2) h) : cf d M_X0_tell [.inl c, .inl what] h Q := by
  obtain ⟨dd, w, v, b, h1, h2, h3, h4, rfl, rfl⟩ := hl
  refine cf_of pX0 (Nat.le_of_ble_eq_true rfl) rfl (fun _ => B_X0_tell_0 ?_)
  have ec : ((dd : Int) * 65536 + w * 16384 + v * 256 + b) = ((dd * 65536 + w * 16384 + v * 256 + b : Nat) : Int) := by omega
  rw [ec]
  refine ⟨fun c => ?_, fun c => ?_, fun c => ?_, fun c => ?_, fun c => ?_⟩
  · rw [if_neg (by omega), if_neg (by omega), if_neg (by omega), if_neg (by omega)] at k
    exact k
  · rw [if_pos c] at k
    rw [show (16 : Int) = ((16 : Nat) : Int) from rfl, ishr_n (by omega) (by omega)]
    rw [show (((dd : Int) * 4 + w) * 41 + v) * 256 + b = dd * 41984 + (w * 10496 + v * 256 + b) by omega] at k
    have e : ((dd * 65536 + w * 16384 + v * 256 + b) / 2 ^ 16 : Nat) = dd := by omega
    rw [e]
    have e2 : ((dd : Int) * 41984 + (w * 10496 + v * 256 + b)) / 41984 = dd := by omega
    rw [e2] at k
    exact k
  · rw [if_neg (by omega), if_pos c] at k
    rw [show (14 : Int) = ((14 : Nat) : Int) from rfl, ishr_n (by omega) (by omega), show (3 : Int) = ((3 : Nat) : Int) from rfl, iand_n (by omega)]
    have e : ((dd * 65536 + w * 16384 + v * 256 + b) / 2 ^ 14 : Nat) = dd * 4 + w := by omega
    have e3 : (dd * 4 + w) &&& 3 = w := by
      rw [show (3 : Nat) = 2 ^ 2 - 1 from rfl, Nat.and_two_pow_sub_one_eq_mod]
      omega
    rw [e, e3]
    have e2 : ((((dd : Int) * 4 + w) * 41 + v) * 256 + b) / 10496 % 4 = w := by omega
    rw [e2] at k
    exact k
  · rw [if_neg (by omega), if_neg (by omega), if_pos c] at k
    rw [show (8 : Int) = ((8 : Nat) : Int) from rfl, ishr_n (by omega) (by omega), show (63 : Int) = ((63 : Nat) : Int) from rfl, iand_n (by omega)]
    have e : ((dd * 65536 + w * 16384 + v * 256 + b) / 2 ^ 8 : Nat) = dd * 256 + w * 64 + v := by omega
    have e3 : (dd * 256 + w * 64 + v) &&& 63 = v := by
      rw [show (63 : Nat) = 2 ^ 6 - 1 from rfl, Nat.and_two_pow_sub_one_eq_mod]
      omega
    rw [e, e3]
    have e2 : ((((dd : Int) * 4 + w) * 41 + v) * 256 + b) / 256 % 41 = v := by omega
    rw [e2] at k
    exact k
  · rw [if_neg (by omega), if_neg (by omega), if_neg (by omega), if_pos c] at k
    rw [show (255 : Int) = ((255 : Nat) : Int) from rfl, iand_n (by omega)]
    have e3 : (dd * 65536 + w * 16384 + v * 256 + b) &&& 255 = b := by
      rw [show (255 : Nat) = 2 ^ 8 - 1 from rfl, Nat.and_two_pow_sub_one_eq_mod]
      omega
    rw [e3]
    have e2 : ((((dd : Int) * 4 + w) * 41 + v) * 256 + b) % 256 = b := by omega
    rw [e2] at k
    exact k
end MOM3
