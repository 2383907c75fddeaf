/-! LEVEL 3, a moment: what both sides keep of THE FILE, as one row of 69 places (0 DAY, 1 X, 2 SIZE, 3 lines, 4 .. bytes, 44 .. the lines) -/
def mv (α : Int → Int) (b l : Int) : Int → Int := fun j => if j < 44 then α (b + j) else α (l + (j - 44))
/-- a line of the book as the class and as the reference write it -/
def lr (c r : Int) : Prop := ∃ dd w v b : Nat, dd ≤ 9999 ∧ w ≤ 3 ∧ v ≤ 40 ∧ b ≤ 255 ∧ c = dd * 65536 + w * 16384 + v * 256 + b ∧ r = ((dd * 4 + w) * 41 + v) * 256 + b
def okm (μ : Int → Int) : Prop := (0 ≤ μ 0 ∧ μ 0 ≤ 9999) ∧ (0 ≤ μ 1 ∧ μ 1 ≤ 40000) ∧ (0 ≤ μ 2 ∧ μ 2 ≤ 40) ∧ (0 ≤ μ 3 ∧ μ 3 ≤ 25) ∧ (∀ i : Int, 0 ≤ i → i < 40 → 0 ≤ μ (4 + i) ∧ μ (4 + i) ≤ 255) ∧ ∀ i : Int, μ 2 ≤ i → i < 40 → μ (4 + i) = 0
/-- the object at m holds the moment μ -/
def mrep (h : am_H) (m : Int) (μ : Int → Int) : Prop := h m 4 = μ 0 ∧ h m 5 = μ 1 ∧ h m 3 = μ 2 ∧ h m 2 = μ 3 ∧ (∀ i : Int, 0 ≤ i → i < 40 → h (m + 1) i = μ (4 + i)) ∧ ∀ j : Int, 0 ≤ j → j < μ 3 → lr (h (m + 2) j) (μ (44 + j))
def fr3 (h h2 : am_H) (m : Int) : Prop := ∀ b : Int, b ≠ m → b ≠ m + 1 → b ≠ m + 2 → h2 b = h b
theorem fr3_refl {h : am_H} {m : Int} : fr3 h h m := fun _ _ _ _ => rfl
theorem fr3_trans {h h2 h3 : am_H} {m : Int} (a : fr3 h h2 m) (b : fr3 h2 h3 m) : fr3 h h3 m := fun c q1 q2 q3 => (b c q1 q2 q3).trans (a c q1 q2 q3)
theorem fr3_up {h : am_H} {m a i v : Int} (q : a = m ∨ a = m + 1 ∨ a = m + 2) : fr3 h (am_up h a i v) m := by
  intro b q1 q2 q3
  funext j
  exact am_up_ne (by omega)
theorem mrep_congr {h h2 : am_H} {m : Int} {μ : Int → Int} (k : mrep h m μ) (e0 : h2 m = h m) (e1 : h2 (m + 1) = h (m + 1)) (e2 : h2 (m + 2) = h (m + 2)) : mrep h2 m μ := by
  unfold mrep at k ⊢
  rw [e0, e1, e2]
  exact k
theorem mrep_eq {h : am_H} {m : Int} {μ ν : Int → Int} (k : mrep h m μ) (h3 : 0 ≤ μ 3) (e : ∀ j : Int, 0 ≤ j → j < 44 + μ 3 → ν j = μ j) : mrep h m ν := by
  obtain ⟨k0, k1, k2, k3, k4, k5⟩ := k
  have e3 := e 3 (by omega) (by omega)
  refine ⟨k0.trans (e 0 (by omega) (by omega)).symm, k1.trans (e 1 (by omega) (by omega)).symm, k2.trans (e 2 (by omega) (by omega)).symm, k3.trans e3.symm, fun i a b => (k4 i a b).trans (e (4 + i) (by omega) (by omega)).symm, fun j a b => ?_⟩
  rw [e3] at b
  rw [e (44 + j) (by omega) (by omega)]
  exact k5 j a b
theorem or_add {a b k : Nat} (hb : b < 2 ^ k) : a * 2 ^ k ||| b = a * 2 ^ k + b := by
  rw [Nat.mul_comm, ← Nat.two_pow_add_eq_or_of_lt hb]
theorem code_n {dd w v b : Nat} (h1 : dd ≤ 9999) (h2 : w ≤ 3) (h3 : v ≤ 40) (h4 : b ≤ 255) : am_ior (am_ior (am_ior (am_ishl (dd : Int) 16) (am_ishl (w : Int) 14)) (am_ishl (v : Int) 8)) (b : Int) = ((dd * 65536 + w * 16384 + v * 256 + b : Nat) : Int) := by
  rw [show (16 : Int) = ((16 : Nat) : Int) from rfl, show (14 : Int) = ((14 : Nat) : Int) from rfl, show (8 : Int) = ((8 : Nat) : Int) from rfl]
  rw [ishl_n (by omega) (by omega), ishl_n (by omega) (by omega), ishl_n (by omega) (by omega)]
  have e1 : dd * 2 ^ 16 ||| w * 2 ^ 14 = dd * 65536 + w * 16384 := or_add (k := 16) (by omega)
  have e2 : (dd * 65536 + w * 16384) ||| v * 2 ^ 8 = dd * 65536 + w * 16384 + v * 256 := by
    have := or_add (a := dd * 4 + w) (b := v * 256) (k := 14) (by omega)
    rw [show (dd * 4 + w) * 2 ^ 14 = dd * 65536 + w * 16384 by omega] at this
    rw [show v * 2 ^ 8 = v * 256 by omega]
    exact this
  have e3 : (dd * 65536 + w * 16384 + v * 256) ||| b = dd * 65536 + w * 16384 + v * 256 + b := by
    have := or_add (a := dd * 256 + w * 64 + v) (b := b) (k := 8) (by omega)
    rw [show (dd * 256 + w * 64 + v) * 2 ^ 8 = dd * 65536 + w * 16384 + v * 256 by omega] at this
    exact this
  rw [ior_n (by omega) (by omega), e1, ior_n (by omega) (by omega), e2, ior_n (by omega) (by omega), e3]
/-- a line is written -/
def mw (μ : Int → Int) (what v b : Int) : Int → Int :=
  let ν : Int → Int := if μ 3 = 25 then fun j => if 44 ≤ j ∧ j < 68 then μ (j + 1) else if j = 3 then 24 else μ j else μ
  up1 (up1 ν (44 + ν 3) (((ν 0 * 4 + what) * 41 + v) * 256 + b)) 3 (ν 3 + 1)
section MOM
variable {d : Nat} {h : am_H} {Q : Int → am_H → Prop} {m : Int} {μ : Int → Int}
theorem c_X0_drawAnew (t0 : am_kd 321 m = 10) (hx : 0 ≤ h m 5 ∧ h m 5 ≤ 40000) (k : Q 0 (am_up h m 5 ((h m 5 * 743 + 607) % 31079))) : cf d M_X0_drawAnew [.inr (.inr m)] h Q := by
  refine cf_of pX0 (Nat.le_of_ble_eq_true rfl) rfl (fun _ => B_X0_drawAnew_0 t0 ?_)
  rw [w32e (z := h m 5 * 743) (by omega) (by omega), w32e (z := h m 5 * 743 + 607) (by omega) (by omega), Int.tmod_eq_emod_of_nonneg (by omega), w32e (by omega) (by omega)]
  exact k
theorem c_X0_draw {b : Int} (t0 : am_kd 321 m = 10) (hb : 0 < b) (hb2 : b ≤ 40000) (hx : 0 ≤ h m 5 ∧ h m 5 ≤ 40000) (k : Q (h m 5 % b) (am_up h m 5 ((h m 5 * 743 + 607) % 31079))) : cf (d + 1) M_X0_draw [.inr (.inr m), .inl b] h Q := by
  refine cf_of pX0 (Nat.le_of_ble_eq_true rfl) rfl (fun _ => B_X0_draw_0 t0 ⟨fun c => by omega, fun _ => ⟨by omega, B_X0_draw_14 t0 (c_X0_drawAnew t0 hx ?_)⟩⟩)
  rw [Int.tmod_eq_emod_of_nonneg hx.1, w32e (by have := Int.emod_nonneg (h m 5) (by omega : b ≠ 0); omega) (by have := Int.emod_lt_of_pos (h m 5) hb; omega)]
  exact k
theorem c_X0_write {what v b : Int} (t0 : am_kd 321 m = 10) (hm : mrep h m μ) (h0 : 0 ≤ μ 0 ∧ μ 0 ≤ 9999) (h3 : 0 ≤ μ 3 ∧ μ 3 ≤ 25) (h1 : 0 ≤ what ∧ what ≤ 3) (h2 : 0 ≤ v ∧ v ≤ 40) (h4 : 0 ≤ b ∧ b ≤ 255) (k : ∀ h2, fr3 h h2 m → mrep h2 m (mw μ what v b) → Q 0 h2) : cf d M_X0_write [.inr (.inr m), .inl what, .inl v, .inl b] h Q := by
  have fin : ∀ (g : am_H) (ν : Int → Int), mrep g m ν → (0 ≤ ν 0 ∧ ν 0 ≤ 9999) → (0 ≤ ν 3 ∧ ν 3 ≤ 24) → fr3 h g m → (∀ h2, fr3 h h2 m → mrep h2 m (up1 (up1 ν (44 + ν 3) (((ν 0 * 4 + what) * 41 + v) * 256 + b)) 3 (ν 3 + 1)) → Q 0 h2) → wf d M_X0_write Q 30 [some (.inr (.inr m)), some (.inl what), some (.inl v), some (.inl b)] [] g := by
    intro g ν gm g0 g3 gf k
    obtain ⟨q0, q1, q2, q3, q4, q5⟩ := gm
    refine B_X0_write_30 t0 ⟨fun c => by omega, fun _ => ⟨by omega, ?_⟩⟩
    rw [w32e (z := g m 2 + 1) (by omega) (by omega)]
    have ec := code_n (dd := (g m 4).toNat) (w := what.toNat) (v := v.toNat) (b := b.toNat) (by omega) (by omega) (by omega) (by omega)
    rw [show (((g m 4).toNat : Nat) : Int) = g m 4 by omega, show ((what.toNat : Nat) : Int) = what by omega, show ((v.toNat : Nat) : Int) = v by omega, show ((b.toNat : Nat) : Int) = b by omega] at ec
    rw [ec]
    refine k _ (fr3_trans gf (fr3_trans (fr3_up (Or.inr (Or.inr rfl))) (fr3_up (Or.inl rfl)))) ?_
    have n1 : m ≠ m + 2 := by omega
    have n2 : m + 1 ≠ m := by omega
    have n3 : m + 1 ≠ m + 2 := by omega
    have n4 : m + 2 ≠ m := by omega
    refine ⟨?_, ?_, ?_, ?_, fun i a c => ?_, fun j a c => ?_⟩
    · rw [am_up_ne (by omega), am_up_ne (by omega), up1_ne (by omega), up1_ne (by omega)]; exact q0
    · rw [am_up_ne (by omega), am_up_ne (by omega), up1_ne (by omega), up1_ne (by omega)]; exact q1
    · rw [am_up_ne (by omega), am_up_ne (by omega), up1_ne (by omega), up1_ne (by omega)]; exact q2
    · rw [am_up_at, up1_at, q3]
    · rw [am_up_ne (by omega), am_up_ne (by omega), up1_ne (by omega), up1_ne (by omega)]; exact q4 i a c
    · rw [up1_at] at c
      rw [am_up_ne (by omega), up1_ne (by omega)]
      by_cases e : j = ν 3
      · subst e
        rw [q3, am_up_at, up1_at]
        refine ⟨(g m 4).toNat, what.toNat, v.toNat, b.toNat, by omega, by omega, by omega, by omega, by omega, by omega⟩
      · rw [am_up_ne (by omega), up1_ne (by omega)]
        exact q5 j a (by omega)
  refine cf_of pX0 (Nat.le_of_ble_eq_true rfl) rfl (fun _ => B_X0_write_0 t0 ⟨fun c => ?_, fun c => ?_⟩)
  · have hm2 := hm
    obtain ⟨q0, q1, q2, q3, q4, q5⟩ := hm2
    refine fin h μ hm h0 (by omega) fr3_refl (fun h2 f r => k h2 f ?_)
    have e : mw μ what v b = up1 (up1 μ (44 + μ 3) (((μ 0 * 4 + what) * 41 + v) * 256 + b)) 3 (μ 3 + 1) := by
      unfold mw
      rw [if_neg (by omega)]
    rw [e]
    exact r
  · obtain ⟨q0, q1, q2, q3, q4, q5⟩ := hm
    refine fin _ (fun j => if 44 ≤ j ∧ j < 68 then μ (j + 1) else if j = 3 then 24 else μ j) ?_ h0 (by simp) ?_ (fun h2 f r => k h2 f ?_)
    · refine ⟨?_, ?_, ?_, ?_, fun i a e => ?_, fun j a e => ?_⟩
      · rw [am_up_ne (by omega), am_cp_other _ _ (by omega)]; exact q0
      · rw [am_up_ne (by omega), am_cp_other _ _ (by omega)]; exact q1
      · rw [am_up_ne (by omega), am_cp_other _ _ (by omega)]; exact q2
      · rw [am_up_at]; simp
      · rw [am_up_ne (by omega), am_cp_other _ _ (by omega)]
        dsimp only
        rw [if_neg (by omega), if_neg (by omega)]
        exact q4 i a e
      · have e' : j < 24 := by simpa using e
        rw [am_up_ne (by omega)]
        dsimp only
        rw [if_pos (by omega)]
        unfold am_cp
        rw [if_pos ⟨rfl, by omega, by omega⟩]
        have := q5 (j + 1) (by omega) (by omega)
        rw [show 1 + (j - 0) = j + 1 by omega, show 44 + j + 1 = 44 + (j + 1) by omega]
        exact this
    · intro c2 z1 z2 z3
      funext j
      rw [am_up_ne (by omega), am_cp_other _ _ (by omega)]
    · have e : mw μ what v b = up1 (up1 (fun j => if 44 ≤ j ∧ j < 68 then μ (j + 1) else if j = 3 then 24 else μ j) (44 + 24) (((μ 0 * 4 + what) * 41 + v) * 256 + b)) 3 (24 + 1) := by
        unfold mw
        rw [if_pos (by omega)]
        simp
      rw [e]
      simpa using r
end MOM
