section MOM2
variable {d : Nat} {h : am_H} {Q : Int → am_H → Prop} {m : Int} {μ : Int → Int}
theorem c_X0_covers {a b : Int} (t0 : am_kd 321 m = 10) (k1 : 0 ≤ a → a ≤ b → b ≤ h m 3 → Q 1 h) (k0 : ¬ (0 ≤ a ∧ a ≤ b ∧ b ≤ h m 3) → Q 0 h) : cf d M_X0_covers [.inr (.inr m), .inl a, .inl b] h Q :=
  cf_of pX0 (Nat.le_of_ble_eq_true rfl) rfl (fun _ => B_X0_covers_0 t0 ⟨fun c => k0 (by omega), fun c => ⟨fun c2 => k0 (by omega), fun c2 => ⟨fun c3 => k0 (by omega), fun c3 => k1 c c2 c3⟩⟩⟩)
theorem l_X0_together {b : Int} (t0 : am_kd 321 m = 10) (hb : b ≤ 40) (hf : ∀ i : Int, 0 ≤ i → i < 40 → 0 ≤ h (m + 1) i ∧ h (m + 1) i ≤ 255) : ∀ (n : Nat) (p t : Int), p + n = b → 0 ≤ p → 0 ≤ t → t ≤ 255 * p → Q (t + sm (h (m + 1)) p n) h → wf (d + 1) M_X0_together Q 9 [some (.inr (.inr m)), none, some (.inl b), some (.inl t), some (.inl p)] [] h
  | 0, p, t, hp, h0, t1, t2, k => by
    simp only [sm, Int.add_zero] at k
    exact B_X0_together_9 t0 ⟨fun _ => k, fun c => by omega⟩
  | n + 1, p, t, hp, h0, t1, t2, k => by
    have := hf p h0 (by omega)
    refine B_X0_together_9 t0 ⟨fun c => by omega, fun c => ⟨fun c2 => by omega, fun c2 => ⟨h0, ?_⟩⟩⟩
    rw [w32e (z := t + h (m + 1) p) (by omega) (by omega), w32e (z := p + 1) (by omega) (by omega)]
    refine l_X0_together t0 hb hf n (p + 1) _ (by omega) (by omega) (by omega) (by omega) ?_
    simp only [sm] at k
    rw [← Int.add_assoc] at k
    exact k
theorem c_X0_together {a b : Int} (t0 : am_kd 321 m = 10) (ha : 0 ≤ a) (hab : a ≤ b) (hb : b ≤ 40) (hf : ∀ i : Int, 0 ≤ i → i < 40 → 0 ≤ h (m + 1) i ∧ h (m + 1) i ≤ 255) (k : Q (sm (h (m + 1)) a (b - a).toNat) h) : cf (d + 1) M_X0_together [.inr (.inr m), .inl a, .inl b] h Q := by
  have key : wf (d + 1) M_X0_together Q 9 [some (.inr (.inr m)), none, some (.inl b), some (.inl 0), some (.inl a)] [] h :=
    l_X0_together t0 hb hf (b - a).toNat a 0 (by omega) ha (by omega) (by omega) (by rw [Int.zero_add]; exact k)
  refine cf_of pX0 (Nat.le_of_ble_eq_true rfl) rfl (fun _ => B_X0_together_0 t0 (c_max (fun c => by omega) (fun _ => key)))
theorem c_X0_canPut {p v : Int} (t0 : am_kd 321 m = 10) (h3 : 0 ≤ h m 3 ∧ h m 3 ≤ 40) (k1 : 0 ≤ p → p < h m 3 → 0 ≤ v → v ≤ 255 → ¬ h (m + 1) p = v → Q 1 h) (k0 : ¬ (0 ≤ p ∧ p < h m 3 ∧ 0 ≤ v ∧ v ≤ 255 ∧ ¬ h (m + 1) p = v) → Q 0 h) : cf d M_X0_canPut [.inr (.inr m), .inl p, .inl v] h Q := by
  have z : (¬ (0 ≤ p ∧ p < h m 3)) → wf d M_X0_canPut Q 22 [some (.inr (.inr m)), some (.inl p), some (.inl v), none] [] h := fun q => B_X0_canPut_22 t0 (B_X0_canPut_23 t0 ⟨fun _ => k0 (by omega), fun c => absurd rfl c⟩)
  refine cf_of pX0 (Nat.le_of_ble_eq_true rfl) rfl (fun _ => B_X0_canPut_0 t0 ⟨fun c => z (by omega), fun c => ⟨fun c2 => z (by omega), fun c2 => ⟨fun c3 => by omega, fun c3 => B_X0_canPut_23 t0 ⟨fun q => by omega, fun _ => ⟨fun c4 => k0 (by omega), fun c4 => ⟨fun c5 => k0 (by omega), fun c5 => ⟨c, c3, fun c6 => k0 (fun q => q.2.2.2.2 c6), fun c6 => k1 c c2 c4 (by omega) c6⟩⟩⟩⟩⟩⟩⟩)
theorem c_X0_canResize {n : Int} (t0 : am_kd 321 m = 10) (k1 : 0 ≤ n → n ≤ 40 → ¬ n = h m 3 → Q 1 h) (k0 : ¬ (0 ≤ n ∧ n ≤ 40 ∧ ¬ n = h m 3) → Q 0 h) : cf d M_X0_canResize [.inr (.inr m), .inl n] h Q :=
  cf_of pX0 (Nat.le_of_ble_eq_true rfl) rfl (fun _ => B_X0_canResize_0 t0 ⟨fun c => k0 (by omega), fun c => ⟨fun c2 => k0 (by omega), fun c2 => ⟨fun c3 => k0 (fun q => q.2.2 c3), fun c3 => k1 c c2 c3⟩⟩⟩)
/-- a byte is another one -/
theorem mrep_byte {p v : Int} (hm : mrep h m μ) (hp : 0 ≤ p ∧ p < 40) : mrep (am_up h (m + 1) p v) m (up1 μ (4 + p) v) := by
  obtain ⟨q0, q1, q2, q3, q4, q5⟩ := hm
  refine ⟨?_, ?_, ?_, ?_, fun i a c => ?_, fun j a c => ?_⟩
  · rw [am_up_ne (by omega), up1_ne (by omega)]; exact q0
  · rw [am_up_ne (by omega), up1_ne (by omega)]; exact q1
  · rw [am_up_ne (by omega), up1_ne (by omega)]; exact q2
  · rw [am_up_ne (by omega), up1_ne (by omega)]; exact q3
  · by_cases e : i = p
    · rw [e, am_up_at, up1_at]
    · rw [am_up_ne (by omega), up1_ne (by omega)]; exact q4 i a c
  · rw [up1_ne (by omega)] at c
    rw [am_up_ne (by omega), up1_ne (by omega)]; exact q5 j a c
theorem c_X0_putByte {p v : Int} (t0 : am_kd 321 m = 10) (hm : mrep h m μ) (h0 : 0 ≤ μ 0 ∧ μ 0 ≤ 9999) (h3 : 0 ≤ μ 3 ∧ μ 3 ≤ 25) (hp : 0 ≤ p ∧ p < 40) (hv : 0 ≤ v ∧ v ≤ 255) (k : ∀ h2, fr3 h h2 m → mrep h2 m (mw (up1 μ (4 + p) v) 0 p v) → Q 0 h2) : cf (d + 1) M_X0_putByte [.inr (.inr m), .inl p, .inl v] h Q :=
  cf_of pX0 (Nat.le_of_ble_eq_true rfl) rfl (fun _ => B_X0_putByte_0 t0 ⟨fun c => by omega, fun _ => ⟨fun c => by omega, fun _ => c_X0_write t0 (mrep_byte hm hp) (by rw [up1_ne (by omega)]; exact h0) (by rw [up1_ne (by omega)]; exact h3) (by omega) (by omega) hv (fun h2 f r => k h2 (fr3_trans (fr3_up (Or.inr (Or.inl rfl))) f) r)⟩⟩)
theorem xor_bit {x k : Nat} (hx : x < 256) (hk : k < 8) : am_ixor (x : Int) (am_ishl 1 (k : Int)) = ((x ^^^ 2 ^ k : Nat) : Int) ∧ x ^^^ 2 ^ k < 256 := by
  have hk2 : 2 ^ k ≤ 128 := by
    have := Nat.pow_le_pow_right (n := 2) (by decide) (show k ≤ 7 by omega)
    simpa using this
  refine ⟨?_, Nat.xor_lt_two_pow (n := 8) hx (by omega)⟩
  rw [show (1 : Int) = ((1 : Nat) : Int) from rfl, ishl_n (by omega) (by omega), Nat.one_mul, ixor_n (by omega) (by omega)]
theorem c_X0_rot {p k0 : Nat} (t0 : am_kd 321 m = 10) (hm : mrep h m μ) (h0 : 0 ≤ μ 0 ∧ μ 0 ≤ 9999) (h3 : 0 ≤ μ 3 ∧ μ 3 ≤ 25) (hp : p < 40) (hk : k0 < 8) (hb : 0 ≤ μ (4 + p) ∧ μ (4 + p) ≤ 255) (k : ∀ h2, fr3 h h2 m → mrep h2 m (mw (up1 μ (4 + p) (((μ (4 + p)).toNat ^^^ 2 ^ k0 : Nat) : Int)) 3 p (((μ (4 + p)).toNat ^^^ 2 ^ k0 : Nat) : Int)) → Q 0 h2) : cf (d + 1) M_X0_rot [.inr (.inr m), .inl (p : Int), .inl (k0 : Int)] h Q := by
  have hbyte := hm.2.2.2.2.1 p (by omega) (by omega)
  have hx := xor_bit (x := (μ (4 + p)).toNat) (k := k0) (by omega) hk
  rw [show (((μ (4 + p)).toNat : Nat) : Int) = μ (4 + p) by omega, ← hbyte] at hx
  rw [← hbyte] at k
  refine cf_of pX0 (Nat.le_of_ble_eq_true rfl) rfl (fun _ => B_X0_rot_0 t0 ⟨fun c => by omega, fun _ => ⟨fun c => by omega, fun _ => ?_⟩⟩)
  rw [hx.1]
  exact c_X0_write t0 (mrep_byte hm (by omega)) (by rw [up1_ne (by omega)]; exact h0) (by rw [up1_ne (by omega)]; exact h3) (by omega) (by omega) (by have := hx.2; omega) (fun h2 f r => k h2 (fr3_trans (fr3_up (Or.inr (Or.inl rfl))) f) r)
/-- SIZE is another one: what is beyond is 0 -/
def mz (μ : Int → Int) (n : Int) : Int → Int := fun j => if j = 2 then n else if 4 + n ≤ j ∧ j < 44 then 0 else μ j
theorem mz_2 {n : Int} : mz μ n 2 = n := by simp [mz]
theorem mz_ne {n j : Int} (a : j ≠ 2) (b : ¬ (4 + n ≤ j ∧ j < 44)) : mz μ n j = μ j := by
  unfold mz
  rw [if_neg a, if_neg b]
theorem mz_0 {n j : Int} (a : j ≠ 2) (b : 4 + n ≤ j ∧ j < 44) : mz μ n j = 0 := by
  unfold mz
  rw [if_neg a, if_pos b]
def mzp (μ : Int → Int) (n p : Int) : Int → Int := fun j => if 4 + n ≤ j ∧ j < 4 + p then 0 else μ j
theorem mzp_ne {n p j : Int} (b : ¬ (4 + n ≤ j ∧ j < 4 + p)) : mzp μ n p j = μ j := by
  unfold mzp
  rw [if_neg b]
theorem mzp_0 {n p j : Int} (b : 4 + n ≤ j ∧ j < 4 + p) : mzp μ n p j = 0 := by
  unfold mzp
  rw [if_pos b]
theorem mzp_up {n p : Int} (hnp : n ≤ p) : mzp μ n (p + 1) = up1 (mzp μ n p) (4 + p) 0 := by
  funext j
  by_cases c1 : j = 4 + p
  · rw [c1, up1_at, mzp_0 (by omega)]
  · rw [up1_ne c1]
    by_cases c2 : 4 + n ≤ j ∧ j < 4 + p
    · rw [mzp_0 (by omega), mzp_0 c2]
    · rw [mzp_ne (by omega), mzp_ne c2]
theorem mzp_id {n : Int} : mzp μ n n = μ := by
  funext j
  rw [mzp_ne (by omega)]
theorem c_X0_resize {n : Int} (t0 : am_kd 321 m = 10) (hm : mrep h m μ) (h0 : 0 ≤ μ 0 ∧ μ 0 ≤ 9999) (h3 : 0 ≤ μ 3 ∧ μ 3 ≤ 25) (hn : 0 ≤ n ∧ n ≤ 40) (k : ∀ h2, fr3 h h2 m → mrep h2 m (mw (mz μ n) 1 n 0) → Q 0 h2) : cf (d + 1) M_X0_resize [.inr (.inr m), .inl n] h Q := by
  have loop : ∀ (c : Nat) (p : Int) (g : am_H), p + c = 40 → n ≤ p → fr3 h g m → mrep g m (mzp μ n p) → wf (d + 1) M_X0_resize Q 6 [some (.inr (.inr m)), some (.inl n), some (.inl p)] [] g := by
    intro c
    induction c with
    | zero =>
      intro p g hp hnp hf hr
      refine B_X0_resize_6 t0 ⟨fun _ => ?_, fun c => by omega⟩
      have hr2 : mrep (am_up g m 3 n) m (mz μ n) := by
        obtain ⟨q0, q1, q2, q3, q4, q5⟩ := hr
        rw [mzp_ne (by omega)] at q0 q1 q3
        rw [mzp_ne (by omega)] at q5
        refine ⟨?_, ?_, ?_, ?_, fun i a c => ?_, fun j a c => ?_⟩
        · rw [am_up_ne (by omega), mz_ne (by omega) (by omega)]; exact q0
        · rw [am_up_ne (by omega), mz_ne (by omega) (by omega)]; exact q1
        · rw [am_up_at, mz_2]
        · rw [am_up_ne (by omega), mz_ne (by omega) (by omega)]; exact q3
        · rw [am_up_ne (by omega), q4 i a c]
          by_cases e : 4 + n ≤ 4 + i
          · rw [mzp_0 (by omega), mz_0 (by omega) (by omega)]
          · rw [mzp_ne (by omega), mz_ne (by omega) (by omega)]
        · rw [mz_ne (by omega) (by omega)] at c
          rw [am_up_ne (by omega), mz_ne (by omega) (by omega)]
          have := q5 j a c
          rw [mzp_ne (by omega)] at this
          exact this
      refine c_X0_write t0 hr2 (by rw [mz_ne (by omega) (by omega)]; exact h0) (by rw [mz_ne (by omega) (by omega)]; exact h3) (by omega) (by omega) (by omega) (fun h2 f r => k h2 (fr3_trans hf (fr3_trans (fr3_up (Or.inl rfl)) f)) r)
    | succ c ih =>
      intro p g hp hnp hf hr
      refine B_X0_resize_6 t0 ⟨fun _ => by omega, fun _ => ⟨by omega, ?_⟩⟩
      rw [w32e (z := p + 1) (by omega) (by omega)]
      refine ih (p + 1) _ (by omega) (by omega) (fr3_trans hf (fr3_up (Or.inr (Or.inl rfl)))) ?_
      rw [mzp_up hnp]
      exact mrep_byte (v := 0) hr (p := p) (by omega)
  have start : wf (d + 1) M_X0_resize Q 6 [some (.inr (.inr m)), some (.inl n), some (.inl n)] [] h :=
    loop (40 - n).toNat n h (by omega) (Int.le_refl _) fr3_refl (by rw [mzp_id]; exact hm)
  exact cf_of pX0 (Nat.le_of_ble_eq_true rfl) rfl (fun _ => B_X0_resize_0 t0 (c_max (fun c => by
    have e : n = 0 := by omega
    subst e
    exact start) (fun _ => start)))
end MOM2
