section ASK2
variable {d : Nat} {h : am_H} {Q : Int → am_H → Prop} {α : Int → Int}
def r_sum (α : Int → Int) (a b : Int) : Int := if 0 ≤ a ∧ a ≤ b ∧ b ≤ α 6 then sm α (8 + a) (b - a).toNat else -1
theorem sm_x6 (hr : srep h 4 α) {a b : Int} (h0 : 0 ≤ a) (hb : b ≤ 40) : sm (h 6) a (b - a).toNat = sm α (8 + a) (b - a).toNat :=
  sm_congr _ _ _ (fun j j0 j1 => by rw [show 8 + a + j = 8 + (a + j) by omega]; exact sbyte hr (by omega) (by omega))
theorem c_X6_sum {a b : Int} (hr : srep h 4 α) (ha : oka α) (k : Q (r_sum α a b) h) : cf (d + 2) M_X6_sum [.inr (.inr 1), .inl a, .inl b] h Q := by
  unfold r_sum at k
  have o6 := ok6 ha
  refine cf_of pX6 (Nat.le_of_ble_eq_true rfl) rfl (fun _ => B_X6_sum_0 (c_X0_covers k_5 (fun a1 a2 a3 => ⟨fun c => by omega, fun _ => ?_⟩) (fun c => ⟨fun _ => ?_, fun c2 => absurd rfl c2⟩)))
  · rw [s_6 hr] at a3
    rw [if_pos ⟨a1, a2, a3⟩] at k
    refine c_X0_together k_5 a1 a2 (by omega) (fun i x y => by rw [show (5 : Int) + 1 = 6 from rfl, sbyte hr x y]; exact okb ha x y) ?_
    rw [show (5 : Int) + 1 = 6 from rfl, sm_x6 hr a1 (by omega)]
    exact k
  · rw [s_6 hr] at c
    rw [if_neg c] at k; exact k
theorem c_X7_isStretch {a b : Int} (k1 : 0 ≤ a → a ≤ b → b ≤ h 295 6 → Q 1 h) (k0 : ¬ (0 ≤ a ∧ a ≤ b ∧ b ≤ h 295 6) → Q 0 h) : cf (d + 1) M_X7_isStretch [.inr (.inr 294), .inl a, .inl b] h Q :=
  cf_of pX7 (Nat.le_of_ble_eq_true rfl) rfl (fun _ => B_X7_isStretch_0 (c_X7_isIn (fun a1 a2 => ⟨fun c => by omega, fun _ => ⟨fun c => k0 (by omega), fun c => k1 a1 a2 c⟩⟩) (fun a => ⟨fun _ => k0 (by omega), fun c => absurd rfl c⟩)))
theorem c_X7_sum {a b : Int} (ha : oka (h 295)) (k : Q (r_sum (h 295) a b) h) : cf (d + 2) M_X7_sum [.inr (.inr 294), .inl a, .inl b] h Q := by
  unfold r_sum at k
  have o6 := ok6 ha
  refine cf_of pX7 (Nat.le_of_ble_eq_true rfl) rfl (fun _ => B_X7_sum_0 (c_X7_isStretch (fun a1 a2 a3 => ⟨fun c => by omega, fun _ => ?_⟩) (fun c => ⟨fun _ => ?_, fun c2 => absurd rfl c2⟩)))
  · rw [if_pos ⟨a1, a2, a3⟩] at k
    exact c_X7_bytesFrom a1 a2 (by omega) (fun i x y => okb ha x y) k
  · rw [if_neg c] at k; exact k
def r_number (α : Int → Int) (a b : Int) : Int := if (0 ≤ a ∧ a ≤ b ∧ b ≤ α 6) ∧ b - a ≤ 3 then nb α 0 (8 + a) (b - a).toNat else -1
theorem nb_step {t b : Int} {n : Nat} (hn : n ≤ 2) (t0 : 0 ≤ t) (t1 : (t + 1) * 256 ^ (n + 1) ≤ 16777216) (b0 : 0 ≤ b) (b1 : b ≤ 255) : t ≤ 65535 ∧ (t * 256 + b + 1) * 256 ^ n ≤ 16777216 := by
  rcases (show n = 0 ∨ n = 1 ∨ n = 2 by omega) with rfl | rfl | rfl
  · simp at t1 ⊢; omega
  · simp at t1 ⊢; omega
  · simp at t1 ⊢; omega
theorem nb_lt {t : Int} {n : Nat} (hn : n ≤ 3) (t0 : 0 ≤ t) (t1 : (t + 1) * 256 ^ n ≤ 16777216) : t < 16777216 := by
  rcases (show n = 0 ∨ n = 1 ∨ n = 2 ∨ n = 3 by omega) with rfl | rfl | rfl | rfl
  · simp at t1; omega
  · simp at t1; omega
  · simp at t1; omega
  · simp at t1; omega
theorem l_X6_asNumber {c : Int} {b : Int} (tc : am_kd 321 c = 0) (lc : am_ln c = 40) (hb : b ≤ 40) (hf : ∀ i : Int, 0 ≤ i → i < 40 → 0 ≤ h c i ∧ h c i ≤ 255) : ∀ (n : Nat) (p t : Int), p + n = b → n ≤ 3 → 0 ≤ p → 0 ≤ t → (t + 1) * 256 ^ n ≤ 16777216 → Q (nb (h c) t p n) h → wf (d + 1) M_X6_asNumber Q 9 [some (.inr (.inr c)), none, some (.inl b), some (.inl t), some (.inl p)] [] h
  | 0, p, t, hp, hn, h0, t0, t1, k => by
    simp only [nb] at k
    exact B_X6_asNumber_9 ⟨fun _ => k, fun c => by omega⟩
  | n + 1, p, t, hp, hn, h0, t0, t1, k => by
    have hb2 := hf p h0 (by omega)
    have st := nb_step (by omega) t0 t1 hb2.1 hb2.2
    refine B_X6_asNumber_9 ⟨fun c => by omega, fun _ => ⟨tc, fun c => by rw [lc] at c; omega, fun _ => ⟨h0, by rw [lc]; omega, ?_⟩⟩⟩
    rw [w32e (z := t * 256) (by omega) (by omega), w32e (z := t * 256 + h c p) (by omega) (by omega), w32e (z := p + 1) (by omega) (by omega)]
    simp only [nb] at k
    rw [Int.mul_comm 256 t] at k
    exact l_X6_asNumber tc lc hb hf n (p + 1) _ (by omega) (by omega) (by omega) (by omega) st.2 k
theorem c_X6_asNumber {c a b : Int} (tc : am_kd 321 c = 0) (lc : am_ln c = 40) (h0 : 0 ≤ a) (hab : a ≤ b) (h3 : b - a ≤ 3) (hb : b ≤ 40) (hf : ∀ i : Int, 0 ≤ i → i < 40 → 0 ≤ h c i ∧ h c i ≤ 255) (k : Q (nb (h c) 0 a (b - a).toNat) h) : cf (d + 1) M_X6_asNumber [.inr (.inr c), .inl a, .inl b] h Q := by
  have key : wf (d + 1) M_X6_asNumber Q 9 [some (.inr (.inr c)), none, some (.inl b), some (.inl 0), some (.inl a)] [] h := by
    refine l_X6_asNumber tc lc hb hf (b - a).toNat a 0 (by omega) (by omega) h0 (by omega) ?_ k
    rcases (show (b - a).toNat = 0 ∨ (b - a).toNat = 1 ∨ (b - a).toNat = 2 ∨ (b - a).toNat = 3 by omega) with e | e | e | e <;> rw [e] <;> decide
  exact cf_of pX6 (Nat.le_of_ble_eq_true rfl) rfl (fun _ => B_X6_asNumber_0 (c_max (fun c => by omega) (fun _ => key)))
theorem nb_x6 (hr : srep h 4 α) {a b : Int} (h0 : 0 ≤ a) (hb : b ≤ 40) : nb (h 6) 0 a (b - a).toNat = nb α 0 (8 + a) (b - a).toNat :=
  nb_congr _ _ _ _ (fun j j0 j1 => by rw [show 8 + a + j = 8 + (a + j) by omega]; exact sbyte hr (by omega) (by omega))
theorem c_X6_number {a b : Int} (hr : srep h 4 α) (ha : oka α) (k : Q (r_number α a b) h) : cf (d + 2) M_X6_number [.inr (.inr 1), .inl a, .inl b] h Q := by
  unfold r_number at k
  have o6 := ok6 ha
  refine cf_of pX6 (Nat.le_of_ble_eq_true rfl) rfl (fun _ => B_X6_number_0 (c_X0_covers k_5 (fun a1 a2 a3 => ⟨fun c => by omega, fun _ => ?_⟩) (fun c => ⟨fun _ => ?_, fun c2 => absurd rfl c2⟩)))
  · rw [s_6 hr] at a3
    rw [w32e (z := b - a) (by omega) (by omega)]
    refine ⟨fun c => ?_, fun c => ?_⟩
    · rw [if_pos ⟨⟨a1, a2, a3⟩, c⟩] at k
      refine c_X6_asNumber k_6 l_6 a1 a2 c (by omega) (fun i x y => by rw [sbyte hr x y]; exact okb ha x y) ?_
      rw [nb_x6 hr a1 (by omega)]
      exact k
    · rw [if_neg (by omega)] at k; exact k
  · rw [s_6 hr] at c
    rw [if_neg (fun q => c q.1)] at k; exact k
theorem l_X7_numberFrom {b : Int} (hb : b ≤ 40) (hf : ∀ i : Int, 0 ≤ i → i < 40 → 0 ≤ h 295 (8 + i) ∧ h 295 (8 + i) ≤ 255) : ∀ (n : Nat) (p t : Int), p + n = b → n ≤ 3 → 0 ≤ p → 0 ≤ t → (t + 1) * 256 ^ n ≤ 16777216 → Q (nb (h 295) t (8 + p) n) h → wf d M_X7_numberFrom Q 5 [some (.inr (.inr 294)), none, some (.inl b), some (.inl t), some (.inl p)] [] h
  | 0, p, t, hp, hn, h0, t0, t1, k => by
    simp only [nb] at k
    exact B_X7_numberFrom_5 ⟨fun _ => k, fun c => by omega⟩
  | n + 1, p, t, hp, hn, h0, t0, t1, k => by
    have hb2 := hf p h0 (by omega)
    have st := nb_step (by omega) t0 t1 hb2.1 hb2.2
    refine B_X7_numberFrom_5 ⟨fun c => by omega, fun _ => ?_⟩
    rw [w32e (z := 8 + p) (by omega) (by omega), w32e (z := 256 * t) (by omega) (by omega), w32e (z := 256 * t + h 295 (8 + p)) (by omega) (by omega), w32e (z := p + 1) (by omega) (by omega)]
    refine ⟨by omega, by omega, l_X7_numberFrom hb hf n (p + 1) _ (by omega) (by omega) (by omega) (by omega) ?_ ?_⟩
    · rw [Int.mul_comm 256 t]; exact st.2
    · simp only [nb] at k
      rw [show 8 + p + 1 = 8 + (p + 1) by omega] at k
      exact k
theorem c_X7_numberFrom {a b : Int} (h0 : 0 ≤ a) (hab : a ≤ b) (h3 : b - a ≤ 3) (hb : b ≤ 40) (hf : ∀ i : Int, 0 ≤ i → i < 40 → 0 ≤ h 295 (8 + i) ∧ h 295 (8 + i) ≤ 255) (k : Q (nb (h 295) 0 (8 + a) (b - a).toNat) h) : cf d M_X7_numberFrom [.inr (.inr 294), .inl a, .inl b] h Q := by
  refine cf_of pX7 (Nat.le_of_ble_eq_true rfl) rfl (fun _ => B_X7_numberFrom_0 (l_X7_numberFrom hb hf (b - a).toNat a 0 (by omega) (by omega) h0 (by omega) ?_ k))
  rcases (show (b - a).toNat = 0 ∨ (b - a).toNat = 1 ∨ (b - a).toNat = 2 ∨ (b - a).toNat = 3 by omega) with e | e | e | e <;> rw [e] <;> decide
theorem c_X7_number {a b : Int} (ha : oka (h 295)) (k : Q (r_number (h 295) a b) h) : cf (d + 2) M_X7_number [.inr (.inr 294), .inl a, .inl b] h Q := by
  unfold r_number at k
  have o6 := ok6 ha
  refine cf_of pX7 (Nat.le_of_ble_eq_true rfl) rfl (fun _ => B_X7_number_0 (c_X7_isStretch (fun a1 a2 a3 => ⟨fun c => by omega, fun _ => ?_⟩) (fun c => ⟨fun _ => ?_, fun c2 => absurd rfl c2⟩)))
  · rw [w32e (z := b - a) (by omega) (by omega)]
    refine ⟨fun c => ?_, fun c => ?_⟩
    · rw [if_neg (by omega)] at k; exact k
    · rw [if_pos ⟨⟨a1, a2, a3⟩, c⟩] at k
      exact c_X7_numberFrom a1 a2 c (by omega) (fun i x y => okb ha x y) k
  · rw [if_neg (fun q => c q.1)] at k; exact k
/-- the first place from one on that has a byte -/
def fnd (α : Int → Int) (v : Int) (p : Int) : Nat → Int
  | 0 => -1
  | n + 1 => if α (8 + p) = v then p else fnd α v (p + 1) n
def r_find (α : Int → Int) (v p : Int) : Int := if (0 ≤ v ∧ v ≤ 255) ∧ 0 ≤ p ∧ p ≤ α 6 then fnd α v p (α 6 - p).toNat else -1
theorem c_X6_find {v p : Int} (hr : srep h 4 α) (ha : oka α) (k : Q (r_find α v p) h) : cf d M_X6_find [.inr (.inr 1), .inl v, .inl p] h Q := by
  unfold r_find at k
  have o6 := ok6 ha
  have loop : ∀ (n : Nat) (p : Int), p + n = α 6 → 0 ≤ p → Q (fnd α v p n) h → wf d M_X6_find Q 28 [none, some (.inl v), none, some (.inr (.inr 5)), some (.inl p)] [] h := by
    intro n
    induction n with
    | zero =>
      intro p hp h0 k
      exact B_X6_find_28 ⟨fun _ => k, fun c => by rw [s_6 hr] at c; omega⟩
    | succ n ih =>
      intro p hp h0 k
      simp only [fnd] at k
      have eb := sbyte hr h0 (by omega : p < 40)
      refine B_X6_find_28 ⟨fun c => by rw [s_6 hr] at c; omega, fun _ => ⟨fun c => by omega, fun _ => ⟨h0, fun c => ?_, fun c => ?_⟩⟩⟩
      · rw [eb] at c
        rw [if_neg c] at k
        rw [w32e (by omega) (by omega)]
        exact ih (p + 1) (by omega) (by omega) k
      · rw [eb] at c
        rw [if_pos c] at k
        exact k
  refine cf_of pX6 (Nat.le_of_ble_eq_true rfl) rfl (fun _ => B_X6_find_0 ⟨fun c => ?_, fun c => ⟨fun c2 => ?_, fun c2 => ⟨fun c3 => ?_, fun c3 => ?_⟩⟩⟩)
  · rw [if_neg (by omega)] at k; exact k
  · rw [if_neg (by omega)] at k; exact k
  · by_cases q : p ≤ α 6
    · rw [if_pos ⟨⟨c, by omega⟩, c3, q⟩] at k
      exact loop (α 6 - p).toNat p (by omega) c3 k
    · rw [if_neg (by omega)] at k
      exact B_X6_find_28 ⟨fun _ => k, fun c => by rw [s_6 hr] at c; omega⟩
  · rw [if_neg (by omega)] at k; exact k
theorem c_X7_find {v p : Int} (ha : oka (h 295)) (k : Q (r_find (h 295) v p) h) : cf (d + 1) M_X7_find [.inr (.inr 294), .inl v, .inl p] h Q := by
  unfold r_find at k
  have o6 := ok6 ha
  have loop : ∀ (n : Nat) (p : Int), p + n = h 295 6 → 0 ≤ p → Q (fnd (h 295) v p n) h → wf (d + 1) M_X7_find Q 30 [some (.inr (.inr 294)), some (.inl v), none, some (.inl p)] [] h := by
    intro n
    induction n with
    | zero =>
      intro p hp h0 k
      exact B_X7_find_30 ⟨fun _ => k, fun c => by omega⟩
    | succ n ih =>
      intro p hp h0 k
      simp only [fnd] at k
      refine B_X7_find_30 ⟨fun c => by omega, fun _ => ?_⟩
      rw [w32e (z := 8 + p) (by omega) (by omega), w32e (z := p + 1) (by omega) (by omega)]
      refine ⟨by omega, by omega, fun c => ?_, fun c => ?_⟩
      · rw [if_neg c] at k
        exact ih (p + 1) (by omega) (by omega) k
      · rw [if_pos c] at k
        exact k
  refine cf_of pX7 (Nat.le_of_ble_eq_true rfl) rfl (fun _ => B_X7_find_0 (c_X7_isIn (fun a b => ⟨fun c => by omega, fun _ => c_X7_isIn (fun a2 b2 => ⟨fun _ => ?_, fun c => by omega⟩) (fun a2 => ⟨fun c => absurd rfl c, fun _ => ?_⟩)⟩) (fun a => ⟨fun _ => ?_, fun c => absurd rfl c⟩)))
  · rw [if_pos ⟨⟨a, b⟩, a2, b2⟩] at k
    exact loop (h 295 6 - p).toNat p (by omega) a2 k
  · rw [if_neg (by omega)] at k; exact k
  · rw [if_neg (by omega)] at k; exact k
end ASK2
