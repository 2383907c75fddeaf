/-! LEVEL 3, calls that change nothing of the two rows -/
section ASK
variable {d : Nat} {h : am_H} {Q : Int → am_H → Prop} {α : Int → Int}
def r_at (α : Int → Int) (p : Int) : Int := if 0 ≤ p ∧ p ≤ 39 then α (8 + p) else -1
theorem sbyte (hr : srep h 4 α) {p : Int} (a : 0 ≤ p) (b : p < 40) : h 6 p = α (8 + p) := by
  have := hr.1.2.2.2.2.1 p a b
  rw [cur_lo (by omega), show (4 : Int) + (4 + p) = 8 + p by omega] at this
  exact this
theorem okb (ha : oka α) {p : Int} (a : 0 ≤ p) (b : p < 40) : 0 ≤ α (8 + p) ∧ α (8 + p) ≤ 255 := by
  have := ha.2.2.2.2.1.2.2.2.2.1 p a b
  rw [cur_lo (by omega), show (4 : Int) + (4 + p) = 8 + p by omega] at this
  exact this
theorem ok6 (ha : oka α) : 0 ≤ α 6 ∧ α 6 ≤ 40 := by
  have := ha.2.2.2.2.1.2.2.1
  rw [cur_lo (by omega)] at this
  exact this
theorem ok7 (ha : oka α) : 0 ≤ α 7 ∧ α 7 ≤ 25 := by
  have := ha.2.2.2.2.1.2.2.2.1
  rw [cur_lo (by omega)] at this
  exact this
theorem ok4 (ha : oka α) : 0 ≤ α 4 ∧ α 4 ≤ 9999 := by
  have := ha.2.2.2.2.1.1
  rw [cur_lo (by omega)] at this
  exact this
theorem ok5 (ha : oka α) : 0 ≤ α 5 ∧ α 5 ≤ 40000 := by
  have := ha.2.2.2.2.1.2.1
  rw [cur_lo (by omega)] at this
  exact this
theorem s_6 (hr : srep h 4 α) : h 5 3 = α 6 := hr.1.2.2.1.trans (cur_lo (by omega))
theorem s_7 (hr : srep h 4 α) : h 5 2 = α 7 := hr.1.2.2.2.1.trans (cur_lo (by omega))
theorem s_4 (hr : srep h 4 α) : h 5 4 = α 4 := hr.1.1.trans (cur_lo (by omega))
theorem s_5 (hr : srep h 4 α) : h 5 5 = α 5 := hr.1.2.1.trans (cur_lo (by omega))
theorem s_line (hr : srep h 4 α) {j : Int} (a : 0 ≤ j) (b : j < α 7) : lr (h 7 j) (α (2134 + j)) := by
  have := hr.1.2.2.2.2.2 j a (by rw [cur_lo (by omega)]; exact b)
  unfold cur mv at this
  rw [if_neg (by omega), show 2134 + (44 + j - 44) = 2134 + j by omega] at this
  exact this
theorem lr_bd {c r : Int} (hl : lr c r) : 0 ≤ r ∧ r ≤ 500000000 := by
  obtain ⟨dd, w, v, b, h1, h2, h3, h4, rfl, rfl⟩ := hl
  omega
theorem c_X6_at {p : Int} (hr : srep h 4 α) (k : Q (r_at α p) h) : cf d M_X6_at [.inr (.inr 1), .inl p] h Q := by
  unfold r_at at k
  refine cf_of pX6 (Nat.le_of_ble_eq_true rfl) rfl (fun _ => B_X6_at_0 ⟨fun c => ?_, fun c => ⟨fun c2 => ?_, fun c2 => ?_⟩⟩)
  · rw [if_neg (by omega)] at k; exact k
  · rw [if_neg (by omega)] at k; exact k
  · rw [if_pos (by omega)] at k
    rw [sbyte hr c c2]; exact k
theorem c_X7_at {p : Int} (k : Q (r_at (h 295) p) h) : cf (d + 1) M_X7_at [.inr (.inr 294), .inl p] h Q := by
  unfold r_at at k
  refine cf_of pX7 (Nat.le_of_ble_eq_true rfl) rfl (fun _ => B_X7_at_0 (c_X7_isIn (fun a b => ⟨fun c => by omega, fun _ => ?_⟩) (fun a => ⟨fun _ => ?_, fun c => absurd rfl c⟩)))
  · rw [if_pos ⟨a, b⟩] at k
    rw [w32e (by omega) (by omega)]
    exact ⟨by omega, by omega, k⟩
  · rw [if_neg (by omega)] at k; exact k
def r_is (α : Int → Int) (w : Int) : Int := if w = 0 then α 4 else if w = 1 then α 5 else if w = 2 then α 6 else if w = 3 then sm α 8 (α 6).toNat else -2
theorem c_X6_is {w : Int} (hr : srep h 4 α) (ha : oka α) (k : Q (r_is α w) h) : cf (d + 2) M_X6_is [.inr (.inr 1), .inl w] h Q := by
  unfold r_is at k
  have o6 := ok6 ha
  refine cf_of pX6 (Nat.le_of_ble_eq_true rfl) rfl (fun _ => B_X6_is_0 ⟨fun c => ?_, fun c => ?_, fun c => ?_, fun c => ?_, fun c => ?_⟩)
  · rw [if_neg (by omega), if_neg (by omega), if_neg (by omega), if_neg (by omega)] at k; exact k
  · rw [if_pos c] at k; rw [s_4 hr]; exact k
  · rw [if_neg (by omega), if_pos c] at k; rw [s_5 hr]; exact k
  · rw [if_neg (by omega), if_neg (by omega), if_pos c] at k; rw [s_6 hr]; exact k
  · rw [if_neg (by omega), if_neg (by omega), if_neg (by omega), if_pos c] at k
    rw [s_6 hr]
    refine c_X0_together k_5 (by omega) (by omega) (by omega) (fun i a b => by rw [show (5 : Int) + 1 = 6 from rfl, sbyte hr a b]; exact okb ha a b) ?_
    have e : sm (h (5 + 1)) 0 (α 6 - 0).toNat = sm α 8 (α 6).toNat := by
      rw [show (α 6 - 0).toNat = (α 6).toNat by omega]
      exact sm_congr _ 0 8 (fun j a b => by rw [show (5 : Int) + 1 = 6 from rfl, Int.zero_add]; exact sbyte hr a (by omega))
    rw [e]
    exact k
theorem l_X7_bytesFrom {b : Int} (hb : b ≤ 40) (hf : ∀ i : Int, 0 ≤ i → i < 40 → 0 ≤ h 295 (8 + i) ∧ h 295 (8 + i) ≤ 255) : ∀ (n : Nat) (p t : Int), p + n = b → 0 ≤ p → 0 ≤ t → t ≤ 255 * p → Q (t + sm (h 295) (8 + p) n) h → wf d M_X7_bytesFrom Q 5 [some (.inr (.inr 294)), none, some (.inl b), some (.inl t), some (.inl p)] [] h
  | 0, p, t, hp, h0, t1, t2, k => by
    simp only [sm, Int.add_zero] at k
    exact B_X7_bytesFrom_5 ⟨fun _ => k, fun c => by omega⟩
  | n + 1, p, t, hp, h0, t1, t2, k => by
    have := hf p h0 (by omega)
    refine B_X7_bytesFrom_5 ⟨fun c => by omega, fun c => ?_⟩
    rw [w32e (z := 8 + p) (by omega) (by omega), w32e (z := t + h 295 (8 + p)) (by omega) (by omega), w32e (z := p + 1) (by omega) (by omega)]
    refine ⟨by omega, by omega, l_X7_bytesFrom hb hf n (p + 1) _ (by omega) (by omega) (by omega) (by omega) ?_⟩
    simp only [sm] at k
    rw [← Int.add_assoc, show 8 + p + 1 = 8 + (p + 1) by omega] at k
    exact k
theorem c_X7_bytesFrom {a b : Int} (h0 : 0 ≤ a) (hab : a ≤ b) (hb : b ≤ 40) (hf : ∀ i : Int, 0 ≤ i → i < 40 → 0 ≤ h 295 (8 + i) ∧ h 295 (8 + i) ≤ 255) (k : Q (sm (h 295) (8 + a) (b - a).toNat) h) : cf d M_X7_bytesFrom [.inr (.inr 294), .inl a, .inl b] h Q :=
  cf_of pX7 (Nat.le_of_ble_eq_true rfl) rfl (fun _ => B_X7_bytesFrom_0 (l_X7_bytesFrom hb hf (b - a).toNat a 0 (by omega) h0 (by omega) (by omega) (by rw [Int.zero_add]; exact k)))
theorem c_X7_is {w : Int} (ha : oka (h 295)) (k : Q (r_is (h 295) w) h) : cf (d + 1) M_X7_is [.inr (.inr 294), .inl w] h Q := by
  unfold r_is at k
  have o6 := ok6 ha
  refine cf_of pX7 (Nat.le_of_ble_eq_true rfl) rfl (fun _ => B_X7_is_0 (c_X7_isIn (fun a b => ⟨fun c => by omega, fun _ => ?_⟩) (fun a => ⟨fun _ => ⟨fun c => ?_, fun c => ?_⟩, fun c => absurd rfl c⟩)))
  · rw [w32e (by omega) (by omega)]
    refine ⟨by omega, by omega, ?_⟩
    rcases (show w = 0 ∨ w = 1 ∨ w = 2 by omega) with rfl | rfl | rfl
    · exact k
    · exact k
    · exact k
  · rw [if_neg (by omega), if_neg (by omega), if_neg (by omega), if_neg c] at k; exact k
  · rw [if_neg (by omega), if_neg (by omega), if_neg (by omega), if_pos c] at k
    refine c_X7_bytesFrom (by omega) (by omega) (by omega) (fun i a b => okb ha a b) ?_
    rw [show (h 295 6 - 0).toNat = (h 295 6).toNat by omega, Int.add_zero]
    exact k
def r_line (r w : Int) : Int := if w = 0 then r / 41984 else if w = 1 then r / 10496 % 4 else if w = 2 then r / 256 % 41 else if w = 3 then r % 256 else -2
def r_book (α : Int → Int) (i w : Int) : Int := if i = -1 then α 7 else if 0 ≤ i ∧ i < α 7 then r_line (α (2134 + i)) w else -2
theorem c_X6_book {i w : Int} (hr : srep h 4 α) (ha : oka α) (k : Q (r_book α i w) h) : cf (d + 1) M_X6_book [.inr (.inr 1), .inl i, .inl w] h Q := by
  unfold r_book at k
  have o7 := ok7 ha
  refine cf_of pX6 (Nat.le_of_ble_eq_true rfl) rfl (fun _ => B_X6_book_0 ⟨fun c => ⟨fun c2 => ?_, fun c2 => ⟨fun c3 => ?_, fun c3 => ⟨fun c4 => ?_, fun c4 => ?_⟩⟩⟩, fun c => ?_⟩)
  · rw [if_neg c, if_neg (by omega)] at k; exact k
  · rw [s_7 hr] at c3; rw [if_neg c, if_neg (by omega)] at k; exact k
  · rw [s_7 hr] at c3
    rw [if_neg c, if_pos (by omega)] at k
    exact c_X0_tell (s_line hr c2 c3) k
  · rw [s_7 hr] at c3; omega
  · rw [if_pos c] at k; rw [s_7 hr]; exact k
theorem c_X7_lineOf {i w : Int} (hi : 0 ≤ i ∧ i < 25) (hl : 0 ≤ h 295 (2134 + i) ∧ h 295 (2134 + i) ≤ 500000000) (hw : 0 ≤ w ∧ w ≤ 3) (k : Q (r_line (h 295 (2134 + i)) w) h) : cf d M_X7_lineOf [.inr (.inr 294), .inl i, .inl w] h Q := by
  unfold r_line at k
  refine cf_of pX7 (Nat.le_of_ble_eq_true rfl) rfl (fun _ => B_X7_lineOf_0 ?_)
  rw [w32e (z := 2134 + i) (by omega) (by omega)]
  generalize h 295 (2134 + i) = r at hl k ⊢
  rw [Int.tmod_eq_emod_of_nonneg hl.1, Int.tdiv_eq_ediv_of_nonneg hl.1, Int.tdiv_eq_ediv_of_nonneg hl.1, Int.tdiv_eq_ediv_of_nonneg hl.1, w32e (z := r % 256) (by omega) (by omega), w32e (z := r / 256) (by omega) (by omega), w32e (z := r / 10496) (by omega) (by omega), w32e (z := r / 41984) (by omega) (by omega), Int.tmod_eq_emod_of_nonneg (by omega), Int.tmod_eq_emod_of_nonneg (by omega), w32e (z := r / 256 % 41) (by omega) (by omega), w32e (z := r / 10496 % 4) (by omega) (by omega)]
  refine ⟨by omega, by omega, fun c => ⟨fun c2 => ⟨fun c3 => ?_, fun c3 => ?_⟩, fun c2 => ?_⟩, fun c => ?_⟩
  · rw [if_neg c, if_neg c2, if_neg c3, if_pos (by omega)] at k; exact k
  · rw [if_neg c, if_neg c2, if_pos c3] at k; exact k
  · rw [if_neg c, if_pos c2] at k; exact k
  · rw [if_pos c] at k; exact k
theorem c_X7_book {i w : Int} (ha : oka (h 295)) (hl : ∀ j : Int, 0 ≤ j → j < h 295 7 → 0 ≤ h 295 (2134 + j) ∧ h 295 (2134 + j) ≤ 500000000) (k : Q (r_book (h 295) i w) h) : cf (d + 1) M_X7_book [.inr (.inr 294), .inl i, .inl w] h Q := by
  unfold r_book at k
  have o7 := ok7 ha
  refine cf_of pX7 (Nat.le_of_ble_eq_true rfl) rfl (fun _ => B_X7_book_0 ⟨fun c => ?_, fun c => ?_⟩)
  · rw [w32e (by omega) (by omega)]
    rw [if_neg c] at k
    refine c_X7_isIn (fun a b => ⟨fun c => by omega, fun _ => ?_⟩) (fun a => ⟨fun _ => ?_, fun c => absurd rfl c⟩)
    · rw [if_pos (by omega)] at k
      refine c_X7_isIn (fun a2 b2 => ⟨fun c => by omega, fun _ => c_X7_lineOf ⟨a, by omega⟩ (hl i a (by omega)) ⟨a2, b2⟩ k⟩) (fun a2 => ⟨fun _ => ?_, fun c => absurd rfl c⟩)
      unfold r_line at k
      rw [if_neg (by omega), if_neg (by omega), if_neg (by omega), if_neg (by omega)] at k
      exact k
    · rw [if_neg (by omega)] at k; exact k
  · rw [if_pos c] at k; exact k
/-- how many lines are of a kind -/
def cnt (α : Int → Int) (w : Int) (p : Int) : Nat → Int
  | 0 => 0
  | n + 1 => (if r_line (α (2134 + p)) 1 = w then 1 else 0) + cnt α w (p + 1) n
theorem cnt_bd {α : Int → Int} {w : Int} : ∀ (n : Nat) (p : Int), 0 ≤ cnt α w p n ∧ cnt α w p n ≤ n
  | 0, p => by simp [cnt]
  | n + 1, p => by
    have := cnt_bd (α := α) (w := w) n (p + 1)
    simp only [cnt]
    split <;> omega
def r_ledger (α : Int → Int) (w : Int) : Int := if 0 ≤ w ∧ w ≤ 3 then cnt α w 0 (α 7).toNat else -2
theorem c_X6_ledger {w : Int} (hr : srep h 4 α) (ha : oka α) (k : Q (r_ledger α w) h) : cf (d + 1) M_X6_ledger [.inr (.inr 1), .inl w] h Q := by
  have o7 := ok7 ha
  have loop : ∀ (n : Nat) (p t : Int), p + n = α 7 → 0 ≤ p → 0 ≤ t → t ≤ p → Q (t + cnt α w p n) h → wf (d + 1) M_X6_ledger Q 25 [none, some (.inl w), some (.inr (.inr 5)), some (.inl t), some (.inl p)] [] h := by
    intro n
    induction n with
    | zero =>
      intro p t hp h0 t0 t1 k
      refine B_X6_ledger_25 ⟨fun _ => ?_, fun c => by rw [s_7 hr] at c; omega⟩
      simp only [cnt, Int.add_zero] at k
      exact k
    | succ n ih =>
      intro p t hp h0 t0 t1 k
      simp only [cnt] at k
      refine B_X6_ledger_25 ⟨fun c => by rw [s_7 hr] at c; omega, fun _ => ⟨fun c => by omega, fun c => ⟨h0, c_X0_tell (s_line hr h0 (by omega)) ⟨fun c2 => B_X6_ledger_62 ?_, fun c2 => B_X6_ledger_62 ?_⟩⟩⟩⟩
      · have c3 : ¬ r_line (α (2134 + p)) 1 = w := c2
        rw [if_neg c3, Int.zero_add] at k
        rw [Int.add_zero, w32e (z := t) (by omega) (by omega), w32e (by omega) (by omega)]
        exact ih (p + 1) t (by omega) (by omega) t0 (by omega) k
      · have c3 : r_line (α (2134 + p)) 1 = w := c2
        rw [if_pos c3, ← Int.add_assoc] at k
        rw [w32e (z := t + 1) (by omega) (by omega), w32e (z := p + 1) (by omega) (by omega)]
        exact ih (p + 1) (t + 1) (by omega) (by omega) (by omega) (by omega) k
  unfold r_ledger at k
  refine cf_of pX6 (Nat.le_of_ble_eq_true rfl) rfl (fun _ => B_X6_ledger_0 ⟨fun c => ?_, fun c => ⟨fun c2 => ?_, fun c2 => ?_⟩⟩)
  · rw [if_neg (by omega)] at k; exact k
  · rw [if_pos ⟨c, c2⟩] at k
    exact loop (α 7).toNat 0 0 (by omega) (by omega) (by omega) (by omega) (by rw [Int.zero_add]; exact k)
  · rw [if_neg (by omega)] at k; exact k
theorem c_X7_ledger {w : Int} (ha : oka (h 295)) (hl : ∀ j : Int, 0 ≤ j → j < h 295 7 → 0 ≤ h 295 (2134 + j) ∧ h 295 (2134 + j) ≤ 500000000) (k : Q (r_ledger (h 295) w) h) : cf (d + 1) M_X7_ledger [.inr (.inr 294), .inl w] h Q := by
  have o7 := ok7 ha
  have loop : ∀ (n : Nat) (p t : Int), p + n = h 295 7 → 0 ≤ p → 0 ≤ t → t ≤ p → Q (t + cnt (h 295) w p n) h → wf (d + 1) M_X7_ledger Q 16 [some (.inr (.inr 294)), some (.inl w), some (.inl t), some (.inl p)] [] h := by
    intro n
    induction n with
    | zero =>
      intro p t hp h0 t0 t1 k
      refine B_X7_ledger_16 ⟨fun _ => ?_, fun c => by omega⟩
      simp only [cnt, Int.add_zero] at k
      exact k
    | succ n ih =>
      intro p t hp h0 t0 t1 k
      simp only [cnt] at k
      refine B_X7_ledger_16 ⟨fun c => by omega, fun _ => c_X7_lineOf ⟨h0, by omega⟩ (hl p h0 (by omega)) (by omega) ⟨fun c2 => B_X7_ledger_43 ?_, fun c2 => B_X7_ledger_43 ?_⟩⟩
      · rw [if_neg c2, Int.zero_add] at k
        rw [Int.add_zero, w32e (z := t) (by omega) (by omega), w32e (by omega) (by omega)]
        exact ih (p + 1) t (by omega) (by omega) t0 (by omega) k
      · rw [if_pos c2, ← Int.add_assoc] at k
        rw [w32e (z := t + 1) (by omega) (by omega), w32e (z := p + 1) (by omega) (by omega)]
        exact ih (p + 1) (t + 1) (by omega) (by omega) (by omega) (by omega) k
  unfold r_ledger at k
  refine cf_of pX7 (Nat.le_of_ble_eq_true rfl) rfl (fun _ => B_X7_ledger_0 (c_X7_isIn (fun a b => ⟨fun _ => ?_, fun c => by omega⟩) (fun a => ⟨fun c => absurd rfl c, fun _ => ?_⟩)))
  · rw [if_pos ⟨a, b⟩] at k
    exact loop (h 295 7).toNat 0 0 (by omega) (by omega) (by omega) (by omega) (by rw [Int.zero_add]; exact k)
  · rw [if_neg (by omega)] at k; exact k
end ASK
