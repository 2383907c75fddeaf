section ASK3
variable {d : Nat} {h : am_H} {Q : Int → am_H → Prop} {α : Int → Int}
/-- the longest run of like bytes -/
def rn (α : Int → Int) (best run p : Int) : Nat → Int
  | 0 => best
  | n + 1 => if 0 < p ∧ α (8 + p) = α (8 + p - 1) then (if run + 1 ≤ best then rn α best (run + 1) (p + 1) n else rn α (run + 1) (run + 1) (p + 1) n) else (if 1 ≤ best then rn α best 1 (p + 1) n else rn α 1 1 (p + 1) n)
theorem c_X6_run (hr : srep h 4 α) (ha : oka α) (k : Q (rn α 0 0 0 (α 6).toNat) h) : cf (d + 1) M_X6_run [.inr (.inr 1)] h Q := by
  have o6 := ok6 ha
  have loop : ∀ (n : Nat) (best run p : Int), p + n = α 6 → 0 ≤ p → 0 ≤ run → run ≤ p → Q (rn α best run p n) h → wf (d + 1) M_X6_run Q 15 [none, some (.inr (.inr 5)), some (.inl best), some (.inl run), some (.inl p), none] [] h := by
    intro n
    induction n with
    | zero =>
      intro best run p hp h0 r0 r1 k
      exact B_X6_run_15 ⟨fun _ => k, fun c => by rw [s_6 hr] at c; omega⟩
    | succ n ih =>
      intro best run p hp h0 r0 r1 k
      simp only [rn] at k
      have eb := sbyte hr h0 (by omega : p < 40)
      have one : ¬ (0 < p ∧ α (8 + p) = α (8 + p - 1)) → wf (d + 1) M_X6_run Q 59 [none, some (.inr (.inr 5)), some (.inl best), some (.inl run), some (.inl p), none] [] h := by
        intro nc
        rw [if_neg nc] at k
        refine B_X6_run_59 (B_X6_run_60 ⟨fun _ => ?_, fun c => absurd rfl c⟩)
        refine B_X6_run_74 (c_max (fun c => ?_) (fun c => ?_))
        · rw [if_neg (by omega)] at k
          rw [w32e (by omega) (by omega)]
          exact ih 1 1 (p + 1) (by omega) (by omega) (by omega) (by omega) k
        · rw [if_pos c] at k
          rw [w32e (by omega) (by omega)]
          exact ih best 1 (p + 1) (by omega) (by omega) (by omega) (by omega) k
      refine B_X6_run_15 ⟨fun c => by rw [s_6 hr] at c; omega, fun _ => ⟨fun c => by omega, fun _ => ⟨fun c => one (by omega), fun c => ⟨h0, ?_⟩⟩⟩⟩
      rw [w32e (z := p - 1) (by omega) (by omega)]
      have eb2 := sbyte hr (by omega : 0 ≤ p - 1) (by omega : p - 1 < 40)
      rw [show 8 + (p - 1) = 8 + p - 1 by omega] at eb2
      refine ⟨by omega, by omega, fun q => one (fun q2 => q (by rw [eb, eb2]; exact q2.2)), fun q => ?_⟩
      rw [eb, eb2] at q
      rw [if_pos ⟨c, q⟩] at k
      refine B_X6_run_60 ⟨fun c => by omega, fun _ => ?_⟩
      rw [w32e (z := run + 1) (by omega) (by omega)]
      refine B_X6_run_74 (c_max (fun c => ?_) (fun c => ?_))
      · rw [if_neg (by omega)] at k
        rw [w32e (by omega) (by omega)]
        exact ih _ _ (p + 1) (by omega) (by omega) (by omega) (by omega) k
      · rw [if_pos c] at k
        rw [w32e (by omega) (by omega)]
        exact ih _ _ (p + 1) (by omega) (by omega) (by omega) (by omega) k
  exact cf_of pX6 (Nat.le_of_ble_eq_true rfl) rfl (fun _ => B_X6_run_0 (loop (α 6).toNat 0 0 0 (by omega) (by omega) (by omega) (by omega) k))
theorem c_X7_run (ha : oka (h 295)) (k : Q (rn (h 295) 0 0 0 (h 295 6).toNat) h) : cf d M_X7_run [.inr (.inr 294)] h Q := by
  have o6 := ok6 ha
  have loop : ∀ (n : Nat) (best run p : Int), p + n = h 295 6 → 0 ≤ p → 0 ≤ run → run ≤ p → Q (rn (h 295) best run p n) h → wf d M_X7_run Q 6 [some (.inr (.inr 294)), some (.inl best), some (.inl run), some (.inl p)] [] h := by
    intro n
    induction n with
    | zero =>
      intro best run p hp h0 r0 r1 k
      exact B_X7_run_6 ⟨fun _ => k, fun c => by omega⟩
    | succ n ih =>
      intro best run p hp h0 r0 r1 k
      simp only [rn] at k
      have fin : ∀ r : Int, 0 ≤ r → r ≤ p + 1 → (if r ≤ best then Q (rn (h 295) best r (p + 1) n) h else Q (rn (h 295) r r (p + 1) n) h) → wf d M_X7_run Q 51 [some (.inr (.inr 294)), some (.inl best), none, some (.inl p)] [.inl r] h := by
        intro r q0 q1 kk
        refine B_X7_run_51 ⟨fun c => B_X7_run_62 ?_, fun c => B_X7_run_62 ?_⟩
        · rw [if_pos c] at kk
          rw [w32e (by omega) (by omega)]
          exact ih _ _ (p + 1) (by omega) (by omega) (by omega) (by omega) kk
        · rw [if_neg (by omega)] at kk
          rw [w32e (by omega) (by omega)]
          exact ih _ _ (p + 1) (by omega) (by omega) (by omega) (by omega) kk
      have one : ¬ (0 < p ∧ h 295 (8 + p) = h 295 (8 + p - 1)) → wf d M_X7_run Q 50 [some (.inr (.inr 294)), some (.inl best), none, some (.inl p)] [] h := by
        intro nc
        rw [if_neg nc] at k
        refine B_X7_run_50 (fin 1 (by omega) (by omega) ?_)
        by_cases c : 1 ≤ best
        · rw [if_pos c] at k ⊢; exact k
        · rw [if_neg c] at k ⊢; exact k
      refine B_X7_run_6 ⟨fun c => by omega, fun _ => ⟨fun c => one (by omega), fun c => ?_⟩⟩
      rw [w32e (z := 8 + p) (by omega) (by omega), w32e (z := 8 + p - 1) (by omega) (by omega), w32e (z := run + 1) (by omega) (by omega)]
      refine ⟨by omega, by omega, by omega, by omega, fun q => one (fun q2 => q q2.2), fun q => ?_⟩
      rw [if_pos ⟨c, q⟩] at k
      refine fin _ (by omega) (by omega) ?_
      by_cases c2 : run + 1 ≤ best
      · rw [if_pos c2] at k ⊢; exact k
      · rw [if_neg c2] at k ⊢; exact k
  exact cf_of pX7 (Nat.le_of_ble_eq_true rfl) rfl (fun _ => B_X7_run_0 (loop (h 295 6).toNat 0 0 0 (by omega) (by omega) (by omega) (by omega) k))
/-! what is told of the state and of the tape -/
def r_about (α : Int → Int) (n w : Int) : Int := if w = 4 then n else if 0 ≤ w ∧ w ≤ 3 then α w else -2
theorem c_X6_about {w : Int} (hr : srep h 4 α) (k : Q (r_about α (h 1 1) w) h) : cf d M_X6_about [.inr (.inr 1), .inl w] h Q := by
  unfold r_about at k
  obtain ⟨r1, r2, r3, r4, r5, r6, r7, r8⟩ := hr
  refine cf_of pX6 (Nat.le_of_ble_eq_true rfl) rfl (fun _ => B_X6_about_0 ⟨fun c => ?_, fun c => ?_, fun c => ?_, fun c => ?_, fun c => ?_, fun c => ?_⟩)
  · rw [if_neg (by omega), if_neg (by omega)] at k; exact k
  · subst c; rw [r5]; exact k
  · subst c; rw [r6]; exact k
  · subst c; rw [r2]; exact k
  · subst c; rw [r7]; exact k
  · subst c; exact k
theorem c_X7_about {w : Int} (k : Q (r_about (h 295) (h 294 4) w) h) : cf (d + 1) M_X7_about [.inr (.inr 294), .inl w] h Q := by
  unfold r_about at k
  refine cf_of pX7 (Nat.le_of_ble_eq_true rfl) rfl (fun _ => B_X7_about_0 (c_X7_isIn (fun a b => ⟨fun c => by omega, fun _ => ⟨a, by omega, ?_⟩⟩) (fun a => ⟨fun _ => ⟨fun c => ?_, fun c => ?_⟩, fun c => absurd rfl c⟩)))
  · rw [if_neg (by omega), if_pos ⟨a, b⟩] at k; exact k
  · rw [if_neg c, if_neg (by omega)] at k; exact k
  · rw [if_pos c] at k; exact k
def r_fault (f p w : Int) : Int := if w = 0 then f else if w = 1 then p else -1
theorem c_X6_fault {w : Int} (k : Q (r_fault (h 1 2) (h 1 3) w) h) : cf d M_X6_fault [.inr (.inr 1), .inl w] h Q := by
  unfold r_fault at k
  refine cf_of pX6 (Nat.le_of_ble_eq_true rfl) rfl (fun _ => B_X6_fault_0 ⟨fun c => ⟨fun c2 => ?_, fun c2 => ?_⟩, fun c => ?_⟩)
  · rw [if_neg c, if_neg c2] at k; exact k
  · rw [if_neg c, if_pos c2] at k; exact k
  · rw [if_pos c] at k; exact k
theorem c_X7_fault {w : Int} (k : Q (r_fault (h 294 5) (h 294 6) w) h) : cf d M_X7_fault [.inr (.inr 294), .inl w] h Q := by
  unfold r_fault at k
  refine cf_of pX7 (Nat.le_of_ble_eq_true rfl) rfl (fun _ => B_X7_fault_0 ⟨fun c => ⟨fun c2 => ?_, fun c2 => ?_⟩, fun c => ?_⟩)
  · rw [if_neg c, if_neg c2] at k; exact k
  · rw [if_neg c, if_pos c2] at k; exact k
  · rw [if_pos c] at k; exact k
theorem c_X6_end {n : Int} (k1 : 0 ≤ n → n ≤ h 1 1 → Q n (am_up h 1 1 n)) (k0 : ¬ (0 ≤ n ∧ n ≤ h 1 1) → Q (-1) h) : cf d M_X6_end [.inr (.inr 1), .inl n] h Q :=
  cf_of pX6 (Nat.le_of_ble_eq_true rfl) rfl (fun _ => B_X6_end_0 ⟨fun c => k0 (by omega), fun c => ⟨fun c2 => k1 c c2, fun c2 => k0 (by omega)⟩⟩)
theorem c_X7_end {n : Int} (k1 : 0 ≤ n → n ≤ h 294 4 → Q n (am_up h 294 4 n)) (k0 : ¬ (0 ≤ n ∧ n ≤ h 294 4) → Q (-1) h) : cf (d + 1) M_X7_end [.inr (.inr 294), .inl n] h Q :=
  cf_of pX7 (Nat.le_of_ble_eq_true rfl) rfl (fun _ => B_X7_end_0 (c_X7_isIn (fun a b => ⟨fun _ => k1 a b, fun c => by omega⟩) (fun a => ⟨fun c => absurd rfl c, fun _ => k0 (by omega)⟩)))
theorem c_X6_textAt {t : Int} (hr : srep h 4 α) (ha : oka α) (k1 : 0 ≤ t → t < α 0 → Q (242 + 13 * t) h) (k0 : t < 0 ∨ α 0 ≤ t → Q 0 h) : cf d M_X6_textAt [.inr (.inr 1), .inl t] h Q := by
  obtain ⟨r1, r2, r3, r4, r5, r6, r7, r8⟩ := hr
  have a0 := ha.1
  have no : t < 0 ∨ α 0 ≤ t → wf d M_X6_textAt Q 28 [some (.inr (.inr 1)), some (.inl t), none] [] h := fun c => B_X6_textAt_28 (B_X6_textAt_29 ⟨fun _ => k0 c, fun c => absurd rfl c⟩)
  refine cf_of pX6 (Nat.le_of_ble_eq_true rfl) rfl (fun _ => B_X6_textAt_0 ⟨fun c => no (Or.inl c), fun c => ⟨fun c2 => no (Or.inr (by omega)), fun c2 => ⟨fun c3 => by omega, fun c3 => B_X6_textAt_29 ⟨fun c => by omega, fun _ => ⟨c, c3, ?_⟩⟩⟩⟩⟩)
  rw [show (3 : Int) + 239 + 13 * t = 242 + 13 * t by omega]
  exact k1 c (by omega)
/-- the head of a state changes, its moments stay -/
theorem srep_hd {h2 : am_H} {s : Int} {β : Int → Int} (hr : srep h s α) (ha : oka α) (f : ∀ b : Int, s < b → b ≤ s + 96 → b ≠ s + 5 → b ≠ s + 6 → h2 b = h b) (g2 : h2 s 2 = h s 2) (g3 : h2 s 3 = h s 3) (e : ∀ j : Int, j = 2 ∨ (4 ≤ j ∧ j < 48) ∨ 64 ≤ j → β j = α j) (e0 : h2 s 4 = β 0) (e1 : h2 s 5 = β 1) (e3 : h2 s 8 = β 3) (es : ∀ i : Int, 0 ≤ i → i < β 3 → h2 (s + 5) i = β (48 + 2 * i) ∧ h2 (s + 6) i = β (48 + 2 * i + 1)) : srep h2 s β := by
  obtain ⟨r1, r2, r3, r4, r5, r6, r7, r8⟩ := hr
  have a2 := ha.2.2.1
  have hc : 0 ≤ cur α 3 ∧ cur α 3 ≤ 25 := ha.2.2.2.2.1.2.2.2.1
  have cu : cur β = cur α ∨ True := Or.inr trivial
  refine ⟨?_, by rw [g3, e 2 (by omega)]; exact r2, by rw [g2]; exact r3, fun q q0 q1 => ?_, e0, e1, e3, es⟩
  · refine mrep_eq (mrep_congr r1 (f _ (by omega) (by omega) (by omega) (by omega)) (f _ (by omega) (by omega) (by omega) (by omega)) (f _ (by omega) (by omega) (by omega) (by omega))) hc.1 (fun j j0 _ => ?_)
    unfold cur mv
    by_cases c : j < 44
    · rw [if_pos c, if_pos c]; exact e _ (by omega)
    · rw [if_neg c, if_neg c]; exact e _ (by omega)
  · rw [e 2 (by omega)] at q1
    have hs3 : 0 ≤ stp α q 3 := (ha.2.2.2.2.2 q q0 q1).2.2.2.1.1
    rw [g2]
    have hm : 0 ≤ (h s 2 + q) % 30 ∧ (h s 2 + q) % 30 < 30 := by omega
    generalize hix : (h s 2 + q) % 30 = ix at hm
    have r4q := r4 q q0 q1
    rw [hix] at r4q
    refine mrep_eq (mrep_congr r4q (f _ (by omega) (by omega) (by omega) (by omega)) (f _ (by omega) (by omega) (by omega) (by omega)) (f _ (by omega) (by omega) (by omega) (by omega))) hs3 (fun j j0 _ => ?_)
    unfold stp
    exact e _ (by omega)
theorem oka_hd {β : Int → Int} (ha : oka α) (e : ∀ j : Int, j = 2 ∨ (4 ≤ j ∧ j < 48) ∨ 64 ≤ j → β j = α j) (b0 : 0 ≤ β 0 ∧ β 0 ≤ 4) (b1 : -1 ≤ β 1 ∧ β 1 < β 0) (b3 : 0 ≤ β 3 ∧ β 3 ≤ 8) : oka β := by
  have a2 := ha.2.2.1
  have e2 := e 2 (by omega)
  refine ⟨b0, b1, by rw [e2]; exact a2, b3, okm_eq ha.2.2.2.2.1 (fun j j0 j1 => ?_), fun q q0 q1 => okm_eq (ha.2.2.2.2.2 q q0 (by rw [e2] at q1; exact q1)) (fun j j0 j1 => ?_)⟩
  · unfold cur mv
    rw [if_pos j1, if_pos j1]; exact e _ (by omega)
  · unfold stp
    exact e _ (by omega)
theorem c_X6_by {t : Int} (hr : srep h 4 α) (ha : oka α) (k1 : -1 ≤ t → t < α 0 → ∀ h2, frS h h2 4 → srep h2 4 (up1 α 1 t) → Q 1 h2) (k0 : ¬ (-1 ≤ t ∧ t < α 0) → Q 0 h) : cf (d + 1) M_X6_by [.inr (.inr 1), .inl t] h Q := by
  have a0 := ha.1
  obtain ⟨r1, r2, r3, r4, r5, r6, r7, r8⟩ := id hr
  have put : -1 ≤ t → t < α 0 → wf (d + 1) M_X6_by Q 15 [some (.inr (.inr 1)), some (.inl t)] [] h := by
    intro t0 t1
    refine B_X6_by_15 (k1 t0 t1 _ frS_up (srep_hd hr ha ?_ (am_up_ne (by omega)) (am_up_ne (by omega)) ?_ ?_ ?_ ?_ ?_))
    · intro b b0 b1 b2 b3
      funext j
      exact am_up_ne (by omega)
    · intro j hj
      exact up1_ne (by omega)
    · rw [am_up_ne (by omega), up1_ne (by omega)]; exact r5
    · rw [am_up_at, up1_at]
    · rw [am_up_ne (by omega), up1_ne (by omega)]; exact r7
    · intro i i0 i1
      rw [up1_ne (by omega)] at i1
      rw [am_up_ne (by omega), am_up_ne (by omega), up1_ne (by omega), up1_ne (by omega)]
      exact r8 i i0 i1
  exact cf_of pX6 (Nat.le_of_ble_eq_true rfl) rfl (fun _ => B_X6_by_0 ⟨fun c => put (by omega) (by omega), fun c => c_X6_textAt hr ha (fun a b => ⟨by omega, fun _ => put (by omega) b, fun c => by omega⟩) (fun a => ⟨by omega, fun c => by omega, fun _ => k0 (by omega)⟩)⟩)
theorem c_X7_by {t : Int} (ha : oka (h 295)) (k1 : -1 ≤ t → t < h 295 0 → Q 1 (am_row h 295 (up1 (h 295) 1 t))) (k0 : ¬ (-1 ≤ t ∧ t < h 295 0) → Q 0 h) : cf (d + 1) M_X7_by [.inr (.inr 294), .inl t] h Q := by
  have a0 := ha.1
  refine cf_of pX7 (Nat.le_of_ble_eq_true rfl) rfl (fun _ => B_X7_by_0 ?_)
  rw [w32e (z := h 295 0 - 1) (by omega) (by omega)]
  refine c_X7_isIn (fun a b => ⟨fun _ => ?_, fun c => by omega⟩) (fun a => ⟨fun c => absurd rfl c, fun _ => k0 (by omega)⟩)
  rw [up_row]
  exact k1 a (by omega)
theorem oka_by {t : Int} (ha : oka α) (t0 : -1 ≤ t) (t1 : t < α 0) : oka (up1 α 1 t) :=
  oka_hd ha (fun j hj => up1_ne (by omega)) (by rw [up1_ne (by omega)]; exact ha.1) (by rw [up1_at, up1_ne (by omega)]; exact ⟨t0, t1⟩) (by rw [up1_ne (by omega)]; exact ha.2.2.2.1)
/-- one thing more is said -/
def s_said (α : Int → Int) (f v : Int) : Int → Int := up1 (up1 (up1 α (48 + 2 * α 3) f) (48 + 2 * α 3 + 1) v) 3 (α 3 + 1)
theorem c_X6_said {f v : Int} (hr : srep h 4 α) (ha : oka α) (kz : f = -1 → ∀ h2, frS h h2 4 → srep h2 4 (up1 α 3 0) → Q 0 h2) (k1 : ¬ f = -1 → (0 ≤ f ∧ f ≤ 7) ∧ (0 ≤ v ∧ v ≤ 16777215) ∧ α 3 < 8 → ∀ h2, frS h h2 4 → srep h2 4 (s_said α f v) → Q (α 3 + 1) h2) (k0 : ¬ f = -1 → ¬ ((0 ≤ f ∧ f ≤ 7) ∧ (0 ≤ v ∧ v ≤ 16777215) ∧ α 3 < 8) → Q (-2) h) : cf (d + 1) M_X6_said [.inr (.inr 1), .inl f, .inl v] h Q := by
  have a3 := ha.2.2.2.1
  obtain ⟨r1, r2, r3, r4, r5, r6, r7, r8⟩ := id hr
  refine cf_of pX6 (Nat.le_of_ble_eq_true rfl) rfl (fun _ => B_X6_said_0 ⟨fun c => c_X6_isField (fun a b => ⟨fun c => by omega, fun _ => ⟨fun c2 => k0 c (by omega), fun c2 => ⟨fun c3 => k0 c (by omega), fun c3 => ⟨fun c4 => by omega, fun c4 => ⟨fun c5 => ?_, fun c5 => k0 c (by omega)⟩⟩⟩⟩⟩) (fun a => ⟨fun _ => k0 c (by omega), fun c => absurd rfl c⟩), fun c => ?_⟩)
  · rw [r7] at c5 ⊢
    rw [w32e (z := α 3 + 1) (by omega) (by omega)]
    refine k1 c ⟨⟨a, b⟩, ⟨c2, c3⟩, c5⟩ _ (frS_trans (h2 := am_up (am_up h 9 (α 3) f) 10 (α 3) v) ?_ frS_up) (srep_hd hr ha ?_ ?_ ?_ ?_ ?_ ?_ ?_ ?_)
    · intro b hb
      funext j
      rw [am_up_ne (by omega), am_up_ne (by omega)]
    · intro b b0 b1 b2 b3
      funext j
      rw [am_up_ne (by omega), am_up_ne (by omega), am_up_ne (by omega)]
    · rw [am_up_ne (by omega), am_up_ne (by omega), am_up_ne (by omega)]
    · rw [am_up_ne (by omega), am_up_ne (by omega), am_up_ne (by omega)]
    · intro j hj
      unfold s_said
      rw [up1_ne (by omega), up1_ne (by omega), up1_ne (by omega)]
    · unfold s_said
      rw [am_up_ne (by omega), am_up_ne (by omega), am_up_ne (by omega), up1_ne (by omega), up1_ne (by omega), up1_ne (by omega)]; exact r5
    · unfold s_said
      rw [am_up_ne (by omega), am_up_ne (by omega), am_up_ne (by omega), up1_ne (by omega), up1_ne (by omega), up1_ne (by omega)]; exact r6
    · unfold s_said
      rw [am_up_at, up1_at]
    · intro i i0 i1
      unfold s_said at i1 ⊢
      rw [up1_at] at i1
      rw [up1_ne (by omega), up1_ne (α := up1 (up1 α _ _) _ _) (by omega)]
      by_cases e : i = α 3
      · subst e
        rw [up1_ne (by omega), up1_at, up1_at]
        refine ⟨?_, ?_⟩
        · rw [am_up_ne (by omega), am_up_ne (by omega)]
          exact am_up_at _ 9 _ _
        · rw [am_up_ne (by omega)]
          exact am_up_at _ 10 _ _
      · rw [up1_ne (by omega), up1_ne (by omega), up1_ne (by omega), up1_ne (by omega)]
        rw [am_up_ne (by omega), am_up_ne (by omega), am_up_ne (by omega), am_up_ne (by omega), am_up_ne (by omega), am_up_ne (by omega)]
        exact r8 i i0 (by omega)
  · refine kz c _ frS_up (srep_hd hr ha ?_ (am_up_ne (by omega)) (am_up_ne (by omega)) ?_ ?_ ?_ ?_ ?_)
    · intro b b0 b1 b2 b3
      funext j
      exact am_up_ne (by omega)
    · intro j hj
      exact up1_ne (by omega)
    · rw [am_up_ne (by omega), up1_ne (by omega)]; exact r5
    · rw [am_up_ne (by omega), up1_ne (by omega)]; exact r6
    · rw [am_up_at, up1_at]
    · intro i i0 i1
      rw [up1_at] at i1
      omega
theorem c_X7_said {f v : Int} (ha : oka (h 295)) (kz : f = -1 → Q 0 (am_row h 295 (up1 (h 295) 3 0))) (k1 : ¬ f = -1 → (0 ≤ f ∧ f ≤ 7) ∧ (0 ≤ v ∧ v ≤ 16777215) ∧ h 295 3 < 8 → Q (h 295 3 + 1) (am_row h 295 (s_said (h 295) f v))) (k0 : ¬ f = -1 → ¬ ((0 ≤ f ∧ f ≤ 7) ∧ (0 ≤ v ∧ v ≤ 16777215) ∧ h 295 3 < 8) → Q (-2) h) : cf (d + 2) M_X7_said [.inr (.inr 294), .inl f, .inl v] h Q := by
  have a3 := ha.2.2.2.1
  refine cf_of pX7 (Nat.le_of_ble_eq_true rfl) rfl (fun _ => B_X7_said_0 ⟨fun c => c_X7_isField (fun a b => ⟨fun c => by omega, fun _ => c_X7_isIn (fun c2 c3 => ⟨fun c => by omega, fun _ => ⟨fun c4 => ?_, fun c4 => k0 c (by omega)⟩⟩) (fun c2 => ⟨fun _ => k0 c (by omega), fun c => absurd rfl c⟩)⟩) (fun a => ⟨fun _ => k0 c (by omega), fun c => absurd rfl c⟩), fun c => ?_⟩)
  · have kk := k1 c ⟨⟨a, b⟩, ⟨c2, c3⟩, by omega⟩
    rw [w32e (z := 2 * h 295 3) (by omega) (by omega), w32e (z := 48 + 2 * h 295 3) (by omega) (by omega)]
    rw [am_up_ne (h := h) (by omega)]
    rw [w32e (z := 2 * h 295 3) (by omega) (by omega), w32e (z := 48 + 2 * h 295 3) (by omega) (by omega), w32e (z := 48 + 2 * h 295 3 + 1) (by omega) (by omega)]
    rw [am_up_ne (h := am_up h 295 (48 + 2 * h 295 3) f) (by omega), am_up_ne (h := h) (by omega)]
    rw [w32e (z := h 295 3 + 1) (by omega) (by omega)]
    refine ⟨by omega, by omega, by omega, by omega, ?_⟩
    rw [up_row (h := h), up_row2, up_row2]
    exact kk
  · rw [up_row]
    exact kz c
theorem oka_saidz (ha : oka α) : oka (up1 α 3 0) :=
  oka_hd ha (fun j hj => up1_ne (by omega)) (by rw [up1_ne (by omega)]; exact ha.1) (by rw [up1_ne (by omega), up1_ne (by omega)]; exact ha.2.1) (by rw [up1_at]; omega)
theorem oka_said {f v : Int} (ha : oka α) (h8 : α 3 < 8) : oka (s_said α f v) := by
  have a3 := ha.2.2.2.1
  unfold s_said
  refine oka_hd ha (fun j hj => ?_) ?_ ?_ ?_
  · rw [up1_ne (by omega), up1_ne (by omega), up1_ne (by omega)]
  · rw [up1_ne (by omega), up1_ne (by omega), up1_ne (by omega)]; exact ha.1
  · rw [up1_ne (by omega), up1_ne (by omega), up1_ne (by omega), up1_ne (by omega), up1_ne (by omega), up1_ne (by omega)]; exact ha.2.1
  · rw [up1_at]; omega
end ASK3
