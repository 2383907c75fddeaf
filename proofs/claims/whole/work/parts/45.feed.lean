section FEED
variable {d : Nat} {h : am_H} {Q : Int → am_H → Prop} {α : Int → Int}
theorem byte_bv (b : BitVec 32) : 0 ≤ (b &&& BitVec.ofNat 32 255).toInt ∧ (b &&& BitVec.ofNat 32 255).toInt ≤ 255 := by
  have hle : (b &&& BitVec.ofNat 32 255).toNat ≤ 255 := by
    rw [BitVec.toNat_and]
    exact Nat.le_trans Nat.and_le_right (by decide)
  generalize b &&& BitVec.ofNat 32 255 = c at hle
  rw [BitVec.toInt_eq_toNat_of_lt (by omega)]
  omega
theorem byte_rng (x : Int) : 0 ≤ am_iand x 255 ∧ am_iand x 255 ≤ 255 := by
  have e : am_iand x 255 = ((Int32.ofInt x).toBitVec &&& BitVec.ofNat 32 255).toInt := by
    have q := bt_of32 255
    show (Int32.ofInt x &&& Int32.ofInt ((255 : Nat) : Int)).toBitVec.toInt = _
    rw [Int32.toBitVec_and, q]
  rw [e]
  exact byte_bv _
def by4 (v s : Int) : Int := am_iand (am_ishr v s) 255
def t4 (τ : Int → Int) (n v : Int) : Int → Int := up1 (up1 (up1 (up1 τ n (by4 v 24)) (n + 1) (by4 v 16)) (n + 2) (by4 v 8)) (n + 3) (by4 v 0)
def t20 (τ : Int → Int) (n a b c e f : Int) : Int → Int := t4 (t4 (t4 (t4 (t4 τ n a) (n + 4) b) (n + 8) c) (n + 12) e) (n + 16) f
/-- the heap once the tape has a new row and a new count -/
def tw (h : am_H) (o r : Int) (j n : Int) (τ : Int → Int) : am_H := am_up (am_row h r τ) o j n
theorem tw_step {o r j n n2 v : Int} {τ : Int → Int} (hne : o ≠ r) : am_up (am_up (tw h o r j n τ) r n v) o j n2 = tw h o r j n2 (up1 τ n v) := by
  funext b i
  unfold tw
  by_cases c : b = o ∧ i = j
  · obtain ⟨rfl, rfl⟩ := c
    rw [am_up_at, am_up_at]
  · rw [am_up_ne (by omega), am_up_ne (h := am_row _ _ _) (by omega)]
    by_cases c2 : b = r
    · subst c2
      rw [row_at]
      by_cases c3 : i = n
      · subst c3; rw [am_up_at, up1_at]
      · rw [am_up_ne (by omega), up1_ne c3, am_up_ne (by omega), row_at]
    · rw [am_up_ne (by omega), am_up_ne (by omega), row_ne c2, row_ne c2]
theorem tw_id {o r j : Int} : tw h o r j (h o j) (h r) = h := by
  funext b i
  unfold tw
  rw [row_id]
  by_cases c : b = o ∧ i = j
  · obtain ⟨rfl, rfl⟩ := c
    rw [am_up_at]
  · rw [am_up_ne (by omega)]
theorem tw_n {o r j n : Int} {τ : Int → Int} : tw h o r j n τ o j = n := am_up_at _ _ _ _
theorem c_X6_putOnTape {v n : Int} {τ : Int → Int} (h0 : 0 ≤ n) (h1 : n ≤ 296) (k : Q 0 (tw h 1 2 1 (n + 4) (t4 τ n v))) : cf d M_X6_putOnTape [.inr (.inr 1), .inl v] (tw h 1 2 1 n τ) Q := by
  have step : ∀ (s s2 n n2 : Int) (τ : Int → Int), s2 = s + (-8) → n2 = n + 1 → 0 ≤ s → s ≤ 24 → 0 ≤ n → n < 300 → wf d M_X6_putOnTape Q 3 [some (.inr (.inr 1)), some (.inl v), some (.inl s2)] [] (tw h 1 2 1 n2 (up1 τ n (by4 v s))) → wf d M_X6_putOnTape Q 3 [some (.inr (.inr 1)), some (.inl v), some (.inl s)] [] (tw h 1 2 1 n τ) := by
    intro s s2 n n2 τ es en s0 s1 n0 n1 k
    rw [es, en] at k
    unfold by4 at k
    refine B_X6_putOnTape_3 ⟨fun c => by omega, fun _ => ⟨fun c => ?_, fun _ => ⟨fun c => ?_, fun _ => B_X6_putOnTape_52 ?_⟩⟩⟩
    · rw [tw_n] at c; omega
    · rw [tw_n] at c; omega
    · rw [tw_n, w32e (z := n + 1) (by omega) (by omega), tw_step (by omega), w32e (by omega) (by omega)]
      exact k
  refine cf_of pX6 (Nat.le_of_ble_eq_true rfl) rfl (fun _ => B_X6_putOnTape_0 ?_)
  refine step 24 16 n (n + 1) τ (by omega) rfl (by omega) (by omega) (by omega) (by omega) (step 16 8 (n + 1) (n + 2) _ (by omega) (by omega) (by omega) (by omega) (by omega) (by omega) (step 8 0 (n + 2) (n + 3) _ (by omega) (by omega) (by omega) (by omega) (by omega) (by omega) (step 0 (-8) (n + 3) (n + 4) _ (by omega) (by omega) (by omega) (by omega) (by omega) (by omega) ?_)))
  refine B_X6_putOnTape_3 ⟨fun _ => k, fun c => by omega⟩
theorem c_X7_four {v n : Int} {τ : Int → Int} (h0 : 0 ≤ n) (h1 : n ≤ 296) (k : Q 0 (tw h 294 298 4 (n + 4) (t4 τ n v))) : cf d M_X7_four [.inr (.inr 294), .inl v] (tw h 294 298 4 n τ) Q := by
  have step : ∀ (s s2 n n2 : Int) (τ : Int → Int), s2 = s + (-8) → n2 = n + 1 → 0 ≤ s → s ≤ 24 → 0 ≤ n → n < 300 → wf d M_X7_four Q 3 [some (.inr (.inr 294)), some (.inl v), some (.inl s2)] [] (tw h 294 298 4 n2 (up1 τ n (by4 v s))) → wf d M_X7_four Q 3 [some (.inr (.inr 294)), some (.inl v), some (.inl s)] [] (tw h 294 298 4 n τ) := by
    intro s s2 n n2 τ es en s0 s1 n0 n1 k
    rw [es, en] at k
    unfold by4 at k
    refine B_X7_four_3 ⟨fun c => by omega, fun _ => ?_⟩
    rw [tw_n, w32e (z := n + 1) (by omega) (by omega), tw_step (by omega), w32e (by omega) (by omega)]
    exact ⟨n0, n1, k⟩
  refine cf_of pX7 (Nat.le_of_ble_eq_true rfl) rfl (fun _ => B_X7_four_0 ?_)
  refine step 24 16 n (n + 1) τ (by omega) rfl (by omega) (by omega) (by omega) (by omega) (step 16 8 (n + 1) (n + 2) _ (by omega) (by omega) (by omega) (by omega) (by omega) (by omega) (step 8 0 (n + 2) (n + 3) _ (by omega) (by omega) (by omega) (by omega) (by omega) (by omega) (step 0 (-8) (n + 3) (n + 4) _ (by omega) (by omega) (by omega) (by omega) (by omega) (by omega) ?_)))
  refine B_X7_four_3 ⟨fun _ => k, fun c => by omega⟩
theorem c_X6_feed {a b c e f : Int} (h0 : 0 ≤ h 1 1 ∧ h 1 1 ≤ 300) (k1 : h 1 1 ≤ 280 → Q (h 1 1 + 20) (tw h 1 2 1 (h 1 1 + 20) (t20 (h 2) (h 1 1) a b c e f))) (k0 : ¬ h 1 1 ≤ 280 → Q (-1) h) : cf (d + 1) M_X6_feed [.inr (.inr 1), .inl a, .inl b, .inl c, .inl e, .inl f] h Q := by
  refine cf_of pX6 (Nat.le_of_ble_eq_true rfl) rfl (fun _ => B_X6_feed_0 ⟨fun c => by omega, fun _ => ?_⟩)
  rw [w32e (z := h 1 1 + 20) (by omega) (by omega)]
  refine ⟨fun q => ?_, fun q => k0 (by omega)⟩
  have kk := k1 (by omega)
  generalize hn : h 1 1 = n at *
  have e0 : h = tw h 1 2 1 n (h 2) := by rw [← hn]; exact tw_id.symm
  rw [e0]
  refine c_X6_putOnTape (by omega) (by omega) (c_X6_putOnTape (by omega) (by omega) (c_X6_putOnTape (by omega) (by omega) (c_X6_putOnTape (by omega) (by omega) (c_X6_putOnTape (by omega) (by omega) ?_))))
  rw [tw_n]
  rw [show n + 4 + 4 = n + 8 by omega, show n + 8 + 4 = n + 12 by omega, show n + 12 + 4 = n + 16 by omega, show n + 16 + 4 = n + 20 by omega]
  exact kk
theorem c_X7_feed {a b c e f : Int} (h0 : 0 ≤ h 294 4 ∧ h 294 4 ≤ 300) (k1 : h 294 4 ≤ 280 → Q (h 294 4 + 20) (tw h 294 298 4 (h 294 4 + 20) (t20 (h 298) (h 294 4) a b c e f))) (k0 : ¬ h 294 4 ≤ 280 → Q (-1) h) : cf (d + 1) M_X7_feed [.inr (.inr 294), .inl a, .inl b, .inl c, .inl e, .inl f] h Q := by
  refine cf_of pX7 (Nat.le_of_ble_eq_true rfl) rfl (fun _ => B_X7_feed_0 ?_)
  rw [w32e (z := h 294 4 + 20) (by omega) (by omega)]
  refine ⟨fun q => ?_, fun q => k0 (by omega)⟩
  have kk := k1 (by omega)
  generalize hn : h 294 4 = n at *
  have e0 : h = tw h 294 298 4 n (h 298) := by rw [← hn]; exact tw_id.symm
  rw [e0]
  refine c_X7_four (by omega) (by omega) (c_X7_four (by omega) (by omega) (c_X7_four (by omega) (by omega) (c_X7_four (by omega) (by omega) (c_X7_four (by omega) (by omega) ?_))))
  rw [tw_n]
  rw [show n + 4 + 4 = n + 8 by omega, show n + 8 + 4 = n + 12 by omega, show n + 12 + 4 = n + 16 by omega, show n + 16 + 4 = n + 20 by omega]
  exact kk
/-- both tapes alike, byte for byte -/
def tape (τ σ : Int → Int) (n : Int) : Prop := ∀ i : Int, 0 ≤ i → i < n → τ i = σ i ∧ 0 ≤ σ i ∧ σ i ≤ 255
theorem tape_up {τ σ : Int → Int} {n x s : Int} (t : tape τ σ n) : tape (up1 τ n (by4 x s)) (up1 σ n (by4 x s)) (n + 1) := by
  intro i i0 i1
  by_cases c : i = n
  · subst c; rw [up1_at, up1_at]; exact ⟨rfl, byte_rng _⟩
  · rw [up1_ne c, up1_ne c]; exact t i i0 (by omega)
theorem tape_4 {τ σ : Int → Int} {n x : Int} (t : tape τ σ n) : tape (t4 τ n x) (t4 σ n x) (n + 4) := by
  have := tape_up (x := x) (s := 0) (tape_up (x := x) (s := 8) (tape_up (x := x) (s := 16) (tape_up (x := x) (s := 24) t)))
  rw [show n + 1 + 1 = n + 2 by omega, show n + 2 + 1 = n + 3 by omega, show n + 3 + 1 = n + 4 by omega] at this
  exact this
theorem tape_20 {τ σ : Int → Int} {n a b c e f : Int} (t : tape τ σ n) : tape (t20 τ n a b c e f) (t20 σ n a b c e f) (n + 20) := by
  have := tape_4 (x := f) (tape_4 (x := e) (tape_4 (x := c) (tape_4 (x := b) (tape_4 (x := a) t))))
  rw [show n + 4 + 4 = n + 8 by omega, show n + 8 + 4 = n + 12 by omega, show n + 12 + 4 = n + 16 by omega, show n + 16 + 4 = n + 20 by omega] at this
  exact this
theorem tape_cut {τ σ : Int → Int} {n m : Int} (t : tape τ σ n) (q : m ≤ n) : tape τ σ m := fun i i0 i1 => t i i0 (by omega)
end FEED
