/-! LEVEL 3, the reference reads by a FORMAT -/
/-- the steps of a tree, from where and up to where they stand in the row of texts -/
def rsum (h : am_H) (t x : Int) (e : Ex) : Prop := rat (h 297) (825 * t + 217) (h 297 x) e ∧ h 297 (x + 1) = h 297 x + ly e ∧ 0 ≤ h 297 x ∧ h 297 x + ly e ≤ 304
/-- the row of texts holds a TEXT -/
def rtx (h : am_H) (t : Int) (tx : List Cl) : Prop := (0 ≤ t ∧ t ≤ 3) ∧ h 297 (825 * t) = tx.length ∧ ∀ k : Int, 0 ≤ k → k < tx.length → h 297 (825 * t + 1 + 9 * k) = (cl tx k).1 ∧
  ((cl tx k).1 ≤ 2 → h 297 (825 * t + 1 + 9 * k + 1) = (cl tx k).2.1 ∧ rsum h t (825 * t + 1 + 9 * k + 5) (cl tx k).2.2.2.2.1) ∧ ((cl tx k).1 ≤ 4 → rsum h t (825 * t + 1 + 9 * k + 3) (cl tx k).2.2.2.1) ∧ ((cl tx k).1 = 1 → rsum h t (825 * t + 1 + 9 * k + 7) (cl tx k).2.2.2.2.2) ∧ (5 ≤ (cl tx k).1 ∧ ¬ (cl tx k).1 = 7 → h 297 (825 * t + 1 + 9 * k + 1) = (cl tx k).2.1) ∧ ((cl tx k).1 = 5 → h 297 (825 * t + 1 + 9 * k + 2) = (cl tx k).2.2.1)
theorem rtx_congr {h h2 : am_H} {t : Int} {tx : List Cl} (r : rtx h t tx) (e : h2 297 = h 297) : rtx h2 t tx := by
  unfold rtx rsum at r ⊢
  rw [e]
  exact r
/-- ORDER is laid down -/
def rlay (h : am_H) (tx : List Cl) : Prop := (∀ f : Nat, f < 8 → h 305 f = co tx f ∧ h 306 f = ((hgu tx f &&& told tx : Nat) : Int)) ∧ h 294 31 = (ord tx).length ∧ h 294 32 = (told tx : Nat) ∧ (∀ i : Nat, i < (ord tx).length → h 307 i = ((ord tx).getD i 0 : Nat)) ∧ h 294 33 = ((bset (fun f => (told tx).testBit f && !(ord tx).contains f) 8 : Nat) : Int)
theorem rlay_congr {h h2 : am_H} {tx : List Cl} (r : rlay h tx) (e : ∀ b : Int, 305 ≤ b → b ≤ 307 → h2 b = h b) (e2 : ∀ j : Int, 31 ≤ j → j ≤ 33 → h2 294 j = h 294 j) : rlay h2 tx := by
  unfold rlay at r ⊢
  rw [e 305 (by omega) (by omega), e 306 (by omega) (by omega), e 307 (by omega) (by omega), e2 31 (by omega) (by omega), e2 32 (by omega) (by omega), e2 33 (by omega) (by omega)]
  exact r
/-- a level holds a reading -/
def rlv (h : am_H) (l : Int) (tx : List Cl) (base size : Int) (ρ : Rd) : Prop := h 308 l = base ∧ h 309 l = size ∧ ∀ f : Nat, f < 8 → h 315 (8 * l + f) = ρ f 3 ∧ h 312 (8 * l + f) = ρ f 0 ∧ h 316 (8 * l + f) = ρ f 4 ∧ (0 ≤ co tx f → h 313 (8 * l + f) = ρ f 1 ∧ h 314 (8 * l + f) = ρ f 2)
/-- all that stays while a level is read -/
def rst (h : am_H) (t : Int) (tx : List Cl) (β : Int → Int) : Prop := rtx h t tx ∧ okx tx ∧ rlay h tx ∧ (∀ j : Int, 0 ≤ j → j < 40 → h 295 (8 + j) = β j) ∧ (∀ j : Int, 0 ≤ j → j < 40 → 0 ≤ β j ∧ β j ≤ 255) ∧ h 294 47 = t
/-- only what is worked out, and a place of what is read, are other -/
def fE (h h2 : am_H) (x : Int) : Prop := (∀ b : Int, b < 301 ∨ (304 < b ∧ b < 312) ∨ 316 < b → h2 b = h b) ∧ ∀ b j : Int, 312 ≤ b → b ≤ 316 → j ≠ x → h2 b j = h b j
theorem fE_refl {h : am_H} {x : Int} : fE h h x := ⟨fun _ _ => rfl, fun _ _ _ _ _ => rfl⟩
theorem fE_trans {h h2 h3 : am_H} {x : Int} (a : fE h h2 x) (b : fE h2 h3 x) : fE h h3 x := ⟨fun c q => (b.1 c q).trans (a.1 c q), fun c j q1 q2 q3 => (b.2 c j q1 q2 q3).trans (a.2 c j q1 q2 q3)⟩
theorem fE_fB {h h2 : am_H} {x n m : Int} (f : fB h h2 n m) : fE h h2 x := ⟨fun b q => f.1 b (by omega), fun b j q1 q2 _ => by rw [f.1 b (by omega)]⟩
theorem fE_up {h : am_H} {x r v : Int} (q : 312 ≤ r ∧ r ≤ 316) : fE h (am_up h r x v) x := by
  refine ⟨fun b q1 => ?_, fun b j q1 q2 q3 => am_up_ne (by omega)⟩
  funext j
  exact am_up_ne (by omega)
theorem rst_fE {h h2 : am_H} {t x : Int} {tx : List Cl} {β : Int → Int} (r : rst h t tx β) (f : fE h h2 x) : rst h2 t tx β := by
  obtain ⟨r1, r2, r3, r4, r5, r6⟩ := r
  exact ⟨rtx_congr r1 (f.1 _ (by omega)), r2, rlay_congr r3 (fun b q q2 => f.1 b (by omega)) (fun j _ _ => by rw [f.1 294 (by omega)]), fun j j0 j1 => by rw [f.1 295 (by omega)]; exact r4 j j0 j1, r5, by rw [f.1 294 (by omega)]; exact r6⟩
theorem rce_fE {l : Bool} {h h2 : am_H} {η β : Int → Int} {b x : Int} (c : rce l h η β b) (f : fE h h2 x) : rce l h2 η β b := by
  obtain ⟨c0, c1, c2, c3⟩ := c
  have e : h2 294 = h 294 := f.1 _ (by omega)
  exact ⟨by rw [e]; exact c0, by rw [e]; exact c1, fun k q => by rw [f.1 300 (by omega)]; exact c2 k q, fun j j0 j1 => by rw [f.1 295 (by omega)]; exact c3 j j0 j1⟩
theorem rlv_fB {h h2 : am_H} {l n m : Int} {tx : List Cl} {base size : Int} {ρ : Rd} (r : rlv h l tx base size ρ) (f : fB h h2 n m) : rlv h2 l tx base size ρ := by
  unfold rlv at r ⊢
  rw [f.1 308 (by omega), f.1 309 (by omega), f.1 312 (by omega), f.1 313 (by omega), f.1 314 (by omega), f.1 315 (by omega), f.1 316 (by omega)]
  exact r
theorem rlv_look {h : am_H} {l : Int} {tx : List Cl} {base size : Int} {ρ : Rd} {f L : Nat} (hf : f < 8) (r : rlv h l tx base size ρ) : rlv (am_up h 316 (8 * l + f) (L : Int)) l tx base size (putR ρ f 4 (L : Int)) := by
  obtain ⟨r0, r1, r2⟩ := r
  refine ⟨by rw [am_up_ne (by omega)]; exact r0, by rw [am_up_ne (by omega)]; exact r1, fun g hg => ?_⟩
  have rg := r2 g hg
  have ne : ∀ c, c ≠ 4 → putR ρ f 4 (L : Int) g c = ρ g c := fun c hc => putR_ne (by omega)
  have nu : ∀ b : Int, b ≠ 316 → am_up h 316 (8 * l + f) (L : Int) b (8 * l + g) = h b (8 * l + g) := fun b hb => am_up_ne (by omega)
  rw [nu 315 (by omega), nu 312 (by omega), nu 313 (by omega), nu 314 (by omega), ne 3 (by omega), ne 0 (by omega), ne 1 (by omega), ne 2 (by omega)]
  refine ⟨rg.1, rg.2.1, ?_, rg.2.2.2⟩
  by_cases e : g = f
  · subst e
    rw [am_up_at, putR_at]
  · rw [am_up_ne (by omega), putR_ne (by omega)]; exact rg.2.2.1
theorem rlv_set {h : am_H} {l : Int} {tx : List Cl} {base size : Int} {ρ : Rd} {f : Nat} {v a z w : Int} (hf : f < 8) (l4 : 0 ≤ ρ f 4) (r : rlv h l tx base size ρ) : rlv (am_up (am_up (am_up (am_up h 313 (8 * l + f) a) 314 (8 * l + f) z) 312 (8 * l + f) v) 315 (8 * l + f) w) l tx base size (setR ρ f v a z w (ρ f 4).toNat) := by
  obtain ⟨r0, r1, r2⟩ := r
  refine ⟨?_, ?_, fun g hg => ?_⟩
  · rw [am_up_ne (by omega), am_up_ne (by omega), am_up_ne (by omega), am_up_ne (by omega)]; exact r0
  · rw [am_up_ne (by omega), am_up_ne (by omega), am_up_ne (by omega), am_up_ne (by omega)]; exact r1
  · have rg := r2 g hg
    by_cases e : g = f
    · subst e
      obtain ⟨s0, s1, s2, s3, s4⟩ := setR_at (ρ := ρ) (f := g) (v := v) (a := a) (z := z) (w := w) (l := (ρ g 4).toNat)
      rw [s0, s1, s2, s3, s4]
      refine ⟨am_up_at _ _ _ _, ?_, ?_, fun _ => ⟨?_, ?_⟩⟩
      · rw [am_up_ne (by omega), am_up_at]
      · rw [am_up_ne (by omega), am_up_ne (by omega), am_up_ne (by omega), am_up_ne (by omega), rg.2.2.1]; omega
      · rw [am_up_ne (by omega), am_up_ne (by omega), am_up_ne (by omega), am_up_at]
      · rw [am_up_ne (by omega), am_up_ne (by omega), am_up_at]
    · rw [setR_ne e, setR_ne e, setR_ne e, setR_ne e, setR_ne e]
      refine ⟨?_, ?_, ?_, fun q => ⟨?_, ?_⟩⟩
      · rw [am_up_ne (by omega), am_up_ne (by omega), am_up_ne (by omega), am_up_ne (by omega)]; exact rg.1
      · rw [am_up_ne (by omega), am_up_ne (by omega), am_up_ne (by omega), am_up_ne (by omega)]; exact rg.2.1
      · rw [am_up_ne (by omega), am_up_ne (by omega), am_up_ne (by omega), am_up_ne (by omega)]; exact rg.2.2.1
      · rw [am_up_ne (by omega), am_up_ne (by omega), am_up_ne (by omega), am_up_ne (by omega)]; exact (rg.2.2.2 q).1
      · rw [am_up_ne (by omega), am_up_ne (by omega), am_up_ne (by omega), am_up_ne (by omega)]; exact (rg.2.2.2 q).2
section RREAD
variable {d : Nat} {h : am_H} {Q : Int → am_H → Prop} {t l : Int} {tx : List Cl} {base size : Int} {ρ : Rd} {β : Int → Int}
theorem c_X7_clauses (r : rtx h t tx) (k : Q (tx.length : Nat) h) : cf d M_X7_clauses [.inr (.inr 294), .inl t] h Q := by
  have t0 := r.1
  refine cf_of pX7 (Nat.le_of_ble_eq_true rfl) rfl (fun _ => B_X7_clauses_0 ?_)
  rw [w32e (z := 825 * t) (by omega) (by omega), r.2.1]
  exact ⟨by omega, by omega, k⟩
theorem c_X7_clauseAt {c : Int} (t0 : 0 ≤ t ∧ t ≤ 3) (c0 : 0 ≤ c ∧ c ≤ 24) (k : Q (825 * t + 1 + 9 * c) h) : cf d M_X7_clauseAt [.inl t, .inl c] h Q := by
  refine cf_of pX7 (Nat.le_of_ble_eq_true rfl) rfl (fun _ => B_X7_clauseAt_0 ?_)
  rw [w32e (z := 825 * t) (by omega) (by omega), w32e (z := 825 * t + 1) (by omega) (by omega), w32e (z := 9 * c) (by omega) (by omega), w32e (by omega) (by omega)]
  exact k
theorem c_X7_sumOf {b : Bool} {η : Int → Int} {c i : Int} {e : Ex} (t0 : 0 ≤ t ∧ t ≤ 3) (c0 : 0 ≤ c ∧ c < 24) (i0 : 0 ≤ i ∧ i ≤ 2) (r : rsum h t (825 * t + 1 + 9 * c + (3 + 2 * i)) e) (hw : ws b e false) (he : eok b η β base) (hc : rce b h η β base)
    (k : ∀ h2, fB h h2 0 0 → h2 302 0 = ((lk η β base e : Nat) : Int) → h2 301 0 = ev η β base e → Q (ev η β base e) h2) : cf (d + 3) M_X7_sumOf [.inr (.inr 294), .inl t, .inl c, .inl i] h Q := by
  obtain ⟨r1, r2, r3, r4⟩ := r
  refine cf_of pX7 (Nat.le_of_ble_eq_true rfl) rfl (fun _ => B_X7_sumOf_0 (c_X7_clauseAt t0 (by omega) ?_))
  rw [w32e (z := 825 * t + 1 + 9 * c + 3) (by omega) (by omega), w32e (z := 2 * i) (by omega) (by omega), show 825 * t + 1 + 9 * c + 3 + 2 * i = 825 * t + 1 + 9 * c + (3 + 2 * i) by omega, w32e (z := 825 * t + 1 + 9 * c + (3 + 2 * i)) (by omega) (by omega), w32e (z := 825 * t + 1 + 9 * c + (3 + 2 * i) + 1) (by omega) (by omega), r2]
  refine ⟨by omega, by omega, by omega, by omega, c_X7_work t0 he hw r1 r3 r4 hc (fun h2 f2 v2 _ => ?_)⟩
  have v := v2 rfl
  have q := k h2 f2 v.2 v.1
  rw [← v.1] at q
  exact q
theorem c_X7_isWithin {a z m : Int} (k1 : 0 ≤ a → a ≤ z → z ≤ m → Q 1 h) (k0 : ¬ (0 ≤ a ∧ a ≤ z ∧ z ≤ m) → Q 0 h) : cf d M_X7_isWithin [.inr (.inl a), .inr (.inl z), .inl m] h Q :=
  cf_of pX7 (Nat.le_of_ble_eq_true rfl) rfl (fun _ => B_X7_isWithin_0 ⟨fun c => k0 (by have := lcmp_neg c; omega), fun c => ⟨fun c2 => k0 (by have := lcmp_pos c2; omega), fun c2 => ⟨fun c3 => k0 (by have := lcmp_pos c3; omega), fun c3 => k1 (lcmp_nn c) (lcmp_np c2) (lcmp_np c3)⟩⟩⟩)
theorem c_X7_settleField {x a z v w : Int} (x0 : 0 ≤ x ∧ x < 24) (k : Q 0 (am_up (am_up (am_up (am_up h 313 x a) 314 x z) 312 x v) 315 x w)) : cf d M_X7_settleField [.inr (.inr 294), .inl x, .inl a, .inl z, .inl v, .inl w] h Q :=
  cf_of pX7 (Nat.le_of_ble_eq_true rfl) rfl (fun _ => B_X7_settleField_0 ⟨x0.1, x0.2, k⟩)
theorem spn_snoc {a b : Nat} (hab : a ≤ b) : spn a (b + 1) = spn a b ||| 2 ^ b := by
  apply Nat.eq_of_testBit_eq
  intro i
  rw [Nat.testBit_or, spn_bit hab, spn_bit (by omega), pow_bit]
  by_cases c : i = b
  · subst c
    simp [hab]
  · have : decide (i < b + 1) = decide (i < b) := by
      by_cases q : i < b
      · simp [q]; omega
      · simp [q]; omega
    have n : ¬ b = i := fun q => c q.symm
    simp only [Bool.decide_and, this, n, decide_false, Bool.or_false]
theorem spn_nil {a : Nat} : spn a a = 0 := by
  unfold spn
  rw [Nat.sub_self]
  simp
theorem l_X7_bitsFrom {a b : Nat} (hb : b ≤ 40) (k : Q ((spn a b : Nat) : Int) h) : ∀ (n m : Nat), m + n = b → a ≤ m → wf d M_X7_bitsFrom Q 5 [none, some (.inl (b : Int)), some (.inr (.inl ((spn a m : Nat) : Int))), none, some (.inl (m : Int))] [] h
  | 0, m, hm, ha => by
    have : m = b := by omega
    subst this
    exact B_X7_bitsFrom_5 ⟨fun _ => k, fun c => by omega⟩
  | n + 1, m, hm, ha => by
    have ih := l_X7_bitsFrom hb k n (m + 1) (by omega) (by omega)
    have s1 := spn_lt ha
    have p1 := p40 (k := m) (by omega)
    rw [spn_snoc ha] at ih
    refine B_X7_bitsFrom_5 ⟨fun c => by omega, fun _ => ?_⟩
    rw [lshl1 (by omega), lor_n (by omega) (by omega), w32e (by omega) (by omega)]
    exact ih
theorem c_X7_bitsFrom {a b : Int} (h0 : 0 ≤ a) (hab : a ≤ b) (hb : b ≤ 40) (k : Q ((spn a.toNat b.toNat : Nat) : Int) h) : cf d M_X7_bitsFrom [.inl a, .inl b] h Q := by
  have z := l_X7_bitsFrom (d := d) (a := a.toNat) (b := b.toNat) (by omega) k (b.toNat - a.toNat) a.toNat (by omega) (Nat.le_refl _)
  rw [spn_nil, show ((a.toNat : Nat) : Int) = a by omega, show ((b.toNat : Nat) : Int) = b by omega] at z
  exact cf_of pX7 (Nat.le_of_ble_eq_true rfl) rfl (fun _ => B_X7_bitsFrom_0 z)
theorem l_X7_isAnyBroken {s : Nat} (hs : s < 256) (e43 : h 294 43 = l) (l0 : 0 ≤ l ∧ l ≤ 2) (r : rlv h l tx base size ρ) (k1 : bkn ρ s = true → Q 1 h) (k0 : ¬ bkn ρ s = true → Q 0 h) : ∀ (n f : Nat), f + n = 8 → (∀ g, g < f → ¬ (s.testBit g = true ∧ ρ g 3 = 1)) → wf (d + 1) M_X7_isAnyBroken Q 2 [some (.inr (.inr 294)), some (.inl (s : Int)), some (.inl (f : Int))] [] h
  | 0, f, hf, hn => B_X7_isAnyBroken_2 ⟨fun _ => k0 (fun q => by
      obtain ⟨g, hg, q1, q2⟩ := bkn_iff.mp q
      exact hn g (by omega) ⟨q1, q2⟩), fun c => by omega⟩
  | n + 1, f, hf, hn => by
    have f8 : f < 8 := by omega
    have skip : ¬ (s.testBit f = true ∧ ρ f 3 = 1) → wf (d + 1) M_X7_isAnyBroken Q 36 [some (.inr (.inr 294)), some (.inl (s : Int)), some (.inl (f : Int))] [] h := by
      intro q
      refine B_X7_isAnyBroken_36 ?_
      rw [w32e (by omega) (by omega), show (f : Int) + 1 = ((f + 1 : Nat) : Int) by omega]
      refine l_X7_isAnyBroken hs e43 l0 r k1 k0 n (f + 1) (by omega) (fun g hg => ?_)
      by_cases e : g = f
      · rw [e]; exact q
      · exact hn g (by omega)
    refine B_X7_isAnyBroken_2 ⟨fun c => by omega, fun _ => c_X7_has (by omega) (by omega) (fun q => ⟨fun c => by omega, fun _ => ?_⟩) (fun q => ⟨fun _ => skip (fun y => by rw [q] at y; cases y.1), fun c => absurd rfl c⟩)⟩
    rw [e43, w32e (z := 8 * l) (by omega) (by omega), w32e (z := 8 * l + f) (by omega) (by omega), (r.2.2 f f8).1]
    exact ⟨by omega, by omega, fun c => skip (fun y => c y.2), fun c => k1 (bkn_iff.mpr ⟨f, f8, q, c⟩)⟩
theorem c_X7_isAnyBroken {s : Nat} (hs : s < 256) (e43 : h 294 43 = l) (l0 : 0 ≤ l ∧ l ≤ 2) (r : rlv h l tx base size ρ) (k1 : bkn ρ s = true → Q 1 h) (k0 : ¬ bkn ρ s = true → Q 0 h) : cf (d + 1) M_X7_isAnyBroken [.inr (.inr 294), .inl (s : Int)] h Q :=
  cf_of pX7 (Nat.le_of_ble_eq_true rfl) rfl (fun _ => B_X7_isAnyBroken_0 (l_X7_isAnyBroken (s := s) hs e43 l0 r k1 k0 8 0 (by omega) (fun g hg => by omega)))
/-- the NAMES are those of a level -/
def fN (h h2 : am_H) : Prop := (∀ b : Int, b ≠ 294 → b ≠ 300 → h2 b = h b) ∧ ∀ j : Int, j ≠ 22 → j ≠ 23 → h2 294 j = h 294 j
theorem l_X7_nameLevel (e43 : h 294 43 = l) (l0 : 0 ≤ l ∧ l ≤ 2) (r : rlv h l tx base size ρ) (k : ∀ h2, fN h h2 → h2 294 22 = base → h2 294 23 = size → (∀ f : Nat, f < 8 → h2 300 f = ρ f 0) → h2 300 8 = size → h2 300 9 = l → Q 0 h2) : ∀ (n f : Nat) (g : am_H), f + n = 8 → fN h g → g 294 22 = base → g 294 23 = size → (∀ i : Nat, i < f → g 300 i = ρ i 0) → wf d M_X7_nameLevel Q 28 [some (.inr (.inr 294)), some (.inl (f : Int))] [] g
  | 0, f, g, hf, fg, e22, e23, hi => by
    have g43 : g 294 43 = l := by rw [fg.2 43 (by omega) (by omega)]; exact e43
    have g309 : g 309 l = size := by rw [fg.1 309 (by omega) (by omega)]; exact r.2.1
    refine B_X7_nameLevel_28 ⟨fun _ => ?_, fun c => by omega⟩
    rw [g43, g309]
    refine ⟨by omega, by omega, k _ ⟨fun b q q2 => ?_, fun j q q2 => ?_⟩ ?_ ?_ (fun i hi8 => ?_) ?_ ?_⟩
    · rw [← fg.1 b q q2]; funext j; rw [am_up_ne (by omega), am_up_ne (by omega)]
    · rw [am_up_ne (by omega), am_up_ne (by omega)]; exact fg.2 j q q2
    · rw [am_up_ne (by omega), am_up_ne (by omega)]; exact e22
    · rw [am_up_ne (by omega), am_up_ne (by omega)]; exact e23
    · rw [am_up_ne (by omega), am_up_ne (by omega)]; exact hi i (by omega)
    · rw [am_up_ne (by omega), am_up_at]
    · rw [am_up_at]
  | n + 1, f, g, hf, fg, e22, e23, hi => by
    have g43 : g 294 43 = l := by rw [fg.2 43 (by omega) (by omega)]; exact e43
    refine B_X7_nameLevel_28 ⟨fun c => by omega, fun _ => ?_⟩
    rw [g43, w32e (z := 8 * l) (by omega) (by omega), w32e (z := 8 * l + f) (by omega) (by omega), fg.1 312 (by omega) (by omega), (r.2.2 f (by omega)).2.1, w32e (z := (f : Int) + 1) (by omega) (by omega), show (f : Int) + 1 = ((f + 1 : Nat) : Int) by omega]
    refine ⟨by omega, by omega, by omega, by omega, l_X7_nameLevel e43 l0 r k n (f + 1) _ (by omega) ⟨fun b q q2 => ?_, fun j q q2 => ?_⟩ ?_ ?_ (fun i hi8 => ?_)⟩
    · rw [← fg.1 b q q2]; funext j; rw [am_up_ne (by omega)]
    · rw [am_up_ne (by omega)]; exact fg.2 j q q2
    · rw [am_up_ne (by omega)]; exact e22
    · rw [am_up_ne (by omega)]; exact e23
    · by_cases e : i = f
      · subst e; rw [am_up_at]
      · rw [am_up_ne (by omega)]; exact hi i (by omega)
theorem c_X7_nameLevel (s : rst h t tx β) (e43 : h 294 43 = l) (l0 : 0 ≤ l ∧ l ≤ 2) (r : rlv h l tx base size ρ) (k : ∀ h2, fN h h2 → rce false h2 (nmR ρ l size) β base → Q 0 h2) : cf d M_X7_nameLevel [.inr (.inr 294)] h Q := by
  refine cf_of pX7 (Nat.le_of_ble_eq_true rfl) rfl (fun _ => B_X7_nameLevel_0 ?_)
  rw [e43, r.1, r.2.1]
  refine ⟨by omega, by omega, l_X7_nameLevel (h := h) e43 l0 r (fun h2 f2 a22 a23 af a8 a9 => k h2 f2 ⟨a22, by rw [nmR_8]; exact a23, fun j aj => ?_, fun j j0 j1 => ?_⟩) 8 0 _ (by omega) ⟨fun b q q2 => ?_, fun j q q2 => ?_⟩ ?_ ?_ (fun i hi => by omega)⟩
  · unfold al at aj
    simp at aj
    by_cases c : j < 8
    · rw [nmR_k c]; exact af j c
    · by_cases c8 : j = 8
      · subst c8
        rw [show ((8 : Nat) : Int) = 8 from rfl, nmR_8]; exact a8
      · have : j = 9 := by omega
        subst this
        rw [show ((9 : Nat) : Int) = 9 from rfl, nmR_9]; exact a9
  · rw [f2.1 295 (by omega) (by omega)]; exact s.2.2.2.1 j j0 j1
  · funext j; rw [am_up_ne (by omega), am_up_ne (by omega)]
  · rw [am_up_ne (by omega), am_up_ne (by omega)]
  · rw [am_up_ne (by omega), am_up_at]
  · rw [am_up_at]
end RREAD
