/-! LEVEL 3, the class's code of a tree, and what Reader.answer makes of it -/
/-- the steps of a tree stand from a place on -/
def cat (κ : Int → Int) (p : Int) : Ex → Prop
  | .num v => κ p = v * 32
  | .var k => κ p = if k < 8 then (k : Int) * 32 + 1 else k - 6
  | .mulL t a => cat κ p a ∧ κ (p + lx a) = t
  | .mulR (.add a c) t => cat κ p a ∧ cat κ (p + lx a) c ∧ κ (p + lx a + lx c) = t
  | .sub c (.add a e) => cat κ p c ∧ κ (p + lx c) = 22 + 32 * (p + lx c + 1 + lx a + 1) ∧ cat κ (p + lx c + 1) a ∧ κ (p + lx c + 1 + lx a) = 23 + 32 * (p + lx c + 1 + lx a + 1 + lx e) ∧ cat κ (p + lx c + 1 + lx a + 1) e
  | _ => False
/-- the reader's world: at A a reading -/
def ce (l : Bool) (h : am_H) (A : Int) (η β : Int → Int) (b : Int) : Prop := h A 0 = b ∧ h A 1 = η 8 ∧ (l = false → (∀ k : Nat, k < 8 → h (A + 1) k = η k) ∧ h A 2 = η 9) ∧ (l = true → h 218 11 = η 10 ∧ h 218 12 = η 11 ∧ h 218 13 = η 12) ∧ am_kd 321 (h 218 7) = 0 ∧ am_ln (h 218 7) = 40 ∧ ¬ h 218 7 = 219 ∧ ∀ j : Int, 0 ≤ j → j < 40 → h (h 218 7) j = β j
/-- the stack from a place on, and what was peeked at, may be other -/
def fA (h h2 : am_H) (top : Int) : Prop := (∀ b : Int, b ≠ 218 → b ≠ 219 → h2 b = h b) ∧ (∀ j : Int, j ≠ 10 → h2 218 j = h 218 j) ∧ ∀ j : Int, j < top → h2 219 j = h 219 j
theorem fA_refl {h : am_H} {top : Int} : fA h h top := ⟨fun _ _ _ => rfl, fun _ _ => rfl, fun _ _ => rfl⟩
theorem fA_trans {h h2 h3 : am_H} {t t2 : Int} (a : fA h h2 t) (b : fA h2 h3 t2) (q : t ≤ t2) : fA h h3 t :=
  ⟨fun c q1 q2 => (b.1 c q1 q2).trans (a.1 c q1 q2), fun j q1 => (b.2.1 j q1).trans (a.2.1 j q1), fun j q1 => (b.2.2 j (by omega)).trans (a.2.2 j q1)⟩
theorem fA_up {h : am_H} {t i v : Int} (q : t ≤ i) : fA h (am_up h 219 i v) t := by
  refine ⟨fun b q1 q2 => ?_, fun j q1 => am_up_ne (by omega), fun j q1 => am_up_ne (by omega)⟩
  funext j
  exact am_up_ne (by omega)
theorem fA_pk {h : am_H} {t v : Int} : fA h (am_up h 218 10 v) t := by
  refine ⟨fun b q1 q2 => ?_, fun j q1 => am_up_ne (by omega), fun j q1 => am_up_ne (by omega)⟩
  funext j
  exact am_up_ne (by omega)
theorem ce_fA {l : Bool} {h h2 : am_H} {A : Int} {η β : Int → Int} {b top : Int} (hA : 220 ≤ A) (c : ce l h A η β b) (f : fA h h2 top) : ce l h2 A η β b := by
  obtain ⟨c0, c1, c2, c3, c4, c5, c6, c7⟩ := c
  have e : h2 A = h A := f.1 A (by omega) (by omega)
  have e1 : h2 (A + 1) = h (A + 1) := f.1 _ (by omega) (by omega)
  have e7 : h2 218 7 = h 218 7 := f.2.1 7 (by omega)
  have n8 : ¬ h 218 7 = 218 := fun q => by
    rw [q, show am_kd 321 218 = 12 from k_218] at c4
    exact absurd c4 (by decide)
  refine ⟨by rw [e]; exact c0, by rw [e]; exact c1, fun q => ?_, fun q => ?_, by rw [e7]; exact c4, by rw [e7]; exact c5, by rw [e7]; exact c6, fun j j0 j1 => ?_⟩
  · rw [e, e1]; exact c2 q
  · rw [f.2.1 11 (by omega), f.2.1 12 (by omega), f.2.1 13 (by omega)]; exact c3 q
  · rw [e7, f.1 _ n8 c6]; exact c7 j j0 j1
/-- places from one to another -/
def spn (a b : Nat) : Nat := (2 ^ (b - a) - 1) * 2 ^ a
theorem spn_bit {a b i : Nat} (hab : a ≤ b) : (spn a b).testBit i = decide (a ≤ i ∧ i < b) := by
  unfold spn
  rw [Nat.mul_comm, Nat.testBit_two_pow_mul, Nat.testBit_two_pow_sub_one]
  by_cases c : a ≤ i
  · simp [c]; omega
  · simp [c]
theorem spn_lt {a b : Nat} (hab : a ≤ b) : spn a b < 2 ^ b := by
  unfold spn
  have e : 2 ^ (b - a) * 2 ^ a = 2 ^ b := by rw [← Nat.pow_add]; congr 1; omega
  have p : 0 < 2 ^ a := Nat.pow_pos (by decide)
  rw [Nat.sub_mul, e, Nat.one_mul]
  have := Nat.pow_pos (n := b) (show 0 < 2 by decide)
  omega
theorem spn_one {a : Nat} : spn a (a + 1) = 2 ^ a := by
  unfold spn
  rw [show a + 1 - a = 1 by omega]
  omega
theorem p40 {k : Nat} (h : k ≤ 40) : 2 ^ k ≤ 1099511627776 := Nat.pow_le_pow_right (n := 2) (by decide) h
section SPAN
variable {d : Nat} {h : am_H} {Q : Int → am_H → Prop}
theorem c_X6_span {a b : Nat} (hab : a ≤ b) (hb : b ≤ 40) (k : Q ((spn a b : Nat) : Int) h) : cf d M_X6_span [.inl (a : Int), .inl (b : Int)] h Q := by
  refine cf_of pX6 (Nat.le_of_ble_eq_true rfl) rfl (fun _ => B_X6_span_0 ⟨fun c => by omega, fun _ => ⟨fun c => ?_, fun c => ⟨fun _ => ?_, fun c => by omega⟩⟩⟩)
  · have : a = b := by omega
    subst this
    unfold spn at k
    rw [show a - a = 0 by omega] at k
    simpa using k
  · have p1 := p40 (k := b - a) (by omega)
    have p2 := Nat.pow_pos (n := b - a) (show 0 < 2 by decide)
    have q1 := spn_lt hab
    have q2 := p40 hb
    rw [w32e (z := (b : Int) - a) (by omega) (by omega), show (b : Int) - a = ((b - a : Nat) : Int) by omega, show (1 : Int) = ((1 : Nat) : Int) from rfl, lshl_n (by omega) (by omega), Nat.one_mul, show ((2 ^ (b - a) : Nat) : Int) - ((1 : Nat) : Int) = ((2 ^ (b - a) - 1 : Nat) : Int) by omega, w64e (by omega) (by omega), lshl_n (by omega) (by unfold spn at q1; omega)]
    exact k
theorem c_X2_byteIn {A v : Int} {η β : Int → Int} {b : Int} {l : Bool} (tA : am_kd 321 A = 13) (he : eok l η β b) (hc : ce l h A η β b) (hv : -20000000 ≤ v ∧ v ≤ 20000000) (k : Q (pk η β b v) h) : cf d M_X2_byteIn [.inr (.inr 218), .inr (.inr A), .inl v] h Q := by
  obtain ⟨c0, c1, c2, c3, c4, c5, c6, c7⟩ := hc
  have e1 := he.1
  have e2 := he.2.1
  unfold pk at k
  refine cf_of pX2 (Nat.le_of_ble_eq_true rfl) rfl (fun _ => B_X2_byteIn_0 ⟨tA, fun c => ?_, fun c => ⟨fun c2 => ?_, fun c2 => ?_⟩⟩)
  · rw [if_neg (by omega)] at k; exact k
  · rw [if_neg (by omega)] at k; exact k
  · rw [if_pos (by omega)] at k
    rw [c0, w32e (z := b + v) (by omega) (by omega), c5, c7 _ (by omega) (by omega)]
    exact ⟨fun c => by omega, fun _ => ⟨c4, fun c => by omega, fun _ => ⟨by omega, k⟩⟩⟩
theorem c_X2_ofOne {A v t : Int} {η β : Int → Int} {b : Int} {l : Bool} {q : Nat} (tA : am_kd 321 A = 13) (hA : 220 ≤ A) (he : eok l η β b) (hc : ce l h A η β b) (hv : -20000000 ≤ v ∧ v ≤ 20000000) (ht : t = 7 ∨ t = 8 ∨ t = 9) (hq : h 218 10 = (q : Int)) (hq2 : q < 2 ^ 40) (k : ∀ h2, (∀ top, fA h h2 top) → h2 218 10 = ((q ||| pl1 η b t v : Nat) : Int) → Q (un1 η β b t v) h2) : cf (d + 1) M_X2_ofOne [.inr (.inr 218), .inl t, .inl v, .inr (.inr A)] h Q := by
  have e1 := he.1
  have e2 := he.2.1
  have c0 := hc.1
  have c1 := hc.2.1
  have nk : ¬ (t = 9 ∧ 0 ≤ v ∧ v < η 8) → Q (un1 η β b t v) h := fun c => by
    refine k h (fun _ => fA_refl) ?_
    unfold pl1
    rw [if_neg c, Nat.or_zero]
    exact hq
  refine cf_of pX2 (Nat.le_of_ble_eq_true rfl) rfl (fun _ => B_X2_ofOne_0 ⟨fun c7 => ⟨fun c8 => ?_, fun c8 => ?_⟩, fun c7 => ?_⟩)
  · have t9 : t = 9 := by omega
    have eu : un1 η β b t v = pk η β b v := by
      unfold un1
      rw [if_neg c7, if_neg c8]
    have nb : ¬ (0 ≤ v ∧ v < η 8) → wf (d + 1) M_X2_ofOne Q 63 [some (.inr (.inr 218)), none, some (.inl v), some (.inr (.inr A))] [] h := fun c => by
      refine B_X2_ofOne_63 (c_X2_byteIn tA he hc hv ?_)
      rw [← eu]
      exact nk (fun z => c z.2)
    refine ⟨fun c => nb (by omega), fun c => ⟨tA, fun c2 => nb (by omega), fun c2 => ?_⟩⟩
    rw [c0, w32e (z := b + v) (by omega) (by omega), w32e (z := b + v + 1) (by omega) (by omega), show b + v = (((b + v).toNat : Nat) : Int) by omega, show (((b + v).toNat : Nat) : Int) + 1 = (((b + v).toNat + 1 : Nat) : Int) by omega]
    refine c_X6_span (by omega) (by omega) ?_
    rw [spn_one, hq, lor_n (by omega) (by have := p40 (k := (b + v).toNat) (by omega); omega)]
    refine B_X2_ofOne_63 (c_X2_byteIn tA he (ce_fA hA hc (fA_pk (t := 0))) hv ?_)
    rw [← eu]
    refine k _ (fun top => fA_pk) ?_
    rw [am_up_at]
    unfold pl1
    rw [if_pos ⟨t9, by omega, by omega⟩]
  · refine ⟨fun c => ?_, fun c => ?_⟩
    · have := nk (by omega)
      unfold un1 at this
      rw [if_neg c7, if_pos c8, if_neg c] at this
      exact this
    · have := nk (by omega)
      unfold un1 at this
      rw [if_neg c7, if_pos c8, if_pos c] at this
      exact this
  · have := nk (by omega)
    unfold un1 at this
    rw [if_pos c7] at this
    rw [w32e (by omega) (by omega)]
    exact this
theorem c_X2_leaf {A : Int} {k : Nat} {η β : Int → Int} {b : Int} {l : Bool} (tA : am_kd 321 A = 13) (hc : ce l h A η β b) (ha : al l k) (kk : Q (η k) h) : cf (d + 1) M_X2_leaf [.inr (.inr 218), .inl (if k < 8 then 1 else (k : Int) - 6), .inl (if k < 8 then (k : Int) else 0), .inr (.inr A)] h Q := by
  obtain ⟨c0, c1, c2, c3, c4, c5, c6, c7⟩ := hc
  unfold al at ha
  by_cases c : k < 8
  · rw [if_pos c, if_pos c]
    have l0 : l = false := by
      cases l
      · rfl
      · simp at ha; omega
    refine cf_of pX2 (Nat.le_of_ble_eq_true rfl) rfl (fun _ => B_X2_leaf_0 ⟨fun z => by omega, fun z => by omega, fun _ => c_X6_isField (fun _ _ => ⟨fun z => by omega, fun _ => ⟨tA, by omega, by omega, ?_⟩⟩) (fun z => by omega), fun z => by omega, fun z => by omega, fun z => by omega, fun z => by omega⟩)
    rw [(c2 l0).1 k c]; exact kk
  · rw [if_neg c, if_neg c]
    refine cf_of pX2 (Nat.le_of_ble_eq_true rfl) rfl (fun _ => B_X2_leaf_0 ⟨fun z => ?_, fun z => by omega, fun z => by omega, fun z => ⟨tA, ?_⟩, fun z => ⟨tA, ?_⟩, fun z => ?_, fun z => ?_⟩)
    · have k12 : k = 12 := by omega
      subst k12
      have l1 : l = true := by
        cases l
        · simp at ha
        · rfl
      rw [(c3 l1).2.2]; exact kk
    · have k8 : k = 8 := by omega
      subst k8
      rw [c1]; exact kk
    · have k9 : k = 9 := by omega
      subst k9
      have l0 : l = false := by
        cases l
        · rfl
        · simp at ha
      rw [(c2 l0).2]; exact kk
    · have k10 : k = 10 := by omega
      subst k10
      have l1 : l = true := by
        cases l
        · simp at ha
        · rfl
      rw [(c3 l1).1]; exact kk
    · have k11 : k = 11 := by omega
      subst k11
      have l1 : l = true := by
        cases l
        · simp at ha
        · rfl
      rw [(c3 l1).2.1]; exact kk
theorem c_X2_leafN {A v : Int} (kk : Q v h) : cf (d + 1) M_X2_leaf [.inr (.inr 218), .inl 0, .inl v, .inr (.inr A)] h Q :=
  cf_of pX2 (Nat.le_of_ble_eq_true rfl) rfl (fun _ => B_X2_leaf_0 ⟨fun z => by omega, fun _ => kk, fun z => by omega, fun z => by omega, fun z => by omega, fun z => by omega, fun z => by omega⟩)
end SPAN
