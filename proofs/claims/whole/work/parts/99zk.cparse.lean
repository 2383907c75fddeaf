/-! LEVEL 3, the class's Parser: its state, its small steps -/
/-- what stays while a SUM is read: the TOKENS, where to put steps -/
def cE (g : am_H) (K V P : Nat → Int) (N : Nat) (T : Int) (l : Bool) : Prop := tkok K V N ∧ (g 201 3 = (N : Int) + 1 ∧ g 201 6 = T) ∧ (am_kd 321 T = 15 ∧ 242 ≤ T) ∧ (g 201 8 = 4 ↔ l = true) ∧ ∀ j : Nat, j ≤ N → g 202 j = K j ∧ g 203 j = P j ∧ g 204 j = V j
def cO (g h : am_H) (T : Int) : Prop := (∀ b : Int, b ≠ 201 → b ≠ T + 4 → h b = g b) ∧ ∀ j : Int, j < 4 ∨ j = 6 ∨ j = 8 ∨ 13 < j → h 201 j = g 201 j
/-- at the i-th TOKEN, cp steps put down, o open -/
def cS (g h : am_H) (K : Nat → Int) (T : Int) (i : Nat) (cp : Int) (o nm : Nat) (sw : Bool) : Prop := cO g h T ∧ h 201 4 = K i ∧ h 201 5 = i ∧ h 201 7 = cp ∧ h 201 9 = o ∧ h 201 10 = nm ∧ h 201 11 = (if sw = true then 1 else 0) ∧ h 201 12 = 0
/-- a FAULT was come to -/
def cF (g h : am_H) (T : Int) (P : Nat → Int) (f : Int) (j : Nat) : Prop := cO g h T ∧ h 201 12 = f ∧ h 201 13 = P j
section CPARSE
variable {d : Nat} {g h : am_H} {Q : Int → am_H → Prop} {K V P : Nat → Int} {N : Nat} {T : Int} {l : Bool} {i o : Nat} {cp : Int} {nm : Nat} {sw : Bool}
theorem cO_up {j v : Int} (c : cO g h T) (q : j = 4 ∨ j = 5 ∨ j = 7 ∨ 9 ≤ j ∧ j ≤ 13) : cO g (am_up h 201 j v) T := by
  refine ⟨fun b q1 q2 => ?_, fun k q1 => ?_⟩
  · rw [← c.1 b q1 q2]
    funext k
    exact am_up_ne (by omega)
  · rw [← c.2 k q1]
    exact am_up_ne (by omega)
theorem cO_code {j v : Int} (hT : 242 ≤ T) (c : cO g h T) : cO g (am_up h (T + 4) j v) T := by
  refine ⟨fun b q1 q2 => ?_, fun k q1 => ?_⟩
  · rw [← c.1 b q1 q2]
    funext k
    exact am_up_ne (by omega)
  · rw [← c.2 k q1]
    exact am_up_ne (by omega)
theorem cS_eq {i2 o2 nm2 : Nat} {cp2 : Int} {sw2 : Bool} (c : cS g h K T i cp o nm sw) (e0 : i = i2) (e1 : cp = cp2) (e2 : o = o2) (e3 : nm = nm2) (e4 : sw = sw2) : cS g h K T i2 cp2 o2 nm2 sw2 := by
  subst e0 e1 e2 e3 e4
  exact c
theorem cS_row (hT : 242 ≤ T) {b : Int} (c : cS g h K T i cp o nm sw) (q : b ≠ 201 ∧ b < 242) : h b = g b := c.1.1 b q.1 (by omega)
theorem upr {a b j v : Int} (q : b ≠ a) : am_up h a j v b = h b := by
  funext k
  exact am_up_ne (by omega)
theorem c_fail (E : cE g K V P N T l) (S : cS g h K T i cp o nm sw) (hi : i ≤ N) {f : Int} (k : ∀ h2, cF g h2 T P f i → Q 0 h2) : cf d M_X1_fail [.inr (.inr 201), .inl f] h Q := by
  obtain ⟨s0, s4, s5, s7, s9, s10, s11, s12⟩ := S
  obtain ⟨e1, e2, e3, e4, e5⟩ := E
  have n300 := e1.1
  refine cf_of pX1 (Nat.le_of_ble_eq_true rfl) rfl (fun _ => B_X1_fail_0 ⟨fun c => absurd s12 c, fun _ => ⟨fun c => by omega, fun _ => ⟨fun c => by omega, fun _ => k _ ⟨?_, ?_, ?_⟩⟩⟩⟩)
  · exact cO_up (cO_up s0 (by omega)) (by omega)
  · rw [am_up_ne (by omega), am_up_at]
  · rw [am_up_at, s5, s0.1 203 (by omega) (by omega)]
    exact (e5 i hi).2.1
theorem c_advance (E : cE g K V P N T l) (S : cS g h K T i cp o nm sw) (hi : i + 1 ≤ N) (k : ∀ h2, cS g h2 K T (i + 1) cp o nm sw → h2 (T + 4) = h (T + 4) → Q 1 h2) : cf d M_X1_advance [.inr (.inr 201)] h Q := by
  obtain ⟨s0, s4, s5, s7, s9, s10, s11, s12⟩ := S
  obtain ⟨e1, e2, e3, e4, e5⟩ := E
  have n300 := e1.1
  have h3 : h 201 3 = (N : Int) + 1 := by rw [s0.2 3 (by omega)]; exact e2.1
  refine cf_of pX1 (Nat.le_of_ble_eq_true rfl) rfl (fun _ => B_X1_advance_0 ?_)
  rw [s5, h3, w32e (z := (N : Int) + 1 - 1) (by omega) (by omega), w32e (z := (i : Int) + 1) (by omega) (by omega)]
  refine ⟨fun c => by omega, fun _ => ⟨fun c => by omega, fun _ => ⟨fun c => by omega, fun _ => ⟨by omega, by omega, k _ ⟨cO_up (cO_up s0 (by omega)) (by omega), ?_, ?_, ?_, ?_, ?_, ?_, ?_⟩ ?_⟩⟩⟩⟩
  · rw [am_up_at, s0.1 202 (by omega) (by omega)]
    exact (e5 (i + 1) hi).1
  · rw [am_up_ne (by omega), am_up_at]; omega
  · rw [am_up_ne (by omega), am_up_ne (by omega)]; exact s7
  · rw [am_up_ne (by omega), am_up_ne (by omega)]; exact s9
  · rw [am_up_ne (by omega), am_up_ne (by omega)]; exact s10
  · rw [am_up_ne (by omega), am_up_ne (by omega)]; exact s11
  · rw [am_up_ne (by omega), am_up_ne (by omega)]; exact s12
  · rw [upr (by omega), upr (by omega)]
theorem c_take (E : cE g K V P N T l) (S : cS g h K T i cp o nm sw) (hi : i ≤ N) {t : Int} (ht : t ≠ 66) (k1 : K i = t → i + 1 ≤ N → ∀ h2, cS g h2 K T (i + 1) cp o nm sw → h2 (T + 4) = h (T + 4) → Q 1 h2) (k0 : K i ≠ t → ∀ h2, cF g h2 T P 1 i → Q 0 h2) : cf (d + 1) M_X1_take [.inr (.inr 201), .inl t] h Q := by
  have s4 := S.2.1
  refine cf_of pX1 (Nat.le_of_ble_eq_true rfl) rfl (fun _ => B_X1_take_0 ⟨fun c => c_fail E S hi (fun h2 F => ⟨Or.inl rfl, k0 (by rw [← s4]; exact c) h2 F⟩), fun c => ?_⟩)
  have i1 := tk_lt E.1 hi (by rw [← s4, c]; exact ht)
  exact c_advance E S i1 (fun h2 S2 R2 => ⟨Or.inr rfl, k1 (by rw [← s4]; exact c) i1 h2 S2 R2⟩)
theorem c_opens (E : cE g K V P N T l) (S : cS g h K T i cp o nm sw) (hi : i + 1 ≤ N) (k1 : o < 8 → ∀ h2, cS g h2 K T (i + 1) cp (o + 1) nm sw → h2 (T + 4) = h (T + 4) → Q 1 h2) (k0 : ¬ o < 8 → ∀ h2, cF g h2 T P 3 i → Q 0 h2) : cf (d + 1) M_X1_opens [.inr (.inr 201)] h Q := by
  have S' := S
  obtain ⟨s0, s4, s5, s7, s9, s10, s11, s12⟩ := S'
  refine cf_of pX1 (Nat.le_of_ble_eq_true rfl) rfl (fun _ => B_X1_opens_0 ⟨fun c => ?_, fun c => c_fail E S (by omega) (fun h2 F => ⟨Or.inl rfl, k0 (by omega) h2 F⟩)⟩)
  rw [s9, w32e (z := (o : Int) + 1) (by omega) (by omega)]
  have S2 : cS g (am_up h 201 9 ((o : Int) + 1)) K T i cp (o + 1) nm sw := by
    refine ⟨cO_up s0 (by omega), ?_, ?_, ?_, ?_, ?_, ?_, ?_⟩
    · rw [am_up_ne (by omega)]; exact s4
    · rw [am_up_ne (by omega)]; exact s5
    · rw [am_up_ne (by omega)]; exact s7
    · rw [am_up_at]; omega
    · rw [am_up_ne (by omega)]; exact s10
    · rw [am_up_ne (by omega)]; exact s11
    · rw [am_up_ne (by omega)]; exact s12
  exact c_advance E S2 hi (fun h2 S3 R3 => ⟨Or.inr rfl, k1 (by omega) h2 S3 (by rw [R3, upr (by have := E.2.2.1.2; omega)])⟩)
theorem c_closes (E : cE g K V P N T l) (S : cS g h K T i cp (o + 1) nm sw) (ho : o ≤ 8) (k : ∀ h2, cS g h2 K T i cp o nm sw → h2 (T + 4) = h (T + 4) → Q 1 h2) : cf d M_X1_closes [.inr (.inr 201)] h Q := by
  obtain ⟨s0, s4, s5, s7, s9, s10, s11, s12⟩ := S
  refine cf_of pX1 (Nat.le_of_ble_eq_true rfl) rfl (fun _ => B_X1_closes_0 ?_)
  rw [s9, w32e (z := ((o + 1 : Nat) : Int) - 1) (by omega) (by omega)]
  refine k _ ⟨cO_up s0 (by omega), ?_, ?_, ?_, ?_, ?_, ?_, ?_⟩ (upr (by have := E.2.2.1.2; omega))
  · rw [am_up_ne (by omega)]; exact s4
  · rw [am_up_ne (by omega)]; exact s5
  · rw [am_up_ne (by omega)]; exact s7
  · rw [am_up_at]; omega
  · rw [am_up_ne (by omega)]; exact s10
  · rw [am_up_ne (by omega)]; exact s11
  · rw [am_up_ne (by omega)]; exact s12
theorem or5 {a b : Nat} (hb : b < 32) : a * 2 ^ 5 ||| b = a * 32 + b := by
  have := Nat.two_pow_add_eq_or_of_lt (i := 5) (b := b) (by omega) a
  rw [Nat.mul_comm a (2 ^ 5), ← this]
theorem ior5 {a b : Nat} (hb : b < 32) (ha : a < 10000000) : am_ior (am_ishl (a : Int) 5) (b : Int) = (a : Int) * 32 + b := by
  have e := ishl_n (a := a) (k := 5) (by omega) (by omega)
  rw [show ((5 : Nat) : Int) = 5 from rfl] at e
  rw [e, ior_n (by omega) (by omega), or5 hb]
  omega
theorem ior5r {a b : Nat} (hb : b < 32) (ha : a < 10000000) : am_ior (b : Int) (am_ishl (a : Int) 5) = (b : Int) + 32 * a := by
  have e := ishl_n (a := a) (k := 5) (by omega) (by omega)
  rw [show ((5 : Nat) : Int) = 5 from rfl] at e
  rw [e, ior_n (by omega) (by omega), Nat.or_comm, or5 hb]
  omega
/-- a step is put down -/
theorem c_emit1 (E : cE g K V P N T l) (S : cS g h K T i cp o nm sw) (c0 : 0 ≤ cp) (c1 : cp < 300) {op rs v : Int} (ho : 0 ≤ op ∧ op < 32) (hr : 0 ≤ rs ∧ rs < 20000) (hv : v = rs * 32 + op) (k : ∀ h2, cS g h2 K T i (cp + 1) o nm sw → h2 (T + 4) cp = v → (∀ q : Int, q ≠ cp → h2 (T + 4) q = h (T + 4) q) → Q cp h2) : cf d M_X1_emit [.inr (.inr 201), .inl op, .inl rs] h Q := by
  obtain ⟨s0, s4, s5, s7, s9, s10, s11, s12⟩ := S
  obtain ⟨e1, e2, e3, e4, e5⟩ := E
  have h6 : h 201 6 = T := by rw [s0.2 6 (by omega)]; exact e2.2
  have k4 := kX5_4 e3.1
  have hT := e3.2
  have ev : am_ior (am_ishl rs 5) op = v := by
    rw [show rs = ((rs.toNat : Nat) : Int) by omega, show op = ((op.toNat : Nat) : Int) by omega, ior5 (by omega) (by omega)]
    omega
  refine cf_of pX1 (Nat.le_of_ble_eq_true rfl) rfl (fun _ => B_X1_emit_0 ?_)
  rw [h6, s7, ev, w32e (z := cp + 1) (by omega) (by omega)]
  refine ⟨fun c => by omega, fun _ => ⟨fun _ => ⟨e3.1, k4.1, by rw [k4.2]; omega, k _ ⟨cO_up (cO_code hT s0) (by omega), ?_, ?_, ?_, ?_, ?_, ?_, ?_⟩ ?_ ?_⟩, fun c => by omega⟩⟩
  · rw [am_up_ne (by omega), am_up_ne (by omega)]; exact s4
  · rw [am_up_ne (by omega), am_up_ne (by omega)]; exact s5
  · rw [am_up_at]
  · rw [am_up_ne (by omega), am_up_ne (by omega)]; exact s9
  · rw [am_up_ne (by omega), am_up_ne (by omega)]; exact s10
  · rw [am_up_ne (by omega), am_up_ne (by omega)]; exact s11
  · rw [am_up_ne (by omega), am_up_ne (by omega)]; exact s12
  · rw [am_up_ne (by omega), am_up_at]
  · intro q hq
    rw [am_up_ne (by omega), am_up_ne (by omega)]
theorem c_aim1 (E : cE g K V P N T l) (S : cS g h K T i cp o nm sw) (c1 : 0 ≤ cp ∧ cp ≤ 300) {at1 b : Int} (ha : 0 ≤ at1 ∧ at1 < 300) (hb : 0 ≤ b ∧ b < 32) (eb : h (T + 4) at1 = b) (k : ∀ h2, cS g h2 K T i cp o nm sw → h2 (T + 4) at1 = b + 32 * cp → (∀ q : Int, q ≠ at1 → h2 (T + 4) q = h (T + 4) q) → Q 0 h2) : cf d M_X1_aim [.inr (.inr 201), .inl at1] h Q := by
  obtain ⟨s0, s4, s5, s7, s9, s10, s11, s12⟩ := S
  obtain ⟨e1, e2, e3, e4, e5⟩ := E
  have h6 : h 201 6 = T := by rw [s0.2 6 (by omega)]; exact e2.2
  have k4 := kX5_4 e3.1
  have hT := e3.2
  have ev : am_ior b (am_ishl cp 5) = b + 32 * cp := by
    rw [show cp = ((cp.toNat : Nat) : Int) by omega, show b = ((b.toNat : Nat) : Int) by omega, ior5r (by omega) (by omega)]
  refine cf_of pX1 (Nat.le_of_ble_eq_true rfl) rfl (fun _ => B_X1_aim_0 ?_)
  rw [h6, s7, eb, ev]
  refine ⟨fun c => by omega, fun _ => ⟨fun c => by omega, fun _ => ⟨e3.1, k4.1, by rw [k4.2]; omega, k _ ⟨cO_code hT s0, ?_, ?_, ?_, ?_, ?_, ?_, ?_⟩ ?_ ?_⟩⟩⟩
  · rw [am_up_ne (by omega)]; exact s4
  · rw [am_up_ne (by omega)]; exact s5
  · rw [am_up_ne (by omega)]; exact s7
  · rw [am_up_ne (by omega)]; exact s9
  · rw [am_up_ne (by omega)]; exact s10
  · rw [am_up_ne (by omega)]; exact s11
  · rw [am_up_ne (by omega)]; exact s12
  · rw [am_up_at]
  · intro q hq
    rw [am_up_ne (by omega)]
theorem c_numberHere (E : cE g K V P N T l) (S : cS g h K T i cp o nm sw) (hi : i ≤ N) (k1 : K i = 64 → Q (V i) h) (k0 : K i ≠ 64 → Q (-1) h) : cf d M_X1_numberHere [.inr (.inr 201)] h Q := by
  obtain ⟨s0, s4, s5, s7, s9, s10, s11, s12⟩ := S
  obtain ⟨e1, e2, e3, e4, e5⟩ := E
  have n300 := e1.1
  refine cf_of pX1 (Nat.le_of_ble_eq_true rfl) rfl (fun _ => B_X1_numberHere_0 ?_)
  rw [s4, s5]
  refine ⟨fun c => k0 c, fun c => ⟨fun c => by omega, fun _ => ⟨fun c => by omega, fun _ => ⟨by omega, ?_⟩⟩⟩⟩
  rw [s0.1 204 (by omega) (by omega), (e5 i hi).2.2]
  exact k1 c
theorem c_comparisonHere (S : cS g h K T i cp o nm sw) (k : Q (cmpK (K i)) h) : cf d M_X1_comparisonHere [.inr (.inr 201)] h Q := by
  have s4 := S.2.1
  unfold cmpK at k
  refine cf_of pX1 (Nat.le_of_ble_eq_true rfl) rfl (fun _ => B_X1_comparisonHere_0 ?_)
  rw [s4]
  refine ⟨fun c => ?_, fun c1 => ⟨fun c => ?_, fun c2 => ⟨fun c => ?_, fun c3 => ⟨fun c => ?_, fun c4 => ⟨fun c => ?_, fun c5 => ⟨fun c => ?_, fun c6 => ?_⟩⟩⟩⟩⟩⟩
  · rw [if_pos c] at k; exact k
  · rw [if_neg c1, if_pos c] at k; exact k
  · rw [if_neg c1, if_neg c2, if_pos c] at k; exact k
  · rw [if_neg c1, if_neg c2, if_neg c3, if_pos c] at k; exact k
  · rw [if_neg c1, if_neg c2, if_neg c3, if_neg c4, if_pos c] at k; exact k
  · rw [if_neg c1, if_neg c2, if_neg c3, if_neg c4, if_neg c5, if_pos c] at k; exact k
  · rw [if_neg c1, if_neg c2, if_neg c3, if_neg c4, if_neg c5, if_neg c6] at k; exact k
/-- a slot of the Parser's is another one -/
theorem cS_nm {x : Nat} (S : cS g h K T i cp o nm sw) : cS g (am_up h 201 10 (x : Int)) K T i cp o x sw := by
  obtain ⟨s0, s4, s5, s7, s9, s10, s11, s12⟩ := S
  refine ⟨cO_up s0 (by omega), ?_, ?_, ?_, ?_, ?_, ?_, ?_⟩
  · rw [am_up_ne (by omega)]; exact s4
  · rw [am_up_ne (by omega)]; exact s5
  · rw [am_up_ne (by omega)]; exact s7
  · rw [am_up_ne (by omega)]; exact s9
  · rw [am_up_at]
  · rw [am_up_ne (by omega)]; exact s11
  · rw [am_up_ne (by omega)]; exact s12
theorem cS_sw (S : cS g h K T i cp o nm sw) : cS g (am_up h 201 11 1) K T i cp o nm true := by
  obtain ⟨s0, s4, s5, s7, s9, s10, s11, s12⟩ := S
  refine ⟨cO_up s0 (by omega), ?_, ?_, ?_, ?_, ?_, ?_, ?_⟩
  · rw [am_up_ne (by omega)]; exact s4
  · rw [am_up_ne (by omega)]; exact s5
  · rw [am_up_ne (by omega)]; exact s7
  · rw [am_up_ne (by omega)]; exact s9
  · rw [am_up_ne (by omega)]; exact s10
  · rw [am_up_at, if_pos rfl]
  · rw [am_up_ne (by omega)]; exact s12
end CPARSE
theorem cat_congr {l : Bool} {κ κ2 : Int → Int} : ∀ e s, ws l e s → ∀ p : Int, cat κ p e → (∀ q : Int, p ≤ q → q < p + lx e → κ2 q = κ q) → cat κ2 p e := by
  refine ex_ind (fun v h0 h1 => ?_) (fun k q => ?_) (fun t a ht wa ih => ?_) (fun a wa ih => ?_) (fun t a c _ _ wa wc i1 i2 => ?_) (fun t a c h0 h1 wa wc i1 i2 => ?_) (fun t a c ht wa wc i1 i2 => ?_) (fun c a e wc wa we i1 i2 i3 => ?_) <;> intro p h f <;> simp only [lx] at f <;> simp only [cat] at h ⊢
  · rw [f p (by omega) (by omega)]; exact h
  · rw [f p (by omega) (by omega)]; exact h
  · exact ⟨ih p h.1 (fun q q0 q1 => f q q0 (by omega)), by rw [f _ (by omega) (by omega)]; exact h.2⟩
  · exact ⟨ih p h.1 (fun q q0 q1 => f q q0 (by omega)), by rw [f _ (by omega) (by omega)]; exact h.2⟩
  · exact ⟨i1 p h.1 (fun q q0 q1 => f q q0 (by omega)), i2 _ h.2.1 (fun q q0 q1 => f q (by omega) (by omega)), by rw [f _ (by omega) (by omega)]; exact h.2.2⟩
  · exact ⟨i1 p h.1 (fun q q0 q1 => f q q0 (by omega)), i2 _ h.2.1 (fun q q0 q1 => f q (by omega) (by omega)), by rw [f _ (by omega) (by omega)]; exact h.2.2⟩
  · exact ⟨i1 p h.1 (fun q q0 q1 => f q q0 (by omega)), i2 _ h.2.1 (fun q q0 q1 => f q (by omega) (by omega)), by rw [f _ (by omega) (by omega)]; exact h.2.2⟩
  · exact ⟨i1 p h.1 (fun q q0 q1 => f q q0 (by omega)), by rw [f _ (by omega) (by omega)]; exact h.2.1, i2 _ h.2.2.1 (fun q q0 q1 => f q (by omega) (by omega)), by rw [f _ (by omega) (by omega)]; exact h.2.2.2.1, i3 _ h.2.2.2.2 (fun q q0 q1 => f q (by omega) (by omega))⟩
