section ASKA
variable {d D : Nat} {h : am_H} {Q : Int → am_H → Prop} {tx : Nat → List Cl} {t t2 : List Cl} {β : Int → Int} {deep base size : Int} {ρ R R2 : Rd}
/-- what is kept of a reading -/
def kc (h : am_H) (A : Int) (t : List Cl) (ρ : Rd) : Prop := h A 3 = (told t : Nat) ∧ (∃ bk : Nat, bk < 256 ∧ h A 4 = bk ∧ ∀ f, f < 8 → bk.testBit f = decide (ρ f 3 = 1)) ∧ (∃ wr : Nat, wr < 256 ∧ h A 5 = wr ∧ ∀ f, f < 8 → wr.testBit f = decide (ρ f 3 = 2)) ∧ ∀ f : Nat, f < 8 → h (A + 1) f = ρ f 0
theorem kc_crd {A : Int} (c : crd h A t base size deep ρ) : kc h A t ρ := ⟨c.1.2.2.2, c.2.1, c.2.2.1, fun f hf => (c.2.2.2.1 f hf).1⟩
theorem kc_congr {h2 : am_H} {A : Int} (c : kc h A t ρ) (e0 : h2 A = h A) (e1 : h2 (A + 1) = h (A + 1)) : kc h2 A t ρ := by
  unfold kc at c ⊢
  rw [e0, e1]
  exact c
theorem c_K_how {A : Int} {f : Nat} (tA : am_kd 321 A = 13) (hf : f < 8) (c : kc h A t ρ) (o : okr t ρ) (k : Q (ρ f 3) h) : cf (d + 1) M_X3_how [.inr (.inr A), .inl (f : Int)] h Q := by
  obtain ⟨c3, ⟨bk, b1, b2, b3⟩, ⟨wr, w1, w2, w3⟩, _⟩ := c
  have tl := told_lt (tx := t)
  have of := o.1 f hf
  refine cf_of pX3 (Nat.le_of_ble_eq_true rfl) rfl (fun _ => B_X3_how_0 tA ?_)
  rw [c3]
  refine c_X6_hasBit (by omega) (by omega) (fun q => ⟨fun _ => ?_, fun z => by omega⟩) (fun q => ⟨fun z => absurd rfl z, fun _ => ?_⟩)
  · have tt := (told_bit2 hf).1 q
    rw [b2]
    refine c_X6_hasBit (by omega) (by omega) (fun q2 => ⟨fun z => by omega, fun _ => ?_⟩) (fun q2 => ⟨fun _ => ?_, fun z => absurd rfl z⟩)
    · rw [b3 f hf] at q2
      rw [show ρ f 3 = 1 by simpa using q2] at k
      exact k
    · rw [b3 f hf] at q2
      have q3 : ¬ ρ f 3 = 1 := by simpa using q2
      rw [w2]
      refine c_X6_hasBit (by omega) (by omega) (fun q4 => ⟨fun z => by omega, fun _ => ?_⟩) (fun q4 => ⟨fun _ => ?_, fun z => absurd rfl z⟩)
      · rw [w3 f hf] at q4
        rw [show ρ f 3 = 2 by simpa using q4] at k
        exact k
      · rw [w3 f hf] at q4
        have q5 : ¬ ρ f 3 = 2 := by simpa using q4
        rw [show ρ f 3 = 0 by omega] at k
        exact k
  · have tt := (told_bit2 hf).2 q
    rw [show ρ f 3 = 3 by omega] at k
    exact k
/-- the FIELDS with like values that are alike -/
def lik (R R2 : Rd) : Nat := bset (fun f => decide (R f 0 = R2 f 0) && decide (R f 3 = R2 f 3)) 8
theorem l_X3_like {A A2 : Int} (tA : am_kd 321 A = 13) (tA2 : am_kd 321 A2 = 13) (c : kc h A t R) (c2 : kc h A2 t2 R2) (o : okr t R) (o2 : okr t2 R2) (k : Q ((lik R R2 : Nat) : Int) h) : ∀ (n m : Nat), m + n = 8 → wf (d + 2) M_X3_likeFields Q 4 [some (.inr (.inr A)), some (.inr (.inr A2)), some (.inl ((bset (fun f => decide (R f 0 = R2 f 0) && decide (R f 3 = R2 f 3)) m : Nat) : Int)), some (.inl (m : Int))] [] h
  | 0, m, hm => by
    have : m = 8 := by omega
    subst this
    exact B_X3_likeFields_4 tA ⟨fun _ => k, fun q => by omega⟩
  | n + 1, m, hm => by
    have m8 : m < 8 := by omega
    have ih := l_X3_like tA tA2 c c2 o o2 k n (m + 1) (by omega)
    rw [bset_snoc] at ih
    have p8 : 2 ^ m < 256 := Nat.pow_lt_pow_right (n := 8) (by decide) m8
    have bl := Nat.lt_trans (bset_lt (p := fun f => decide (R f 0 = R2 f 0) && decide (R f 3 = R2 f 3)) m) p8
    have skip : (decide (R m 0 = R2 m 0) && decide (R m 3 = R2 m 3)) = false → wf (d + 2) M_X3_likeFields Q 44 [some (.inr (.inr A)), some (.inr (.inr A2)), some (.inl ((bset (fun f => decide (R f 0 = R2 f 0) && decide (R f 3 = R2 f 3)) m : Nat) : Int)), some (.inl (m : Int))] [] h := by
      intro q
      rw [q, if_neg (by decide), Nat.or_zero] at ih
      refine B_X3_likeFields_44 tA ?_
      rw [w32e (by omega) (by omega)]
      exact ih
    refine B_X3_likeFields_4 tA ⟨fun q => by omega, fun _ => ⟨by omega, tA2, ?_⟩⟩
    rw [c.2.2.2 m m8, c2.2.2.2 m m8]
    refine ⟨fun q => skip (by simp [q]), fun q => c_K_how tA m8 c o (c_K_how tA2 m8 c2 o2 ⟨fun q2 => skip (by simp [q2]), fun q2 => B_X3_likeFields_44 tA ?_⟩)⟩
    have e : (decide (R m 0 = R2 m 0) && decide (R m 3 = R2 m 3)) = true := by simp [q, q2]
    rw [e, if_pos rfl] at ih
    rw [ishl1 (by omega), ior_n (by omega) (by omega), w32e (by omega) (by omega)]
    exact ih
theorem c_X3_likeFields {A A2 : Int} (tA : am_kd 321 A = 13) (tA2 : am_kd 321 A2 = 13) (c : kc h A t R) (c2 : kc h A2 t2 R2) (o : okr t R) (o2 : okr t2 R2) (k : Q ((lik R R2 : Nat) : Int) h) : cf (d + 2) M_X3_likeFields [.inr (.inr A), .inr (.inr A2)] h Q :=
  cf_of pX3 (Nat.le_of_ble_eq_true rfl) rfl (fun _ => B_X3_likeFields_0 tA (l_X3_like tA tA2 c c2 o o2 k 8 0 (by omega)))
theorem lik_lt : lik R R2 < 256 := bset_lt 8
theorem c_X3_copyK (c : kc h 220 t R) (k : ∀ h2, (∀ b : Int, b ≠ 235 → b ≠ 236 → h2 b = h b) → kc h2 235 t R → Q 0 h2) : cf d M_X3_copy [.inr (.inr 235), .inr (.inr 220)] h Q := by
  obtain ⟨c3, ⟨bk, b1, b2, b3⟩, ⟨wr, w1, w2, w3⟩, c4⟩ := c
  refine cf_of pX3 (Nat.le_of_ble_eq_true rfl) rfl (fun _ => B_X3_copy_0 k_235 ⟨k_220, k _ (fun b q1 q2 => ?_) ⟨?_, ⟨bk, b1, ?_, b3⟩, ⟨wr, w1, ?_, w3⟩, fun f hf => ?_⟩⟩)
  · funext j
    rw [am_cp_other _ _ (by omega), am_up_ne (by omega), am_up_ne (by omega), am_up_ne (by omega)]
  · rw [am_cp_other _ _ (by omega), am_up_ne (by omega), am_up_ne (by omega), am_up_at]; exact c3
  · rw [am_cp_other _ _ (by omega), am_up_ne (by omega), am_up_at, am_up_ne (by omega)]; exact b2
  · rw [am_cp_other _ _ (by omega), am_up_at, am_up_ne (by omega), am_up_ne (by omega)]; exact w2
  · unfold am_cp
    rw [if_pos ⟨rfl, by omega, by omega⟩, am_up_ne (by omega), am_up_ne (by omega), am_up_ne (by omega)]
    have := c4 f hf
    rw [show (0 : Int) + ((f : Int) - 0) = f by omega]
    exact this
def r_alike (α : Int → Int) (tx : Nat → List Cl) (t u : Int) : Int := if isT α t ∧ isT α u then (((told (tx t.toNat) &&& told (tx u.toNat)) &&& lik (rdX (tx t.toNat) (fB8 α) (α 6)) (rdX (tx u.toNat) (fB8 α) (α 6)) : Nat) : Int) else -1
theorem c_X6_alike {t u : Int} (I : INV h tx) (k : ∀ g, fX h g → Q (r_alike (h 295) tx t u) g) : cf (D + 13) M_X6_alike [.inr (.inr 1), .inl t, .inl u] h Q := by
  unfold r_alike at k
  refine cf_of pX6 (Nat.le_of_ble_eq_true rfl) rfl (fun _ => B_X6_alike_0 (c6_textAt I (fun q => c6_textAt I (fun q2 => ⟨by have := q.1; omega, fun c => by have := q.1; omega, fun _ => ⟨by have := q2.1; omega, fun _ => ?_, fun c => by have := q2.1; omega⟩⟩) (fun q2 => ⟨by have := q.1; omega, fun c => by have := q.1; omega, fun _ => ⟨by omega, fun c => by omega, fun _ => ?_⟩⟩)) (fun q => ?_)))
  · obtain ⟨z1, z2, z3, z4, z5⟩ := INV_t I q.1 q.2
    obtain ⟨y1, y2, y3, y4, y5⟩ := INV_t I q2.1 q2.2
    have tb := q.1
    have ub := q2.1
    refine c_rdF (D := D) (W := 255) I q.1 q.2 (by decide) (fun h2 f2 I2 c2 o2 e8 e7 => ?_)
    refine c_X3_copyK (kc_crd c2) (fun h3 f3 c3 => ?_)
    have x3 : fX h2 h3 := ⟨fun b qb => f3 b (by omega) (by omega), by rw [f3 218 (by omega) (by omega)], fun qq => okP_congr qq (by rw [f3 218 (by omega) (by omega)]) (by rw [f3 218 (by omega) (by omega)]) (f3 199 (by omega) (by omega)) (f3 240 (by omega) (by omega))⟩
    have I3 := INV_fX I2 x3
    have e295 : h3 295 = h 295 := by rw [f3 295 (by omega) (by omega), f2.1 295 (by omega)]
    refine c_rdF (D := D) (W := 255) I3 q2.1 (by rw [e295]; exact q2.2) (by decide) (fun h4 f4 I4 c4 o4 e84 e74 => ⟨z5, y5, ?_⟩)
    rw [e295] at c4 o4
    refine c_X3_likeFields (d := D + 10) k_235 k_220 (kc_congr c3 (f4.1 235 (by omega)) (f4.1 _ (by omega))) (kc_crd c4) o2 o4 ?_
    have kk := k h4 (fX_trans (fX_fW f2) (fX_trans x3 (fX_fW f4)))
    rw [if_pos ⟨q, q2⟩] at kk
    have t1 : h4 (242 + 13 * t) 6 = (told (tx t.toNat) : Nat) := by rw [f4.1 _ (by omega), f3 _ (by omega) (by omega), f2.1 _ (by omega)]; exact z1.1.2.1
    have t2 : h4 (242 + 13 * u) 6 = (told (tx u.toNat) : Nat) := by rw [f4.1 _ (by omega), f3 _ (by omega) (by omega), f2.1 _ (by omega)]; exact y1.1.2.1
    have l1 := told_lt (tx := tx t.toNat)
    rw [t1, t2, iand_n (by omega), iand_n (Nat.lt_of_le_of_lt Nat.and_le_left (by omega))]
    exact kk
  · have kk := k h fX_refl
    rw [if_neg (fun y => q2 y.2)] at kk; exact kk
  · have kk := k h fX_refl
    rw [if_neg (fun y => q y.1)] at kk
    refine c6_textAt I (fun q2 => ⟨by omega, fun _ => kk, fun c => by omega⟩) (fun q2 => ⟨by omega, fun _ => kk, fun c => by omega⟩)
/-- the reference keeps values and how they are -/
theorem l_keep8 {t0 : Int} {W : Nat → am_H → Prop} (r : rdone h t0 t size R) (step : ∀ (m : Nat) (g : am_H), m < 8 → W (m + 1) (am_up (am_up g 320 m (g 312 m)) 321 m (g 315 m)) → W m g) (k : ∀ g, (∀ b : Int, b ≠ 320 → b ≠ 321 → g b = h b) → (∀ f : Nat, f < 8 → g 320 f = R f 0 ∧ g 321 f = R f 3) → W 8 g) : ∀ (n m : Nat) (g : am_H), m + n = 8 → (∀ b : Int, b ≠ 320 → b ≠ 321 → g b = h b) → (∀ f : Nat, f < m → g 320 f = R f 0 ∧ g 321 f = R f 3) → W m g
  | 0, m, g, hm, fg, gi => by
    have : m = 8 := by omega
    subst this
    exact k g fg gi
  | n + 1, m, g, hm, fg, gi => by
    have m8 : m < 8 := by omega
    have rf := r.2.2.1.2.2 m m8
    rw [show 8 * (0 : Int) + (m : Int) = m by omega] at rf
    refine step m g m8 (l_keep8 r step k n (m + 1) _ (by omega) (fun b q1 q2 => ?_) (fun f hf => ?_))
    · rw [← fg b q1 q2]; funext j; rw [am_up_ne (by omega), am_up_ne (by omega)]
    · by_cases e : f = m
      · subst e
        rw [am_up_ne (by omega), am_up_at, am_up_at, fg 312 (by omega) (by omega), fg 315 (by omega) (by omega)]
        exact ⟨rf.2.1, rf.1⟩
      · rw [am_up_ne (by omega), am_up_ne (by omega), am_up_ne (by omega), am_up_ne (by omega)]
        exact gi f (by omega)
theorem l_X7_alike {t0 : Int} (r : rdone h t0 t2 size R2) (w : ∀ f : Nat, f < 8 → h 320 f = R f 0 ∧ h 321 f = R f 3) (k : Q ((bset (fun f => !decide (R2 f 3 = 3) && (decide (R2 f 3 = R f 3) && decide (R2 f 0 = R f 0))) 8 : Nat) : Int) h) : ∀ (n m : Nat), m + n = 8 → wf (d + 1) M_X7_alike Q 71 [some (.inr (.inr 294)), none, none, some (.inl ((bset (fun f => !decide (R2 f 3 = 3) && (decide (R2 f 3 = R f 3) && decide (R2 f 0 = R f 0))) m : Nat) : Int)), some (.inl (m : Int))] [] h
  | 0, m, hm => by
    have : m = 8 := by omega
    subst this
    exact B_X7_alike_71 ⟨fun _ => k, fun q => by omega⟩
  | n + 1, m, hm => by
    have m8 : m < 8 := by omega
    have ih := l_X7_alike r w k n (m + 1) (by omega)
    rw [bset_snoc] at ih
    have p8 : 2 ^ m < 256 := Nat.pow_lt_pow_right (n := 8) (by decide) m8
    have bl := Nat.lt_trans (bset_lt (p := fun f => !decide (R2 f 3 = 3) && (decide (R2 f 3 = R f 3) && decide (R2 f 0 = R f 0))) m) p8
    have rf := r.2.2.1.2.2 m m8
    rw [show 8 * (0 : Int) + (m : Int) = m by omega] at rf
    have next : ∀ s1 : Nat, s1 < 256 → s1 = (if (!decide (R2 m 3 = 3) && (decide (R2 m 3 = R m 3) && decide (R2 m 0 = R m 0))) = true then 2 ^ m else 0) → wf (d + 1) M_X7_alike Q 132 [some (.inr (.inr 294)), none, none, none, some (.inl (m : Int))] [.inl (s1 : Int), .inl ((bset (fun f => !decide (R2 f 3 = 3) && (decide (R2 f 3 = R f 3) && decide (R2 f 0 = R f 0))) m : Nat) : Int)] h := by
      intro s1 s8 e1
      refine B_X7_alike_132 ?_
      rw [ior_n (by omega) (by omega), w32e (by omega) (by omega), e1]
      exact ih
    refine B_X7_alike_71 ⟨fun q => by omega, fun _ => ⟨by omega, by omega, ?_⟩⟩
    rw [rf.1, rf.2.1, (w m m8).1, (w m m8).2, ishl1 (by omega)]
    refine ⟨fun q => B_X7_alike_131 (next 0 (by omega) ?_), fun q => ⟨fun q2 => B_X7_alike_131 (next 0 (by omega) ?_), fun q2 => ⟨fun q3 => B_X7_alike_131 (next 0 (by omega) ?_), fun q3 => next (2 ^ m) p8 ?_⟩⟩⟩
    · simp [q]
    · simp [q2]
    · simp [q3]
    · simp [q, q2, q3] <;> omega
end ASKA
