section WHOSE
variable {d D : Nat} {h : am_H} {Q : Int → am_H → Prop} {tx : Nat → List Cl} {tt : List Cl} {β : Int → Int} {size : Int} {ρ R : Rd}
/-- a FIELD is said to have a value, and has it -/
def hkv (R : Rd) (f v : Int) : Bool := (decide (R f.toNat 3 = 0) || decide (R f.toNat 3 = 2)) && decide (R f.toNat 0 = v)
/-- all that is said from the i-th on is so -/
def aso (R : Rd) (α : Int → Int) : Nat → Nat → Bool
  | _, 0 => true
  | i, n + 1 => hkv R (α (48 + 2 * (i : Int))) (α (48 + 2 * (i : Int) + 1)) && aso R α (i + 1) n
def r_whose (α : Int → Int) (tx : Nat → List Cl) : Int := ((bset (fun t => aso (rdX (tx t) (fB8 α) (α 6)) α 0 (α 3).toNat) (α 0).toNat : Nat) : Int)
theorem l_allSaid {α : Int → Int} (c : crd h 220 tt 0 size 0 R) (o : okr tt R) (s8 : h 4 8 = α 3) (a3 : 0 ≤ α 3 ∧ α 3 ≤ 8) (sa : ∀ i : Int, 0 ≤ i → i < α 3 → h 9 i = α (48 + 2 * i) ∧ h 10 i = α (48 + 2 * i + 1)) (sk : sok α) (k1 : aso R α 0 (α 3).toNat = true → Q 1 h) (k0 : aso R α 0 (α 3).toNat = false → Q 0 h) : ∀ (n i : Nat), i + n = (α 3).toNat → aso R α 0 (α 3).toNat = aso R α i n → wf (d + 3) M_X6_allSaidIsSo Q 27 [some (.inr (.inr 1)), none, some (.inr (.inr 220)), some (.inl (i : Int))] [] h
  | 0, i, hn, e => by
    refine B_X6_allSaidIsSo_27 ?_
    rw [s8]
    exact ⟨fun _ => k1 e, fun q => by omega⟩
  | n + 1, i, hn, e => by
    have si := sa i (by omega) (by omega)
    have ki := sk i (by omega) (by omega)
    simp only [aso] at e
    refine B_X6_allSaidIsSo_27 ?_
    rw [s8, si.1, si.2]
    obtain ⟨f, hf⟩ : ∃ f : Nat, α (48 + 2 * (i : Int)) = (f : Int) := ⟨(α (48 + 2 * (i : Int))).toNat, by omega⟩
    rw [hf] at e ki ⊢
    have of := o.1 f (by omega)
    refine ⟨fun q => by omega, fun _ => ⟨fun q => by omega, fun _ => ⟨by omega, k_220, c_X3_has (d := d) k_220 (by omega) c o (fun q1 q2 q3 => ⟨fun _ => ?_, fun y => by omega⟩) (fun q1 => ⟨fun y => absurd rfl y, fun _ => ?_⟩)⟩⟩⟩
    · have y : hkv R (f : Int) (α (48 + 2 * (i : Int) + 1)) = true := by
        unfold hkv
        rw [Int.toNat_natCast]
        have : R f 3 = 0 ∨ R f 3 = 2 := by omega
        simp [this, q3]
      rw [y, Bool.true_and] at e
      rw [w32e (by omega) (by omega), show (i : Int) + 1 = ((i + 1 : Nat) : Int) by omega]
      exact l_allSaid c o s8 a3 sa sk k1 k0 n (i + 1) (by omega) e
    · have y : hkv R (f : Int) (α (48 + 2 * (i : Int) + 1)) = false := by
        unfold hkv
        rw [Int.toNat_natCast]
        by_cases q2 : R f 3 = 0 ∨ R f 3 = 2
        · have q3 : ¬ R f 0 = α (48 + 2 * (i : Int) + 1) := fun z => q1 ⟨by omega, by omega, z⟩
          simp [q3]
        · have q3 : ¬ R f 3 = 0 := fun z => q2 (Or.inl z)
          have q4 : ¬ R f 3 = 2 := fun z => q2 (Or.inr z)
          simp [q3, q4]
      rw [y, Bool.false_and] at e
      exact k0 e
theorem c_X6_allSaidIsSo {t : Nat} (I : INV h tx) (t1 : (t : Int) < h 295 0) (k : ∀ g, fX h g → Q (bi (aso (rdX (tx t) (fB8 (h 295)) (h 295 6)) (h 295) 0 (h 295 3).toNat)) g) : cf (D + 13) M_X6_allSaidIsSo [.inr (.inr 1), .inr (.inr (242 + 13 * (t : Int)))] h Q := by
  refine cf_of pX6 (Nat.le_of_ble_eq_true rfl) rfl (fun _ => B_X6_allSaidIsSo_0 ⟨by omega, fun _ => ?_, fun q => by omega⟩)
  refine c_rdF (D := D) (t := (t : Int)) (W := 255) I (by omega) t1 (by decide) (fun h2 f2 I2 c2 o2 e8 e7 => ?_)
  rw [Int.toNat_natCast] at c2 o2
  have x2 := fX_fW f2
  have e295 : h2 295 = h 295 := x2.1 295 (by omega)
  have kk := k h2 x2
  have S := I2.1
  rw [e295] at S
  obtain ⟨r1, r2, r3, r4, r5, r6, r7, r8⟩ := S
  refine l_allSaid (d := D + 10) (α := h 295) c2 o2 r7 I.2.1.2.2.2.1 r8 I.2.2.2.2.2.2.2.2.1.2.1 (fun q => ?_) (fun q => ?_) (h 295 3).toNat 0 (by omega) rfl
  · rw [show rdX (tx t) (fB8 (h 295)) (h 295 6) = rdC (tx t) (fB8 (h 295)) false 255 0 (h 295 6) from rfl, q] at kk
    exact kk
  · rw [show rdX (tx t) (fB8 (h 295)) (h 295 6) = rdC (tx t) (fB8 (h 295)) false 255 0 (h 295 6) from rfl, q] at kk
    exact kk
theorem l_X6_whose (I : INV h tx) (k : ∀ g, fX h g → Q (r_whose (h 295) tx) g) : ∀ (n t : Nat) (g : am_H), t + n = (h 295 0).toNat → fX h g → wf (D + 14) M_X6_whose Q 4 [some (.inr (.inr 1)), some (.inl ((bset (fun t => aso (rdX (tx t) (fB8 (h 295)) (h 295 6)) (h 295) 0 (h 295 3).toNat) t : Nat) : Int)), some (.inl (t : Int))] [] g
  | 0, t, g, hn, fg => by
    have Ig := INV_fX I fg
    have e295 : g 295 = h 295 := fg.1 295 (by omega)
    have a0 := I.2.1.1
    have kk := k g fg
    unfold r_whose at kk
    rw [← hn] at kk
    refine B_X6_whose_4 ?_
    rw [Ig.1.2.2.2.2.1, e295]
    exact ⟨fun _ => kk, fun q => by omega⟩
  | n + 1, t, g, hn, fg => by
    have Ig := INV_fX I fg
    have e295 : g 295 = h 295 := fg.1 295 (by omega)
    have a0 := I.2.1.1
    have bl := bset_lt (p := fun t => aso (rdX (tx t) (fB8 (h 295)) (h 295 6)) (h 295) 0 (h 295 3).toNat) t
    have p8 : 2 ^ t < 16 := Nat.pow_lt_pow_right (n := 4) (by decide) (by omega)
    refine B_X6_whose_4 ?_
    rw [Ig.1.2.2.2.2.1, e295, show (3 : Int) + 239 + 13 * (t : Int) = 242 + 13 * (t : Int) by omega]
    refine ⟨fun q => by omega, fun _ => ⟨fun q => by omega, fun _ => ⟨by omega, c_X6_allSaidIsSo (D := D) Ig (by rw [e295]; omega) (fun g2 f2 => ?_)⟩⟩⟩
    rw [e295]
    have ih := l_X6_whose I k n (t + 1) g2 (by omega) (fX_trans fg f2)
    rw [bset_snoc] at ih
    have step : ∀ v : Int, wf (D + 14) M_X6_whose Q 4 [some (.inr (.inr 1)), some (.inl v), some (.inl ((t + 1 : Nat) : Int))] [] g2 → wf (D + 14) M_X6_whose Q 43 [some (.inr (.inr 1)), some (.inl v), some (.inl (t : Int))] [] g2 := fun v w => by
      refine B_X6_whose_43 ?_
      rw [w32e (by omega) (by omega)]
      exact w
    cases z : aso (rdX (tx t) (fB8 (h 295)) (h 295 6)) (h 295) 0 (h 295 3).toNat with
    | false =>
      rw [z, if_neg (by decide), Nat.or_zero] at ih
      exact ⟨fun _ => step _ ih, fun q => absurd rfl q⟩
    | true =>
      rw [z, if_pos rfl] at ih
      refine ⟨fun q => absurd q (by decide), fun _ => step _ ?_⟩
      rw [ishl1 (by omega), ior_n (by omega) (by omega)]
      exact ih
theorem c_X6_whose (I : INV h tx) (k : ∀ g, fX h g → Q (r_whose (h 295) tx) g) : cf (D + 14) M_X6_whose [.inr (.inr 1)] h Q :=
  cf_of pX6 (Nat.le_of_ble_eq_true rfl) rfl (fun _ => B_X6_whose_0 (l_X6_whose I k (h 295 0).toNat 0 h (by omega) fX_refl))
theorem l_X7_said {α : Int → Int} {t v : Int} (r : rdone h t tt size R) (o : okr tt R) (e295 : h 295 = α) (a3 : 0 ≤ α 3 ∧ α 3 ≤ 8) (sk : sok α) (k1 : aso R α 0 (α 3).toNat = true → wf (d + 1) M_X7_whose Q 107 [some (.inr (.inr 294)), none, some (.inl t), none, none] [.inl (am_ishl 1 t), .inl v] h) (k0 : aso R α 0 (α 3).toNat = false → wf (d + 1) M_X7_whose Q 107 [some (.inr (.inr 294)), none, some (.inl t), none, none] [.inl 0, .inl v] h) : ∀ (n i : Nat) (s : Bool), i + n = (α 3).toNat → aso R α 0 (α 3).toNat = (s && aso R α i n) → wf (d + 1) M_X7_whose Q 25 [some (.inr (.inr 294)), some (.inl v), some (.inl t), some (.inl (bi s)), some (.inl (48 + 2 * (i : Int)))] [] h
  | 0, i, s, hn, e => by
    simp only [aso, Bool.and_true] at e
    refine B_X7_whose_25 ?_
    rw [e295, w32e (z := 2 * α 3) (by omega) (by omega), w32e (z := 48 + 2 * α 3) (by omega) (by omega)]
    refine ⟨fun _ => ⟨fun q => k0 ?_, fun q => k1 ?_⟩, fun q => by omega⟩
    · cases s with
      | false => exact e
      | true => exact absurd q (by decide)
    · cases s with
      | true => exact e
      | false => exact absurd rfl q
  | n + 1, i, s, hn, e => by
    have ki := sk i (by omega) (by omega)
    simp only [aso] at e
    refine B_X7_whose_25 ?_
    rw [e295, w32e (z := 2 * α 3) (by omega) (by omega), w32e (z := 48 + 2 * α 3) (by omega) (by omega)]
    obtain ⟨f, hf⟩ : ∃ f : Nat, α (48 + 2 * (i : Int)) = (f : Int) := ⟨(α (48 + 2 * (i : Int))).toNat, by omega⟩
    have next : ∀ s2 : Bool, aso R α 0 (α 3).toNat = (s2 && aso R α (i + 1) n) → wf (d + 1) M_X7_whose Q 88 [some (.inr (.inr 294)), some (.inl v), some (.inl t), none, some (.inl (48 + 2 * (i : Int)))] [.inl (bi s2)] h := fun s2 e2 => by
      refine B_X7_whose_88 ?_
      rw [w32e (by omega) (by omega), show 48 + 2 * (i : Int) + 2 = 48 + 2 * ((i + 1 : Nat) : Int) by omega]
      exact l_X7_said r o e295 a3 sk k1 k0 n (i + 1) s2 (by omega) e2
    refine ⟨fun q => by omega, fun _ => ⟨fun q => B_X7_whose_87 (next false ?_), fun q => ⟨by omega, by omega, ?_⟩⟩⟩
    · cases s with
      | false => rw [e]; rfl
      | true => exact absurd q (by decide)
    · have s1 : s = true := by
        cases s with
        | true => rfl
        | false => exact absurd rfl q
      subst s1
      rw [Bool.true_and] at e
      rw [hf] at e ki ⊢
      have rf := (r.2.2.1.2.2 f (by omega)).2.1
      rw [show 8 * (0 : Int) + (f : Int) = f by omega] at rf
      refine c_X7_isHeld r (by omega) (fun u => ⟨fun y => by omega, fun _ => ?_⟩) (fun u => ⟨fun _ => B_X7_whose_87 (next false ?_), fun y => absurd rfl y⟩)
      · rw [e295, hf, rf, w32e (z := 48 + 2 * (i : Int) + 1) (by omega) (by omega)]
        refine ⟨by omega, by omega, by omega, by omega, fun y => B_X7_whose_87 (next false ?_), fun y => next true ?_⟩
        · have y2 : hkv R (f : Int) (α (48 + 2 * (i : Int) + 1)) = false := by
            unfold hkv
            rw [Int.toNat_natCast]
            simp [y]
          rw [e, y2]
        · have y2 : hkv R (f : Int) (α (48 + 2 * (i : Int) + 1)) = true := by
            unfold hkv
            rw [Int.toNat_natCast]
            simp [y, u]
          rw [e, y2]
      · have y2 : hkv R (f : Int) (α (48 + 2 * (i : Int) + 1)) = false := by
          unfold hkv
          rw [Int.toNat_natCast]
          have q3 : ¬ R f 3 = 0 := fun z => u (Or.inl z)
          have q4 : ¬ R f 3 = 2 := fun z => u (Or.inr z)
          simp [q3, q4]
        rw [e, y2]
theorem l_X7_whose (I : INV h tx) (k : ∀ g, fZ h g → Q (r_whose (h 295) tx) g) : ∀ (n t : Nat) (g : am_H), t + n = (h 295 0).toNat → fZ h g → wf (D + 8) M_X7_whose Q 4 [some (.inr (.inr 294)), some (.inl ((bset (fun t => aso (rdX (tx t) (fB8 (h 295)) (h 295 6)) (h 295) 0 (h 295 3).toNat) t : Nat) : Int)), some (.inl (t : Int)), none, none] [] g
  | 0, t, g, hn, fg => by
    have e295 : g 295 = h 295 := fg.1 295 (by omega)
    have a0 := I.2.1.1
    have kk := k g fg
    unfold r_whose at kk
    rw [← hn] at kk
    refine B_X7_whose_4 ?_
    rw [e295]
    exact ⟨fun _ => kk, fun q => by omega⟩
  | n + 1, t, g, hn, fg => by
    have Ig := INV_fZ I fg
    have e295 : g 295 = h 295 := fg.1 295 (by omega)
    have a0 := I.2.1.1
    have bl := bset_lt (p := fun t => aso (rdX (tx t) (fB8 (h 295)) (h 295 6)) (h 295) 0 (h 295 3).toNat) t
    have p8 : 2 ^ t < 16 := Nat.pow_lt_pow_right (n := 4) (by decide) (by omega)
    obtain ⟨z1, z2, z3, z4, z5⟩ := INV_t (t := (t : Int)) I (by omega) (by omega)
    rw [Int.toNat_natCast] at z3
    refine B_X7_whose_4 ?_
    rw [e295]
    refine ⟨fun q => by omega, fun _ => c_X7_read (D := D) (t := (t : Int)) Ig (by omega) (by rw [e295]; omega) (fun g2 f2 I2 r2 => ?_)⟩
    rw [e295, Int.toNat_natCast] at r2
    have fz := fZ_trans fg f2
    have ih := l_X7_whose I k n (t + 1) g2 (by omega) fz
    rw [bset_snoc] at ih
    refine l_X7_said (d := D + 7) (α := h 295) r2 (rdX_ok z3 (INV_b I) (INV_6 I)).1 (fz.1 295 (by omega)) I.2.1.2.2.2.1 I.2.2.2.2.2.2.2.2.1.2.1 (fun z => B_X7_whose_107 ?_) (fun z => B_X7_whose_107 ?_) (h 295 3).toNat 0 true (by omega) rfl
    · rw [z, if_pos rfl] at ih
      rw [w32e (z := (t : Int) + 1) (by omega) (by omega), ishl1 (by omega), ior_n (by omega) (by omega)]
      exact ih
    · rw [z, if_neg (by decide)] at ih
      rw [w32e (z := (t : Int) + 1) (by omega) (by omega), show (0 : Int) = ((0 : Nat) : Int) from rfl, ior_n (by omega) (by omega)]
      exact ih
theorem c_X7_whose (I : INV h tx) (k : ∀ g, fZ h g → Q (r_whose (h 295) tx) g) : cf (D + 8) M_X7_whose [.inr (.inr 294)] h Q :=
  cf_of pX7 (Nat.le_of_ble_eq_true rfl) rfl (fun _ => B_X7_whose_0 (l_X7_whose I k (h 295 0).toNat 0 h (by omega) fZ_refl))
end WHOSE
