section ASKS
variable {d D : Nat} {h : am_H} {Q : Int → am_H → Prop} {tx : Nat → List Cl} {t : List Cl} {β : Int → Int} {vo : Bool} {deep base size : Int} {ρ : Rd}
/-- the interval of what is known -/
def okI (size : Int) (ρ : Rd) : Prop := ∀ f, f < 8 → ρ f 3 = 0 ∨ ρ f 3 = 2 → 0 ≤ ρ f 1 ∧ ρ f 1 ≤ ρ f 2 ∧ ρ f 2 ≤ size
theorem okI_put {f c : Nat} {v : Int} (i : okI size ρ) (q : c = 4 ∨ 8 ≤ f) : okI size (putR ρ f c v) := by
  intro g hg
  rw [putR_ne (by omega), putR_ne (by omega), putR_ne (by omega)]
  exact i g hg
theorem okI_set {f l : Nat} {v a z w : Int} (i : okI size ρ) (q : 0 ≤ a ∧ a ≤ z ∧ z ≤ size) : okI size (setR ρ f v a z w l) := by
  intro g hg
  by_cases e : g = f
  · subst e
    rw [setR_at.2.1, setR_at.2.2.1]
    exact fun _ => q
  · rw [setR_ne e, setR_ne e, setR_ne e]
    exact i g hg
theorem okI_step {inn : Int → Int → Option Rd} {f : Nat} (i : okI size ρ) : okI size (stepF t β vo deep base size inn ρ f) := by
  unfold stepF
  split
  · exact i
  · have ho : ¬ kdf t f = 1 → fo t β deep base size ρ f = fa t β deep base size ρ f := fun q => by unfold fo; rw [if_neg q]
    unfold stepV
    split
    · rename_i w
      split
      · rename_i k0
        have := ho (by omega)
        split
        · exact okI_set i (by omega)
        · exact okI_put i (Or.inl rfl)
      · split
        · split
          · exact okI_set i (by omega)
          · exact okI_put i (Or.inl rfl)
        · rename_i k1
          have := ho k1
          split
          · split
            · exact okI_put (okI_set i (by omega)) (Or.inr (Nat.le_refl _))
            · exact okI_put i (Or.inl rfl)
          · exact okI_put i (Or.inl rfl)
    · exact okI_put i (Or.inl rfl)
theorem okI_flds {inn : Int → Int → Option Rd} {W : Nat} : ∀ (l : List Nat) (ρ : Rd), okI size ρ → okI size (flds t β vo deep base size inn W l ρ)
  | [], ρ, i => i
  | f :: l, ρ, i => by
    simp only [flds]
    refine okI_flds l _ ?_
    split
    · exact okI_step i
    · exact i
theorem rd0_I : okI size (rd0 t deep) := by
  intro f hf q
  have v := rd0_v (tx := t) (deep := deep) hf
  by_cases c : 0 ≤ co t f
  · have := (v.1 c).2.2.2
    omega
  · have := (v.2.1 (by omega)).2.2.2
    omega
theorem lvl_I {inn : Int → Int → Option Rd} {W : Nat} : okI size (lvl t β vo deep inn W base size) := by
  have i := okI_flds (t := t) (β := β) (vo := vo) (deep := deep) (base := base) (inn := inn) (W := W) (ord t) (rd0 t deep) (rd0_I (size := size))
  unfold lvl
  split
  · intro f hf
    rw [msts_row hf, msts_row hf, msts_row hf]
    exact i f hf
  · exact i
theorem rdX_I : okI size (rdX t β size) := by
  unfold rdX rdC
  exact lvl_I
/-- the places of what is known -/
def cov (R : Rd) (f : Nat) : Nat := if R f 3 = 0 ∨ R f 3 = 2 then spn (R f 1).toNat (R f 2).toNat else 0
theorem cov_lt {R : Rd} {f : Nat} (i : okI size R) (s : size ≤ 40) (hf : f < 8) : cov R f < 2 ^ 40 := by
  unfold cov
  split
  · rename_i q
    have := i f hf q
    exact Nat.lt_of_lt_of_le (spn_lt (by omega)) (Nat.pow_le_pow_right (by decide) (by omega))
  · decide
theorem c_X3_covered {A : Int} {f : Nat} (tA : am_kd 321 A = 13) (hf : f < 8) (c : crd h A t base size deep ρ) (o : okr t ρ) (i : okI size ρ) (s : size ≤ 40) (k : Q ((cov ρ f : Nat) : Int) h) : cf (d + 2) M_X3_covered [.inr (.inr A), .inl (f : Int)] h Q := by
  have cf4 := c.2.2.2.1 f hf
  have of := o.1 f hf
  unfold cov at k
  refine cf_of pX3 (Nat.le_of_ble_eq_true rfl) rfl (fun _ => B_X3_covered_0 tA (c_X6_isField (fun _ _ => ⟨fun q => by omega, fun _ => c_X3_isKnown tA hf c o (fun q q2 => ⟨fun y => by omega, fun _ => ⟨by omega, by omega, ?_⟩⟩) (fun q => ⟨fun _ => ?_, fun y => absurd rfl y⟩)⟩) (fun q => by omega)))
  · have q3 : ρ f 3 = 0 ∨ ρ f 3 = 2 := by omega
    rw [if_pos q3] at k
    have := i f hf q3
    rw [cf4.2.1, cf4.2.2.1]
    exact c_X6_spanI (by omega) (by omega) (by omega) k
  · rw [if_neg (by omega)] at k
    exact k
theorem c_X7_isHeld {t0 : Int} {R : Rd} {f : Nat} (r : rdone h t0 t size R) (hf : f < 8) (k1 : R f 3 = 0 ∨ R f 3 = 2 → Q 1 h) (k0 : ¬ (R f 3 = 0 ∨ R f 3 = 2) → Q 0 h) : cf d M_X7_isHeld [.inr (.inr 294), .inl (f : Int)] h Q := by
  have rf := (r.2.2.1.2.2 f hf).1
  rw [show 8 * (0 : Int) + (f : Int) = f by omega] at rf
  refine cf_of pX7 (Nat.le_of_ble_eq_true rfl) rfl (fun _ => B_X7_isHeld_0 ?_)
  rw [rf]
  exact ⟨by omega, by omega, fun q => B_X7_isHeld_19 (k1 (Or.inl q)), fun q => ⟨fun q2 => k0 (by omega), fun q2 => B_X7_isHeld_19 (k1 (Or.inr q2))⟩⟩
theorem rdone_ft {t0 : Int} {R : Rd} {f : Nat} (r : rdone h t0 t size R) (o : okr t R) (hf : f < 8) (q : R f 3 = 0 ∨ R f 3 = 2) : h 313 f = R f 1 ∧ h 314 f = R f 2 := by
  have rf := (r.2.2.1.2.2 f hf).2.2.2
  rw [show 8 * (0 : Int) + (f : Int) = f by omega] at rf
  have := (o.1 f hf).2.1
  exact rf (by omega)
/-! overlap -/
def ovl (R : Rd) (f : Nat) : Nat := bset (fun g => !decide (g = f) && !decide (cov R g &&& cov R f = 0)) 8
theorem bset_snoc {p : Nat → Bool} {n : Nat} : bset p (n + 1) = bset p n ||| (if p n = true then 2 ^ n else 0) := rfl
theorem l_X6_overlap {A : Int} {f : Nat} (tA : am_kd 321 A = 13) (hf : f < 8) (c : crd h A t base size deep ρ) (o : okr t ρ) (i : okI size ρ) (s : size ≤ 40) (k : Q ((ovl ρ f : Nat) : Int) h) : ∀ (n m : Nat), m + n = 8 → wf (d + 3) M_X6_overlap Q 64 [none, none, some (.inl (f : Int)), none, some (.inr (.inr A)), some (.inr (.inl ((cov ρ f : Nat) : Int))), none, some (.inl ((bset (fun g => !decide (g = f) && !decide (cov ρ g &&& cov ρ f = 0)) m : Nat) : Int)), some (.inl (m : Int))] [] h
  | 0, m, hm => by
    have : m = 8 := by omega
    subst this
    exact B_X6_overlap_64 ⟨fun _ => k, fun q => by omega⟩
  | n + 1, m, hm => by
    have m8 : m < 8 := by omega
    have ih := l_X6_overlap tA hf c o i s k n (m + 1) (by omega)
    rw [bset_snoc] at ih
    have bl := bset_lt (p := fun g => !decide (g = f) && !decide (cov ρ g &&& cov ρ f = 0)) m
    have p8 : 2 ^ m < 256 := Nat.pow_lt_pow_right (n := 8) (by decide) m8
    have bl8 : bset (fun g => !decide (g = f) && !decide (cov ρ g &&& cov ρ f = 0)) m < 256 := Nat.lt_trans bl p8
    have skip : (!decide (m = f) && !decide (cov ρ m &&& cov ρ f = 0)) = false → wf (d + 3) M_X6_overlap Q 101 [none, none, some (.inl (f : Int)), none, some (.inr (.inr A)), some (.inr (.inl ((cov ρ f : Nat) : Int))), none, some (.inl ((bset (fun g => !decide (g = f) && !decide (cov ρ g &&& cov ρ f = 0)) m : Nat) : Int)), some (.inl (m : Int))] [] h := by
      intro q
      rw [q, if_neg (by decide), Nat.or_zero] at ih
      refine B_X6_overlap_101 ?_
      rw [w32e (by omega) (by omega)]
      exact ih
    have c1 := cov_lt (f := m) i s m8
    have c2 := cov_lt (f := f) i s hf
    refine B_X6_overlap_64 ⟨fun q => by omega, fun _ => ⟨fun q => skip ?_, fun q => ⟨tA, c_X3_covered (d := d) tA m8 c o i s ?_⟩⟩⟩
    · have : m = f := by omega
      simp [this]
    · rw [land_n (by omega)]
      refine ⟨fun q2 => skip ?_, fun q2 => B_X6_overlap_101 ?_⟩
      · have := lcmp_z q2
        have z : cov ρ m &&& cov ρ f = 0 := by omega
        simp [z]
      · have := lcmp_nz q2
        have z : ¬ cov ρ m &&& cov ρ f = 0 := by omega
        have mf : ¬ m = f := by omega
        have e : (!decide (m = f) && !decide (cov ρ m &&& cov ρ f = 0)) = true := by simp [z, mf]
        rw [e, if_pos rfl] at ih
        rw [ishl1 (by omega), ior_n (by omega) (by omega), w32e (by omega) (by omega)]
        exact ih
def r_overlap (α : Int → Int) (tx : Nat → List Cl) (t f : Int) : Int := if (isT α t ∧ (0 ≤ f ∧ f ≤ 7)) ∧ (rdX (tx t.toNat) (fB8 α) (α 6) f.toNat 3 = 0 ∨ rdX (tx t.toNat) (fB8 α) (α 6) f.toNat 3 = 2) then ((ovl (rdX (tx t.toNat) (fB8 α) (α 6)) f.toNat : Nat) : Int) else -1
theorem c_X6_overlap {t f : Int} (I : INV h tx) (k : ∀ g, fX h g → Q (r_overlap (h 295) tx t f) g) : cf (D + 13) M_X6_overlap [.inr (.inr 1), .inl t, .inl f] h Q := by
  unfold r_overlap at k
  refine cf_of pX6 (Nat.le_of_ble_eq_true rfl) rfl (fun _ => B_X6_overlap_0 (c6_textAt I (fun q => ⟨by have := q.1; omega, fun c => by have := q.1; omega, fun _ => c_X6_isField (fun a b => ⟨fun _ => ?_, fun c => by omega⟩) (fun a => ⟨fun c => absurd rfl c, fun _ => ?_⟩)⟩) (fun q => ⟨by omega, fun _ => ?_, fun c => by omega⟩)))
  · obtain ⟨z1, z2, z3, z4, z5⟩ := INV_t I q.1 q.2
    have s6 := INV_6 I
    obtain ⟨f0, hf0⟩ : ∃ f0 : Nat, f = (f0 : Int) := ⟨f.toNat, by omega⟩
    subst hf0
    rw [Int.toNat_natCast] at k
    have f8 : f0 < 8 := by omega
    refine c_rdF (D := D) (W := 255) I q.1 q.2 (by decide) (fun h2 f2 I2 c2 o2 e8 e7 => ⟨k_220, ?_⟩)
    have kk := k h2 (fX_fW f2)
    have iv : okI (h 295 6) (rdC (tx t.toNat) (fB8 (h 295)) false 255 0 (h 295 6)) := rdX_I
    refine c_X3_isKnown (d := D + 11) k_220 f8 c2 o2 (fun u1 u2 => ⟨fun _ => ?_, fun c => by omega⟩) (fun u => ⟨fun c => absurd rfl c, fun _ => ?_⟩)
    · have of := o2.1 f0 f8
      have u3 : rdX (tx t.toNat) (fB8 (h 295)) (h 295 6) f0 3 = 0 ∨ rdX (tx t.toNat) (fB8 (h 295)) (h 295 6) f0 3 = 2 := by
        have := of.1
        have := of.2.1
        rw [show rdX (tx t.toNat) (fB8 (h 295)) (h 295 6) = rdC (tx t.toNat) (fB8 (h 295)) false 255 0 (h 295 6) from rfl]
        omega
      rw [if_pos ⟨⟨q, a, b⟩, u3⟩] at kk
      exact c_X3_covered (d := D + 10) k_220 f8 c2 o2 iv s6.2 (l_X6_overlap (d := D + 10) k_220 f8 c2 o2 iv s6.2 kk 8 0 (by omega))
    · have of := o2.1 f0 f8
      have u3 : ¬ (rdX (tx t.toNat) (fB8 (h 295)) (h 295 6) f0 3 = 0 ∨ rdX (tx t.toNat) (fB8 (h 295)) (h 295 6) f0 3 = 2) := by
        have := of.1
        have := of.2.1
        show ¬ (rdC (tx t.toNat) (fB8 (h 295)) false 255 0 (h 295 6) f0 3 = 0 ∨ rdC (tx t.toNat) (fB8 (h 295)) false 255 0 (h 295 6) f0 3 = 2)
        omega
      rw [if_neg (fun y => u3 y.2)] at kk
      exact kk
  · have kk := k h fX_refl
    rw [if_neg (fun y => by omega)] at kk; exact kk
  · have kk := k h fX_refl
    rw [if_neg (fun y => q y.1.1)] at kk; exact kk
theorem l_X7_overlap {t0 : Int} {R : Rd} {f : Nat} (r : rdone h t0 t size R) (o : okr t R) (i : okI size R) (s : size ≤ 40) (hf : f < 8) (u : R f 3 = 0 ∨ R f 3 = 2) (k : Q ((ovl R f : Nat) : Int) h) : ∀ (n m : Nat), m + n = 8 → wf (d + 2) M_X7_overlap Q 37 [some (.inr (.inr 294)), none, some (.inl (f : Int)), some (.inl ((bset (fun g => !decide (g = f) && !decide (cov R g &&& cov R f = 0)) m : Nat) : Int)), some (.inl (m : Int))] [] h
  | 0, m, hm => by
    have : m = 8 := by omega
    subst this
    exact B_X7_overlap_37 ⟨fun _ => k, fun q => by omega⟩
  | n + 1, m, hm => by
    have m8 : m < 8 := by omega
    have ih := l_X7_overlap r o i s hf u k n (m + 1) (by omega)
    rw [bset_snoc] at ih
    have bl := bset_lt (p := fun g => !decide (g = f) && !decide (cov R g &&& cov R f = 0)) m
    have p8 : 2 ^ m < 256 := Nat.pow_lt_pow_right (n := 8) (by decide) m8
    have bl8 : bset (fun g => !decide (g = f) && !decide (cov R g &&& cov R f = 0)) m < 256 := Nat.lt_trans bl p8
    have skip : (!decide (m = f) && !decide (cov R m &&& cov R f = 0)) = false → wf (d + 2) M_X7_overlap Q 104 [some (.inr (.inr 294)), none, some (.inl (f : Int)), some (.inl ((bset (fun g => !decide (g = f) && !decide (cov R g &&& cov R f = 0)) m : Nat) : Int)), some (.inl (m : Int))] [] h := by
      intro q
      rw [q, if_neg (by decide), Nat.or_zero] at ih
      refine B_X7_overlap_104 ?_
      rw [w32e (by omega) (by omega)]
      exact ih
    have c1 := cov_lt (f := m) i s m8
    have c2 := cov_lt (f := f) i s hf
    refine B_X7_overlap_37 ⟨fun q => by omega, fun _ => ⟨fun q => skip ?_, fun q => c_X7_isHeld r m8 (fun u2 => ⟨fun c => by omega, fun _ => ⟨by omega, by omega, ?_⟩⟩) (fun u2 => ⟨fun _ => skip ?_, fun c => absurd rfl c⟩)⟩⟩
    · have : m = f := by omega
      simp [this]
    · have fm := rdone_ft r o m8 u2
      have ff := rdone_ft r o hf u
      have im := i m m8 u2
      have i_f := i f hf u
      rw [fm.1, fm.2]
      refine c_X7_bitsFrom (by omega) (by omega) (by omega) ⟨by omega, by omega, ?_⟩
      rw [ff.1, ff.2]
      refine c_X7_bitsFrom (by omega) (by omega) (by omega) ?_
      have e1 : spn (R m 1).toNat (R m 2).toNat = cov R m := by unfold cov; rw [if_pos u2]
      have e2 : spn (R f 1).toNat (R f 2).toNat = cov R f := by unfold cov; rw [if_pos u]
      rw [e1, e2, land_n (by omega)]
      refine ⟨fun q2 => skip ?_, fun q2 => B_X7_overlap_104 ?_⟩
      · have := lcmp_z q2
        have z : cov R m &&& cov R f = 0 := by omega
        simp [z]
      · have := lcmp_nz q2
        have z : ¬ cov R m &&& cov R f = 0 := by omega
        have mf : ¬ m = f := by omega
        have e : (!decide (m = f) && !decide (cov R m &&& cov R f = 0)) = true := by simp [z, mf]
        rw [e, if_pos rfl] at ih
        rw [ishl1 (by omega), ior_n (by omega) (by omega), w32e (by omega) (by omega)]
        exact ih
    · have z : cov R m = 0 := by unfold cov; rw [if_neg u2]
      simp [z]
theorem c_X7_overlap {t f : Int} (I : INV h tx) (k : ∀ g, fZ h g → Q (r_overlap (h 295) tx t f) g) : cf (D + 8) M_X7_overlap [.inr (.inr 294), .inl t, .inl f] h Q := by
  unfold r_overlap at k
  refine cf_of pX7 (Nat.le_of_ble_eq_true rfl) rfl (fun _ => B_X7_overlap_0 (c7_isText I (fun q => ⟨fun c => by omega, fun _ => c_X7_isField (fun a b => ⟨fun _ => ?_, fun c => by omega⟩) (fun a => ⟨fun c => absurd rfl c, fun _ => ?_⟩)⟩) (fun q => ⟨fun _ => ?_, fun c => absurd rfl c⟩)))
  · obtain ⟨z1, z2, z3, z4, z5⟩ := INV_t I q.1 q.2
    have s6 := INV_6 I
    obtain ⟨f0, hf0⟩ : ∃ f0 : Nat, f = (f0 : Int) := ⟨f.toNat, by omega⟩
    subst hf0
    rw [Int.toNat_natCast] at k
    have f8 : f0 < 8 := by omega
    refine c_X7_read (D := D) I q.1 q.2 (fun g f2 I2 r2 => ?_)
    have kk := k g f2
    have o := (rdX_ok z3 (INV_b I) s6).1
    refine c_X7_isHeld r2 f8 (fun u => ⟨fun _ => ?_, fun c => by omega⟩) (fun u => ⟨fun c => absurd rfl c, fun _ => ?_⟩)
    · rw [if_pos ⟨⟨q, a, b⟩, u⟩] at kk
      exact l_X7_overlap (d := D + 6) r2 o rdX_I s6.2 f8 u kk 8 0 (by omega)
    · rw [if_neg (fun y => u y.2)] at kk
      exact kk
  · have kk := k h fZ_refl
    rw [if_neg (fun y => by omega)] at kk; exact kk
  · have kk := k h fZ_refl
    rw [if_neg (fun y => q y.1.1)] at kk; exact kk
end ASKS
