section ASKL
variable {d D : Nat} {h : am_H} {Q : Int → am_H → Prop} {tx : Nat → List Cl} {t : List Cl} {β : Int → Int} {deep base size : Int} {ρ : Rd}
/-! loose -/
def looseB (R : Rd) (size : Int) (m : Nat) (i : Nat) : Bool := decide ((i : Int) < size) && !(orN (cov R) m).testBit i
def r_loose (α : Int → Int) (tx : Nat → List Cl) (t : Int) : Int := if isT α t then ((bset (looseB (rdX (tx t.toNat) (fB8 α) (α 6)) (α 6) 8) 40 : Nat) : Int) else -1
theorem cov8_lt {R : Rd} (i : okI size R) (s : size ≤ 40) : ∀ m, m ≤ 8 → orN (cov R) m < 2 ^ 40 := fun m hm => orN_lt m (fun j hj => cov_lt i s (by omega))
theorem loose_end {R : Rd} (i : okI size R) (s0 : 0 ≤ size) (s : size ≤ 40) {m : Nat} (hm : m ≤ 8) : spn 0 size.toNat &&& (orN (cov R) m ^^^ 18446744073709551615) = bset (looseB R size m) 40 := by
  have s1 : spn 0 size.toNat < 2 ^ 40 := Nat.lt_of_lt_of_le (spn_lt (by omega)) (Nat.pow_le_pow_right (by decide) (by omega))
  refine bits_ext (n := 40) (Nat.lt_of_le_of_lt Nat.and_le_left s1) (bset_lt 40) (fun j hj => ?_)
  rw [landn_bit (by omega), bset_bit, spn_bit (by omega)]
  unfold looseB
  have : decide (0 ≤ j ∧ j < size.toNat) = decide ((j : Int) < size) := by
    by_cases q : (j : Int) < size
    · simp [q] <;> omega
    · simp [q] <;> omega
  rw [this]
  simp [hj]
theorem loose_step {R : Rd} {m : Nat} : bset (looseB R size m) 40 &&& (cov R m ^^^ 18446744073709551615) = bset (looseB R size (m + 1)) 40 := by
  have b := bset_lt (p := looseB R size m) 40
  refine bits_ext (n := 40) (Nat.lt_of_le_of_lt Nat.and_le_left b) (bset_lt 40) (fun j hj => ?_)
  rw [landn_bit (by omega), bset_bit, bset_bit]
  unfold looseB
  simp only [orN, Nat.testBit_or]
  cases decide ((j : Int) < size) <;> cases (orN (cov R) m).testBit j <;> cases (cov R m).testBit j <;> simp [hj]
theorem loose_0 {R : Rd} (s0 : 0 ≤ size) (s : size ≤ 40) : bset (looseB R size 0) 40 = spn 0 size.toNat := by
  have s1 : spn 0 size.toNat < 2 ^ 40 := Nat.lt_of_lt_of_le (spn_lt (by omega)) (Nat.pow_le_pow_right (by decide) (by omega))
  refine bits_ext (n := 40) (bset_lt 40) s1 (fun j hj => ?_)
  rw [bset_bit, spn_bit (by omega)]
  unfold looseB
  have : decide (0 ≤ j ∧ j < size.toNat) = decide ((j : Int) < size) := by
    by_cases q : (j : Int) < size
    · simp [q] <;> omega
    · simp [q] <;> omega
  rw [this]
  simp [hj, orN]
theorem l_X6_loose {A : Int} (tA : am_kd 321 A = 13) (c : crd h A t base size deep ρ) (o : okr t ρ) (i : okI size ρ) (s0 : 0 ≤ size) (s : size ≤ 40) (e5 : h 5 3 = size) (k : Q ((bset (looseB ρ size 8) 40 : Nat) : Int) h) : ∀ (n m : Nat), m + n = 8 → wf (d + 3) M_X6_loose Q 39 [some (.inr (.inr 1)), none, none, some (.inr (.inr A)), some (.inr (.inl ((orN (cov ρ) m : Nat) : Int))), none, some (.inl (m : Int))] [] h
  | 0, m, hm => by
    have : m = 8 := by omega
    subst this
    have c8 := cov8_lt i s 8 (Nat.le_refl _)
    refine B_X6_loose_39 ⟨fun _ => ?_, fun q => by omega⟩
    rw [e5]
    refine c_X6_spanI (by omega) s0 s ?_
    have s1 : spn 0 size.toNat < 2 ^ 40 := Nat.lt_of_lt_of_le (spn_lt (by omega)) (Nat.pow_le_pow_right (by decide) (by omega))
    rw [show (0 : Int).toNat = 0 from rfl, landn_n (by omega), loose_end i s0 s (Nat.le_refl _)]
    exact k
  | n + 1, m, hm => by
    have m8 : m < 8 := by omega
    have ih := l_X6_loose tA c o i s0 s e5 k n (m + 1) (by omega)
    simp only [orN] at ih
    have c8 := cov8_lt i s m (by omega)
    have c1 := cov_lt (f := m) i s m8
    refine B_X6_loose_39 ⟨fun q => by omega, fun _ => ⟨tA, c_X3_covered (d := d) tA m8 c o i s ?_⟩⟩
    rw [lor_n (by omega) (by omega), w32e (by omega) (by omega)]
    exact ih
theorem c_X6_loose {t : Int} (I : INV h tx) (k : ∀ g, fX h g → Q (r_loose (h 295) tx t) g) : cf (D + 13) M_X6_loose [.inr (.inr 1), .inl t] h Q := by
  unfold r_loose at k
  refine cf_of pX6 (Nat.le_of_ble_eq_true rfl) rfl (fun _ => B_X6_loose_0 (c6_textAt I (fun q => ⟨by have := q.1; omega, fun _ => ?_, fun c => by have := q.1; omega⟩) (fun q => ⟨by omega, fun c => by omega, fun _ => ?_⟩)))
  · have s6 := INV_6 I
    refine c_rdF (D := D) (W := 255) I q.1 q.2 (by decide) (fun h2 f2 I2 c2 o2 e8 e7 => ?_)
    have kk := k h2 (fX_fW f2)
    rw [if_pos q] at kk
    have iv : okI (h 295 6) (rdC (tx t.toNat) (fB8 (h 295)) false 255 0 (h 295 6)) := rdX_I
    exact l_X6_loose (d := D + 10) k_220 c2 o2 iv s6.1 s6.2 (by rw [f2.1 5 (by omega)]; exact s_6 I.1) kk 8 0 (by omega)
  · have kk := k h fX_refl
    rw [if_neg q] at kk; exact kk
theorem l_X7_loose {t0 : Int} {R : Rd} (r : rdone h t0 t size R) (o : okr t R) (i : okI size R) (s : size ≤ 40) (k : Q ((bset (looseB R size 8) 40 : Nat) : Int) h) : ∀ (n m : Nat), m + n = 8 → wf (d + 1) M_X7_loose Q 32 [some (.inr (.inr 294)), none, some (.inr (.inl ((bset (looseB R size m) 40 : Nat) : Int))), none, some (.inl (m : Int))] [] h
  | 0, m, hm => by
    have : m = 8 := by omega
    subst this
    exact B_X7_loose_32 ⟨fun _ => k, fun q => by omega⟩
  | n + 1, m, hm => by
    have m8 : m < 8 := by omega
    have ih := l_X7_loose r o i s k n (m + 1) (by omega)
    have bl := bset_lt (p := looseB R size m) 40
    refine B_X7_loose_32 ⟨fun q => by omega, fun _ => c_X7_isHeld r m8 (fun u => ⟨fun c => by omega, fun _ => ⟨by omega, by omega, ?_⟩⟩) (fun u => ⟨fun _ => B_X7_loose_72 ?_, fun c => absurd rfl c⟩)⟩
    · have fm := rdone_ft r o m8 u
      have im := i m m8 u
      rw [fm.1, fm.2]
      refine c_X7_bitsFrom (by omega) (by omega) (by omega) (B_X7_loose_72 ?_)
      have e1 : spn (R m 1).toNat (R m 2).toNat = cov R m := by unfold cov; rw [if_pos u]
      rw [e1, landn_n (by omega), loose_step, w32e (by omega) (by omega)]
      exact ih
    · have z : cov R m = 0 := by unfold cov; rw [if_neg u]
      have e : bset (looseB R size (m + 1)) 40 = bset (looseB R size m) 40 := by
        refine bits_ext (n := 40) (bset_lt 40) (bset_lt 40) (fun j hj => ?_)
        rw [bset_bit, bset_bit]
        unfold looseB
        simp only [orN]
        rw [z, Nat.or_zero]
      rw [e] at ih
      rw [w32e (by omega) (by omega)]
      exact ih
theorem c_X7_loose {t : Int} (I : INV h tx) (k : ∀ g, fZ h g → Q (r_loose (h 295) tx t) g) : cf (D + 8) M_X7_loose [.inr (.inr 294), .inl t] h Q := by
  unfold r_loose at k
  refine cf_of pX7 (Nat.le_of_ble_eq_true rfl) rfl (fun _ => B_X7_loose_0 (c7_isText I (fun q => ⟨fun _ => ?_, fun c => by omega⟩) (fun q => ⟨fun c => absurd rfl c, fun _ => ?_⟩)))
  · obtain ⟨z1, z2, z3, z4, z5⟩ := INV_t I q.1 q.2
    have s6 := INV_6 I
    refine c_X7_read (D := D) I q.1 q.2 (fun g f2 I2 r2 => ?_)
    have kk := k g f2
    rw [if_pos q] at kk
    rw [f2.1 295 (by omega)]
    refine c_X7_bitsFrom (by omega) s6.1 s6.2 ?_
    have z := l_X7_loose (d := D + 7) r2 (rdX_ok z3 (INV_b I) s6).1 rdX_I s6.2 kk 8 0 (by omega)
    rw [loose_0 s6.1 s6.2] at z
    exact z
  · have kk := k h fZ_refl
    rw [if_neg q] at kk; exact kk
/-! needs -/
def r_needs (α : Int → Int) (tx : Nat → List Cl) (t f : Int) : Int := if (isT α t ∧ (0 ≤ f ∧ f ≤ 7)) ∧ 0 ≤ co (tx t.toNat) f then ((lkS (rdX (tx t.toNat) (fB8 α) (α 6)) (needF (tx t.toNat) f.toNat) : Nat) : Int) else -1
theorem lkS_congr {ρ2 : Rd} {s : Nat} (h : ∀ f, f < 8 → s.testBit f = true → ρ f 4 = ρ2 f 4) : lkS ρ s = lkS ρ2 s := by
  refine orN_congr 8 (fun f hf => ?_)
  by_cases q : s.testBit f = true
  · rw [if_pos q, if_pos q, h f hf q]
  · rw [if_neg q, if_neg q]
theorem c_X5_tells {T : Int} {f : Nat} (tT : am_kd 321 T = 15) (c : ctx h T t) (hf : f < 8) (k1 : 0 ≤ co t f → Q 1 h) (k0 : co t f < 0 → Q 0 h) : cf (d + 1) M_X5_tells [.inr (.inr T), .inl (f : Int)] h Q := by
  have tl := told_lt (tx := t)
  refine cf_of pX5 (Nat.le_of_ble_eq_true rfl) rfl (fun _ => B_X5_tells_0 tT ?_)
  rw [c.1.2.1]
  exact c_X6_hasBit (by omega) (by omega) (fun q => ⟨Or.inr rfl, k1 ((told_bit2 hf).1 q)⟩) (fun q => ⟨Or.inl rfl, k0 ((told_bit2 hf).2 q)⟩)
theorem c_X6_needs {t f : Int} (I : INV h tx) (k : ∀ g, fX h g → Q (r_needs (h 295) tx t f) g) : cf (D + 13) M_X6_needs [.inr (.inr 1), .inl t, .inl f] h Q := by
  unfold r_needs at k
  refine cf_of pX6 (Nat.le_of_ble_eq_true rfl) rfl (fun _ => B_X6_needs_0 (c6_textAt I (fun q => ⟨by have := q.1; omega, fun c => by have := q.1; omega, fun _ => c_X6_isField (fun a b => ⟨fun c => by omega, fun _ => ?_⟩) (fun a => ⟨fun _ => ?_, fun c => absurd rfl c⟩)⟩) (fun q => ⟨by omega, fun _ => ?_, fun c => by omega⟩)))
  · obtain ⟨z1, z2, z3, z4, z5⟩ := INV_t I q.1 q.2
    obtain ⟨f0, hf0⟩ : ∃ f0 : Nat, f = (f0 : Int) := ⟨f.toNat, by omega⟩
    subst hf0
    rw [Int.toNat_natCast] at k
    have f8 : f0 < 8 := by omega
    refine ⟨z5, c_X5_tells (d := D + 11) z5 z1 f8 (fun u => ⟨fun _ => ⟨a, by omega, ?_⟩, fun c => by omega⟩) (fun u => ⟨fun c => absurd rfl c, fun _ => ?_⟩)⟩
    · have e12 := (z1.2.2.2.1 f0 f8).2.2.1
      rw [e12]
      refine c_rdF (D := D) I q.1 q.2 needF_lt (fun h2 f2 I2 c2 o2 e8 e7 => ⟨k_220, ?_⟩)
      have kk := k h2 (fX_fW f2)
      rw [if_pos ⟨⟨q, a, b⟩, u⟩] at kk
      rw [f2.1 _ (by have := q.1; omega), e12]
      refine c_X3_looksOf (d := D + 11) k_220 needF_lt c2 o2 ?_
      rw [lkS_congr (ρ2 := rdX (tx t.toNat) (fB8 (h 295)) (h 295 6)) (fun g hg qg => rdC_part z3 (need_cl f0) hg (Or.inl qg) 4)]
      exact kk
    · have kk := k h fX_refl
      rw [if_neg (fun y => by omega)] at kk; exact kk
  · have kk := k h fX_refl
    rw [if_neg (fun y => by omega)] at kk; exact kk
  · have kk := k h fX_refl
    rw [if_neg (fun y => q y.1.1)] at kk; exact kk
/-- whether a set holds all of another one -/
def sub8 (a b : Nat) : Prop := ∀ x, a.testBit x = true → b.testBit x = true
theorem sub8_le {a b : Nat} (h : sub8 a b) : a ≤ b := by
  have e : b = b ||| a := by
    apply Nat.eq_of_testBit_eq
    intro i
    rw [Nat.testBit_or]
    cases q : a.testBit i with
    | false => simp
    | true => rw [h i q]; rfl
  rw [e]
  exact Nat.right_le_or
theorem sub8_or {a b c : Nat} (h : sub8 a c) (h2 : sub8 b c) : sub8 (a ||| b) c := fun x q => by
  rw [Nat.testBit_or] at q
  rcases Bool.or_eq_true_iff.mp q with q | q
  · exact h x q
  · exact h2 x q
theorem l_allOf (y : rlay h t) (ok : okx t) {f : Nat} (hf : f ∈ ord t) (k : Q ((needF t f : Nat) : Int) h) : ∀ (fuel s had : Nat), 256 - s ≤ fuel → s < 256 → s.testBit f = true → sub8 s (needF t f) → (had = s → ∀ g, g < 8 → s.testBit g = true → sub8 (hgu t g &&& told t) s) → wf (d + 1) M_X7_allOf Q 6 [some (.inr (.inr 294)), none, some (.inl (s : Int)), some (.inl (had : Int)), none] [] h := by
  intro fuel
  induction fuel with
  | zero => intro s had h1 h2 _ _ _; omega
  | succ fuel ihf =>
    intro s had h1 h2 sf ss hh
    have om := ord_mem hf
    have no := need_ok (tx := t)
    refine B_X7_allOf_6 ⟨fun q => ?_, fun q => ?_⟩
    · have hs : had = s := by omega
      have cl := hh hs
      have e : s = needF t f := by
        refine bits_ext (n := 8) h2 needF_lt (fun x hx => ?_)
        cases a : s.testBit x with
        | true => exact (ss x a).symm
        | false =>
          cases b : (needF t f).testBit x with
          | false => rfl
          | true =>
            have := no.2.2.2 f (fun z => s.testBit z = true) sf (fun u g su hg qg mg => by
              by_cases u8 : u < 8
              · refine cl u u8 su g ?_
                rw [Nat.testBit_and, qg, told_bit hg]
                simp [(ord_mem mg).2]
              · have : s.testBit u = false := Nat.testBit_lt_two_pow (Nat.lt_of_lt_of_le h2 (Nat.pow_le_pow_right (n := 2) (i := 8) (by decide) (by omega)))
                rw [this] at su; cases su) x b
            rw [a] at this; cases this
      rw [e]; exact k
    · have hs : had ≠ s := by omega
      have inner : ∀ (n i c : Nat), i + n = 8 → c < 256 → sub8 s c → sub8 c (needF t f) → (c = s → ∀ g, g < i → s.testBit g = true → sub8 (hgu t g &&& told t) s) → wf (d + 1) M_X7_allOf Q 16 [some (.inr (.inr 294)), none, some (.inl (c : Int)), some (.inl (s : Int)), some (.inl (i : Int))] [] h := by
        intro n
        induction n with
        | zero =>
          intro i c hi hc sc cn hcl
          refine B_X7_allOf_16 ⟨fun _ => ?_, fun q => by omega⟩
          by_cases e : c = s
          · subst e
            refine B_X7_allOf_6 ⟨fun _ => ?_, fun q => absurd rfl q⟩
            have z := hcl rfl
            have e2 : c = needF t f := by
              refine bits_ext (n := 8) h2 needF_lt (fun x hx => ?_)
              cases a : c.testBit x with
              | true => exact (ss x a).symm
              | false =>
                cases b : (needF t f).testBit x with
                | false => rfl
                | true =>
                  have := no.2.2.2 f (fun w => c.testBit w = true) sf (fun u g su hg qg mg => by
                    by_cases u8 : u < 8
                    · refine z u (by omega) su g ?_
                      rw [Nat.testBit_and, qg, told_bit hg]
                      simp [(ord_mem mg).2]
                    · have : c.testBit u = false := Nat.testBit_lt_two_pow (Nat.lt_of_lt_of_le h2 (Nat.pow_le_pow_right (n := 2) (i := 8) (by decide) (by omega)))
                      rw [this] at su; cases su) x b
                  rw [a] at this; cases this
            rw [e2]; exact k
          · have := sub8_le sc
            exact ihf c s (by omega) hc (sc f sf) cn (fun z => absurd z.symm e)
        | succ n ihn =>
          intro i c hi hc sc cn hcl
          have i8 : i < 8 := by omega
          have hl := hgu_lt (f := i) ok
          have tl := told_lt (tx := t)
          have al : hgu t i &&& told t < 256 := Nat.lt_of_le_of_lt Nat.and_le_left hl
          refine B_X7_allOf_16 ⟨fun q => by omega, fun _ => c_X7_has (by omega) (by omega) (fun q => ⟨fun z => by omega, fun _ => ⟨by omega, B_X7_allOf_42 ?_⟩⟩) (fun q => ⟨fun _ => B_X7_allOf_42 ?_, fun z => absurd rfl z⟩)⟩
          · rw [(y.1 i i8).2, ior_n (by omega) (by omega), w32e (by omega) (by omega), show (i : Int) + 1 = ((i + 1 : Nat) : Int) by omega]
            have xi := no.2.2.1 f i (cn i q)
            have sn : sub8 (hgu t i &&& told t) (needF t f) := fun x qx => by
              rw [Nat.testBit_and, Bool.and_eq_true] at qx
              have x8 : x < 8 := by
                by_cases z : x < 8
                · exact z
                · have : (told t).testBit x = false := Nat.testBit_lt_two_pow (Nat.lt_of_lt_of_le tl (Nat.pow_le_pow_right (n := 2) (i := 8) (by decide) (by omega)))
                  rw [this] at qx; cases qx.2
              have tc := (told_bit2 x8).1 qx.2
              obtain ⟨l1, l2, el⟩ := List.append_of_mem xi.1
              have mx : x ∈ ord t := by
                rw [el]
                exact List.mem_append_left _ (ord_hang el x8 qx.1 tc)
              exact xi.2 x x8 qx.1 mx
            refine ihn (i + 1) (c ||| (hgu t i &&& told t)) (by omega) (Nat.or_lt_two_pow (n := 8) hc al) (fun x qx => bit_or_l (sc x qx)) (sub8_or cn sn) (fun e g hg qg => ?_)
            have cs : c = s := by
              apply Nat.eq_of_testBit_eq
              intro x
              cases a : s.testBit x with
              | true => exact sc x a
              | false =>
                cases b : c.testBit x with
                | false => rfl
                | true =>
                  have := bit_or_l (b := hgu t i &&& told t) b
                  rw [e, a] at this; cases this
            by_cases gi : g = i
            · subst gi
              intro x qx
              have := bit_or_r (a := c) qx
              rw [e] at this; exact this
            · exact hcl cs g (by omega) qg
          · rw [w32e (by omega) (by omega), show (i : Int) + 1 = ((i + 1 : Nat) : Int) by omega]
            refine ihn (i + 1) c (by omega) hc sc cn (fun e g hg qg => ?_)
            by_cases gi : g = i
            · subst gi
              rw [← e, q] at qg; cases qg
            · exact hcl e g (by omega) qg
      exact inner 8 0 s (by omega) h2 (fun _ q => q) ss (fun _ g hg => by omega)
theorem c_X7_allOf {f : Nat} (y : rlay h t) (ok : okx t) (hf : f ∈ ord t) (k : Q ((needF t f : Nat) : Int) h) : cf (d + 1) M_X7_allOf [.inr (.inr 294), .inl (f : Int)] h Q := by
  have om := ord_mem hf
  have p8 : 2 ^ f < 256 := Nat.pow_lt_pow_right (n := 8) (by decide) om.1
  have pp : 0 < 2 ^ f := Nat.pow_pos (by decide)
  refine cf_of pX7 (Nat.le_of_ble_eq_true rfl) rfl (fun _ => B_X7_allOf_0 ?_)
  rw [ishl1 (by omega)]
  refine l_allOf y ok hf k 256 (2 ^ f) 0 (by omega) p8 (by rw [pow_bit]; simp) (fun x q => ?_) (fun q => by omega)
  rw [pow_bit] at q
  have : f = x := by simpa using q
  subst this
  exact (need_ok (tx := t)).2.1 f hf
theorem l_X7_needs {t0 : Int} {R : Rd} {f : Nat} (r : rdone h t0 t size R) (ok : okx t) (o : okr t R) (hf : f ∈ ord t) (k : Q ((lkS R (needF t f) : Nat) : Int) h) : ∀ (n m : Nat), m + n = 8 → wf (d + 2) M_X7_needs Q 56 [some (.inr (.inr 294)), none, some (.inl (f : Int)), some (.inr (.inl ((orN (fun g => if (needF t f).testBit g = true then (R g 4).toNat else 0) m : Nat) : Int))), none, some (.inl (m : Int))] [] h
  | 0, m, hm => by
    have : m = 8 := by omega
    subst this
    exact B_X7_needs_56 ⟨fun _ => k, fun q => by omega⟩
  | n + 1, m, hm => by
    have m8 : m < 8 := by omega
    have ih := l_X7_needs r ok o hf k n (m + 1) (by omega)
    simp only [orN] at ih
    have nl := needF_lt (tx := t) (f := f)
    have om := (o.1 m m8).2.2.2.1
    have lo : orN (fun g => if (needF t f).testBit g = true then (R g 4).toNat else 0) m < 2 ^ 40 := orN_lt m (fun i hi => by
      have := (o.1 i (by omega)).2.2.2.1
      split <;> omega)
    have rf := (r.2.2.1.2.2 m m8).2.2.1
    rw [show 8 * (0 : Int) + (m : Int) = m by omega] at rf
    refine B_X7_needs_56 ⟨fun q => by omega, fun _ => c_X7_allOf (d := d) r.2.1 ok hf (c_X7_has (by omega) (by omega) (fun q => ⟨fun c => by omega, fun _ => ⟨by omega, by omega, B_X7_needs_88 ?_⟩⟩) (fun q => ⟨fun _ => B_X7_needs_88 ?_, fun c => absurd rfl c⟩))⟩
    · rw [if_pos q] at ih
      rw [rf, show R m 4 = (((R m 4).toNat : Nat) : Int) by omega, lor_n (by omega) (by omega), w32e (by omega) (by omega)]
      exact ih
    · rw [if_neg (by rw [q]; decide), Nat.or_zero] at ih
      rw [show (0 : Int) = ((0 : Nat) : Int) from rfl, lor_n (by omega) (by omega), Nat.or_zero, w32e (by omega) (by omega)]
      exact ih
theorem need_out {f : Nat} (h : f ∉ ord t) : needF t f = 0 := (need_ok (tx := t)).1 f h
theorem c_X7_needs {t f : Int} (I : INV h tx) (k : ∀ g, fZ h g → ((isT (h 295) t ∧ (0 ≤ f ∧ f ≤ 7)) → rdone g t (tx t.toNat) (h 295 6) (rdX (tx t.toNat) (fB8 (h 295)) (h 295 6))) → Q (r_needs (h 295) tx t f) g) : cf (D + 8) M_X7_needs [.inr (.inr 294), .inl t, .inl f] h Q := by
  unfold r_needs at k
  refine cf_of pX7 (Nat.le_of_ble_eq_true rfl) rfl (fun _ => B_X7_needs_0 (c7_isText I (fun q => ⟨fun c => by omega, fun _ => c_X7_isField (fun a b => ⟨fun _ => ?_, fun c => by omega⟩) (fun a => ⟨fun c => absurd rfl c, fun _ => ?_⟩)⟩) (fun q => ⟨fun _ => ?_, fun c => absurd rfl c⟩)))
  · obtain ⟨z1, z2, z3, z4, z5⟩ := INV_t I q.1 q.2
    obtain ⟨f0, hf0⟩ : ∃ f0 : Nat, f = (f0 : Int) := ⟨f.toNat, by omega⟩
    subst hf0
    rw [Int.toNat_natCast] at k
    have f8 : f0 < 8 := by omega
    refine c_X7_read (D := D) I q.1 q.2 (fun g f2 I2 r2 => ?_)
    have kk := k g f2 (fun _ => r2)
    have o := (rdX_ok z3 (INV_b I) (INV_6 I)).1
    have of := (o.1 f0 f8).2.1
    have rf := (r2.2.2.1.2.2 f0 f8).1
    rw [show 8 * (0 : Int) + (f0 : Int) = f0 by omega] at rf
    rw [rf]
    refine ⟨by omega, by omega, fun u => ?_, fun u => ?_⟩
    · have hc : 0 ≤ co (tx t.toNat) f0 := by omega
      rw [if_pos ⟨⟨q, a, b⟩, hc⟩] at kk
      rw [r2.2.1.2.2.2.2]
      have bl := bset_lt (p := fun f => (told (tx t.toNat)).testBit f && !(ord (tx t.toNat)).contains f) 8
      refine c_X7_has (by omega) (by omega) (fun u2 => ⟨fun c => by omega, fun _ => ?_⟩) (fun u2 => ⟨fun _ => ?_, fun c => absurd rfl c⟩)
      · have nm : f0 ∉ ord (tx t.toNat) := by
          intro m
          rw [bset_bit] at u2
          simp [m] at u2
        rw [need_out nm] at kk
        have z : lkS (rdX (tx t.toNat) (fB8 (h 295)) (h 295 6)) 0 = 0 := by
          unfold lkS
          simp [orN]
        rw [z] at kk
        exact kk
      · have mm : f0 ∈ ord (tx t.toNat) := by
          by_cases m : f0 ∈ ord (tx t.toNat)
          · exact m
          · rw [bset_bit, told_bit f8] at u2
            simp [m, f8, hc] at u2
        exact l_X7_needs (d := D + 6) r2 z3 o mm kk 8 0 (by omega)
    · rw [if_neg (fun y => by omega)] at kk; exact kk
  · have kk := k h fZ_refl (fun y => by omega)
    rw [if_neg (fun y => by omega)] at kk; exact kk
  · have kk := k h fZ_refl (fun y => absurd y.1 q)
    rw [if_neg (fun y => q y.1.1)] at kk; exact kk
end ASKL
