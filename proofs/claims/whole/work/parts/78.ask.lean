/-! LEVEL 3, what is asked of a reading of THE FILE -/
section ASKR
variable {d D : Nat} {h : am_H} {Q : Int → am_H → Prop} {tx : Nat → List Cl}
theorem rdC_part {t : List Cl} {β : Int → Int} {size : Int} {W : Nat} (ok : okx t) (cl : ∀ f, f ∈ ord t → W.testBit f = true → ∀ g, g < 8 → (hgu t f).testBit g = true → g ∈ ord t → W.testBit g = true) {g : Nat} (hg : g < 8) (q : W.testBit g = true ∨ g ∉ ord t) (c : Nat) : rdC t β false W 0 size g c = rdX t β size g c :=
  lvl_part ok cl hg q c
theorem rdC_need {t : List Cl} {β : Int → Int} {size : Int} {f : Nat} (ok : okx t) (hf : f < 8) (c : Nat) : rdC t β false (needF t f) 0 size f c = rdX t β size f c := by
  refine rdC_part ok (need_cl f) hf ?_ c
  by_cases m : f ∈ ord t
  · exact Or.inl (need_ok.2.1 f m)
  · exact Or.inr m
theorem rdX_ok {t : List Cl} {β : Int → Int} {size : Int} (ok : okx t) (hb : ∀ j : Int, 0 ≤ j → j < 40 → 0 ≤ β j ∧ β j ≤ 255) (hs : 0 ≤ size ∧ size ≤ 40) : okr t (rdX t β size) ∧ okn 9 t (rdX t β size) ∧ 0 ≤ rdX t β size 8 0 ∧ rdX t β size 8 0 ≤ 2 :=
  lvl_ok (vo := false) (wanted := 255) ok ⟨hb, by omega⟩ (Or.inl rfl) (inP_0 (vo := false) ok hb)
/-- what a FIELD tells -/
def tl (R : Rd) (f : Nat) (w : Int) : Int := if w = 3 then R f 3 else if R f 3 = 3 then -2 else if w = 0 then R f 0 else if w = 1 then R f 1 else R f 2
theorem c_X3_tell {A : Int} {t : List Cl} {base size deep : Int} {ρ : Rd} {f : Nat} {w : Int} (tA : am_kd 321 A = 13) (hf : f < 8) (c : crd h A t base size deep ρ) (o : okr t ρ) (k : Q (if 0 ≤ w ∧ w ≤ 3 then tl ρ f w else -2) h) : cf (d + 2) M_X3_tell [.inr (.inr A), .inl (f : Int), .inl w] h Q := by
  unfold tl at k
  have cf4 := c.2.2.2.1 f hf
  refine cf_of pX3 (Nat.le_of_ble_eq_true rfl) rfl (fun _ => B_X3_tell_0 tA (c_X6_isField (fun _ _ => ⟨fun q => by omega, fun _ => ⟨fun q => ?_, fun q => ⟨fun q2 => ?_, fun q2 => ?_⟩⟩⟩) (fun q => by omega)))
  · rw [if_neg (by omega)] at k; exact k
  · rw [if_pos ⟨q, q2⟩] at k
    refine c_X3_how tA hf c o ⟨fun q3 => ⟨fun q4 => ⟨fun q5 => ⟨fun q6 => ⟨by omega, by omega, ?_⟩, fun q6 => ⟨by omega, by omega, ?_⟩⟩, fun q5 => ⟨by omega, by omega, ?_⟩⟩, fun q4 => ?_⟩, fun q3 => ?_⟩
    · rw [if_neg q3, if_neg q4, if_neg q5, if_neg q6] at k
      rw [cf4.2.2.1]; exact k
    · rw [if_neg q3, if_neg q4, if_neg q5, if_pos q6] at k
      rw [cf4.2.1]; exact k
    · rw [if_neg q3, if_neg q4, if_pos q5] at k
      rw [cf4.1]; exact k
    · rw [if_neg q3, if_pos q4] at k; exact k
    · rw [if_pos q3] at k; exact k
  · rw [if_neg (by omega)] at k; exact k
theorem c_X7_toldOf {l : Int} {t : List Cl} {base size : Int} {R : Rd} {f : Nat} {w : Int} (l0 : 0 ≤ l ∧ l ≤ 2) (hf : f < 8) (hw : 0 ≤ w ∧ w ≤ 3) (r : rlv h l t base size R) (o : okr t R) (k : Q (tl R f w) h) : cf d M_X7_toldOf [.inr (.inr 294), .inl (8 * l + f), .inl w] h Q := by
  unfold tl at k
  have rf := r.2.2 f hf
  have of := o.1 f hf
  refine cf_of pX7 (Nat.le_of_ble_eq_true rfl) rfl (fun _ => B_X7_toldOf_0 ⟨fun q3 => ⟨by omega, by omega, ?_⟩, fun q3 => ⟨by omega, by omega, ?_⟩⟩)
  · rw [rf.1, rf.2.1]
    rw [if_neg q3] at k
    refine ⟨fun q4 => ⟨fun q5 => ⟨fun q6 => ?_, fun q6 => ?_⟩, fun q5 => ?_⟩, fun q4 => ?_⟩
    · rw [if_neg q4, if_neg q5, if_neg q6] at k
      rw [(rf.2.2.2 (by omega)).2]; exact k
    · rw [if_neg q4, if_neg q5, if_pos q6] at k
      rw [(rf.2.2.2 (by omega)).1]; exact k
    · rw [if_neg q4, if_pos q5] at k; exact k
    · rw [if_pos q4] at k; exact k
  · rw [if_pos q3] at k
    rw [rf.1]; exact k
abbrev RX (h : am_H) (tx : Nat → List Cl) (t : Int) : Rd := rdX (tx t.toNat) (fB8 (h 295)) (h 295 6)
def r_field (α : Int → Int) (tx : Nat → List Cl) (t f w : Int) : Int := if isT α t ∧ (0 ≤ f ∧ f ≤ 7) ∧ 0 ≤ w ∧ w ≤ 3 then tl (rdX (tx t.toNat) (fB8 α) (α 6)) f.toNat w else -2
theorem c_X6_field {t f w : Int} (I : INV h tx) (k : ∀ g, fX h g → Q (r_field (h 295) tx t f w) g) : cf (D + 13) M_X6_field [.inr (.inr 1), .inl t, .inl f, .inl w] h Q := by
  unfold r_field at k
  refine cf_of pX6 (Nat.le_of_ble_eq_true rfl) rfl (fun _ => B_X6_field_0 (c6_textAt I (fun q => ⟨by have := q.1; omega, fun c => by have := q.1; omega, fun _ => c_X6_isField (fun a b => ⟨fun _ => ?_, fun c => by omega⟩) (fun a => ⟨fun c => absurd rfl c, fun _ => ?_⟩)⟩) (fun q => ⟨by omega, fun _ => ?_, fun c => by omega⟩)))
  · obtain ⟨z1, z2, z3, z4, z5⟩ := INV_t I q.1 q.2
    have e12 := (z1.2.2.2.1 f.toNat (by omega)).2.2.1
    rw [show ((f.toNat : Nat) : Int) = f by omega] at e12
    rw [e12]
    refine ⟨z5, a, by omega, c_rdF (D := D) I q.1 q.2 needF_lt (fun h2 f2 I2 c2 o2 e8 e7 => ⟨k_220, ?_⟩)⟩
    have kk := k h2 (fX_fW f2)
    have z := c_X3_tell (d := D + 10) (Q := Q) (f := f.toNat) (w := w) k_220 (by omega) c2 o2 ?_
    · rw [show ((f.toNat : Nat) : Int) = f by omega] at z
      exact z
    · by_cases hw : 0 ≤ w ∧ w ≤ 3
      · rw [if_pos ⟨q, ⟨a, b⟩, hw⟩] at kk
        rw [if_pos hw]
        have f8 : f.toNat < 8 := by omega
        unfold tl at kk ⊢
        rw [rdC_need z3 f8, rdC_need z3 f8, rdC_need z3 f8, rdC_need z3 f8]
        exact kk
      · rw [if_neg (fun y => hw y.2.2)] at kk
        rw [if_neg hw]; exact kk
  · have kk := k h fX_refl
    rw [if_neg (fun y => by omega)] at kk; exact kk
  · have kk := k h fX_refl
    rw [if_neg (fun y => q y.1)] at kk; exact kk
theorem c_X7_field {t f w : Int} (I : INV h tx) (k : ∀ g, fZ h g → Q (r_field (h 295) tx t f w) g) : cf (D + 8) M_X7_field [.inr (.inr 294), .inl t, .inl f, .inl w] h Q := by
  unfold r_field at k
  refine cf_of pX7 (Nat.le_of_ble_eq_true rfl) rfl (fun _ => B_X7_field_0 (c7_isText I (fun q => ⟨fun c => by omega, fun _ => c_X7_isField (fun a b => ⟨fun c => by omega, fun _ => c_X7_isIn (fun a2 b2 => ⟨fun _ => ?_, fun c => by omega⟩) (fun a2 => ⟨fun c => absurd rfl c, fun _ => ?_⟩)⟩) (fun a => ⟨fun _ => ?_, fun c => absurd rfl c⟩)⟩) (fun q => ⟨fun _ => ?_, fun c => absurd rfl c⟩)))
  · obtain ⟨z1, z2, z3, z4, z5⟩ := INV_t I q.1 q.2
    refine c_X7_read (D := D) I q.1 q.2 (fun g f2 I2 r2 => ?_)
    have kk := k g f2
    rw [if_pos ⟨q, ⟨a, b⟩, a2, b2⟩] at kk
    have z := c_X7_toldOf (d := D + 7) (Q := Q) (l := 0) (f := f.toNat) (w := w) (by omega) (by omega) ⟨a2, b2⟩ r2.2.2.1 (rdX_ok z3 (INV_b I) (INV_6 I)).1 kk
    rw [show 8 * (0 : Int) + ((f.toNat : Nat) : Int) = f by omega] at z
    exact z
  · have kk := k h fZ_refl
    rw [if_neg (fun y => by omega)] at kk; exact kk
  · have kk := k h fZ_refl
    rw [if_neg (fun y => by omega)] at kk; exact kk
  · have kk := k h fZ_refl
    rw [if_neg (fun y => q y.1)] at kk; exact kk
/-! must, deep -/
def r_must (α : Int → Int) (tx : Nat → List Cl) (t : Int) : Int := if isT α t then rdX (tx t.toNat) (fB8 α) (α 6) 8 1 else -1
def r_deep (α : Int → Int) (tx : Nat → List Cl) (t : Int) : Int := if isT α t then rdX (tx t.toNat) (fB8 α) (α 6) 8 0 else -1
theorem c_X6_must {t : Int} (I : INV h tx) (k : ∀ g, fX h g → Q (r_must (h 295) tx t) g) : cf (D + 13) M_X6_must [.inr (.inr 1), .inl t] h Q := by
  unfold r_must at k
  refine cf_of pX6 (Nat.le_of_ble_eq_true rfl) rfl (fun _ => B_X6_must_0 (c6_textAt I (fun q => ⟨by have := q.1; omega, fun _ => ?_, fun c => by have := q.1; omega⟩) (fun q => ⟨by omega, fun c => by omega, fun _ => ?_⟩)))
  · refine c_rdF (D := D) (W := 255) I q.1 q.2 (by decide) (fun h2 f2 I2 c2 o2 e8 e7 => ⟨k_220, ?_⟩)
    have kk := k h2 (fX_fW f2)
    rw [if_pos q] at kk
    rw [c2.2.2.2.2.1]; exact kk
  · have kk := k h fX_refl
    rw [if_neg q] at kk; exact kk
theorem c_X6_deep {t : Int} (I : INV h tx) (k : ∀ g, fX h g → Q (r_deep (h 295) tx t) g) : cf (D + 13) M_X6_deep [.inr (.inr 1), .inl t] h Q := by
  unfold r_deep at k
  refine cf_of pX6 (Nat.le_of_ble_eq_true rfl) rfl (fun _ => B_X6_deep_0 (c6_textAt I (fun q => ⟨by have := q.1; omega, fun _ => ?_, fun c => by have := q.1; omega⟩) (fun q => ⟨by omega, fun c => by omega, fun _ => ?_⟩)))
  · refine c_rdF (D := D) (W := 255) I q.1 q.2 (by decide) (fun h2 f2 I2 c2 o2 e8 e7 => ?_)
    have kk := k h2 (fX_fW f2)
    rw [if_pos q] at kk
    rw [e8]; exact kk
  · have kk := k h fX_refl
    rw [if_neg q] at kk; exact kk
theorem c_X7_must {t : Int} (I : INV h tx) (k : ∀ g, fZ h g → Q (r_must (h 295) tx t) g) : cf (D + 8) M_X7_must [.inr (.inr 294), .inl t] h Q := by
  unfold r_must at k
  refine cf_of pX7 (Nat.le_of_ble_eq_true rfl) rfl (fun _ => B_X7_must_0 (c7_isText I (fun q => ⟨fun _ => ?_, fun c => by omega⟩) (fun q => ⟨fun c => absurd rfl c, fun _ => ?_⟩)))
  · refine c_X7_read (D := D) I q.1 q.2 (fun g f2 I2 r2 => ?_)
    have kk := k g f2
    rw [if_pos q] at kk
    rw [r2.2.2.2.2.1]; exact kk
  · have kk := k h fZ_refl
    rw [if_neg q] at kk; exact kk
theorem c_X7_deep {t : Int} (I : INV h tx) (k : ∀ g, fZ h g → Q (r_deep (h 295) tx t) g) : cf (D + 8) M_X7_deep [.inr (.inr 294), .inl t] h Q := by
  unfold r_deep at k
  refine cf_of pX7 (Nat.le_of_ble_eq_true rfl) rfl (fun _ => B_X7_deep_0 (c7_isText I (fun q => ⟨fun _ => ?_, fun c => by omega⟩) (fun q => ⟨fun c => absurd rfl c, fun _ => ?_⟩)))
  · refine c_X7_read (D := D) I q.1 q.2 (fun g f2 I2 r2 => ?_)
    have kk := k g f2
    rw [if_pos q] at kk
    rw [r2.2.2.2.1]; exact kk
  · have kk := k h fZ_refl
    rw [if_neg q] at kk; exact kk
/-! valid -/
def bi (b : Bool) : Int := if b = true then 1 else 0
theorem ring_unsound {t : List Cl} {β : Int → Int} {size : Int} (q : ¬ bset (fun f => (told t).testBit f && !(ord t).contains f) 8 = 0) : sndR (rdX t β size) = false := by
  cases s : sndR (rdX t β size) with
  | false => rfl
  | true =>
    have sn := (snd_iff.mp s).1
    refine absurd (bits_ext (n := 8) (bset_lt 8) (by decide) (fun f hf => ?_)) q
    rw [bset_bit, Nat.zero_testBit]
    by_cases m : f ∈ ord t
    · simp [m]
    · have e : rdX t β size f 3 = rd0 t 0 f 3 := by unfold rdX rdC; exact lvl_out hf m 3
      have s3 := sn f hf
      rw [e] at s3
      have v := rd0_v (tx := t) (deep := 0) hf
      have nt : co t f < 0 := by
        by_cases c : 0 ≤ co t f
        · have := (v.1 c).2.2.2
          omega
        · omega
      rw [told_bit hf]
      simp [show ¬ 0 ≤ co t f by omega]
theorem c_X2_isValid {T size : Int} {t : List Cl} {β : Int → Int} (tT : am_kd 321 T = 15) (hT : 242 ≤ T) (c : ctx h T t) (ok : okx t) (h9 : h 218 9 = 0) (h8 : 0 ≤ h 218 8 ∧ h 218 8 ≤ 2) (hs2 : 0 ≤ size ∧ size ≤ 40) (hB : ∀ j : Int, 0 ≤ j → j < 40 → h 6 j = β j) (hb : ∀ j : Int, 0 ≤ j → j < 40 → 0 ≤ β j ∧ β j ≤ 255)
    (k : ∀ h2, fW h h2 → Q (bi (sndR (rdX t β size))) h2) : cf (D + 12) M_X2_isValid [.inr (.inr 218), .inr (.inr T), .inr (.inr 6), .inl size] h Q := by
  refine cf_of pX2 (Nat.le_of_ble_eq_true rfl) rfl (fun _ => B_X2_isValid_0 ⟨tT, fun q => ?_, fun q => ?_⟩)
  · generalize hg : am_up h 218 7 6 = g
    have g0 : ∀ b : Int, b ≠ 218 → g b = h b := fun b q => by rw [← hg]; funext j; rw [am_up_ne (by omega)]
    have g7 : g 218 7 = 6 := by rw [← hg, am_up_at]
    have g8 : g 218 8 = h 218 8 := by rw [← hg, am_up_ne (by omega)]
    have g9 : g 218 9 = h 218 9 := by rw [← hg, am_up_ne (by omega)]
    have p : rpre g T t β false 0 0 size := ⟨⟨tT, hT, ctx_congr c (fun b q q2 => g0 b (by omega)), ok⟩, by rw [g9, h9]; rfl, ⟨by rw [g7]; exact k_6, by rw [g7]; exact l_6, by rw [g7]; omega, fun j j0 j1 => by rw [g7, g0 _ (by omega)]; exact hB j j0 j1⟩, hb, by omega, by omega, by omega, by omega⟩
    refine rfOK_0 (D := D) _ g 255 0 size p (by decide) (fun h2 f2 c2 o2 n2 d2 e8 => ⟨k_220, ?_⟩)
    have fw : fW h h2 := ⟨fun b q => by rw [f2.1 b (by omega)]; exact g0 b (by omega), by rw [f2.2 9 (by omega) (by omega)]; exact g9, fun o => ⟨by rw [e8, g8]; omega, by rw [f2.2 7 (by omega) (by omega), g7]; omega, fun j j0 j1 => by rw [f2.1 199 (by omega), f2.1 240 (by omega), g0 199 (by omega), g0 240 (by omega)]; exact o.2.2 j j0 j1⟩⟩
    have kk := k h2 fw
    refine c_X3_isSound k_220 c2 o2 (fun s => ⟨Or.inr rfl, ?_⟩) (fun s => ⟨Or.inl rfl, ?_⟩)
    · rw [show rdX t β size = rdC t β false 255 0 size from rfl, s] at kk
      exact kk
    · have s' : sndR (rdC t β false 255 0 size) = false := by
        cases z : sndR (rdC t β false 255 0 size) with
        | false => rfl
        | true => exact absurd z s
      rw [show rdX t β size = rdC t β false 255 0 size from rfl, s'] at kk
      exact kk
  · rw [c.1.2.2.2.1] at q
    have kk := k h ⟨fun _ _ => rfl, rfl, fun q => q⟩
    rw [ring_unsound (fun z => q (by rw [z]; rfl))] at kk
    exact kk
def r_valid (α : Int → Int) (tx : Nat → List Cl) (t : Int) : Int := if isT α t then bi (sndR (rdX (tx t.toNat) (fB8 α) (α 6))) else 0
theorem bi01 (b : Bool) : bi b = 0 ∨ bi b = 1 := by cases b <;> decide
theorem c_X6_valid {t : Int} (I : INV h tx) (k : ∀ g, fX h g → Q (r_valid (h 295) tx t) g) : cf (D + 13) M_X6_valid [.inr (.inr 1), .inl t] h Q := by
  unfold r_valid at k
  refine cf_of pX6 (Nat.le_of_ble_eq_true rfl) rfl (fun _ => B_X6_valid_0 (c6_textAt I (fun q => ⟨by have := q.1; omega, fun c => by have := q.1; omega, fun _ => ?_⟩) (fun q => ⟨by omega, fun _ => ?_, fun c => by omega⟩)))
  · obtain ⟨z1, z2, z3, z4, z5⟩ := INV_t I q.1 q.2
    have h7 := I.2.2.2.2.2.2.1
    rw [s_6 I.1]
    refine c_X2_isValid (D := D) z5 (by have := q.1; omega) z1 z3 h7.1 h7.2.1 (INV_6 I) (fun j j0 j1 => sbyte I.1 j0 j1) (INV_b I) (fun h2 f2 => ?_)
    have kk := k h2 (fX_fW f2)
    rw [if_pos q] at kk
    have b := bi01 (sndR (rdX (tx t.toNat) (fB8 (h 295)) (h 295 6)))
    refine ⟨fun y => ?_, fun y => ?_⟩
    · have y' : bi (sndR (rdX (tx t.toNat) (fB8 (h 295)) (h 295 6))) = 0 := y
      rw [y'] at kk; exact kk
    · have y' : bi (sndR (rdX (tx t.toNat) (fB8 (h 295)) (h 295 6))) = 1 := by
        rcases b with b | b
        · exact absurd b y
        · exact b
      rw [y'] at kk; exact kk
  · have kk := k h fX_refl
    rw [if_neg q] at kk; exact kk
theorem l_isValidNow {t size : Int} {tt : List Cl} {R : Rd} (r : rdone h t tt size R) (o : okr tt R) (k : Q (bi (sndR R)) h) : ∀ (n f : Nat), f + n = 8 → (∀ g, g < f → R g 3 = 0 ∨ R g 3 = 3) → wf (d + 1) M_X7_isValidNow Q 2 [some (.inr (.inr 294)), some (.inl (f : Int))] [] h
  | 0, f, hf, hn => by
    refine B_X7_isValidNow_2 ⟨fun _ => ?_, fun c => by omega⟩
    rw [r.2.2.2.2.2.1]
    by_cases q : R 8 1 = -1
    · have s : sndR R = true := snd_iff.mpr ⟨fun g hg => hn g (by omega), q⟩
      rw [if_pos q]
      rw [s] at k
      exact ⟨Or.inr rfl, k⟩
    · have s : sndR R = false := by
        cases z : sndR R with
        | false => rfl
        | true => exact absurd (snd_iff.mp z).2 q
      rw [if_neg q]
      rw [s] at k
      exact ⟨Or.inl rfl, k⟩
  | n + 1, f, hf, hn => by
    have f8 : f < 8 := by omega
    have tl := told_lt (tx := tt)
    have next : R f 3 = 0 ∨ R f 3 = 3 → wf (d + 1) M_X7_isValidNow Q 30 [some (.inr (.inr 294)), some (.inl (f : Int))] [] h := by
      intro q
      refine B_X7_isValidNow_30 ?_
      rw [w32e (by omega) (by omega), show (f : Int) + 1 = ((f + 1 : Nat) : Int) by omega]
      refine l_isValidNow r o k n (f + 1) (by omega) (fun g hg => ?_)
      by_cases e : g = f
      · rw [e]; exact q
      · exact hn g (by omega)
    have rf := r.2.2.1.2.2 f f8
    rw [show 8 * (0 : Int) + (f : Int) = f by omega] at rf
    refine B_X7_isValidNow_2 ⟨fun c => by omega, fun _ => ?_⟩
    rw [r.2.1.2.2.1]
    refine c_X7_has (by omega) (by omega) (fun q => ⟨fun c => by omega, fun _ => ⟨by omega, by omega, ?_⟩⟩) (fun q => ⟨fun _ => next (Or.inr ((o.1 f f8).2.1.mpr ((told_bit2 f8).2 q))), fun c => absurd rfl c⟩)
    rw [rf.1]
    refine ⟨fun c => next (Or.inl c), fun c => ?_⟩
    have s : sndR R = false := by
      cases z : sndR R with
      | false => rfl
      | true =>
        have s3 := (snd_iff.mp z).1 f f8
        have t1 := (told_bit2 f8).1 q
        have := (o.1 f f8).2.1
        omega
    rw [s] at k
    exact k
theorem c_X7_isValidNow {t size : Int} {tt : List Cl} {R : Rd} (r : rdone h t tt size R) (o : okr tt R) (k : Q (bi (sndR R)) h) : cf (d + 1) M_X7_isValidNow [.inr (.inr 294)] h Q :=
  cf_of pX7 (Nat.le_of_ble_eq_true rfl) rfl (fun _ => B_X7_isValidNow_0 (l_isValidNow r o k 8 0 (by omega) (fun g hg => by omega)))
theorem c_X7_valid {t : Int} (I : INV h tx) (k : ∀ g, fZ h g → Q (r_valid (h 295) tx t) g) : cf (D + 8) M_X7_valid [.inr (.inr 294), .inl t] h Q := by
  unfold r_valid at k
  refine cf_of pX7 (Nat.le_of_ble_eq_true rfl) rfl (fun _ => B_X7_valid_0 (c7_isText I (fun q => ⟨fun _ => ?_, fun c => by omega⟩) (fun q => ⟨fun c => absurd rfl c, fun _ => ?_⟩)))
  · obtain ⟨z1, z2, z3, z4, z5⟩ := INV_t I q.1 q.2
    refine c_X7_read (D := D) I q.1 q.2 (fun g f2 I2 r2 => ?_)
    have kk := k g f2
    rw [if_pos q] at kk
    exact c_X7_isValidNow (d := D + 6) r2 (rdX_ok z3 (INV_b I) (INV_6 I)).1 ⟨bi01 _, kk⟩
  · have kk := k h fZ_refl
    rw [if_neg q] at kk; exact kk
end ASKR
