/-! LEVEL 3, THE INVARIANT, and reading under it -/
section INVS
variable {d D : Nat} {h : am_H} {Q : Int → am_H → Prop} {tx : Nat → List Cl}
/-- the reader's bytes, and how deep it was -/
def okP (h : am_H) : Prop := (0 ≤ h 218 8 ∧ h 218 8 ≤ 2) ∧ (h 218 7 = 6 ∨ h 218 7 = 199 ∨ h 218 7 = 240) ∧ ∀ j : Int, 0 ≤ j → j < 40 → (0 ≤ h 199 j ∧ h 199 j ≤ 255) ∧ 0 ≤ h 240 j ∧ h 240 j ≤ 255
theorem okP_congr {h2 : am_H} (o : okP h) (e7 : h2 218 7 = h 218 7) (e8 : h2 218 8 = h 218 8) (e199 : h2 199 = h 199) (e240 : h2 240 = h 240) : okP h2 := by
  unfold okP at o ⊢
  rw [e7, e8, e199, e240]
  exact o
/-- SAID: FIELDS -/
def sok (α : Int → Int) : Prop := ∀ i : Int, 0 ≤ i → i < α 3 → 0 ≤ α (48 + 2 * i) ∧ α (48 + 2 * i) ≤ 7
def INV (h : am_H) (tx : Nat → List Cl) : Prop := srep h 4 (h 295) ∧ oka (h 295) ∧ srep h 101 (h 296) ∧ oka (h 296) ∧ h 296 0 ≤ h 295 0 ∧ ¬ h 294 50 = 0 ∧ (h 218 9 = 0 ∧ okP h) ∧ ((h 1 1 = h 294 4 ∧ 0 ≤ h 1 1 ∧ h 1 1 ≤ 300) ∧ tape (h 2) (h 298) (h 1 1)) ∧ ((h 1 2 = h 294 5 ∧ h 1 3 = h 294 6) ∧ sok (h 295) ∧ sok (h 296)) ∧ ∀ i : Nat, (i : Int) < h 295 0 → ctx h (242 + 13 * i) (tx i) ∧ rtx h i (tx i) ∧ okx (tx i)
/-- a question's changes: of the class, of the reference -/
def fX (h h2 : am_H) : Prop := (∀ b : Int, b < 198 ∨ 242 ≤ b → h2 b = h b) ∧ (h2 218 9 = h 218 9 ∧ (okP h → okP h2))
def fZ (h h2 : am_H) : Prop := (∀ b : Int, b < 294 ∨ (295 ≤ b ∧ b ≤ 298) → h2 b = h b) ∧ ∀ j : Int, j = 4 ∨ j = 5 ∨ j = 6 ∨ j = 50 → h2 294 j = h 294 j
theorem fX_refl : fX h h := ⟨fun _ _ => rfl, rfl, fun q => q⟩
theorem fX_trans {h2 h3 : am_H} (a : fX h h2) (b : fX h2 h3) : fX h h3 := ⟨fun c q => (b.1 c q).trans (a.1 c q), b.2.1.trans a.2.1, fun q => b.2.2 (a.2.2 q)⟩
theorem fZ_refl : fZ h h := ⟨fun _ _ => rfl, fun _ _ => rfl⟩
theorem fZ_trans {h2 h3 : am_H} (a : fZ h h2) (b : fZ h2 h3) : fZ h h3 := ⟨fun c q => (b.1 c q).trans (a.1 c q), fun j q => (b.2 j q).trans (a.2 j q)⟩
theorem INV_fX {h2 : am_H} (I : INV h tx) (f : fX h h2) : INV h2 tx := by
  obtain ⟨i1, i2, i3, i4, i5, i6, i7, i8, i9, i10⟩ := I
  have e295 : h2 295 = h 295 := f.1 295 (by omega)
  have e296 : h2 296 = h 296 := f.1 296 (by omega)
  have e294 : h2 294 = h 294 := f.1 294 (by omega)
  have e1 : h2 1 = h 1 := f.1 1 (by omega)
  have e2 : h2 2 = h 2 := f.1 2 (by omega)
  have e298 : h2 298 = h 298 := f.1 298 (by omega)
  unfold INV
  rw [e295, e296, e294, e1, e2, e298, f.2.1]
  exact ⟨srep_fr i1 (fun b q q2 => f.1 b (by omega)), i2, srep_fr i3 (fun b q q2 => f.1 b (by omega)), i4, i5, i6, ⟨i7.1, f.2.2 i7.2⟩, i8, i9, fun i hi => ⟨ctx_congr (i10 i hi).1 (fun b q q2 => f.1 b (by omega)), rtx_congr (i10 i hi).2.1 (f.1 297 (by omega)), (i10 i hi).2.2⟩⟩
theorem INV_fZ {h2 : am_H} (I : INV h tx) (f : fZ h h2) : INV h2 tx := by
  obtain ⟨i1, i2, i3, i4, i5, i6, i7, i8, i9, i10⟩ := I
  have e295 : h2 295 = h 295 := f.1 295 (by omega)
  have e296 : h2 296 = h 296 := f.1 296 (by omega)
  have e1 : h2 1 = h 1 := f.1 1 (by omega)
  have e2 : h2 2 = h 2 := f.1 2 (by omega)
  have e298 : h2 298 = h 298 := f.1 298 (by omega)
  have e218 : h2 218 = h 218 := f.1 218 (by omega)
  have a2 := i2.1
  have eP : okP h2 := okP_congr i7.2 (by rw [e218]) (by rw [e218]) (f.1 199 (by omega)) (f.1 240 (by omega))
  unfold INV
  rw [e295, e296, e1, e2, e298, e218, f.2 4 (by omega), f.2 5 (by omega), f.2 6 (by omega), f.2 50 (by omega)]
  exact ⟨srep_fr i1 (fun b q q2 => f.1 b (by omega)), i2, srep_fr i3 (fun b q q2 => f.1 b (by omega)), i4, i5, i6, ⟨i7.1, eP⟩, i8, i9, fun i hi => ⟨ctx_congr (i10 i hi).1 (fun b q q2 => f.1 b (by omega)), rtx_congr (i10 i hi).2.1 (f.1 297 (by omega)), (i10 i hi).2.2⟩⟩
/-- the bytes of THE FILE -/
def fB8 (α : Int → Int) : Int → Int := fun j => α (8 + j)
theorem INV_b (I : INV h tx) : ∀ j : Int, 0 ≤ j → j < 40 → 0 ≤ fB8 (h 295) j ∧ fB8 (h 295) j ≤ 255 := fun j j0 j1 => okb I.2.1 j0 j1
theorem INV_6 (I : INV h tx) : 0 ≤ h 295 6 ∧ h 295 6 ≤ 40 := ok6 I.2.1
theorem INV_t {t : Int} (I : INV h tx) (t0 : 0 ≤ t) (t1 : t < h 295 0) : ctx h (242 + 13 * t) (tx t.toNat) ∧ rtx h t (tx t.toNat) ∧ okx (tx t.toNat) ∧ t ≤ 3 ∧ am_kd 321 (242 + 13 * t) = 15 := by
  have z := I.2.2.2.2.2.2.2.2.2 t.toNat (by omega)
  rw [show ((t.toNat : Nat) : Int) = t by omega] at z
  have t4 := I.2.1.1.2
  refine ⟨z.1, z.2.1, z.2.2, by omega, ?_⟩
  rcases (show t = 0 ∨ t = 1 ∨ t = 2 ∨ t = 3 by omega) with rfl | rfl | rfl | rfl
  · exact k_242
  · exact k_255
  · exact k_268
  · exact k_281
/-- the class reads a moment's bytes -/
def fW (h h2 : am_H) : Prop := (∀ b : Int, b < 218 ∨ 235 ≤ b → h2 b = h b) ∧ (h2 218 9 = h 218 9 ∧ (okP h → okP h2))
theorem fX_fW {h2 : am_H} (f : fW h h2) : fX h h2 := ⟨fun b q => f.1 b (by omega), f.2⟩
theorem c_X2_readFile {m T size : Int} {t : List Cl} {β : Int → Int} {W : Nat} (hm : m = 5 ∨ m = 198) (tT : am_kd 321 T = 15) (hT : 242 ≤ T) (c : ctx h T t) (ok : okx t) (h9 : h 218 9 = 0) (hs : h m 3 = size) (hs2 : 0 ≤ size ∧ size ≤ 40) (hB : ∀ j : Int, 0 ≤ j → j < 40 → h (m + 1) j = β j) (hb : ∀ j : Int, 0 ≤ j → j < 40 → 0 ≤ β j ∧ β j ≤ 255) (hW : W < 256)
    (k : ∀ h2, fW h h2 → crd h2 220 t 0 size 0 (rdC t β false W 0 size) → okr t (rdC t β false W 0 size) → h2 218 8 = rdC t β false W 0 size 8 0 → h2 218 7 = m + 1 → Q 220 h2) : cf (D + 12) M_X2_readFile [.inr (.inr 218), .inr (.inr T), .inr (.inr m), .inl (W : Int)] h Q := by
  have km : am_kd 321 m = 10 := by
    rcases hm with rfl | rfl
    · exact k_5
    · exact k_198
  have km1 := kX0_0 km
  refine cf_of pX2 (Nat.le_of_ble_eq_true rfl) rfl (fun _ => B_X2_readFile_0 ⟨km, ?_⟩)
  generalize hg : am_up (am_up h 218 7 (m + 1)) 218 8 0 = g
  have g0 : ∀ b : Int, b ≠ 218 → g b = h b := fun b q => by rw [← hg]; funext j; rw [am_up_ne (by omega), am_up_ne (by omega)]
  have g7 : g 218 7 = m + 1 := by rw [← hg, am_up_ne (by omega), am_up_at]
  have g8 : g 218 8 = 0 := by rw [← hg, am_up_at]
  have g9 : g 218 9 = h 218 9 := by rw [← hg, am_up_ne (by omega), am_up_ne (by omega)]
  rw [g0 m (by omega), hs]
  have p : rpre g T t β false 0 0 size := ⟨⟨tT, hT, ctx_congr c (fun b q q2 => g0 b (by omega)), ok⟩, by rw [g9, h9]; rfl, ⟨by rw [g7]; exact km1.1, by rw [g7]; exact km1.2, by rw [g7]; omega, fun j j0 j1 => by rw [g7, g0 _ (by omega)]; exact hB j j0 j1⟩, hb, by omega, by omega, by omega, by omega⟩
  refine rfOK_0 (D := D) _ g W 0 size p hW (fun h2 f2 c2 o2 n2 d2 e8 => ?_)
  refine k h2 ⟨fun b q => by rw [f2.1 b (by omega)]; exact g0 b (by omega), by rw [f2.2 9 (by omega) (by omega)]; exact g9, fun o => ⟨by rw [e8, g8]; omega, by rw [f2.2 7 (by omega) (by omega), g7]; omega, fun j j0 j1 => by rw [f2.1 199 (by omega), f2.1 240 (by omega), g0 199 (by omega), g0 240 (by omega)]; exact o.2.2 j j0 j1⟩⟩ c2 o2 (by rw [e8, g8]; omega) (by rw [f2.2 7 (by omega) (by omega)]; exact g7)
/-- the class reads THE FILE by a TEXT -/
theorem c_rdF {t : Int} {W : Nat} (I : INV h tx) (t0 : 0 ≤ t) (t1 : t < h 295 0) (hW : W < 256)
    (k : ∀ h2, fW h h2 → INV h2 tx → crd h2 220 (tx t.toNat) 0 (h 295 6) 0 (rdC (tx t.toNat) (fB8 (h 295)) false W 0 (h 295 6)) → okr (tx t.toNat) (rdC (tx t.toNat) (fB8 (h 295)) false W 0 (h 295 6)) → h2 218 8 = rdC (tx t.toNat) (fB8 (h 295)) false W 0 (h 295 6) 8 0 → h2 218 7 = 6 → Q 220 h2) : cf (D + 12) M_X2_readFile [.inr (.inr 218), .inr (.inr (242 + 13 * t)), .inr (.inr 5), .inl (W : Int)] h Q := by
  obtain ⟨z1, z2, z3, z4, z5⟩ := INV_t I t0 t1
  exact c_X2_readFile (Or.inl rfl) z5 (by omega) z1 z3 I.2.2.2.2.2.2.1.1 (s_6 I.1) (INV_6 I) (fun j j0 j1 => sbyte I.1 j0 j1) (INV_b I) hW (fun h2 f2 c2 o2 e8 e7 => k h2 f2 (INV_fX I (fX_fW f2)) c2 o2 e8 e7)
/-- the reference reads THE FILE by a TEXT -/
theorem fZ_fY {g : am_H} (f : fY h g) : fZ h g := ⟨fun b q => f.1 b (by omega) (by omega), fun j q => f.2 j (by omega) (by omega) (by omega)⟩
theorem fZ_fV {g : am_H} (f : fV h g) : fZ h g := ⟨fun b q => f.1 b (by omega) (by omega), fun j q => f.2 j (by omega)⟩
/-- what a reading of the reference leaves -/
def rdone (g : am_H) (t : Int) (tx : List Cl) (size : Int) (R : Rd) : Prop := rtx g t tx ∧ rlay g tx ∧ rlv g 0 tx 0 size R ∧ g 294 44 = R 8 0 ∧ g 294 45 = R 8 1 ∧ g 294 46 = (if R 8 1 = -1 then 1 else 0) ∧ g 294 47 = t
theorem c_X7_readByI {t : Int} (I : INV h tx) (t0 : 0 ≤ t) (t1 : t < h 295 0) (y : rlay h (tx t.toNat)) (k : ∀ g, fZ h g → INV g tx → rdone g t (tx t.toNat) (h 295 6) (rdX (tx t.toNat) (fB8 (h 295)) (h 295 6)) → Q 0 g) : cf (D + 6) M_X7_readBy [.inr (.inr 294), .inl t] h Q := by
  obtain ⟨z1, z2, z3, z4, z5⟩ := INV_t I t0 t1
  exact c_X7_readBy z2 z3 y (INV_6 I) (fun j j0 j1 => rfl) (INV_b I) (fun g f r e44 e45 e46 e47 => k g (fZ_fV f) (INV_fZ I (fZ_fV f)) ⟨rtx_fV z2 f, rlay_fV y f, r, e44, e45, e46, e47⟩)
theorem c_X7_read {t : Int} (I : INV h tx) (t0 : 0 ≤ t) (t1 : t < h 295 0) (k : ∀ g, fZ h g → INV g tx → rdone g t (tx t.toNat) (h 295 6) (rdX (tx t.toNat) (fB8 (h 295)) (h 295 6)) → Q 0 g) : cf (D + 7) M_X7_read [.inr (.inr 294), .inl t] h Q := by
  obtain ⟨z1, z2, z3, z4, z5⟩ := INV_t I t0 t1
  refine cf_of pX7 (Nat.le_of_ble_eq_true rfl) rfl (fun _ => B_X7_read_0 (c_X7_layOrder (d := D + 4) z2 z3 (fun g f y => ?_)))
  have e : g 295 = h 295 := f.1 295 (by omega) (by omega)
  refine c_X7_readByI (INV_fZ I (fZ_fY f)) t0 (by rw [e]; exact t1) y (fun g2 f2 I2 r2 => ?_)
  rw [e] at r2
  exact k g2 (fZ_trans (fZ_fY f) f2) I2 r2
/-! order, ring, kind -/
abbrev isT (α : Int → Int) (t : Int) : Prop := 0 ≤ t ∧ t < α 0
theorem c6_textAt {t : Int} (I : INV h tx) (k1 : isT (h 295) t → Q (242 + 13 * t) h) (k0 : ¬ isT (h 295) t → Q 0 h) : cf d M_X6_textAt [.inr (.inr 1), .inl t] h Q :=
  c_X6_textAt I.1 I.2.1 (fun a b => k1 ⟨a, b⟩) (fun a => k0 (fun q => by have := q.1; have := q.2; omega))
theorem c7_isText {t : Int} (I : INV h tx) (k1 : isT (h 295) t → Q 1 h) (k0 : ¬ isT (h 295) t → Q 0 h) : cf (d + 1) M_X7_isText [.inr (.inr 294), .inl t] h Q :=
  c_X7_isText I.2.1.1 (fun a b => k1 ⟨a, b⟩) (fun a => k0 (fun q => by have := q.1; have := q.2; omega))
def r_order (α : Int → Int) (tx : Nat → List Cl) (t i : Int) : Int := if (0 ≤ t ∧ t < α 0) ∧ 0 ≤ i ∧ i < ((ord (tx t.toNat)).length : Nat) then ((ord (tx t.toNat)).getD i.toNat 0 : Nat) else -1
theorem c_X6_order {t i : Int} (I : INV h tx) (k : Q (r_order (h 295) tx t i) h) : cf (d + 1) M_X6_order [.inr (.inr 1), .inl t, .inl i] h Q := by
  unfold r_order at k
  refine cf_of pX6 (Nat.le_of_ble_eq_true rfl) rfl (fun _ => B_X6_order_0 (c6_textAt I (fun q => ⟨by have := q.1; omega, fun c => by have := q.1; omega, fun _ => ?_⟩) (fun q => ⟨by omega, fun _ => ?_, fun c => by omega⟩)))
  · obtain ⟨z1, z2, z3, z4, z5⟩ := INV_t I q.1 q.2
    have e14 := z1.1.2.2.1
    have l8 := ord_len (tx := tx t.toNat)
    refine ⟨fun c => ?_, fun c => ⟨z5, fun c2 => ?_, fun c2 => ⟨fun c3 => ?_, fun c3 => ?_⟩⟩⟩
    · rw [if_neg (fun y => by omega)] at k; exact k
    · rw [if_neg (fun y => by omega)] at k; exact k
    · have e := z1.2.2.2.2 i.toNat (by omega)
      rw [show ((i.toNat : Nat) : Int) = i by omega] at e
      rw [if_pos ⟨q, c, by omega⟩] at k
      rw [e]; exact k
    · omega
  · rw [if_neg (fun y => q y.1)] at k; exact k
theorem c_X7_order {t i : Int} (I : INV h tx) (k : ∀ g, fZ h g → Q (r_order (h 295) tx t i) g) : cf (d + 3) M_X7_order [.inr (.inr 294), .inl t, .inl i] h Q := by
  unfold r_order at k
  refine cf_of pX7 (Nat.le_of_ble_eq_true rfl) rfl (fun _ => B_X7_order_0 (c7_isText I (fun q => ⟨fun _ => ?_, fun c => by omega⟩) (fun q => ⟨fun c => absurd rfl c, fun _ => ?_⟩)))
  · obtain ⟨z1, z2, z3, z4, z5⟩ := INV_t I q.1 q.2
    refine c_X7_layOrder (d := d) z2 z3 (fun g f y => ?_)
    have l8 := ord_len (tx := tx t.toNat)
    rw [y.2.1, w32e (by omega) (by omega)]
    refine c_X7_isIn (fun a b => ⟨fun c => by omega, fun _ => ⟨a, by omega, ?_⟩⟩) (fun a => ⟨fun _ => ?_, fun c => absurd rfl c⟩)
    · have e := y.2.2.2.1 i.toNat (by omega)
      rw [show ((i.toNat : Nat) : Int) = i by omega] at e
      have := k g (fZ_fY f)
      rw [if_pos ⟨q, a, by omega⟩] at this
      rw [e]; exact this
    · have := k g (fZ_fY f)
      rw [if_neg (fun y => by omega)] at this
      exact this
  · have := k h fZ_refl
    rw [if_neg (fun y => q y.1)] at this
    exact this
def r_ring (α : Int → Int) (tx : Nat → List Cl) (t : Int) : Int := if 0 ≤ t ∧ t < α 0 then ((bset (fun f => (told (tx t.toNat)).testBit f && !(ord (tx t.toNat)).contains f) 8 : Nat) : Int) else -1
theorem c_X6_ring {t : Int} (I : INV h tx) (k : Q (r_ring (h 295) tx t) h) : cf (d + 1) M_X6_ring [.inr (.inr 1), .inl t] h Q := by
  unfold r_ring at k
  refine cf_of pX6 (Nat.le_of_ble_eq_true rfl) rfl (fun _ => B_X6_ring_0 (c6_textAt I (fun q => ⟨by have := q.1; omega, fun _ => ?_, fun c => by have := q.1; omega⟩) (fun q => ⟨by omega, fun c => by omega, fun _ => ?_⟩)))
  · obtain ⟨z1, z2, z3, z4, z5⟩ := INV_t I q.1 q.2
    rw [if_pos q] at k
    rw [z1.1.2.2.2.1]
    exact ⟨z5, k⟩
  · rw [if_neg q] at k; exact k
theorem c_X7_ring {t : Int} (I : INV h tx) (k : ∀ g, fZ h g → Q (r_ring (h 295) tx t) g) : cf (d + 3) M_X7_ring [.inr (.inr 294), .inl t] h Q := by
  unfold r_ring at k
  refine cf_of pX7 (Nat.le_of_ble_eq_true rfl) rfl (fun _ => B_X7_ring_0 (c7_isText I (fun q => ⟨fun _ => ?_, fun c => by omega⟩) (fun q => ⟨fun c => absurd rfl c, fun _ => ?_⟩)))
  · obtain ⟨z1, z2, z3, z4, z5⟩ := INV_t I q.1 q.2
    refine c_X7_layOrder (d := d) z2 z3 (fun g f y => ?_)
    have := k g (fZ_fY f)
    rw [if_pos q] at this
    rw [y.2.2.2.2]; exact this
  · have := k h fZ_refl
    rw [if_neg q] at this
    exact this
def r_kind (α : Int → Int) (tx : Nat → List Cl) (t f : Int) : Int := if (0 ≤ t ∧ t < α 0) ∧ 0 ≤ f ∧ f ≤ 7 then kdf (tx t.toNat) f.toNat else -1
theorem c_X6_kind {t f : Int} (I : INV h tx) (k : Q (r_kind (h 295) tx t f) h) : cf (d + 1) M_X6_kind [.inr (.inr 1), .inl t, .inl f] h Q := by
  unfold r_kind at k
  refine cf_of pX6 (Nat.le_of_ble_eq_true rfl) rfl (fun _ => B_X6_kind_0 (c6_textAt I (fun q => ⟨by have := q.1; omega, fun c => by have := q.1; omega, fun _ => c_X6_isField (fun a b => ⟨fun _ => ?_, fun c => by omega⟩) (fun a => ⟨fun c => absurd rfl c, fun _ => B_X6_kind_17 ?_⟩)⟩) (fun q => ⟨by omega, fun _ => B_X6_kind_17 ?_, fun c => by omega⟩)))
  · obtain ⟨z1, z2, z3, z4, z5⟩ := INV_t I q.1 q.2
    have e := (z1.2.2.2.1 f.toNat (by omega)).1
    rw [show ((f.toNat : Nat) : Int) = f by omega] at e
    rw [if_pos ⟨q, a, b⟩] at k
    rw [e]
    exact ⟨z5, a, by omega, k⟩
  · rw [if_neg (fun y => by omega)] at k; exact k
  · rw [if_neg (fun y => q y.1)] at k; exact k
theorem c_X7_sortOfField {t : Int} {tt : List Cl} {f : Nat} (r : rtx h t tt) (ok : okx tt) (y : rlay h tt) (hf : f < 8) (k : Q (kdf tt f) h) : cf (d + 1) M_X7_sortOfField [.inr (.inr 294), .inl t, .inl (f : Int)] h Q := by
  refine cf_of pX7 (Nat.le_of_ble_eq_true rfl) rfl (fun _ => B_X7_sortOfField_0 ⟨by omega, by omega, ?_⟩)
  rw [(y.1 f hf).1]
  refine ⟨fun c => ?_, fun c => ?_⟩
  · obtain ⟨i, i0, qi, q2, q3⟩ := co_spec c
    have l24 := ok.1
    have t0 := r.1
    refine c_X7_clauseAt t0 (by omega) ⟨by omega, by omega, ?_⟩
    rw [(r.2.2 (co tt f) c (by omega)).1]
    unfold kdf at k
    rw [if_neg (by omega)] at k
    exact k
  · unfold kdf at k
    rw [if_pos c] at k
    exact k
theorem c_X7_kind {t f : Int} (I : INV h tx) (k : ∀ g, fZ h g → Q (r_kind (h 295) tx t f) g) : cf (d + 3) M_X7_kind [.inr (.inr 294), .inl t, .inl f] h Q := by
  unfold r_kind at k
  refine cf_of pX7 (Nat.le_of_ble_eq_true rfl) rfl (fun _ => B_X7_kind_0 (c7_isText I (fun q => ⟨fun c => by omega, fun _ => c_X7_isField (fun a b => ⟨fun _ => ?_, fun c => by omega⟩) (fun a => ⟨fun c => absurd rfl c, fun _ => ?_⟩)⟩) (fun q => ⟨fun _ => ?_, fun c => absurd rfl c⟩)))
  · obtain ⟨z1, z2, z3, z4, z5⟩ := INV_t I q.1 q.2
    refine c_X7_layOrder (d := d) z2 z3 (fun g fy y => ?_)
    have := k g (fZ_fY fy)
    rw [if_pos ⟨q, a, b⟩] at this
    have z := c_X7_sortOfField (d := d + 1) (Q := Q) (f := f.toNat) (rtx_congr z2 (fy.1 297 (by omega) (by omega))) z3 y (by omega) this
    rw [show ((f.toNat : Nat) : Int) = f by omega] at z
    exact z
  · have := k h fZ_refl
    rw [if_neg (fun y => by omega)] at this
    exact this
  · have := k h fZ_refl
    rw [if_neg (fun y => q y.1)] at this
    exact this
end INVS
