section INSIDE4
variable {d D : Nat} {h : am_H} {Q : Int → am_H → Prop} {tx : Nat → List Cl}
theorem c_X7_inside {t f g w : Int} (I : INV h tx) (k : ∀ g2, fZ h g2 → Q (r_inside (h 295) tx t f g w) g2) : cf (D + 8) M_X7_inside [.inr (.inr 294), .inl t, .inl f, .inl g, .inl w] h Q := by
  have s6 := INV_6 I
  have hb := INV_b I
  have no : ∀ g2, fZ h g2 → ¬ (((isT (h 295) t ∧ (0 ≤ f ∧ f ≤ 7)) ∧ ((0 ≤ g ∧ g ≤ 7) ∧ (0 ≤ w ∧ w ≤ 3))) ∧ kdf (tx t.toNat) f.toNat = 2 ∧ ¬ rdX (tx t.toNat) (fB8 (h 295)) (h 295 6) f.toNat 3 = 1) → Q (-2) g2 := fun g2 f2 y => by
    have kk := k g2 f2
    unfold r_inside at kk
    rw [if_neg y] at kk; exact kk
  refine cf_of pX7 (Nat.le_of_ble_eq_true rfl) rfl (fun _ => B_X7_inside_0 (c7_isText I (fun q => ⟨fun c => by omega, fun _ => c_X7_isField (fun a b => ⟨fun c => by omega, fun _ => c_X7_isField (fun a2 b2 => ⟨fun c => by omega, fun _ => c_X7_isIn (fun a3 b3 => ⟨fun _ => ?_, fun c => by omega⟩) (fun a3 => ⟨fun c => absurd rfl c, fun _ => no h fZ_refl (fun y => by omega)⟩)⟩) (fun a2 => ⟨fun _ => no h fZ_refl (fun y => by omega), fun c => absurd rfl c⟩)⟩) (fun a => ⟨fun _ => no h fZ_refl (fun y => by omega), fun c => absurd rfl c⟩)⟩) (fun q => ⟨fun _ => no h fZ_refl (fun y => q y.1.1.1), fun c => absurd rfl c⟩)))
  obtain ⟨z1, z2, z3, z4, z5⟩ := INV_t I q.1 q.2
  obtain ⟨f0, hf0⟩ : ∃ f0 : Nat, f = (f0 : Int) := ⟨f.toNat, by omega⟩
  obtain ⟨g0, hg0⟩ : ∃ g0 : Nat, g = (g0 : Int) := ⟨g.toNat, by omega⟩
  subst hf0 hg0
  have f8 : f0 < 8 := by omega
  have g8 : g0 < 8 := by omega
  rw [Int.toNat_natCast] at no
  refine c_X7_read (D := D) I q.1 q.2 (fun h2 f2 I2 r2 => ?_)
  refine c_X7_sortOfField r2.1 z3 r2.2.1 f8 ⟨fun k2 => no h2 f2 (fun y => k2 y.2.1), fun k2 => ⟨by omega, by omega, ?_⟩⟩
  have rf := (r2.2.2.1.2.2 f0 f8).1
  rw [show 8 * (0 : Int) + (f0 : Int) = f0 by omega] at rf
  rw [rf]
  refine ⟨fun n1 => ?_, fun y1 => no h2 f2 (fun y => y.2.2 y1)⟩
  have e295 : h2 295 = h 295 := f2.1 295 (by omega)
  have ro := rdX_ok z3 hb s6
  refine c_X7_readUpTo (D := D + 1) (β := fB8 (h 295)) r2.1 z3 r2.2.1 (by rw [e295]; exact s6) (fun j j0 j1 => by rw [e295]; rfl) hb (by rw [r2.2.2.2.1]; exact ro.2.2) f8 k2 (by rw [e295]; exact n1) (fun h3 b9 s9 f3 r3 => ?_)
  rw [e295] at r3
  have o := ro.1
  have of := o.1 f0 f8
  have nt : ¬ co (tx t.toNat) f0 < 0 := fun y => by
    unfold kdf at k2
    rw [if_pos y] at k2
    omega
  have ii := rdX_I (t := tx t.toNat) (β := fB8 (h 295)) (size := h 295 6) f0 f8 (by have := of.1; have := of.2.1; omega)
  have oI : okr (tx t.toNat) (rdI (tx t.toNat) (fB8 (h 295)) (rdX (tx t.toNat) (fB8 (h 295)) (h 295 6)) f0) := (lvl_ok (vo := false) (wanted := 255) z3 ⟨hb, by omega⟩ (Or.inr (Or.inl rfl)) (inP_1 (vo := false) (w := wI (tx t.toNat) false 1) z3 hb)).1
  have kk := k h3 (fZ_trans f2 (fZ_fV f3))
  unfold r_inside at kk
  rw [if_pos ⟨⟨⟨q, a, b⟩, ⟨a2, b2⟩, a3, b3⟩, by rw [Int.toNat_natCast]; exact k2, by rw [Int.toNat_natCast]; exact n1⟩, Int.toNat_natCast, Int.toNat_natCast] at kk
  have z := c_X7_toldOf (d := D + 7) (Q := Q) (l := 1) (f := g0) (w := w) (by omega) g8 ⟨a3, b3⟩ r3 oI kk
  rw [show 8 * (1 : Int) + ((g0 : Nat) : Int) = 8 + (g0 : Int) by omega] at z
  rw [w32e (by omega) (by omega)]
  exact z
end INSIDE4
