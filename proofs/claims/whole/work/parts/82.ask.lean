section ASKF
variable {d D : Nat} {h : am_H} {Q : Int → am_H → Prop} {tx : Nat → List Cl} {t t2 : List Cl} {β : Int → Int} {deep base size : Int} {ρ R R2 : Rd}
/-- a reading of the reference, all that stays -/
def fS (h g : am_H) : Prop := (∀ b : Int, b ≠ 294 → b < 300 ∨ 316 < b → g b = h b) ∧ ∀ j : Int, j < 22 ∨ 47 < j → g 294 j = h 294 j
theorem fZ_fS {g : am_H} (f : fS h g) : fZ h g := ⟨fun b q => f.1 b (by omega) (by omega), fun j q => f.2 j (by omega)⟩
theorem c_X7_readS {t : Int} (I : INV h tx) (t0 : 0 ≤ t) (t1 : t < h 295 0) (k : ∀ g, fS h g → INV g tx → rdone g t (tx t.toNat) (h 295 6) (rdX (tx t.toNat) (fB8 (h 295)) (h 295 6)) → Q 0 g) : cf (D + 7) M_X7_read [.inr (.inr 294), .inl t] h Q := by
  obtain ⟨z1, z2, z3, z4, z5⟩ := INV_t I t0 t1
  refine cf_of pX7 (Nat.le_of_ble_eq_true rfl) rfl (fun _ => B_X7_read_0 (c_X7_layOrder (d := D + 4) z2 z3 (fun g f y => ?_)))
  have e : g 295 = h 295 := f.1 295 (by omega) (by omega)
  have I2 := INV_fZ I (fZ_fY f)
  have z2g := rtx_congr z2 (f.1 297 (by omega) (by omega))
  refine c_X7_readBy z2g z3 y (by rw [e]; exact INV_6 I) (fun j j0 j1 => rfl) (fun j j0 j1 => by rw [e]; exact INV_b I j j0 j1) (fun g2 f2 r e44 e45 e46 e47 => ?_)
  have fs : fS h g2 := ⟨fun b q1 q2 => by rw [f2.1 b q1 (by omega), f.1 b q1 (by omega)], fun j q => by rw [f2.2 j (by omega), f.2 j (by omega) (by omega) (by omega)]⟩
  have eb : (fun j => g 295 (8 + j)) = fB8 (h 295) := by rw [e]; rfl
  rw [eb, e] at r e44 e45 e46
  exact k g2 fs (INV_fZ I (fZ_fS fs)) ⟨rtx_fV z2g f2, rlay_fV y f2, r, e44, e45, e46, e47⟩
theorem how3 {f : Nat} (o : okr t R) (hf : f < 8) : (told t).testBit f = !decide (R f 3 = 3) := by
  rw [told_bit hf]
  have := (o.1 f hf).2.1
  by_cases c : 0 ≤ co t f
  · have n : ¬ R f 3 = 3 := by omega
    simp [c, n]
  · have n : R f 3 = 3 := by omega
    simp [c, n]
theorem c_X7_alike {t u : Int} (I : INV h tx) (k : ∀ g, fZ h g → Q (r_alike (h 295) tx t u) g) : cf (D + 8) M_X7_alike [.inr (.inr 294), .inl t, .inl u] h Q := by
  unfold r_alike at k
  refine cf_of pX7 (Nat.le_of_ble_eq_true rfl) rfl (fun _ => B_X7_alike_0 (c7_isText I (fun q => ⟨fun c => by omega, fun _ => c7_isText I (fun q2 => ⟨fun _ => ?_, fun c => by omega⟩) (fun q2 => ⟨fun c => absurd rfl c, fun _ => ?_⟩)⟩) (fun q => ⟨fun _ => ?_, fun c => absurd rfl c⟩)))
  · obtain ⟨z1, z2, z3, z4, z5⟩ := INV_t I q.1 q.2
    obtain ⟨y1, y2, y3, y4, y5⟩ := INV_t I q2.1 q2.2
    refine c_X7_read (D := D) I q.1 q.2 (fun g f2 I2 r2 => ?_)
    have o := (rdX_ok z3 (INV_b I) (INV_6 I)).1
    have o2 := (rdX_ok y3 (INV_b I) (INV_6 I)).1
    refine l_keep8 (W := fun m g => wf (D + 8) M_X7_alike Q 25 [some (.inr (.inr 294)), none, some (.inl u), some (.inl (m : Int)), none] [] g) r2 (fun m g3 m8 w => ?_) (fun g3 f3 w3 => ?_) 8 0 g (by omega) (fun _ _ _ => rfl) (fun f hf => by omega)
    · refine B_X7_alike_25 ⟨fun q => by omega, fun _ => ⟨by omega, by omega, ?_⟩⟩
      rw [w32e (by omega) (by omega)]
      exact w
    · have fz3 : fZ g g3 := ⟨fun b qb => f3 b (by omega) (by omega), fun j _ => by rw [f3 294 (by omega) (by omega)]⟩
      have I3 := INV_fZ I2 fz3
      have e295 : g3 295 = h 295 := by rw [f3 295 (by omega) (by omega), f2.1 295 (by omega)]
      refine B_X7_alike_25 ⟨fun _ => c_X7_readS (D := D) I3 q2.1 (by rw [e295]; exact q2.2) (fun g4 f4 I4 r4 => ?_), fun q => by omega⟩
      rw [e295] at r4
      have kk := k g4 (fZ_trans f2 (fZ_trans fz3 (fZ_fS f4)))
      rw [if_pos ⟨q, q2⟩] at kk
      refine l_X7_alike (d := D + 7) (R := rdX (tx t.toNat) (fB8 (h 295)) (h 295 6)) r4 (fun f hf => by rw [f4.1 320 (by omega) (by omega), f4.1 321 (by omega) (by omega)]; exact w3 f hf) ?_ 8 0 (by omega)
      have l1 := told_lt (tx := tx t.toNat)
      have e : (told (tx t.toNat) &&& told (tx u.toNat)) &&& lik (rdX (tx t.toNat) (fB8 (h 295)) (h 295 6)) (rdX (tx u.toNat) (fB8 (h 295)) (h 295 6)) = bset (fun f => !decide (rdX (tx u.toNat) (fB8 (h 295)) (h 295 6) f 3 = 3) && (decide (rdX (tx u.toNat) (fB8 (h 295)) (h 295 6) f 3 = rdX (tx t.toNat) (fB8 (h 295)) (h 295 6) f 3) && decide (rdX (tx u.toNat) (fB8 (h 295)) (h 295 6) f 0 = rdX (tx t.toNat) (fB8 (h 295)) (h 295 6) f 0))) 8 := by
        refine bits_ext (n := 8) (Nat.lt_of_le_of_lt Nat.and_le_right lik_lt) (bset_lt 8) (fun f hf => ?_)
        rw [Nat.testBit_and, Nat.testBit_and, how3 o hf, how3 o2 hf, bset_bit]
        unfold lik
        rw [bset_bit]
        generalize rdX (tx t.toNat) (fB8 (h 295)) (h 295 6) f 3 = a
        generalize rdX (tx u.toNat) (fB8 (h 295)) (h 295 6) f 3 = b
        generalize rdX (tx t.toNat) (fB8 (h 295)) (h 295 6) f 0 = v
        generalize rdX (tx u.toNat) (fB8 (h 295)) (h 295 6) f 0 = w
        by_cases h1 : b = a
        · subst h1
          by_cases h2 : w = v
          · subst h2; simp [hf]
          · have h2' : ¬ v = w := fun z => h2 z.symm
            simp [h2, h2']
        · have h1' : ¬ a = b := fun z => h1 z.symm
          simp [h1, h1']
      rw [e] at kk
      exact kk
  · have kk := k h fZ_refl
    rw [if_neg (fun y => q2 y.2)] at kk; exact kk
  · have kk := k h fZ_refl
    rw [if_neg (fun y => q y.1)] at kk; exact kk
end ASKF
