section PLAYED5
variable {d D : Nat} {h : am_H} {Q : Int → am_H → Prop} {tx : Nat → List Cl} {α : Int → Int}
theorem c_X6_played {u : Int} (I : INV h tx) (k1 : isT (h 295) u → ∀ g, fE2 h g → srep g 4 (plyS tx (tx u.toNat) (h 295)) → Q (plyI tx (tx u.toNat) 0 (h 295)) g) (k0 : ¬ isT (h 295) u → Q (-2) h) : cf (D + 14) M_X6_played [.inr (.inr 1), .inl u] h Q := by
  have h7 := I.2.2.2.2.2.2.1
  refine cf_of pX6 (Nat.le_of_ble_eq_true rfl) rfl (fun _ => B_X6_played_0 (c6_textAt I (fun q => ⟨by have := q.1; omega, fun _ => ?_, fun c => by have := q.1; omega⟩) (fun q => ⟨by omega, fun c => by omega, fun _ => k0 q⟩)))
  obtain ⟨z1, z2, z3, z4, z5⟩ := INV_t I q.1 q.2
  exact l_X6_played (D := D) z5 (by have := q.1; omega) z1 z3 h7.1 h7.2 (INV_rul I) I.1.2.2.2.2.1 (k1 q) (tx u.toNat).length 0 (h 295) h (by omega) fE2_refl I.1 I.2.1 rfl rfl rfl rfl
theorem plyS_ok : ∀ (l : List Cl) (α : Int → Int), oka α → oka (plyS tx l α) ∧ ∀ j : Int, j = 0 ∨ j = 1 ∨ j = 3 ∨ (48 ≤ j ∧ j < 64) → plyS tx l α j = α j
  | [], α, ha => ⟨ha, fun _ _ => rfl⟩
  | c :: l, α, ha => by
    have so := actS_ok (tx := tx) (c := c) ha
    simp only [plyS]
    split
    · have i := plyS_ok l _ so.1
      exact ⟨i.1, fun j hj => (i.2 j hj).trans (so.2 j hj)⟩
    · exact so
/-- THE INVARIANT behind a change on both sides: first the class (g), then the reference (g2) -/
theorem INV_both {g g2 : am_H} {β : Int → Int} (I : INV h tx) (f : fE2 h g) (r : srep g 4 β) (ob : oka β) (f2 : fN7 g g2) (e : g2 295 = β) (e0 : β 0 = h 295 0) (es : sok β) : INV g2 tx := by
  obtain ⟨i1, i2, i3, i4, i5, i6, i7, i8, i9, i10⟩ := I
  have t4 := i2.1.2
  have c : ∀ b : Int, b < 4 ∨ (100 < b ∧ b < 218) ∨ (235 ≤ b ∧ b < 240) ∨ (242 ≤ b ∧ b < 294) ∨ (296 ≤ b ∧ b ≤ 298) → g2 b = h b := fun b q => (f2.1 b (by omega)).trans (f.1 b (by omega))
  have n : ∀ j : Int, j = 4 ∨ j = 5 ∨ j = 6 ∨ j = 50 → g2 294 j = h 294 j := fun j q => by rw [f2.2 j q, f.1 294 (by omega)]
  have og := f.2.2 i7.2
  unfold INV
  rw [e, e0, c 296 (by omega), c 1 (by omega), c 2 (by omega), c 298 (by omega), n 4 (by omega), n 5 (by omega), n 6 (by omega), n 50 (by omega)]
  refine ⟨srep_fr r (fun b q q2 => f2.1 b (by omega)), ob, srep_fr i3 (fun b q q2 => c b (by omega)), i4, i5, i6, ⟨by rw [f2.1 218 (by omega), f.2.1]; exact i7.1, okP_congr og (by rw [f2.1 218 (by omega)]) (by rw [f2.1 218 (by omega)]) (f2.1 199 (by omega)) (f2.1 240 (by omega))⟩, i8, ⟨i9.1, es, i9.2.2⟩, fun i hi => ⟨ctx_congr (i10 i hi).1 (fun b q q2 => c b (by omega)), rtx_congr (i10 i hi).2.1 (c 297 (by omega)), (i10 i hi).2.2⟩⟩
/-- what is said stays -/
theorem sok_of {β : Int → Int} (s : sok α) (ha : oka α) (e3 : β 3 = α 3) (e : ∀ j : Int, 48 ≤ j → j < 64 → β j = α j) : sok β := fun i i0 i1 => by
  have a3 := ha.2.2.2.1
  rw [e3] at i1
  rw [e _ (by omega) (by omega)]
  exact s i i0 i1
end PLAYED5
