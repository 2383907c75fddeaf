section PAIRS8
variable {d D : Nat} {h : am_H} {K : Int → Int → am_H → Prop} {tx : Nat → List Cl}
theorem p_image (I : INV h tx) (k : ∀ g r, INV g tx → K r r g) : cf (D + 14) M_X6_image [.inr (.inr 1)] h (fun r6 g6 => cf (D + 14) M_X7_image [.inr (.inr 294)] g6 (fun r7 g7 => K r6 r7 g7)) := by
  have I0 := I
  obtain ⟨i1, i2, i3, i4, i5, i6, i7, i8, i9, i10⟩ := I
  have t4 := i2.1.2
  refine c_X6_image (d := D + 11) i1 i2 (fun g f r => c_X7_image (d := D + 13) ?_)
  have e295 : g 295 = h 295 := f 295 (by omega)
  have e296 : g 296 = h 296 := f 296 (by omega)
  rw [e295, e296]
  have cc : ∀ j : Int, 0 ≤ j → j < 2159 → ccp (h 295) (h 296) j = h 295 j := fun j j0 j1 => ccp_in j0 j1
  generalize hu : am_row g 296 (ccp (h 295) (h 296)) = u
  have u0 : ∀ b : Int, b ≠ 296 → u b = g b := fun b q => by rw [← hu]; exact row_ne q
  have u296 : u 296 = ccp (h 295) (h 296) := by rw [← hu]; exact row_at
  have uf : ∀ b : Int, b ≠ 296 → (b < 101 ∨ 197 < b) → u b = h b := fun b q q2 => (u0 b q).trans (f b (by omega))
  refine k u _ ?_
  unfold INV
  rw [u296, uf 295 (by omega) (by omega), uf 1 (by omega) (by omega), uf 2 (by omega) (by omega), uf 294 (by omega) (by omega), uf 298 (by omega) (by omega), uf 218 (by omega) (by omega)]
  refine ⟨srep_fr i1 (fun b q q2 => uf b (by omega) (by omega)), i2, srep_eq (srep_fr r (fun b q q2 => u0 b (by omega))) i2 cc, oka_eq i2 cc, by rw [cc 0 (by omega) (by omega)]; exact Int.le_refl _, i6, ⟨i7.1, okP_congr i7.2 (by rw [uf 218 (by omega) (by omega)]) (by rw [uf 218 (by omega) (by omega)]) (uf 199 (by omega) (by omega)) (uf 240 (by omega) (by omega))⟩, i8, ⟨i9.1, i9.2.1, sok_of i9.2.1 i2 (cc 3 (by omega) (by omega)) (fun j j0 j1 => cc j (by omega) (by omega))⟩, fun i hi => ⟨ctx_congr (i10 i hi).1 (fun b q q2 => uf b (by omega) (by omega)), rtx_congr (i10 i hi).2.1 (uf 297 (by omega) (by omega)), (i10 i hi).2.2⟩⟩
theorem p_back (I : INV h tx) (k : ∀ g r, INV g tx → K r r g) : cf (D + 14) M_X6_back [.inr (.inr 1)] h (fun r6 g6 => cf (D + 14) M_X7_back [.inr (.inr 294)] g6 (fun r7 g7 => K r6 r7 g7)) := by
  obtain ⟨i1, i2, i3, i4, i5, i6, i7, i8, i9, i10⟩ := I
  have t4 := i2.1.2
  refine c_X6_back (d := D + 11) i3 i4 (fun g f r => c_X7_back (d := D + 13) ?_)
  have e295 : g 295 = h 295 := f 295 (by omega)
  have e296 : g 296 = h 296 := f 296 (by omega)
  rw [e295, e296]
  have cc : ∀ j : Int, 0 ≤ j → j < 2159 → ccp (h 296) (h 295) j = h 296 j := fun j j0 j1 => ccp_in j0 j1
  generalize hu : am_row g 295 (ccp (h 296) (h 295)) = u
  have u0 : ∀ b : Int, b ≠ 295 → u b = g b := fun b q => by rw [← hu]; exact row_ne q
  have u295 : u 295 = ccp (h 296) (h 295) := by rw [← hu]; exact row_at
  have uf : ∀ b : Int, b ≠ 295 → (b < 4 ∨ 100 < b) → u b = h b := fun b q q2 => (u0 b q).trans (f b (by omega))
  refine k u _ ?_
  unfold INV
  rw [u295, uf 296 (by omega) (by omega), uf 1 (by omega) (by omega), uf 2 (by omega) (by omega), uf 294 (by omega) (by omega), uf 298 (by omega) (by omega), uf 218 (by omega) (by omega)]
  refine ⟨srep_eq (srep_fr r (fun b q q2 => u0 b (by omega))) i4 cc, oka_eq i4 cc, srep_fr i3 (fun b q q2 => uf b (by omega) (by omega)), i4, by rw [cc 0 (by omega) (by omega)]; exact Int.le_refl _, i6, ⟨i7.1, okP_congr i7.2 (by rw [uf 218 (by omega) (by omega)]) (by rw [uf 218 (by omega) (by omega)]) (uf 199 (by omega) (by omega)) (uf 240 (by omega) (by omega))⟩, i8, ⟨i9.1, sok_of i9.2.2 i4 (cc 3 (by omega) (by omega)) (fun j j0 j1 => cc j (by omega) (by omega)), i9.2.2⟩, fun i hi => ?_⟩
  rw [cc 0 (by omega) (by omega)] at hi
  have z := i10 i (by omega)
  exact ⟨ctx_congr z.1 (fun b q q2 => uf b (by omega) (by omega)), rtx_congr z.2.1 (uf 297 (by omega) (by omega)), z.2.2⟩
end PAIRS8
