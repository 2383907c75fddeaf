section PAIRS6
variable {d D : Nat} {h : am_H} {K : Int → Int → am_H → Prop} {tx : Nat → List Cl}
theorem INV_tape {g : am_H} (I : INV h tx) (f : ∀ b : Int, b ≠ 1 → b ≠ 2 → b ≠ 294 → b ≠ 298 → g b = h b) (f1 : g 1 2 = h 1 2 ∧ g 1 3 = h 1 3) (f2 : g 294 5 = h 294 5 ∧ g 294 6 = h 294 6 ∧ g 294 50 = h 294 50) (n : g 1 1 = g 294 4 ∧ 0 ≤ g 1 1 ∧ g 1 1 ≤ 300) (tp : tape (g 2) (g 298) (g 1 1)) : INV g tx := by
  obtain ⟨i1, i2, i3, i4, i5, i6, i7, i8, i9, i10⟩ := I
  have t4 := i2.1.2
  have e295 : g 295 = h 295 := f 295 (by omega) (by omega) (by omega) (by omega)
  have e296 : g 296 = h 296 := f 296 (by omega) (by omega) (by omega) (by omega)
  have e218 : g 218 = h 218 := f 218 (by omega) (by omega) (by omega) (by omega)
  unfold INV
  rw [e295, e296, e218, f1.1, f1.2, f2.1, f2.2.1, f2.2.2]
  exact ⟨srep_fr i1 (fun b q q2 => f b (by omega) (by omega) (by omega) (by omega)), i2, srep_fr i3 (fun b q q2 => f b (by omega) (by omega) (by omega) (by omega)), i4, i5, i6, ⟨i7.1, okP_congr i7.2 (by rw [e218]) (by rw [e218]) (f 199 (by omega) (by omega) (by omega) (by omega)) (f 240 (by omega) (by omega) (by omega) (by omega))⟩, ⟨n, tp⟩, i9, fun i hi => ⟨ctx_congr (i10 i hi).1 (fun b q q2 => f b (by omega) (by omega) (by omega) (by omega)), rtx_congr (i10 i hi).2.1 (f 297 (by omega) (by omega) (by omega) (by omega)), (i10 i hi).2.2⟩⟩
theorem p_end {n : Int} (I : INV h tx) (k : ∀ g r, INV g tx → K r r g) : cf (D + 14) M_X6_end [.inr (.inr 1), .inl n] h (fun r6 g6 => cf (D + 14) M_X7_end [.inr (.inr 294), .inl n] g6 (fun r7 g7 => K r6 r7 g7)) := by
  have i8 := I.2.2.2.2.2.2.2.1
  refine c_X6_end (d := D + 14) (fun n0 n1 => ?_) (fun c => c_X7_end (d := D + 13) (fun a b => absurd ⟨a, by rw [i8.1.1]; exact b⟩ c) (fun _ => k h _ I))
  have e4 : am_up h 1 1 n 294 4 = h 294 4 := am_up_ne (by omega)
  refine c_X7_end (d := D + 13) (fun _ _ => ?_) (fun c => absurd ⟨n0, by rw [e4, ← i8.1.1]; exact n1⟩ c)
  have e11 : am_up (am_up h 1 1 n) 294 4 n 1 1 = n := by rw [am_up_ne (by omega), am_up_at]
  refine k _ _ (INV_tape I (fun b q1 q2 q3 q4 => by funext j; rw [am_up_ne (by omega), am_up_ne (by omega)]) ⟨by rw [am_up_ne (by omega), am_up_ne (by omega)], by rw [am_up_ne (by omega), am_up_ne (by omega)]⟩ ⟨by rw [am_up_ne (by omega), am_up_ne (by omega)], by rw [am_up_ne (by omega), am_up_ne (by omega)], by rw [am_up_ne (by omega), am_up_ne (by omega)]⟩ ⟨by rw [e11, am_up_at], by rw [e11]; exact n0, by rw [e11]; omega⟩ ?_)
  rw [e11]
  have r2 : am_up (am_up h 1 1 n) 294 4 n 2 = h 2 := by funext j; rw [am_up_ne (by omega), am_up_ne (by omega)]
  have r298 : am_up (am_up h 1 1 n) 294 4 n 298 = h 298 := by funext j; rw [am_up_ne (by omega), am_up_ne (by omega)]
  rw [r2, r298]
  exact tape_cut i8.2 n1
end PAIRS6
