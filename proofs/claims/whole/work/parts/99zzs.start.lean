/-! THE SYSTEM AT THE BEGINNING: the invariant -/
theorem cur_z {j : Int} (h0 : 0 ≤ j) : cur rowZ j = if j = 1 then 479 else 0 := by
  unfold cur mv
  by_cases c : j < 44
  · rw [if_pos c]
    unfold rowZ
    rw [if_neg (by omega)]
    by_cases q : j = 1
    · rw [if_pos q, if_pos (by omega)]
    · rw [if_neg q, if_neg (by omega)]
  · rw [if_neg c, if_neg (by omega)]
    unfold rowZ
    rw [if_neg (by omega), if_neg (by omega)]
theorem cur_z0 {j : Int} (h0 : 0 ≤ j) (h1 : j ≠ 1) : cur rowZ j = 0 := by rw [cur_z h0, if_neg h1]
theorem oka_z : oka rowZ := by
  have c0 : rowZ 0 = 0 := rfl
  have c1 : rowZ 1 = -1 := rfl
  have c2 : rowZ 2 = 0 := rfl
  have c3 : rowZ 3 = 0 := rfl
  have m0 : cur rowZ 0 = 0 := cur_z0 (by omega) (by omega)
  have m1 : cur rowZ 1 = 479 := by rw [cur_z (by omega), if_pos rfl]
  have m2 : cur rowZ 2 = 0 := cur_z0 (by omega) (by omega)
  have m3 : cur rowZ 3 = 0 := cur_z0 (by omega) (by omega)
  refine ⟨by omega, by omega, by omega, by omega, ⟨by omega, by omega, by omega, by omega, fun i q1 q2 => ?_, fun i q1 q2 => ?_⟩, fun k q1 q2 => by omega⟩
  · rw [cur_z0 (by omega) (by omega)]
    omega
  · exact cur_z0 (by omega) (by omega)
theorem srep_z {h : am_H} {s : Int} (hs : ∀ j : Int, h s j = HZr 14 s j) (hm : ∀ j : Int, h (s + 1) j = HZr 10 (s + 1) j) (hb : ∀ j : Int, h (s + 1 + 1) j = 0) : srep h s rowZ := by
  have c0 : rowZ 0 = 0 := rfl
  have c1 : rowZ 1 = -1 := rfl
  have c2 : rowZ 2 = 0 := rfl
  have c3 : rowZ 3 = 0 := rfl
  have m0 : cur rowZ 0 = 0 := cur_z0 (by omega) (by omega)
  have m1 : cur rowZ 1 = 479 := by rw [cur_z (by omega), if_pos rfl]
  have m2 : cur rowZ 2 = 0 := cur_z0 (by omega) (by omega)
  have m3 : cur rowZ 3 = 0 := cur_z0 (by omega) (by omega)
  have s2 : h s 2 = 0 := (hs 2).trans rfl
  refine ⟨⟨?_, ?_, ?_, ?_, fun i q1 q2 => ?_, fun j q1 q2 => by omega⟩, ?_, by omega, fun k q1 q2 => by omega, ?_, ?_, ?_, fun i q1 q2 => by omega⟩
  · rw [m0]; exact (hm 4).trans rfl
  · rw [m1]; exact (hm 5).trans rfl
  · rw [m2]; exact (hm 3).trans rfl
  · rw [m3]; exact (hm 2).trans rfl
  · rw [hb, cur_z0 (by omega) (by omega)]
  · rw [c2]; exact (hs 3).trans rfl
  · rw [c0]; exact (hs 4).trans rfl
  · rw [c1]; exact (hs 5).trans rfl
  · rw [c3]; exact (hs 8).trans rfl
theorem inv_start {h : am_H} (Z : ∀ b j : Int, 1 ≤ b → b ≤ 321 → b ≠ 295 → b ≠ 296 → h b j = ZZ b j) (r1 : ∀ j : Int, h 295 j = rowZ j) (r2 : ∀ j : Int, h 296 j = rowZ j) : INV h (fun _ => []) := by
  have e1 : h 295 = rowZ := funext r1
  have e2 : h 296 = rowZ := funext r2
  have c0 : rowZ 0 = 0 := rfl
  have c3 : rowZ 3 = 0 := rfl
  have z4 : ∀ j : Int, h 4 j = HZr 14 4 j := fun j => (Z 4 j (by omega) (by omega) (by omega) (by omega)).trans (ZZ_at (m := 3) rfl (by omega) (show am_sh 3 = (14, 9) by decide +kernel))
  have z5 : ∀ j : Int, h 5 j = HZr 10 5 j := fun j => (Z 5 j (by omega) (by omega) (by omega) (by omega)).trans (ZZ_at (m := 4) rfl (by omega) (show am_sh 4 = (10, 6) by decide +kernel))
  have z6 : ∀ j : Int, h 6 j = 0 := fun j => (Z 6 j (by omega) (by omega) (by omega) (by omega)).trans (ZZ_at (m := 5) rfl (by omega) (show am_sh 5 = (0, 40) by decide +kernel))
  have z101 : ∀ j : Int, h 101 j = HZr 14 101 j := fun j => (Z 101 j (by omega) (by omega) (by omega) (by omega)).trans (ZZ_at (m := 100) rfl (by omega) (show am_sh 100 = (14, 9) by decide +kernel))
  have z102 : ∀ j : Int, h 102 j = HZr 10 102 j := fun j => (Z 102 j (by omega) (by omega) (by omega) (by omega)).trans (ZZ_at (m := 101) rfl (by omega) (show am_sh 101 = (10, 6) by decide +kernel))
  have z103 : ∀ j : Int, h 103 j = 0 := fun j => (Z 103 j (by omega) (by omega) (by omega) (by omega)).trans (ZZ_at (m := 102) rfl (by omega) (show am_sh 102 = (0, 40) by decide +kernel))
  have z1 : ∀ j : Int, h 1 j = HZr 16 1 j := fun j => (Z 1 j (by omega) (by omega) (by omega) (by omega)).trans (ZZ_at (m := 0) rfl (by omega) (show am_sh 0 = (16, 10) by decide +kernel))
  have z218 : ∀ j : Int, h 218 j = HZr 12 218 j := fun j => (Z 218 j (by omega) (by omega) (by omega) (by omega)).trans (ZZ_at (m := 217) rfl (by omega) (show am_sh 217 = (12, 14) by decide +kernel))
  have z199 : ∀ j : Int, h 199 j = 0 := fun j => (Z 199 j (by omega) (by omega) (by omega) (by omega)).trans (ZZ_at (m := 198) rfl (by omega) (show am_sh 198 = (0, 40) by decide +kernel))
  have z240 : ∀ j : Int, h 240 j = 0 := fun j => (Z 240 j (by omega) (by omega) (by omega) (by omega)).trans (ZZ_at (m := 239) rfl (by omega) (show am_sh 239 = (0, 40) by decide +kernel))
  have z294 : ∀ j : Int, h 294 j = HZr 17 294 j := fun j => (Z 294 j (by omega) (by omega) (by omega) (by omega)).trans (ZZ_at (m := 293) rfl (by omega) (show am_sh 293 = (17, 55) by decide +kernel))
  have x1 : h 1 1 = 0 := (z1 1).trans rfl
  have x2 : h 1 2 = -1 := (z1 2).trans rfl
  have x3 : h 1 3 = -1 := (z1 3).trans rfl
  have w4 : h 294 4 = 0 := (z294 4).trans rfl
  have w5 : h 294 5 = -1 := (z294 5).trans rfl
  have w6 : h 294 6 = -1 := (z294 6).trans rfl
  have w50 : h 294 50 = 1 := (z294 50).trans rfl
  have y7 : h 218 7 = 240 := (z218 7).trans rfl
  have y8 : h 218 8 = 0 := (z218 8).trans rfl
  have y9 : h 218 9 = 0 := (z218 9).trans rfl
  unfold INV
  rw [e1, e2]
  refine ⟨srep_z z4 z5 z6, oka_z, srep_z z101 z102 z103, oka_z, by omega, by omega, ⟨y9, by omega, Or.inr (Or.inr y7), fun j q1 q2 => ⟨by rw [z199]; omega, by rw [z240]; omega⟩⟩, ⟨by omega, fun i q1 q2 => by omega⟩, ⟨by omega, fun i q1 q2 => by omega, fun i q1 q2 => by omega⟩, fun i q => by omega⟩
