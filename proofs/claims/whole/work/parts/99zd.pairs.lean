section PAIRS3
variable {d D : Nat} {h : am_H} {K : Int → Int → am_H → Prop} {tx : Nat → List Cl}
theorem p_set {p v : Int} (I : INV h tx) (k : ∀ g r, INV g tx → K r r g) : cf (D + 14) M_X6_set [.inr (.inr 1), .inl p, .inl v] h (fun r6 g6 => cf (D + 14) M_X7_set [.inr (.inr 294), .inl p, .inl v] g6 (fun r7 g7 => K r6 r7 g7)) := by
  have ha := I.2.1
  have o6 := ok6 ha
  refine c_X6_set (d := D + 11) I.1 ha (fun c g f r => ?_) (fun c => c_X7_set (d := D + 11) I.2.2.2.2.2.1 ha (fun c2 => absurd c2 c) (fun _ => k h _ I))
  have e295 : g 295 = h 295 := f 295 (by omega)
  refine c_X7_set (d := D + 11) (by rw [f 294 (by omega)]; exact I.2.2.2.2.2.1) (by rw [e295]; exact ha) (fun c2 => ?_) (fun c2 => absurd (by rw [e295]; exact c) c2)
  rw [e295]
  have hp : 0 ≤ p ∧ p < 40 := ⟨c.1, by have := c.2.1; omega⟩
  exact k _ _ (INV_both I (fE2_D (fD_S f)) r (oka_set ha c) fN7_row row_at (s_set_lo ha hp (by omega)) (sok_of (INV_sok I) ha (s_set_lo ha hp (by omega)) (fun j j0 j1 => s_set_lo ha hp (by omega))))
theorem p_size {n : Int} (I : INV h tx) (k : ∀ g r, INV g tx → K r r g) : cf (D + 14) M_X6_size [.inr (.inr 1), .inl n] h (fun r6 g6 => cf (D + 14) M_X7_size [.inr (.inr 294), .inl n] g6 (fun r7 g7 => K r6 r7 g7)) := by
  have ha := I.2.1
  refine c_X6_size (d := D + 11) I.1 ha (fun c g f r => ?_) (fun c => c_X7_size (d := D + 11) I.2.2.2.2.2.1 ha (fun c2 => absurd c2 c) (fun _ => k h _ I))
  have e295 : g 295 = h 295 := f 295 (by omega)
  refine c_X7_size (d := D + 11) (by rw [f 294 (by omega)]; exact I.2.2.2.2.2.1) (by rw [e295]; exact ha) (fun c2 => ?_) (fun c2 => absurd (by rw [e295]; exact c) c2)
  rw [e295]
  have hn : 0 ≤ n ∧ n ≤ 40 := ⟨c.1, c.2.1⟩
  exact k _ _ (INV_both I (fE2_D (fD_S f)) r (oka_size ha c) fN7_row row_at (s_size_lo ha hn (by omega)) (sok_of (INV_sok I) ha (s_size_lo ha hn (by omega)) (fun j j0 j1 => s_size_lo ha hn (by omega))))
theorem p_undo (I : INV h tx) (k : ∀ g r, INV g tx → K r r g) : cf (D + 14) M_X6_undo [.inr (.inr 1)] h (fun r6 g6 => cf (D + 14) M_X7_undo [.inr (.inr 294)] g6 (fun r7 g7 => K r6 r7 g7)) := by
  have ha := I.2.1
  refine c_X6_undo (d := D + 11) I.1 ha (fun c => c_X7_undo (d := D + 14) ha.2.2.1 (fun _ => k h _ I) (fun c2 => by omega)) (fun c g f r => ?_)
  have e295 : g 295 = h 295 := f 295 (by omega)
  refine c_X7_undo (d := D + 14) (by rw [e295]; exact ha.2.2.1) (fun c2 => by rw [e295] at c2; omega) (fun _ => ?_)
  rw [e295]
  have lo : ∀ j : Int, j = 0 ∨ j = 1 ∨ j = 3 ∨ (48 ≤ j ∧ j < 64) → ru_ (h 295) j = h 295 j := fun j hj => ru_lo (by have := ha.2.2.1; omega) (by omega)
  exact k _ _ (INV_both I (fE2_D (fD_S f)) r (oka_ru ha c) fN7_row row_at (lo 0 (by omega)) (sok_of (INV_sok I) ha (lo 3 (by omega)) (fun j j0 j1 => lo j (by omega))))
end PAIRS3
