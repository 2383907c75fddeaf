section PAIRS5
variable {d D : Nat} {h : am_H} {K : Int → Int → am_H → Prop} {tx : Nat → List Cl}
theorem p_by {t : Int} (I : INV h tx) (k : ∀ g r, INV g tx → K r r g) : cf (D + 14) M_X6_by [.inr (.inr 1), .inl t] h (fun r6 g6 => cf (D + 14) M_X7_by [.inr (.inr 294), .inl t] g6 (fun r7 g7 => K r6 r7 g7)) := by
  have ha := I.2.1
  refine c_X6_by (d := D + 13) I.1 ha (fun t0 t1 g f r => ?_) (fun c => c_X7_by (d := D + 13) ha (fun t0 t1 => absurd ⟨t0, t1⟩ c) (fun _ => k h _ I))
  have e295 : g 295 = h 295 := f 295 (by omega)
  refine c_X7_by (d := D + 13) (by rw [e295]; exact ha) (fun _ _ => ?_) (fun c => absurd (by rw [e295]; exact ⟨t0, t1⟩) c)
  rw [e295]
  exact k _ _ (INV_both I (fE2_D (fD_S f)) r (oka_by ha t0 t1) fN7_row row_at (up1_ne (by omega)) (sok_of (INV_sok I) ha (up1_ne (by omega)) (fun j j0 j1 => up1_ne (by omega))))
theorem p_said {f v : Int} (I : INV h tx) (k : ∀ g r, INV g tx → K r r g) : cf (D + 14) M_X6_said [.inr (.inr 1), .inl f, .inl v] h (fun r6 g6 => cf (D + 14) M_X7_said [.inr (.inr 294), .inl f, .inl v] g6 (fun r7 g7 => K r6 r7 g7)) := by
  have ha := I.2.1
  have a3 := ha.2.2.2.1
  have so := INV_sok I
  refine c_X6_said I.1 ha (fun fz g fr r => ?_) (fun fz c g fr r => ?_) (fun fz c => c_X7_said (d := D + 12) ha (fun y => absurd y fz) (fun _ c2 => absurd c2 c) (fun _ _ => k h _ I))
  · have e295 : g 295 = h 295 := fr 295 (by omega)
    refine c_X7_said (d := D + 12) (by rw [e295]; exact ha) (fun _ => ?_) (fun y => absurd fz y) (fun y => absurd fz y)
    rw [e295]
    exact k _ _ (INV_both I (fE2_D (fD_S fr)) r (oka_saidz ha) fN7_row row_at (up1_ne (by omega)) (fun i i0 i1 => by rw [up1_at] at i1; omega))
  · have e295 : g 295 = h 295 := fr 295 (by omega)
    refine c_X7_said (d := D + 12) (by rw [e295]; exact ha) (fun y => absurd y fz) (fun _ _ => ?_) (fun _ c2 => absurd (by rw [e295]; exact c) c2)
    rw [e295]
    refine k _ _ (INV_both I (fE2_D (fD_S fr)) r (oka_said ha c.2.2) fN7_row row_at ?_ (fun i i0 i1 => ?_))
    · unfold s_said
      rw [up1_ne (by omega), up1_ne (by omega), up1_ne (by omega)]
    · unfold s_said at i1 ⊢
      rw [up1_at] at i1
      rw [up1_ne (by omega)]
      by_cases z : i = h 295 3
      · rw [z, up1_ne (by omega), up1_at]; exact c.1
      · rw [up1_ne (by omega), up1_ne (by omega)]; exact so i i0 (by omega)
end PAIRS5
