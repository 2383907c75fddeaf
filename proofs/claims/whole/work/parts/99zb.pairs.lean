section PAIRS
variable {d D : Nat} {h : am_H} {K : Int → Int → am_H → Prop} {tx : Nat → List Cl}
theorem p_order {t i : Int} (I : INV h tx) (k : ∀ g r, INV g tx → K r r g) : cf (D + 14) M_X6_order [.inr (.inr 1), .inl t, .inl i] h (fun r6 g6 => cf (D + 14) M_X7_order [.inr (.inr 294), .inl t, .inl i] g6 (fun r7 g7 => K r6 r7 g7)) :=
  c_X6_order (d := D + 13) I (c_X7_order (d := D + 11) I (fun g2 f2 => k g2 _ (INV_fZ I f2)))
theorem p_ring {t : Int} (I : INV h tx) (k : ∀ g r, INV g tx → K r r g) : cf (D + 14) M_X6_ring [.inr (.inr 1), .inl t] h (fun r6 g6 => cf (D + 14) M_X7_ring [.inr (.inr 294), .inl t] g6 (fun r7 g7 => K r6 r7 g7)) :=
  c_X6_ring (d := D + 13) I (c_X7_ring (d := D + 11) I (fun g2 f2 => k g2 _ (INV_fZ I f2)))
theorem p_kind {t f : Int} (I : INV h tx) (k : ∀ g r, INV g tx → K r r g) : cf (D + 14) M_X6_kind [.inr (.inr 1), .inl t, .inl f] h (fun r6 g6 => cf (D + 14) M_X7_kind [.inr (.inr 294), .inl t, .inl f] g6 (fun r7 g7 => K r6 r7 g7)) :=
  c_X6_kind (d := D + 13) I (c_X7_kind (d := D + 11) I (fun g2 f2 => k g2 _ (INV_fZ I f2)))
theorem p_field {t f w : Int} (I : INV h tx) (k : ∀ g r, INV g tx → K r r g) : cf (D + 14) M_X6_field [.inr (.inr 1), .inl t, .inl f, .inl w] h (fun r6 g6 => cf (D + 14) M_X7_field [.inr (.inr 294), .inl t, .inl f, .inl w] g6 (fun r7 g7 => K r6 r7 g7)) :=
  c_X6_field (D := D + 1) I (fun g f1 => c_X7_field (D := D + 6) (INV_fX I f1) (fun g2 f2 => by rw [f1.1 295 (by omega)]; exact k g2 _ (INV_fZ (INV_fX I f1) f2)))
theorem p_must {t : Int} (I : INV h tx) (k : ∀ g r, INV g tx → K r r g) : cf (D + 14) M_X6_must [.inr (.inr 1), .inl t] h (fun r6 g6 => cf (D + 14) M_X7_must [.inr (.inr 294), .inl t] g6 (fun r7 g7 => K r6 r7 g7)) :=
  c_X6_must (D := D + 1) I (fun g f1 => c_X7_must (D := D + 6) (INV_fX I f1) (fun g2 f2 => by rw [f1.1 295 (by omega)]; exact k g2 _ (INV_fZ (INV_fX I f1) f2)))
theorem p_deep {t : Int} (I : INV h tx) (k : ∀ g r, INV g tx → K r r g) : cf (D + 14) M_X6_deep [.inr (.inr 1), .inl t] h (fun r6 g6 => cf (D + 14) M_X7_deep [.inr (.inr 294), .inl t] g6 (fun r7 g7 => K r6 r7 g7)) :=
  c_X6_deep (D := D + 1) I (fun g f1 => c_X7_deep (D := D + 6) (INV_fX I f1) (fun g2 f2 => by rw [f1.1 295 (by omega)]; exact k g2 _ (INV_fZ (INV_fX I f1) f2)))
theorem p_valid {t : Int} (I : INV h tx) (k : ∀ g r, INV g tx → K r r g) : cf (D + 14) M_X6_valid [.inr (.inr 1), .inl t] h (fun r6 g6 => cf (D + 14) M_X7_valid [.inr (.inr 294), .inl t] g6 (fun r7 g7 => K r6 r7 g7)) :=
  c_X6_valid (D := D + 1) I (fun g f1 => c_X7_valid (D := D + 6) (INV_fX I f1) (fun g2 f2 => by rw [f1.1 295 (by omega)]; exact k g2 _ (INV_fZ (INV_fX I f1) f2)))
theorem p_overlap {t f : Int} (I : INV h tx) (k : ∀ g r, INV g tx → K r r g) : cf (D + 14) M_X6_overlap [.inr (.inr 1), .inl t, .inl f] h (fun r6 g6 => cf (D + 14) M_X7_overlap [.inr (.inr 294), .inl t, .inl f] g6 (fun r7 g7 => K r6 r7 g7)) :=
  c_X6_overlap (D := D + 1) I (fun g f1 => c_X7_overlap (D := D + 6) (INV_fX I f1) (fun g2 f2 => by rw [f1.1 295 (by omega)]; exact k g2 _ (INV_fZ (INV_fX I f1) f2)))
theorem p_loose {t : Int} (I : INV h tx) (k : ∀ g r, INV g tx → K r r g) : cf (D + 14) M_X6_loose [.inr (.inr 1), .inl t] h (fun r6 g6 => cf (D + 14) M_X7_loose [.inr (.inr 294), .inl t] g6 (fun r7 g7 => K r6 r7 g7)) :=
  c_X6_loose (D := D + 1) I (fun g f1 => c_X7_loose (D := D + 6) (INV_fX I f1) (fun g2 f2 => by rw [f1.1 295 (by omega)]; exact k g2 _ (INV_fZ (INV_fX I f1) f2)))
theorem p_needs {t f : Int} (I : INV h tx) (k : ∀ g r, INV g tx → K r r g) : cf (D + 14) M_X6_needs [.inr (.inr 1), .inl t, .inl f] h (fun r6 g6 => cf (D + 14) M_X7_needs [.inr (.inr 294), .inl t, .inl f] g6 (fun r7 g7 => K r6 r7 g7)) :=
  c_X6_needs (D := D + 1) I (fun g f1 => c_X7_needs (D := D + 6) (INV_fX I f1) (fun g2 f2 _ => by rw [f1.1 295 (by omega)]; exact k g2 _ (INV_fZ (INV_fX I f1) f2)))
theorem p_alike {t u : Int} (I : INV h tx) (k : ∀ g r, INV g tx → K r r g) : cf (D + 14) M_X6_alike [.inr (.inr 1), .inl t, .inl u] h (fun r6 g6 => cf (D + 14) M_X7_alike [.inr (.inr 294), .inl t, .inl u] g6 (fun r7 g7 => K r6 r7 g7)) :=
  c_X6_alike (D := D + 1) I (fun g f1 => c_X7_alike (D := D + 6) (INV_fX I f1) (fun g2 f2 => by rw [f1.1 295 (by omega)]; exact k g2 _ (INV_fZ (INV_fX I f1) f2)))
theorem p_flips {t p : Int} (I : INV h tx) (k : ∀ g r, INV g tx → K r r g) : cf (D + 14) M_X6_flips [.inr (.inr 1), .inl t, .inl p] h (fun r6 g6 => cf (D + 14) M_X7_flips [.inr (.inr 294), .inl t, .inl p] g6 (fun r7 g7 => K r6 r7 g7)) :=
  c_X6_flips (D := D + 1) I (fun g f1 => c_X7_flips (D := D + 6) (INV_fX I f1) (fun g2 f2 => by rw [f1.1 295 (by omega)]; exact k g2 _ (INV_fZ (INV_fX I f1) f2)))
theorem p_make {t f v : Int} (I : INV h tx) (k : ∀ g r, INV g tx → K r r g) : cf (D + 14) M_X6_make [.inr (.inr 1), .inl t, .inl f, .inl v] h (fun r6 g6 => cf (D + 14) M_X7_make [.inr (.inr 294), .inl t, .inl f, .inl v] g6 (fun r7 g7 => K r6 r7 g7)) :=
  c_X6_make (D := D) I (fun g f1 => c_X7_make (D := D + 5) (INV_fX I f1) (fun g2 f2 => by rw [f1.1 295 (by omega)]; exact k g2 _ (INV_fZ (INV_fX I f1) f2)))
theorem p_least {t : Int} (I : INV h tx) (k : ∀ g r, INV g tx → K r r g) : cf (D + 14) M_X6_least [.inr (.inr 1), .inl t] h (fun r6 g6 => cf (D + 14) M_X7_least [.inr (.inr 294), .inl t] g6 (fun r7 g7 => K r6 r7 g7)) :=
  c_X6_least (D := D + 1) I (fun g f1 => c_X7_least (D := D + 7) (INV_fX I f1) (fun g2 f2 => by rw [f1.1 295 (by omega)]; exact k g2 _ (INV_fZ (INV_fX I f1) f2)))
theorem p_whose (I : INV h tx) (k : ∀ g r, INV g tx → K r r g) : cf (D + 14) M_X6_whose [.inr (.inr 1)] h (fun r6 g6 => cf (D + 14) M_X7_whose [.inr (.inr 294)] g6 (fun r7 g7 => K r6 r7 g7)) :=
  c_X6_whose (D := D) I (fun g f1 => c_X7_whose (D := D + 6) (INV_fX I f1) (fun g2 f2 => by rw [f1.1 295 (by omega)]; exact k g2 _ (INV_fZ (INV_fX I f1) f2)))
theorem p_sure {t f : Int} (I : INV h tx) (k : ∀ g r, INV g tx → K r r g) : cf (D + 14) M_X6_sure [.inr (.inr 1), .inl t, .inl f] h (fun r6 g6 => cf (D + 14) M_X7_sure [.inr (.inr 294), .inl t, .inl f] g6 (fun r7 g7 => K r6 r7 g7)) :=
  c_X6_sure (d := D + 9) I (fun g f1 => c_X7_sure (d := D + 10) (INV_fX I f1) (fun g2 f2 => by rw [f1.1 295 (by omega)]; exact k g2 _ (INV_fZ (INV_fX I f1) f2)))
theorem p_inside {t f g0 w : Int} (I : INV h tx) (k : ∀ g r, INV g tx → K r r g) : cf (D + 14) M_X6_inside [.inr (.inr 1), .inl t, .inl f, .inl g0, .inl w] h (fun r6 g6 => cf (D + 14) M_X7_inside [.inr (.inr 294), .inl t, .inl f, .inl g0, .inl w] g6 (fun r7 g7 => K r6 r7 g7)) :=
  c_X6_inside (D := D + 1) I (fun g f1 => c_X7_inside (D := D + 6) (INV_fX I f1) (fun g2 f2 => by rw [f1.1 295 (by omega)]; exact k g2 _ (INV_fZ (INV_fX I f1) f2)))
theorem p_foretold {n p : Int} (I : INV h tx) (k : ∀ g r, INV g tx → K r r g) : cf (D + 14) M_X6_foretold [.inr (.inr 1), .inl n, .inl p] h (fun r6 g6 => cf (D + 14) M_X7_foretold [.inr (.inr 294), .inl n, .inl p] g6 (fun r7 g7 => K r6 r7 g7)) :=
  c_X6_foretold (d := D + 8) I (fun g f1 => c_X7_foretold (d := D + 8) (INV_fX I f1) (fun g2 f2 => by
    rw [f1.1 295 (by omega)]
    refine k g2 _ ?_
    rcases f2 with f2 | f2
    · exact INV_fZ (INV_fX I f1) f2
    · exact INV_fZ (INV_50 (INV_fX I f1) (by decide)) f2))
end PAIRS
