section PAIRS7
variable {d D : Nat} {h : am_H} {K : Int → Int → am_H → Prop} {tx : Nat → List Cl}
theorem tw_r {o r j n : Int} {τ : Int → Int} (q : o ≠ r) : tw h o r j n τ r = τ := by
  unfold tw
  funext i
  rw [am_up_ne (by omega), row_at]
theorem tw_o {o r j n : Int} {τ : Int → Int} : tw h o r j n τ o j = n := by unfold tw; exact am_up_at _ _ _ _
theorem tw_oj {o r j n i : Int} {τ : Int → Int} (q : o ≠ r) (q2 : i ≠ j) : tw h o r j n τ o i = h o i := by
  unfold tw
  rw [am_up_ne (by omega), row_ne q]
theorem tw_ne {o r j n b : Int} {τ : Int → Int} (q : b ≠ o) (q2 : b ≠ r) : tw h o r j n τ b = h b := by
  unfold tw
  funext i
  rw [am_up_ne (by omega), row_ne q2]
theorem p_feed {a b c e f : Int} (I : INV h tx) (k : ∀ g r, INV g tx → K r r g) : cf (D + 14) M_X6_feed [.inr (.inr 1), .inl a, .inl b, .inl c, .inl e, .inl f] h (fun r6 g6 => cf (D + 14) M_X7_feed [.inr (.inr 294), .inl a, .inl b, .inl c, .inl e, .inl f] g6 (fun r7 g7 => K r6 r7 g7)) := by
  have i8 := I.2.2.2.2.2.2.2.1
  have e0 := i8.1.1
  refine c_X6_feed (d := D + 13) i8.1.2 (fun q => ?_) (fun q => c_X7_feed (by rw [← e0]; exact i8.1.2) (fun q2 => absurd (by rw [e0]; exact q2) q) (fun _ => k h _ I))
  generalize hg : tw h 1 2 1 (h 1 1 + 20) (t20 (h 2) (h 1 1) a b c e f) = g
  have g4 : g 294 4 = h 1 1 := by rw [← hg, tw_ne (by omega) (by omega)]; exact e0.symm
  have g298 : g 298 = h 298 := by rw [← hg, tw_ne (by omega) (by omega)]
  refine c_X7_feed (by rw [g4]; exact i8.1.2) (fun _ => ?_) (fun q2 => absurd (by rw [g4]; exact q) q2)
  rw [g4, g298]
  refine k _ _ (INV_tape I (fun x q1 q2 q3 q4 => by rw [tw_ne q3 q4, ← hg, tw_ne q1 q2]) ⟨?_, ?_⟩ ⟨?_, ?_, ?_⟩ ⟨?_, ?_, ?_⟩ ?_)
  · rw [tw_ne (by omega) (by omega), ← hg, tw_oj (by omega) (by omega)]
  · rw [tw_ne (by omega) (by omega), ← hg, tw_oj (by omega) (by omega)]
  · rw [tw_oj (by omega) (by omega), ← hg, tw_ne (by omega) (by omega)]
  · rw [tw_oj (by omega) (by omega), ← hg, tw_ne (by omega) (by omega)]
  · rw [tw_oj (by omega) (by omega), ← hg, tw_ne (by omega) (by omega)]
  · rw [tw_ne (b := 1) (by omega) (by omega), tw_o, ← hg, tw_o]
  · rw [tw_ne (b := 1) (by omega) (by omega), ← hg, tw_o]; omega
  · rw [tw_ne (b := 1) (by omega) (by omega), ← hg, tw_o]; omega
  · rw [tw_ne (b := 1) (by omega) (by omega), tw_ne (b := 2) (by omega) (by omega), tw_r (by omega), ← hg, tw_o, tw_r (by omega)]
    exact tape_20 i8.2
end PAIRS7
