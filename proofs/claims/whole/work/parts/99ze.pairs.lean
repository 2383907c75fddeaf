section PAIRS4
variable {d D : Nat} {h : am_H} {K : Int → Int → am_H → Prop} {tx : Nat → List Cl}
theorem p_at {p : Int} (I : INV h tx) (k : ∀ g r, INV g tx → K r r g) : cf (D + 14) M_X6_at [.inr (.inr 1), .inl p] h (fun r6 g6 => cf (D + 14) M_X7_at [.inr (.inr 294), .inl p] g6 (fun r7 g7 => K r6 r7 g7)) :=
  c_X6_at (d := D + 14) I.1 (c_X7_at (d := D + 13) (k h _ I))
theorem p_is {w : Int} (I : INV h tx) (k : ∀ g r, INV g tx → K r r g) : cf (D + 14) M_X6_is [.inr (.inr 1), .inl w] h (fun r6 g6 => cf (D + 14) M_X7_is [.inr (.inr 294), .inl w] g6 (fun r7 g7 => K r6 r7 g7)) :=
  c_X6_is (d := D + 12) I.1 I.2.1 (c_X7_is (d := D + 13) I.2.1 (k h _ I))
theorem p_book {i w : Int} (I : INV h tx) (k : ∀ g r, INV g tx → K r r g) : cf (D + 14) M_X6_book [.inr (.inr 1), .inl i, .inl w] h (fun r6 g6 => cf (D + 14) M_X7_book [.inr (.inr 294), .inl i, .inl w] g6 (fun r7 g7 => K r6 r7 g7)) :=
  c_X6_book (d := D + 13) I.1 I.2.1 (c_X7_book (d := D + 13) I.2.1 (row_lines I.1 I.2.1) (k h _ I))
theorem p_ledger {w : Int} (I : INV h tx) (k : ∀ g r, INV g tx → K r r g) : cf (D + 14) M_X6_ledger [.inr (.inr 1), .inl w] h (fun r6 g6 => cf (D + 14) M_X7_ledger [.inr (.inr 294), .inl w] g6 (fun r7 g7 => K r6 r7 g7)) :=
  c_X6_ledger (d := D + 13) I.1 I.2.1 (c_X7_ledger (d := D + 13) I.2.1 (row_lines I.1 I.2.1) (k h _ I))
theorem p_sum {a b : Int} (I : INV h tx) (k : ∀ g r, INV g tx → K r r g) : cf (D + 14) M_X6_sum [.inr (.inr 1), .inl a, .inl b] h (fun r6 g6 => cf (D + 14) M_X7_sum [.inr (.inr 294), .inl a, .inl b] g6 (fun r7 g7 => K r6 r7 g7)) :=
  c_X6_sum (d := D + 12) I.1 I.2.1 (c_X7_sum (d := D + 12) I.2.1 (k h _ I))
theorem p_number {a b : Int} (I : INV h tx) (k : ∀ g r, INV g tx → K r r g) : cf (D + 14) M_X6_number [.inr (.inr 1), .inl a, .inl b] h (fun r6 g6 => cf (D + 14) M_X7_number [.inr (.inr 294), .inl a, .inl b] g6 (fun r7 g7 => K r6 r7 g7)) :=
  c_X6_number (d := D + 12) I.1 I.2.1 (c_X7_number (d := D + 12) I.2.1 (k h _ I))
theorem p_find {v p : Int} (I : INV h tx) (k : ∀ g r, INV g tx → K r r g) : cf (D + 14) M_X6_find [.inr (.inr 1), .inl v, .inl p] h (fun r6 g6 => cf (D + 14) M_X7_find [.inr (.inr 294), .inl v, .inl p] g6 (fun r7 g7 => K r6 r7 g7)) :=
  c_X6_find (d := D + 14) I.1 I.2.1 (c_X7_find (d := D + 13) I.2.1 (k h _ I))
theorem p_run (I : INV h tx) (k : ∀ g r, INV g tx → K r r g) : cf (D + 14) M_X6_run [.inr (.inr 1)] h (fun r6 g6 => cf (D + 14) M_X7_run [.inr (.inr 294)] g6 (fun r7 g7 => K r6 r7 g7)) :=
  c_X6_run (d := D + 13) I.1 I.2.1 (c_X7_run (d := D + 14) I.2.1 (k h _ I))
theorem p_about {w : Int} (I : INV h tx) (k : ∀ g r, INV g tx → K r r g) : cf (D + 14) M_X6_about [.inr (.inr 1), .inl w] h (fun r6 g6 => cf (D + 14) M_X7_about [.inr (.inr 294), .inl w] g6 (fun r7 g7 => K r6 r7 g7)) :=
  c_X6_about (d := D + 14) I.1 (c_X7_about (d := D + 13) (by rw [← I.2.2.2.2.2.2.2.1.1.1]; exact k h _ I))
theorem p_fault {w : Int} (I : INV h tx) (k : ∀ g r, INV g tx → K r r g) : cf (D + 14) M_X6_fault [.inr (.inr 1), .inl w] h (fun r6 g6 => cf (D + 14) M_X7_fault [.inr (.inr 294), .inl w] g6 (fun r7 g7 => K r6 r7 g7)) :=
  c_X6_fault (d := D + 14) (c_X7_fault (d := D + 14) (by rw [← I.2.2.2.2.2.2.2.2.1.1.1, ← I.2.2.2.2.2.2.2.2.1.1.2]; exact k h _ I))
end PAIRS4
