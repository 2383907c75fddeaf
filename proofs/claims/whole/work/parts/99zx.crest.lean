/-! LEVEL 3, the class reads a CLAUSE, all of it -/
/-- the kind is put down -/
def kfr (h h2 : am_H) (T n k : Int) : Prop := h2 T 0 = n + 1 ∧ (∀ j : Int, j ≠ 0 → h2 T j = h T j) ∧ (∀ b : Int, T + 1 ≤ b → b ≤ T + 3 → ∀ j : Int, j ≠ n → h2 b j = h b j) ∧ h2 (T + 1) n = k ∧ h2 (T + 2) n = 0 ∧ h2 (T + 3) n = 0 ∧ ∀ b : Int, T + 4 ≤ b → b ≤ T + 12 → h2 b = h b
def gC (g : am_H) (K : Nat → Int) (N : Nat) (T : Int) (Q : Int → am_H → Prop) (tx : List Cl) (c : Cl) (j : Nat) : Prop := ∀ (h2 : am_H) (cp2 kd2 : Int) (nm2 : Nat) (sw2 : Bool), cC g h2 K N T j cp2 kd2 nm2 sw2 → 0 ≤ cp2 → cp2 ≤ j → j ≤ N → ctp h2 T (tx ++ [c]) cp2 → okx (tx ++ [c]) → Q 1 h2
section CREST
variable {d D : Nat} {g h h0 : am_H} {Q : Int → am_H → Prop} {K V P : Nat → Int} {N : Nat} {T : Int} {i : Nat} {cp kd : Int} {nm : Nat} {sw : Bool} {tx : List Cl}
/-- likewise, whatever was named ahead of it -/
def cW (g h : am_H) (K : Nat → Int) (N : Nat) (T : Int) (i : Nat) (cp : Int) : Prop := cO2 g h T ∧ (h 201 3 = (N : Int) + 1 ∧ h 201 6 = T) ∧ h 201 4 = K i ∧ h 201 5 = i ∧ h 201 7 = cp ∧ h 201 9 = 0 ∧ h 201 12 = 0
theorem cC_W (C : cC g h K N T i cp kd nm sw) : cW g h K N T i cp := by
  obtain ⟨c0, c1, c4, c5, c7, c8, c9, c10, c11, c12⟩ := C
  exact ⟨c0, c1, c4, c5, c7, c9, c12⟩
theorem c_failW {f : Int} (E : tE g K V P N T) (C : cW g h K N T i cp) (hi : i ≤ N) (k : ∀ h2, cX g h2 T P f i → Q 0 h2) : cf d M_X1_fail [.inr (.inr 201), .inl f] h Q := by
  obtain ⟨c0, c1, c4, c5, c7, c9, c12⟩ := C
  obtain ⟨e1, e2, e3⟩ := E
  have n300 := e1.1
  refine cf_of pX1 (Nat.le_of_ble_eq_true rfl) rfl (fun _ => B_X1_fail_0 ⟨fun c => absurd c12 c, fun _ => ⟨fun c => by omega, fun _ => ⟨fun c => by omega, fun _ => k _ ⟨⟨fun b q q2 => ?_, ?_⟩, ?_, ?_⟩⟩⟩⟩)
  · rw [upr (by omega), upr (by omega)]; exact c0.1 b q q2
  · rw [am_up_ne (by omega), am_up_ne (by omega)]; exact c0.2
  · rw [am_up_ne (by omega), am_up_at]
  · rw [am_up_at, c5, c0.1 203 (by omega) (by omega)]
    exact (e3 i hi).2.1
theorem c_readKind (E : tE g K V P N T) (C : cW g h K N T i cp) (hi : i ≤ N) (p : ctp h T tx cp) (ok : okx tx) (b1 : K i < 0 ∨ 8 < K i → ∀ h2, cX g h2 T P 1 i → Q 0 h2) (b4 : 0 ≤ K i → K i ≤ 8 → K i = 4 → hasR tx = true → ∀ h2, cX g h2 T P 4 i → Q 0 h2) (b6 : 0 ≤ K i → K i ≤ 8 → ¬ (K i = 4 ∧ hasR tx = true) → tx.length = 24 → ∀ h2, cX g h2 T P 6 i → Q 0 h2)
    (good : 0 ≤ K i → K i ≤ 8 → ¬ (K i = 4 ∧ hasR tx = true) → tx.length < 24 → i + 1 ≤ N → ∀ h2, cC g h2 K N T (i + 1) cp (K i) 0 false → kfr h h2 T tx.length (K i) → Q 1 h2) : cf (d + 1) M_X1_readKind [.inr (.inr 201)] h Q := by
  have hT := E.2.1.2
  have tT := E.2.1.1
  obtain ⟨e6, e4, e5, e0⟩ : h 201 6 = T ∧ h 201 4 = K i ∧ h 201 5 = i ∧ h T 0 = tx.length := ⟨C.2.1.2, C.2.2.1, C.2.2.2.1, p.1.1⟩
  have l24 := ok.1
  have F : ∀ f : Int, (∀ h2, cX g h2 T P f i → Q 0 h2) → cf d M_X1_fail [.inr (.inr 201), .inl f] h (fun r6 h7 => (r6 = 0 ∨ r6 = 1) ∧ Q r6 h7) := fun f k => c_failW E C hi (fun h2 X => ⟨Or.inl rfl, k h2 X⟩)
  have k1 := kX5_1 tT
  have k2 := kX5_2 tT
  have k3 := kX5_3 tT
  have at55 : 0 ≤ K i → K i ≤ 8 → ¬ (K i = 4 ∧ hasR tx = true) → wf (d + 1) M_X1_readKind Q 55 [some (.inr (.inr 201)), some (.inl (tx.length : Int))] [] h := by
    intro q1 q2 q3
    refine B_X1_readKind_55 ⟨fun y => by omega, fun _ => ⟨fun y => ?_, fun y => B_X1_readKind_65 (F 6 (b6 q1 q2 q3 (by omega)))⟩⟩
    rw [e6, e4, w32e (z := (tx.length : Int) + 1) (by omega) (by omega)]
    have u1 : ∀ x y : Int, (am_up (am_up h 201 8 x) (T + 1) (tx.length : Int) y) 201 6 = T := fun x y => by rw [am_up_ne (by omega), am_up_ne (by omega)]; exact e6
    rw [u1]
    have u2 : ∀ x y z : Int, (am_up (am_up (am_up h 201 8 x) (T + 1) (tx.length : Int) y) (T + 2) (tx.length : Int) z) 201 6 = T := fun x y z => by rw [am_up_ne (by omega)]; exact u1 x y
    rw [u2]
    have u3 : ∀ x y z u : Int, (am_up (am_up (am_up (am_up h 201 8 x) (T + 1) (tx.length : Int) y) (T + 2) (tx.length : Int) z) (T + 3) (tx.length : Int) u) 201 6 = T := fun x y z u => by rw [am_up_ne (by omega)]; exact u2 x y z
    rw [u3]
    have i1 := tk_lt E.1 hi (by omega)
    generalize hg : am_up (am_up (am_up (am_up (am_up (am_up (am_up h 201 8 (K i)) (T + 1) (tx.length : Int) (K i)) (T + 2) (tx.length : Int) 0) (T + 3) (tx.length : Int) 0) T 0 ((tx.length : Int) + 1)) 201 10 0) 201 11 0 = h7
    obtain ⟨c0, c1, c4, c5, c7, c9, c12⟩ := C
    have s201 : ∀ j : Int, j ≠ 8 → j ≠ 10 → j ≠ 11 → h7 201 j = h 201 j := fun j z1 z2 z3 => by rw [← hg, am_up_ne (by omega), am_up_ne (by omega), am_up_ne (by omega), am_up_ne (by omega), am_up_ne (by omega), am_up_ne (by omega), am_up_ne (by omega)]
    have row : ∀ b : Int, b ≠ 201 → b ≠ T → b ≠ T + 1 → b ≠ T + 2 → b ≠ T + 3 → h7 b = h b := fun b z1 z2 z3 z4 z5 => by rw [← hg, upr (by omega), upr (by omega), upr (by omega), upr (by omega), upr (by omega), upr (by omega), upr (by omega)]
    have C7 : cC g h7 K N T i cp (K i) 0 false := by
      refine ⟨⟨fun b z1 z2 => (row b z1 (by omega) (by omega) (by omega) (by omega)).trans (c0.1 b z1 z2), by rw [s201 6 (by omega) (by omega) (by omega)]; exact e6⟩, ⟨by rw [s201 3 (by omega) (by omega) (by omega)]; exact c1.1, by rw [s201 6 (by omega) (by omega) (by omega)]; exact e6⟩, by rw [s201 4 (by omega) (by omega) (by omega)]; exact c4, by rw [s201 5 (by omega) (by omega) (by omega)]; exact c5, by rw [s201 7 (by omega) (by omega) (by omega)]; exact c7, ?_, by rw [s201 9 (by omega) (by omega) (by omega)]; exact c9, ?_, ?_, by rw [s201 12 (by omega) (by omega) (by omega)]; exact c12⟩
      · rw [← hg, am_up_ne (by omega), am_up_ne (by omega), am_up_ne (by omega), am_up_ne (by omega), am_up_ne (by omega), am_up_ne (by omega), am_up_at]
      · rw [← hg, am_up_ne (by omega), am_up_at]; rfl
      · rw [← hg, am_up_at]; rfl
    refine ⟨tT, k1.1, by rw [k1.2]; omega, tT, k2.1, by rw [k2.2]; omega, tT, k3.1, by rw [k3.2]; omega, tT, c_advC E C7 i1 (fun h2 C2 R2 => ⟨Or.inr rfl, good q1 q2 q3 (by omega) i1 h2 C2 ?_⟩)⟩
    refine ⟨?_, fun j z => ?_, fun b z1 z2 j z3 => ?_, ?_, ?_, ?_, fun b z1 z2 => ?_⟩
    · rw [R2 T (by omega), ← hg, am_up_ne (by omega), am_up_ne (by omega), am_up_at]
    · rw [R2 T (by omega), ← hg, am_up_ne (by omega), am_up_ne (by omega), am_up_ne (by omega), am_up_ne (by omega), am_up_ne (by omega), am_up_ne (by omega), am_up_ne (by omega)]
    · rw [R2 b (by omega), ← hg, am_up_ne (by omega), am_up_ne (by omega), am_up_ne (by omega), am_up_ne (by omega), am_up_ne (by omega), am_up_ne (by omega), am_up_ne (by omega)]
    · rw [R2 _ (by omega), ← hg, am_up_ne (by omega), am_up_ne (by omega), am_up_ne (by omega), am_up_ne (by omega), am_up_ne (by omega), am_up_at]
    · rw [R2 _ (by omega), ← hg, am_up_ne (by omega), am_up_ne (by omega), am_up_ne (by omega), am_up_ne (by omega), am_up_at]
    · rw [R2 _ (by omega), ← hg, am_up_ne (by omega), am_up_ne (by omega), am_up_ne (by omega), am_up_at]
    · rw [R2 b (by omega), row b (by omega) (by omega) (by omega) (by omega) (by omega)]
  refine cf_of pX1 (Nat.le_of_ble_eq_true rfl) rfl (fun _ => B_X1_readKind_0 ?_)
  rw [e6, e4, e0]
  refine ⟨tT, fun y => B_X1_readKind_24 (F 1 (b1 (Or.inl y))), fun y => ⟨fun y2 => ⟨fun y3 => at55 y y2 (fun z => y3 z.1), fun y3 => ⟨fun z => at55 y y2 (fun w => ?_), fun z => ?_⟩⟩, fun y2 => B_X1_readKind_24 (F 1 (b1 (Or.inr y2)))⟩⟩
  · obtain ⟨k, hk, e⟩ := hasR_iff.1 w.2
    have := (p.2.1 k (by omega) (by omega)).2.2.2.2 e
    have := this.1.2.2.1
    omega
  · refine F 4 (b4 y y2 y3 ?_)
    cases w : hasR tx with
    | true => rfl
    | false => exact absurd (p.2.2.1 w) z
end CREST
