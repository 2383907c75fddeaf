/-! LEVEL 3, text: both sides at once -/
section TEXTP
variable {d D : Nat} {h h0 : am_H} {Q : Int → am_H → Prop} {K : Int → Int → am_H → Prop} {n : Nat} {T t : Int} {tx : Nat → List Cl}
/-- what the reference leaves -/
def fRt (h h2 : am_H) (t : Int) : Prop := (∀ b : Int, b ≠ 294 → b ≠ 297 → b ≠ 299 → h2 b = h b) ∧ (∀ j : Int, j < 7 ∨ j = 15 ∨ 20 < j → h2 294 j = h 294 j) ∧ ∀ q : Int, q < 825 * t → h2 297 q = h 297 q
theorem c_readText {σ : Int → Int} (e0 : h 295 0 = t) (t3 : 0 ≤ t ∧ t ≤ 3) (tp : tpe h n σ) (hb : ∀ j : Nat, j < n → 0 ≤ σ j ∧ σ j ≤ 255) (bad : ∀ x, txR σ n = .inl x → ∀ h2, fRt h h2 t → h2 294 8 = tP (lxA σ n n 0) n x.2 → ¬ x.1 = 0 → Q x.1 h2) (good : ∀ tx, txR σ n = .inr tx → ∀ h2, fRt h h2 t → rtx h2 t tx → okx tx → Q 0 h2) : cf (D + 13) M_X7_readText [.inr (.inr 294)] h Q := by
  have n3 := tp.2.2
  have tk := lx_tkok (n := n) n3 hb
  have ll := lxA_len (τ := σ) (n := n) n 0 (by omega)
  refine cf_of pX7 (Nat.le_of_ble_eq_true rfl) rfl (fun _ => B_X7_readText_0 ?_)
  rw [e0, w32e (z := 825 * t) (by omega) (by omega)]
  generalize hg : am_up (am_up (am_up (am_up (am_up (am_up h 294 12 (825 * t)) 297 (825 * t) 0) 294 13 0) 294 19 0) 294 20 0) 294 7 0 = g
  have gb : ∀ b : Int, b ≠ 294 → b ≠ 297 → g b = h b := fun b q q2 => by rw [← hg, upr q, upr q, upr q, upr q, upr q2, upr q]
  have gj : ∀ j : Int, j ≠ 12 → j ≠ 13 → j ≠ 19 → j ≠ 20 → j ≠ 7 → g 294 j = h 294 j := fun j q1 q2 q3 q4 q5 => by rw [← hg, am_up_ne (by omega), am_up_ne (by omega), am_up_ne (by omega), am_up_ne (by omega), am_up_ne (by omega), am_up_ne (by omega)]
  have gq : ∀ q : Int, q ≠ 825 * t → g 297 q = h 297 q := fun q q1 => by rw [← hg, am_up_ne (by omega), am_up_ne (by omega), am_up_ne (by omega), am_up_ne (by omega), am_up_ne (by omega), am_up_ne (by omega)]
  have g7 : g 294 7 = 0 := by rw [← hg, am_up_at]
  have g12 : g 294 12 = 825 * t := by rw [← hg, am_up_ne (by omega), am_up_ne (by omega), am_up_ne (by omega), am_up_ne (by omega), am_up_ne (by omega), am_up_at]
  have g13 : g 294 13 = 0 := by rw [← hg, am_up_ne (by omega), am_up_ne (by omega), am_up_ne (by omega), am_up_at]
  have g19 : g 294 19 = 0 := by rw [← hg, am_up_ne (by omega), am_up_ne (by omega), am_up_at]
  have g20 : g 294 20 = 0 := by rw [← hg, am_up_ne (by omega), am_up_at]
  have g0 : g 297 (825 * t) = 0 := by rw [← hg, am_up_ne (by omega), am_up_ne (by omega), am_up_ne (by omega), am_up_ne (by omega), am_up_at]
  have tg : tpe g n σ := ⟨by rw [gb 298 (by omega) (by omega)]; exact tp.1, by rw [gj 4 (by omega) (by omega) (by omega) (by omega) (by omega)]; exact tp.2.1, n3⟩
  have toF : ∀ h2, rC0 g h2 t → fRt h h2 t := fun h2 c => ⟨fun b q q2 q3 => (c.1 b q q2 q3).trans (gb b q q2), fun j q => (c.2.1 j (by omega)).trans (gj j (by omega) (by omega) (by omega) (by omega) (by omega)), fun q hq => (c.2.2 q hq).trans (gq q (by omega))⟩
  refine ⟨by omega, by omega, c_first tg hb g7 (fun h2 f L => ?_)⟩
  generalize hL : lxA σ n n 0 = LL at *
  unfold txR at bad good
  rw [hL] at bad good
  have H : rG g (tK LL n) (tV LL n) (tP LL n) (tEn LL n) LL.length t := ⟨tk, ⟨g12, t3⟩, by rw [← hL]; exact lx_rNx tg hb⟩
  have S : rT g h2 (tK LL n) (tV LL n) (tP LL n) (tEn LL n) t 0 0 [] := by
    refine ⟨h2 294 14, ⟨⟨fun b q _ _ => f.1 b q, fun j q => f.2 j (by omega), fun q _ => by rw [f.1 297 (by omega)]⟩, L, by rw [f.2 13 (by omega)]; exact g13, rfl, by rw [f.2 19 (by omega)]; exact g19, by rw [f.2 20 (by omega)]; exact g20⟩, ⟨by rw [f.1 297 (by omega)]; exact g0, fun k k0 k1 => by simp at k1; omega⟩, okx_nil, by omega, by omega⟩
  exact c_rloop (D := D) H 400 [] 0 h2 0 (by omega) (by omega) S (fun y e h3 X => bad y e h3 (toF h3 X.1) X.2 (pTx_ne tk 400 [] 0 (by omega) (by omega) e)) (fun tx2 e h3 w2 c p ok => good tx2 e h3 (toF h3 c) (rtx_of p t3) ok)
/-- TEXTS that lie below stay -/
theorem rtx_low {h2 : am_H} {u : Int} {x : List Cl} (r : rtx h u x) (ok : okx x) (hu : u < t) (e : ∀ q : Int, q < 825 * t → h2 297 q = h 297 q) : rtx h2 u x := by
  obtain ⟨r1, r2, r3⟩ := r
  have l24 := ok.1
  have rs : ∀ (y : Int) (e1 : Ex) (l s : Bool), ws l e1 s → 825 * u ≤ y → y + 1 < 825 * u + 217 → rsum h u y e1 → rsum h2 u y e1 := by
    intro y e1 l s we y0 y1 z
    obtain ⟨z1, z2, z3, z4⟩ := z
    unfold rsum
    rw [e y (by omega), e (y + 1) (by omega)]
    exact ⟨rat_congr _ _ we _ z1 (fun q q0 q1 => e q (by omega)), z2, z3, z4⟩
  refine ⟨r1, by rw [e _ (by omega)]; exact r2, fun k k0 k1 => ?_⟩
  have o := ok.2.1 (cl x (k.toNat : Nat)) (cl_mem (by omega))
  rw [show ((k.toNat : Nat) : Int) = k by omega] at o
  obtain ⟨a1, a2, a3, a4, a5, a6⟩ := r3 k k0 k1
  refine ⟨by rw [e _ (by omega)]; exact a1, fun z => ⟨by rw [e _ (by omega)]; exact (a2 z).1, rs _ _ _ _ (o.2.1 z).2.2.1 (by omega) (by omega) (a2 z).2⟩, fun z => ?_, fun z => rs _ _ _ _ (o.2.1 (by omega)).2.2.2 (by omega) (by omega) (a4 z), fun z => by rw [e _ (by omega)]; exact a5 z, fun z => by rw [e _ (by omega)]; exact a6 z⟩
  rcases (show (cl x k).1 ≤ 2 ∨ (cl x k).1 = 3 ∨ (cl x k).1 = 4 by omega) with y | y | y
  · exact rs _ _ _ _ (o.2.1 y).2.1 (by omega) (by omega) (a3 z)
  · exact rs _ _ _ _ (o.2.2.1 y) (by omega) (by omega) (a3 z)
  · exact rs _ _ _ _ (o.2.2.2.1 y) (by omega) (by omega) (a3 z)
/-- how the class left it behind -/
def txS (g6 : am_H) (σ : Int → Int) (n : Nat) (t f p : Int) : Prop := (∃ x, txR σ n = .inl x ∧ f = x.1 ∧ ¬ x.1 = 0 ∧ p = tP (lxA σ n n 0) n x.2 ∧ g6 4 4 = t) ∨ (∃ x2, txR σ n = .inr x2 ∧ f = 0 ∧ p = -1 ∧ g6 4 4 = t + 1 ∧ ctx g6 (242 + 13 * t) x2 ∧ okx x2)
theorem p_text (oW : oWord) (oS : oSign) (I : INV h tx) (k : ∀ g r tx2, INV g tx2 → K r r g) : cf (D + 68) M_X6_text [.inr (.inr 1)] h (fun r6 g6 => cf (D + 68) M_X7_text [.inr (.inr 294)] g6 (fun r7 g7 => K r6 r7 g7)) := by
  obtain ⟨i1, i2, i3, i4, i5, i6, i7, i8, i9, i10⟩ := id I
  have a0 := i2.1
  have e44 : h 4 4 = h 295 0 := i1.2.2.2.2.1
  obtain ⟨⟨n1, n2, n3⟩, tp⟩ := i8
  obtain ⟨n, en⟩ : ∃ n : Nat, h 1 1 = n := ⟨(h 1 1).toNat, by omega⟩
  have n300 : n ≤ 300 := by omega
  have tpn : ∀ j : Nat, j < n → h 2 j = h 298 j ∧ 0 ≤ h 298 j ∧ h 298 j ≤ 255 := fun j hj => tp j (by omega) (by omega)
  generalize ht : h 295 0 = t at *
  have eL : txR (h 2) n = txR (h 298) n ∧ lxA (h 2) n n 0 = lxA (h 298) n n 0 := by
    have e := lxA_congr (τ := h 2) (σ := h 298) (n := n) (fun j hj => (tpn j hj).1) n 0
    exact ⟨by unfold txR; rw [e], e⟩
  by_cases c4 : t = 4
  · refine cf_of pX6 (Nat.le_of_ble_eq_true rfl) rfl (fun _ => B_X6_text_0 ?_)
    rw [e44]
    refine ⟨fun y => by omega, fun _ => ⟨fun _ => ?_, fun y => by omega⟩⟩
    refine cf_of pX7 (Nat.le_of_ble_eq_true rfl) rfl (fun _ => B_X7_text_0 ⟨fun y => absurd (by rw [ht]; exact c4) y, fun _ => k h _ tx I⟩)
  · have tT : am_kd 321 (242 + 13 * t) = 15 := by
      rcases (show t = 0 ∨ t = 1 ∨ t = 2 ∨ t = 3 by omega) with y | y | y | y
      · rw [y]; exact k_242
      · rw [y]; exact k_255
      · rw [y]; exact k_268
      · rw [y]; exact k_281
    -- behind the class
    have mid : ∀ (g6 : am_H) (f p : Int), (∀ b : Int, b ≠ 1 → b ≠ 4 → b < 201 ∨ 204 < b → b < 242 + 13 * t ∨ 254 + 13 * t < b → g6 b = h b) → (g6 1 1 = 0 ∧ g6 1 2 = f ∧ g6 1 3 = p) → (∀ j : Int, j ≠ 4 → g6 4 j = h 4 j) →
        txS g6 (h 298) n t f p → ∀ r6, r6 = (if f = 0 then t else -1) → cf (D + 68) M_X7_text [.inr (.inr 294)] g6 (fun r7 g7 => K r6 r7 g7) := by
      intro g6 f p fr e1 e4 res r6 er6
      have r295 : g6 295 = h 295 := fr 295 (by omega) (by omega) (by omega) (by omega)
      have r294 : g6 294 = h 294 := fr 294 (by omega) (by omega) (by omega) (by omega)
      have r298 : g6 298 = h 298 := fr 298 (by omega) (by omega) (by omega) (by omega)
      have r297 : g6 297 = h 297 := fr 297 (by omega) (by omega) (by omega) (by omega)
      have tp6 : tpe g6 n (h 298) := ⟨r298, by rw [r294]; omega, n300⟩
      -- INV behind both
      have done : ∀ (g7 : am_H) (f7 p7 : Int) (β : Int → Int) (tx2 : Nat → List Cl), (∀ b : Int, b ≠ 294 → b ≠ 295 → b ≠ 297 → b ≠ 299 → g7 b = g6 b) → g7 295 = β → g7 294 4 = 0 → g7 294 5 = f → g7 294 6 = p → g7 294 50 = h 294 50 → (∀ j : Int, j ≠ 0 → β j = h 295 j) → β 0 = g6 4 4 → t ≤ β 0 ∧ β 0 ≤ 4 → (∀ i : Nat, (i : Int) < β 0 → ctx g7 (242 + 13 * i) (tx2 i) ∧ rtx g7 i (tx2 i) ∧ okx (tx2 i)) → INV g7 tx2 := by
        intro g7 f7 p7 β tx2 fr7 q295 q4 q5 q6 q50 qb q0 q0r qt
        have u : ∀ b : Int, b ≠ 1 → b ≠ 4 → b ≠ 294 → b ≠ 295 → b ≠ 297 → b ≠ 299 → b < 201 ∨ 204 < b → b < 242 + 13 * t ∨ 254 + 13 * t < b → g7 b = h b := fun b z1 z2 z3 z4 z5 z6 z7 z8 => (fr7 b z3 z4 z5 z6).trans (fr b z1 z2 z7 z8)
        have u4 : g7 4 = g6 4 := fr7 4 (by omega) (by omega) (by omega) (by omega)
        have u1 : g7 1 = g6 1 := fr7 1 (by omega) (by omega) (by omega) (by omega)
        have u296 : g7 296 = h 296 := u 296 (by omega) (by omega) (by omega) (by omega) (by omega) (by omega) (by omega) (by omega)
        have u218 : g7 218 = h 218 := u 218 (by omega) (by omega) (by omega) (by omega) (by omega) (by omega) (by omega) (by omega)
        have okb : oka β := oka_hd i2 (fun j hj => qb j (by omega)) (by omega) (by rw [qb 1 (by omega)]; have := i2.2.1; omega) (by rw [qb 3 (by omega)]; exact i2.2.2.2.1)
        refine ⟨?_, by rw [q295]; exact okb, ?_, by rw [u296]; exact i4, by rw [u296, q295]; omega, by rw [q50]; exact i6, ⟨by rw [u218]; exact i7.1, okP_congr i7.2 (by rw [u218]) (by rw [u218]) ?_ ?_⟩, ⟨⟨by rw [u1, q4]; exact e1.1, by rw [u1, e1.1]; omega, by rw [u1, e1.1]; omega⟩, ?_⟩, ⟨⟨by rw [u1, e1.2.1]; exact q5.symm, by rw [u1, e1.2.2]; exact q6.symm⟩, ?_, by rw [u296]; exact i9.2.2⟩, by rw [q295]; exact qt⟩
        · rw [q295]
          refine srep_hd i1 i2 (fun b z1 z2 z3 z4 => u b (by omega) (by omega) (by omega) (by omega) (by omega) (by omega) (by omega) (by omega)) (by rw [u4, e4 2 (by omega)]) (by rw [u4, e4 3 (by omega)]) (fun j hj => qb j (by omega)) (by rw [u4]; exact q0.symm) (by rw [u4, e4 5 (by omega), qb 1 (by omega)]; exact i1.2.2.2.2.2.1) (by rw [u4, e4 8 (by omega), qb 3 (by omega)]; exact i1.2.2.2.2.2.2.1) (fun i j0 j1 => ?_)
          rw [qb 3 (by omega)] at j1
          have := i1.2.2.2.2.2.2.2 i j0 j1
          rw [u (4 + 5) (by omega) (by omega) (by omega) (by omega) (by omega) (by omega) (by omega) (by omega), u (4 + 6) (by omega) (by omega) (by omega) (by omega) (by omega) (by omega) (by omega) (by omega), qb _ (by omega), qb _ (by omega)]
          exact this
        · rw [u296]
          exact srep_fr i3 (fun b z1 z2 => u b (by omega) (by omega) (by omega) (by omega) (by omega) (by omega) (by omega) (by omega))
        · exact u 199 (by omega) (by omega) (by omega) (by omega) (by omega) (by omega) (by omega) (by omega)
        · exact u 240 (by omega) (by omega) (by omega) (by omega) (by omega) (by omega) (by omega) (by omega)
        · rw [u1, e1.1]; intro i j0 j1; omega
        · rw [q295]
          intro i j0 j1
          rw [qb 3 (by omega)] at j1
          rw [qb _ (by omega)]
          have := i9.2.1 i j0 j1
          omega
      have old : ∀ (g7 : am_H) (i : Nat), (i : Int) < t → (∀ b : Int, b ≠ 294 → b ≠ 295 → b ≠ 297 → b ≠ 299 → g7 b = g6 b) → (∀ q : Int, q < 825 * t → g7 297 q = h 297 q) → ctx g7 (242 + 13 * i) (tx i) ∧ rtx g7 i (tx i) ∧ okx (tx i) := by
        intro g7 i hi fr7 f297
        have z := i10 i hi
        exact ⟨ctx_congr z.1 (fun b z1 z2 => by rw [fr7 b (by omega) (by omega) (by omega) (by omega), fr b (by omega) (by omega) (by omega) (by omega)]), rtx_low (t := t) z.2.1 z.2.2 hi f297, z.2.2⟩
      refine cf_of pX7 (Nat.le_of_ble_eq_true rfl) rfl (fun _ => B_X7_text_0 ?_)
      rw [r295, ht]
      refine ⟨fun _ => ?_, fun y => absurd y c4⟩
      refine c_readText (D := D + 54) (t := t) (n := n) (σ := h 298) (by rw [r295]; exact ht) (by omega) tp6 (fun j hj => (tpn j hj).2) (fun x hx h3 F e8 ne => ⟨fun _ => B_X7_text_36 ?_, fun y => absurd y ne⟩) (fun x2 hx h3 F rx okk => ⟨fun y => absurd rfl y, fun _ => B_X7_text_36 ?_⟩)
      · rcases res with ⟨x', hx', ef, ne', ep, e44'⟩ | ⟨x', hx', _⟩
        · rw [hx] at hx'
          cases hx'
          have q5 : (am_up h3 294 5 x.1) 294 5 = x.1 := am_up_at _ _ _ _
          rw [q5]
          refine ⟨fun y => absurd y ne, fun _ => ?_⟩
          rw [er6, if_neg (by rw [ef]; exact ne)]
          have fr7 : ∀ b : Int, b ≠ 294 → b ≠ 295 → b ≠ 297 → b ≠ 299 → (am_up (am_up (am_up h3 294 5 x.1) 294 6 (h3 294 8)) 294 4 0) b = g6 b := fun b z1 _ z3 z4 => by rw [upr z1, upr z1, upr z1]; exact F.1 b z1 z3 z4
          refine k _ _ tx (done _ f p (h 295) tx fr7 ?_ ?_ ?_ ?_ ?_ (fun _ _ => rfl) (by rw [e44']; exact ht) (by rw [ht]; omega) (fun i hi => ?_))
          · rw [upr (by omega), upr (by omega), upr (by omega), F.1 295 (by omega) (by omega) (by omega)]; exact r295
          · rw [am_up_at]
          · rw [am_up_ne (by omega), am_up_ne (by omega), am_up_at, ef]
          · rw [am_up_ne (by omega), am_up_at, e8, ep]
          · rw [am_up_ne (by omega), am_up_ne (by omega), am_up_ne (by omega), F.2.1 50 (by omega), r294]
          · rw [ht] at hi
            exact old _ i hi fr7 (fun q hq => by rw [upr (by omega), upr (by omega), upr (by omega), F.2.2 q hq, r297])
        · rw [hx] at hx'; cases hx'
      · rcases res with ⟨x', hx', _⟩ | ⟨x', hx', ef, ep, e44', cx, okc'⟩
        · rw [hx] at hx'; cases hx'
        · rw [hx] at hx'
          cases hx'
          have q5 : (am_up h3 294 5 0) 294 5 = 0 := am_up_at _ _ _ _
          have q295 : (am_up h3 294 5 0) 295 0 = t := by rw [upr (by omega), F.1 295 (by omega) (by omega) (by omega), r295]; exact ht
          rw [q5]
          refine ⟨fun _ => ?_, fun y => absurd rfl y⟩
          rw [q295, w32e (z := t + 1) (by omega) (by omega), w32e (z := t + 1 - 1) (by omega) (by omega), show t + 1 - 1 = t by omega, er6, if_pos ef]
          have fr7 : ∀ b : Int, b ≠ 294 → b ≠ 295 → b ≠ 297 → b ≠ 299 → (am_up (am_up (am_up (am_up h3 294 5 0) 294 6 (-1)) 294 4 0) 295 0 (t + 1)) b = g6 b := fun b z1 z2 z3 z4 => by rw [upr z2, upr z1, upr z1, upr z1]; exact F.1 b z1 z3 z4
          have f297 : (am_up (am_up (am_up (am_up h3 294 5 0) 294 6 (-1)) 294 4 0) 295 0 (t + 1)) 297 = h3 297 := by rw [upr (by omega), upr (by omega), upr (by omega), upr (by omega)]
          refine k _ _ (fun i => if (i : Int) = t then x2 else tx i) (done _ f p (up1 (h 295) 0 (t + 1)) _ fr7 ?_ ?_ ?_ ?_ ?_ (fun j hj => up1_ne hj) (by rw [up1_at, e44']) (by rw [up1_at]; omega) (fun i hi => ?_))
          · rw [up_row, row_at, upr (by omega), upr (by omega), upr (by omega), F.1 295 (by omega) (by omega) (by omega), r295]
          · rw [am_up_ne (by omega), am_up_at]
          · rw [am_up_ne (by omega), am_up_ne (by omega), am_up_ne (by omega), am_up_at, ef]
          · rw [am_up_ne (by omega), am_up_ne (by omega), am_up_at, ep]
          · rw [am_up_ne (by omega), am_up_ne (by omega), am_up_ne (by omega), am_up_ne (by omega), F.2.1 50 (by omega), r294]
          · rw [up1_at] at hi
            by_cases z : (i : Int) = t
            · rw [if_pos z, z]
              exact ⟨ctx_congr cx (fun b z1 z2 => fr7 b (by omega) (by omega) (by omega) (by omega)), rtx_congr rx f297, okk⟩
            · rw [if_neg z]
              exact old _ i (by omega) fr7 (fun q hq => by rw [f297, F.2.2 q hq, r297])
    refine cf_of pX6 (Nat.le_of_ble_eq_true rfl) rfl (fun _ => B_X6_text_0 ?_)
    rw [e44, en]
    refine ⟨fun y => by omega, fun _ => ⟨fun y => by omega, fun _ => ⟨by omega, fun _ => ?_, fun y => by omega⟩⟩⟩
    rw [show 3 + 239 + 13 * t = 242 + 13 * t by omega]
    refine c_parse (D := D) oW oS (τ := h 2) rfl n300 (fun j hj => by have := tpn j hj; omega) tT (by omega) (fun x hx h2 F e13 ne => ⟨fun _ => B_X6_text_76 ?_, fun y => absurd y ne⟩) (fun x2 hx h2 F cx okk => ⟨fun y => absurd rfl y, fun _ => B_X6_text_76 ?_⟩)
    · have q12 : (am_up h2 1 2 x.1) 1 2 = x.1 := am_up_at _ _ _ _
      rw [q12]
      refine ⟨fun y => absurd y ne, fun _ => ?_⟩
      have F2 : ∀ b : Int, b < 201 ∨ 204 < b → b < 242 + 13 * t ∨ 254 + 13 * t < b → h2 b = h b := fun b z1 z2 => F b z1 (by omega)
      refine mid _ x.1 (h2 201 13) (fun b z1 z2 z3 z4 => by rw [upr z1, upr z1, upr z1]; exact F2 b z3 z4) ⟨am_up_at _ _ _ _, ?_, ?_⟩ (fun j hj => by rw [am_up_ne (by omega), am_up_ne (by omega), am_up_ne (by omega), F2 4 (by omega) (by omega)]) (Or.inl ⟨x, by rw [← eL.1]; exact hx, rfl, ne, by rw [e13, eL.2], ?_⟩) (-1) (by rw [if_neg ne])
      · rw [am_up_ne (by omega), am_up_ne (by omega), am_up_at]
      · rw [am_up_ne (by omega), am_up_at]
      · rw [am_up_ne (by omega), am_up_ne (by omega), am_up_ne (by omega), F2 4 (by omega) (by omega)]; exact e44
    · have q12 : (am_up h2 1 2 0) 1 2 = 0 := am_up_at _ _ _ _
      rw [q12]
      refine ⟨fun _ => ?_, fun y => absurd rfl y⟩
      rw [w32e (z := t + 1) (by omega) (by omega)]
      have F2 : ∀ b : Int, b < 201 ∨ 204 < b → b < 242 + 13 * t ∨ 254 + 13 * t < b → h2 b = h b := fun b z1 z2 => F b z1 (by omega)
      refine mid _ 0 (-1) (fun b z1 z2 z3 z4 => by rw [upr z2, upr z1, upr z1, upr z1]; exact F2 b z3 z4) ⟨?_, ?_, ?_⟩ (fun j hj => by rw [am_up_ne (by omega), am_up_ne (by omega), am_up_ne (by omega), am_up_ne (by omega), F2 4 (by omega) (by omega)]) (Or.inr ⟨x2, by rw [← eL.1]; exact hx, rfl, rfl, by rw [am_up_at], ctx_congr cx (fun b z1 z2 => by rw [upr (by omega), upr (by omega), upr (by omega), upr (by omega)]), okk⟩) t (by rw [if_pos rfl])
      · rw [am_up_ne (by omega), am_up_at]
      · rw [am_up_ne (by omega), am_up_ne (by omega), am_up_ne (by omega), am_up_at]
      · rw [am_up_ne (by omega), am_up_ne (by omega), am_up_at]
end TEXTP
