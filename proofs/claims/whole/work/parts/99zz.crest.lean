/-! LEVEL 3, the class reads what is behind the kind of a CLAUSE; the whole TEXT *before* ORDER *is* laid down -/
section CREST2
variable {d D : Nat} {g h h0 : am_H} {Q : Int → am_H → Prop} {K V P : Nat → Int} {N : Nat} {T : Int} {i : Nat} {cp kd : Int} {nm : Nat} {sw : Bool} {tx : List Cl}
theorem c_readRest (E : tE g K V P N T) (C : cC g h K N T i cp kd 0 false) (hk : 0 ≤ kd ∧ kd ≤ 8) (h4 : kd = 4 → hasR tx = false) (kf : kfr h0 h T tx.length kd) (p : ctp h0 T tx cp) (ok : okx tx) (h24 : tx.length < 24) (hi : i ≤ N) (p0 : 0 ≤ cp) (p1 : cp + 1 ≤ i) (post : cRc g T P Q (gC g K N T Q tx) (bdc K V tx kd i)) : cf (D + 66) M_X1_readRest [.inr (.inr 201), .inl (tx.length : Int)] h Q := by
  have n300 := E.1.1
  have hT := E.2.1.2
  have tT := E.2.1.1
  obtain ⟨e6, e4, e7, e8⟩ : h 201 6 = T ∧ h 201 4 = K i ∧ h 201 7 = cp ∧ h 201 8 = kd := ⟨C.2.1.2, C.2.2.1, C.2.2.2.2.1, C.2.2.2.2.2.1⟩
  have k2 := kX5_2 tT
  have k3 := kX5_3 tT
  obtain ⟨f0, f1, f2, f3, f4, f5, f6⟩ := kf
  -- a CLAUSE that tells no FIELD
  have fin : ∀ (c : Cl) (h2 : am_H) (j : Nat) (cp2 kd2 : Int) (nm2 : Nat) (sw2 : Bool), 3 ≤ c.1 → c.1 = kd → okc c → cC g h2 K N T j cp2 kd2 nm2 sw2 → cp ≤ cp2 → cp2 ≤ j → j ≤ N → h2 T 0 = h T 0 → h2 T 6 = h T 6 → (c.1 ≠ 4 → h2 T 5 = h T 5) → (∀ b : Int, T + 5 ≤ b → b ≤ T + 10 → h2 b = h b) → (∀ b : Int, T + 1 ≤ b → b ≤ T + 3 → ∀ y : Int, y ≠ tx.length → h2 b y = h b y) → (∀ q : Int, q < cp → h2 (T + 4) q = h (T + 4) q) → ctpK h2 T tx.length c cp2 → gC g K N T Q tx c j → Q 1 h2 := by
    intro c h2 j cp2 kd2 nm2 sw2 c3 ck oc C2 q1 q2 q3 r0 r6 r5 r9 rr r4 nk G
    refine G h2 cp2 kd2 nm2 sw2 C2 (by omega) q2 q3 (ctp_snoc p ok oc q1 ?_ ?_ (fun q hq => ?_) (fun k z0 z1 b z2 z3 => ?_) (fun z => ?_) (fun z => h4 (by omega)) (fun y y8 ny b z2 z3 => ?_) nk (fun y y8 hy => by omega)) (okx_snoc ok oc h24 (fun z => by omega) (fun z => h4 (by omega)))
    · rw [r0, f0]
    · rw [r6, f1 6 (by omega), told_same (by omega)]; exact p.1.2
    · rw [r4 q hq, f6 (T + 4) (by omega) (by omega)]
    · rw [rr b z2 z3 k (by omega), f2 b z2 z3 k (by omega)]
    · rw [r5 z, f1 5 (by omega)]
    · rw [r9 b z2 z3, f6 b (by omega) (by omega)]
  refine cf_of pX1 (Nat.le_of_ble_eq_true rfl) rfl (fun _ => B_X1_readRest_0 ?_)
  rw [e6, e7, e8]
  unfold bdc at post
  refine ⟨fun y => by omega, fun _ => ⟨fun _ => ⟨fun y => ?_, fun y => ?_, fun y => ?_, fun y => ?_, fun y => ?_, fun y => ?_, fun y => ?_⟩, fun y => by omega⟩⟩
  · rw [if_neg (by omega), if_neg (by omega), if_neg (by omega), if_neg (by omega), if_neg (by omega), if_neg (by omega)] at post
    exact c_readField (D := D + 1) E C (by omega) ⟨f0, f1, f2, f3, f4, f5, f6⟩ p ok h24 hi p0 p1 (cRc_01 post)
  · rw [if_pos y] at post
    refine ⟨tT, k2.1, by rw [k2.2]; omega, ?_⟩
    have C1 := cC_up (j := (tx.length : Int)) (v := cp) C hT (a := T + 2) (by omega)
    have bad91 : ∀ h2 : am_H, (∃ x n, cX g h2 T P x n ∧ ∀ h3, cX g h3 T P x n → Q 0 h3) → wf (D + 66) M_X1_readRest Q 90 [some (.inr (.inr 201)), some (.inl (tx.length : Int)), none] [] h2 := by
      rintro h2 ⟨x, n, X, kx⟩
      refine B_X1_readRest_90 (B_X1_readRest_91 ?_)
      rw [X.1.2]
      exact ⟨tT, k3.1, by omega, by rw [k3.2]; omega, Or.inl rfl, kx _ (cX_up X hT (by omega))⟩
    have post2 : cRc g T P (fun r h2 => (∃ x n, cX g h2 T P x n ∧ ∀ h3, cX g h3 T P x n → Q 0 h3) ∨ r = 1) (gC g K N T Q tx) (bnc (pE K V false i) fun e j => .inr ((3, 0, 0, e, xN 0, xN 0), j)) := by
      cases hr : (bnc (pE K V false i) fun e j => (Sum.inr ((3, 0, 0, e, xN 0, xN 0), j) : Rc)) with
      | inl x => rw [hr] at post; exact fun h2 X => Or.inl ⟨x.1, x.2, X, post⟩
      | inr x => rw [hr] at post; exact post
    refine c_eitherC (l := false) E C1 (by simp; omega) hi p0 (by omega) (by omega) (by omega) post2 (fun h2 q => ⟨fun _ => bad91 h2 (by rcases q with q | q; exact q; omega), fun y => absurd rfl y⟩) (fun e j h2 j0 j1 we le se G C2 R2 R2b K2 => ⟨fun y => absurd y (by omega), fun _ => ?_⟩)
    have pe := lx_pos _ _ we
    refine c_endC E C2 (by omega) (by omega) (fun h3 C3 R3 e3 R3b => ⟨fun y => by omega, fun _ => B_X1_readRest_91 ?_⟩)
    rw [C3.2.1.2, C3.2.2.2.2.2.2.2.1]
    refine ⟨tT, k3.1, by omega, by rw [k3.2]; omega, Or.inr rfl, ?_⟩
    generalize hg : am_up h3 (T + 3) (tx.length : Int) (((0 ||| nx e : Nat)) : Int) = h5
    have C5 : cC g h5 K N T j (cp + lx e + 1) kd (0 ||| nx e) (false || px e) := by rw [← hg]; exact cC_up C3 hT (by omega)
    have row : ∀ b : Int, b ≠ 201 → b ≠ T + 4 → b ≠ T + 3 → h5 b = am_up h (T + 2) (tx.length : Int) cp b := fun b z1 z2 z3 => by rw [← hg, upr z3, R3 b z1 z2, R2 b z1 z2]
    have rowT : h5 T = h T := by rw [row T (by omega) (by omega) (by omega), upr (by omega)]
    have r4 : h5 (T + 4) = h3 (T + 4) := by rw [← hg, upr (by omega)]
    refine fin (3, 0, 0, e, xN 0, xN 0) h5 j _ kd _ _ (by simp only; omega) (by simp only; omega) ?_ C5 (by omega) (by omega) j1 (by rw [rowT]) (by rw [rowT]) (fun _ => by rw [rowT]) (fun b z1 z2 => by rw [row b (by omega) (by omega) (by omega), upr (by omega)]) (fun b z1 z2 y2 z3 => ?_) (fun q hq => by rw [r4, R3b q (by omega), R2b q hq, upr (by omega)]) ?_ G
    · exact ⟨by simp only; omega, fun z => by simp only at z; omega, fun _ => we, fun z => by simp only at z; omega, ⟨by simp only; omega, by simp [sx], by simp [sx]⟩, fun _ => rfl, fun _ => rfl, fun z => by simp only at z; omega, fun z => by simp only at z; omega, fun z => by simp only at z; omega⟩
    · by_cases z : b = T + 3
      · rw [z, ← hg, am_up_ne (by omega), R3 (T + 3) (by omega) (by omega), R2 (T + 3) (by omega) (by omega), upr (by omega)]
      · rw [row b (by omega) (by omega) z, am_up_ne (by omega)]
    · refine ⟨?_, fun _ => ⟨?_, ?_⟩, fun z => by simp only at z; omega, fun z => by simp only at z; omega, fun z => by simp only at z; omega⟩
      · rw [row (T + 1) (by omega) (by omega) (by omega), upr (by omega), f3]; exact y
      · rw [r4, row (T + 2) (by omega) (by omega) (by omega), am_up_at]
        exact ⟨⟨cat_congr _ _ we _ K2 (fun q q0 q1 => R3b q (by omega)), e3, p0, by simp only; omega⟩, by simp only; omega⟩
      · rw [← hg, am_up_at]
        unfold ncl
        simp [nx]
  · rw [if_neg (by omega), if_pos y] at post
    refine ⟨tT, ?_⟩
    have C1 := cC_up (j := 5) (v := cp) C hT (a := T) (by omega)
    refine c_sumC (l := true) E C1 (by simp; omega) hi p0 (by omega) (by omega) (by omega) post (fun h2 q => ⟨fun _ => q, fun y => absurd rfl y⟩) (fun e j h2 j0 j1 we le se G C2 R2 R2b K2 => ⟨fun y => absurd y (by omega), fun _ => ?_⟩)
    have pe := lx_pos _ _ we
    refine c_endC E C2 (by omega) (by omega) (fun h3 C3 R3 e3 R3b => ⟨fun y => by omega, fun _ => ?_⟩)
    have row : ∀ b : Int, b ≠ 201 → b ≠ T + 4 → h3 b = am_up h T 5 cp b := fun b z1 z2 => by rw [R3 b z1 z2, R2 b z1 z2]
    refine fin (4, 0, 0, e, xN 0, xN 0) h3 j _ kd _ _ (by simp only; omega) (by simp only; omega) ?_ C3 (by omega) (by omega) j1 (by rw [row T (by omega) (by omega), am_up_ne (by omega)]) (by rw [row T (by omega) (by omega), am_up_ne (by omega)]) (fun z => by simp only at z; omega) (fun b z1 z2 => by rw [row b (by omega) (by omega), upr (by omega)]) (fun b z1 z2 y2 z3 => by rw [row b (by omega) (by omega), upr (by omega)]) (fun q hq => by rw [R3b q (by omega), R2b q hq, upr (by omega)]) ?_ G
    · exact ⟨by simp only; omega, fun z => by simp only at z; omega, fun z => by simp only at z; omega, fun _ => we, ⟨by simp only; omega, by simp [sx], by simp [sx]⟩, fun _ => rfl, fun _ => rfl, fun z => by simp only at z; omega, fun z => by simp only at z; omega, fun z => by simp only at z; omega⟩
    · refine ⟨?_, fun z => by simp only at z; omega, fun z => by simp only at z; omega, fun z => by simp only at z; omega, fun _ => ?_⟩
      · rw [row (T + 1) (by omega) (by omega), upr (by omega), f3]; exact y
      · rw [row T (by omega) (by omega), am_up_at]
        exact ⟨⟨cat_congr _ _ we _ K2 (fun q q0 q1 => R3b q (by omega)), e3, p0, by simp only; omega⟩, by simp only; omega⟩
  · rw [if_neg (by omega), if_neg (by omega), if_pos y] at post
    refine ⟨tT, ?_⟩
    refine c_readNumber (v4 := (tx.length : Int)) E C hi (a3 := T + 2) (by omega) k2.1 (by rw [k2.2]; omega) post (fun h2 q => ⟨fun _ => q, fun y => absurd rfl y⟩) (fun q1 q2 q3 i1 post2 h2 C2 R2 e2 R2b => ⟨fun y => absurd y (by omega), fun _ => ?_⟩)
    refine c_takeC E C2 i1 (by decide) (fun t1 i2 h3 C3 R3 => ⟨fun y => absurd y (by omega), fun _ => ?_⟩) (fun t1 h3 X => ⟨fun _ => cRc_t0 post2 t1 h3 X, fun y => absurd rfl y⟩)
    rw [C3.2.1.2]
    refine ⟨tT, ?_⟩
    refine c_readNumber (v4 := (tx.length : Int)) E C3 i2 (a3 := T + 3) (by omega) k3.1 (by rw [k3.2]; omega) (cRc_t1 post2 t1) (fun h2 q => ⟨fun _ => q, fun y => absurd rfl y⟩) (fun z1 z2 z3 i3 G h4 C4 R4 e4 R4b => ⟨fun y => absurd y (by omega), fun _ => ?_⟩)
    have row : ∀ b : Int, b ≠ 201 → b ≠ T + 2 → b ≠ T + 3 → h4 b = h b := fun b w1 w2 w3 => by rw [R4 b w1 w3, R3 b w1, R2 b w1 w2]
    refine fin (5, V i, V (i + 1 + 1), xN 0, xN 0, xN 0) h4 _ cp kd _ _ (by simp only; omega) (by simp only; omega) ?_ C4 (by omega) (by omega) i3 (by rw [row T (by omega) (by omega) (by omega)]) (by rw [row T (by omega) (by omega) (by omega)]) (fun _ => by rw [row T (by omega) (by omega) (by omega)]) (fun b w1 w2 => row b (by omega) (by omega) (by omega)) (fun b w1 w2 y2 w3 => ?_) (fun q hq => by rw [row (T + 4) (by omega) (by omega) (by omega)]) ?_ G
    · exact ⟨by simp only; omega, fun z => by simp only at z; omega, fun z => by simp only at z; omega, fun z => by simp only at z; omega, ⟨by simp [sx], by simp [sx], by simp [sx]⟩, fun _ => rfl, fun _ => rfl, fun _ => ⟨⟨q2, q3⟩, z2, z3⟩, fun z => by simp only at z; omega, fun z => by simp only at z; omega⟩
    · by_cases w : b = T + 3
      · rw [w, R4b y2 w3, R3 (T + 3) (by omega), R2 (T + 3) (by omega) (by omega)]
      · by_cases w4 : b = T + 2
        · rw [w4, R4 (T + 2) (by omega) (by omega), R3 (T + 2) (by omega), R2b y2 w3]
        · rw [row b (by omega) w4 w]
    · refine ⟨?_, fun z => by simp only at z; omega, fun _ => ?_, fun _ => ?_, fun z => by simp only at z; omega⟩
      · rw [row (T + 1) (by omega) (by omega) (by omega), f3]; exact y
      · rw [R4 (T + 2) (by omega) (by omega), R3 (T + 2) (by omega), e2]
      · rw [e4]
  · rw [if_neg (by omega), if_neg (by omega), if_neg (by omega), if_pos y] at post
    refine ⟨tT, ?_⟩
    refine c_readNumber (v4 := (tx.length : Int)) E C hi (a3 := T + 2) (by omega) k2.1 (by rw [k2.2]; omega) post (fun h2 q => ⟨Or.inl rfl, q⟩) (fun q1 q2 q3 i1 G h2 C2 R2 e2 R2b => ⟨Or.inr rfl, ?_⟩)
    refine fin (6, V i, 0, xN 0, xN 0, xN 0) h2 _ cp kd _ _ (by simp only; omega) (by simp only; omega) ?_ C2 (by omega) (by omega) i1 (by rw [R2 T (by omega) (by omega)]) (by rw [R2 T (by omega) (by omega)]) (fun _ => by rw [R2 T (by omega) (by omega)]) (fun b w1 w2 => R2 b (by omega) (by omega)) (fun b w1 w2 y2 w3 => ?_) (fun q hq => by rw [R2 (T + 4) (by omega) (by omega)]) ?_ G
    · exact ⟨by simp only; omega, fun z => by simp only at z; omega, fun z => by simp only at z; omega, fun z => by simp only at z; omega, ⟨by simp [sx], by simp [sx], by simp [sx]⟩, fun _ => rfl, fun _ => rfl, fun z => by simp only at z; omega, fun _ => ⟨q2, q3⟩, fun z => by simp only at z; omega⟩
    · by_cases w4 : b = T + 2
      · rw [w4, R2b y2 w3]
      · rw [R2 b (by omega) w4]
    · refine ⟨?_, fun z => by simp only at z; omega, fun _ => e2, fun z => by simp only at z; omega, fun z => by simp only at z; omega⟩
      rw [R2 (T + 1) (by omega) (by omega), f3]; exact y
  · rw [if_neg (by omega), if_neg (by omega), if_neg (by omega), if_neg (by omega), if_pos y] at post
    refine fin (7, 0, 0, xN 0, xN 0, xN 0) h _ cp kd _ _ (by simp only; omega) (by simp only; omega) ?_ C (by omega) (by omega) hi rfl rfl (fun _ => rfl) (fun b w1 w2 => rfl) (fun b w1 w2 y2 w3 => rfl) (fun q hq => rfl) ?_ post
    · exact ⟨by simp only; omega, fun z => by simp only at z; omega, fun z => by simp only at z; omega, fun z => by simp only at z; omega, ⟨by simp [sx], by simp [sx], by simp [sx]⟩, fun _ => rfl, fun _ => rfl, fun z => by simp only at z; omega, fun z => by simp only at z; omega, fun z => by simp only at z; omega⟩
    · exact ⟨by rw [f3]; exact y, fun z => by simp only at z; omega, fun _ => f4, fun z => by simp only at z; omega, fun z => by simp only at z; omega⟩
  · rw [if_neg (by omega), if_neg (by omega), if_neg (by omega), if_neg (by omega), if_neg (by omega), if_pos y] at post
    refine ⟨tT, ?_⟩
    refine c_readNumber (v4 := (tx.length : Int)) E C hi (a3 := T + 2) (by omega) k2.1 (by rw [k2.2]; omega) post (fun h2 q => ⟨Or.inl rfl, q⟩) (fun q1 q2 q3 i1 G h2 C2 R2 e2 R2b => ⟨Or.inr rfl, ?_⟩)
    refine fin (8, V i, 0, xN 0, xN 0, xN 0) h2 _ cp kd _ _ (by simp only; omega) (by simp only; omega) ?_ C2 (by omega) (by omega) i1 (by rw [R2 T (by omega) (by omega)]) (by rw [R2 T (by omega) (by omega)]) (fun _ => by rw [R2 T (by omega) (by omega)]) (fun b w1 w2 => R2 b (by omega) (by omega)) (fun b w1 w2 y2 w3 => ?_) (fun q hq => by rw [R2 (T + 4) (by omega) (by omega)]) ?_ G
    · exact ⟨by simp only; omega, fun z => by simp only at z; omega, fun z => by simp only at z; omega, fun z => by simp only at z; omega, ⟨by simp [sx], by simp [sx], by simp [sx]⟩, fun _ => rfl, fun _ => rfl, fun z => by simp only at z; omega, fun z => by simp only at z; omega, fun _ => ⟨q2, q3⟩⟩
    · by_cases w4 : b = T + 2
      · rw [w4, R2b y2 w3]
      · rw [R2 b (by omega) w4]
    · refine ⟨?_, fun z => by simp only at z; omega, fun _ => e2, fun z => by simp only at z; omega, fun z => by simp only at z; omega⟩
      rw [R2 (T + 1) (by omega) (by omega), f3]; exact y
theorem cX_f {f : Int} {j : Nat} {h2 : am_H} (X : cX g h2 T P f j) : h2 201 12 = f := X.2.1
theorem fault_pos {r : Rc} {j : Nat} (hr : r = clB K V tx j) {x : Int × Nat} (q : r = .inl x) (tk : tkok K V N) (hj : j ≤ N) : ¬ x.1 = 0 := by
  subst hr
  have sp : ∀ (l : Bool) (i : Nat), i ≤ N → ∀ y, pS K V l i = .inl y → ¬ y.1 = 0 := fun l i hi y e => by
    have := pS_ok (l := l) tk hi
    rw [e] at this
    have := this.1
    omega
  have ep : ∀ (l : Bool) (i : Nat), i ≤ N → ∀ y, pE K V l i = .inl y → ¬ y.1 = 0 := fun l i hi y e => by
    have := pE_ok (l := l) tk hi
    rw [e] at this
    have := this.1
    omega
  -- good: faults are told by numbers above 0, places stay in the tape
  have good : ∀ r : Rc, (match r with | .inl y => ¬ y.1 = 0 | .inr y => y.2 ≤ N) → ∀ y, r = .inl y → ¬ y.1 = 0 := fun r h y e => by subst e; exact h
  have tkg : ∀ (t : Int) (i : Nat) (r : Rc), (t ≠ 66 → i ≤ N → K i = t → i + 1 ≤ N → ∀ y, r = .inl y → ¬ y.1 = 0) → t ≠ 66 → i ≤ N → ∀ y, tkc K t i r = .inl y → ¬ y.1 = 0 := by
    intro t i r hr ht hi y e
    unfold tkc at e
    split at e
    · rename_i c
      exact hr ht hi c (tk_lt tk hi (by rw [c]; exact ht)) y e
    · cases e; simp
  have nug : ∀ (lo hi2 : Int) (i : Nat) (k : Int → Nat → Rc), i ≤ N → (i + 1 ≤ N → ∀ v y, k v (i + 1) = .inl y → ¬ y.1 = 0) → ∀ y, nuc K V lo hi2 i k = .inl y → ¬ y.1 = 0 := by
    intro lo hi2 i k hi hk y e
    unfold nuc at e
    split at e
    · rename_i c
      split at e
      · cases e; simp
      · exact hk (tk_lt tk hi (by omega)) _ y e
    · cases e; simp
  have sug : ∀ (l : Bool) (i : Nat) (k : Ex → Nat → Rc), i ≤ N → (∀ e j, j ≤ N → ∀ y, k e j = .inl y → ¬ y.1 = 0) → ∀ y, bnc (pS K V l i) k = .inl y → ¬ y.1 = 0 := by
    intro l i k hi hk y e
    have ok := pS_ok (l := l) tk hi
    cases hr : pS K V l i with
    | inl z => rw [hr] at e; cases e; exact sp l i hi _ hr
    | inr z => rw [hr] at e ok; exact hk z.1 z.2 ok.1.2 y e
  have eug : ∀ (l : Bool) (i : Nat) (k : Ex → Nat → Rc), i ≤ N → (∀ e j, j ≤ N → ∀ y, k e j = .inl y → ¬ y.1 = 0) → ∀ y, bnc (pE K V l i) k = .inl y → ¬ y.1 = 0 := by
    intro l i k hi hk y e
    have ok := pE_ok (l := l) tk hi
    cases hr : pE K V l i with
    | inl z => rw [hr] at e; cases e; exact ep l i hi _ hr
    | inr z => rw [hr] at e ok; exact hk z.1 z.2 ok.1.2 y e
  have pag : ∀ (t : Int) (i : Nat) (k : Ex → Nat → Rc), t ≠ 66 → i ≤ N → (∀ e j, j ≤ N → ∀ y, k e j = .inl y → ¬ y.1 = 0) → ∀ y, prt1 K V t i k = .inl y → ¬ y.1 = 0 := fun t i k ht hi hk => tkg t i _ (fun _ _ _ i1 => sug false (i + 1) k i1 hk) ht hi
  have bodyg : ∀ (kd : Int) (i : Nat), i ≤ N → ∀ y, bdc K V tx kd i = .inl y → ¬ y.1 = 0 := by
    intro kd i hi y e
    unfold bdc at e
    split at e
    · exact eug false i _ hi (fun e j _ y q => by cases q) y e
    · split at e
      · exact sug true i _ hi (fun e j _ y q => by cases q) y e
      · split at e
        · exact nug 0 39 i _ hi (fun i1 v => tkg 11 (i + 1) _ (fun _ _ _ i2 => nug 0 255 (i + 1 + 1) _ i2 (fun _ v y q => by cases q)) (by decide) i1) y e
        · split at e
          · exact nug 0 40 i _ hi (fun _ v y q => by cases q) y e
          · split at e
            · cases e
            · split at e
              · exact nug 1 60 i _ hi (fun _ v y q => by cases q) y e
              · unfold fdc at e
                split at e
                · cases e; simp
                · split at e
                  · cases e; simp
                  · rename_i c1 c2
                    have i1 := tk_lt tk hi (by omega)
                    refine pag 9 (i + 1) _ (by decide) i1 (fun a j hj2 y q => ?_) y e
                    by_cases k1 : kd = 1
                    · rw [if_pos k1] at q
                      exact pag 10 j _ (by decide) hj2 (fun o j2 hj3 => pag 11 j2 _ (by decide) hj3 (fun z j3 _ y q => by cases q)) y q
                    · rw [if_neg k1] at q
                      exact pag 11 j _ (by decide) hj2 (fun z j3 _ y q => by cases q) y q
  unfold clB at q
  split at q
  · cases q; simp
  · split at q
    · cases q; simp
    · split at q
      · cases q; simp
      · rename_i c1 c2 c3
        have i1 := tk_lt tk hj (by omega)
        cases hr : bdc K V tx (K j) (j + 1) with
        | inl z => rw [hr] at q; cases q; exact bodyg _ _ i1 _ hr
        | inr z =>
          rw [hr] at q
          simp only [bcc] at q
          unfold tkc at q
          split at q
          · cases q
          · cases q; simp
theorem bdc_le (tk : tkok K V N) {tx : List Cl} {kd : Int} {i : Nat} (hi : i ≤ N) {x : Cl × Nat} (e : bdc K V tx kd i = .inr x) : i ≤ x.2 ∧ x.2 ≤ N := by
  have tkg : ∀ (t : Int) (i : Nat) (r : Rc) (m : Nat), t ≠ 66 → i ≤ N → (i + 1 ≤ N → ∀ y, r = .inr y → m ≤ y.2 ∧ y.2 ≤ N) → ∀ y, tkc K t i r = .inr y → m ≤ y.2 ∧ y.2 ≤ N := by
    intro t i r m ht hi hr y e
    unfold tkc at e
    split at e
    · rename_i c
      exact hr (tk_lt tk hi (by rw [c]; exact ht)) y e
    · cases e
  have nug : ∀ (lo hi2 : Int) (i : Nat) (k : Int → Nat → Rc) (m : Nat), i ≤ N → (i + 1 ≤ N → ∀ v y, k v (i + 1) = .inr y → m ≤ y.2 ∧ y.2 ≤ N) → ∀ y, nuc K V lo hi2 i k = .inr y → m ≤ y.2 ∧ y.2 ≤ N := by
    intro lo hi2 i k m hi hk y e
    unfold nuc at e
    split at e
    · rename_i c
      split at e
      · cases e
      · exact hk (tk_lt tk hi (by omega)) _ y e
    · cases e
  have sug : ∀ (l : Bool) (i : Nat) (k : Ex → Nat → Rc) (m : Nat), i ≤ N → (∀ e j, i ≤ j → j ≤ N → ∀ y, k e j = .inr y → m ≤ y.2 ∧ y.2 ≤ N) → ∀ y, bnc (pS K V l i) k = .inr y → m ≤ y.2 ∧ y.2 ≤ N := by
    intro l i k m hi hk y e
    have ok := pS_ok (l := l) tk hi
    cases hr : pS K V l i with
    | inl z => rw [hr] at e; cases e
    | inr z => rw [hr] at e ok; exact hk z.1 z.2 ok.1.1 ok.1.2 y e
  have eug : ∀ (l : Bool) (i : Nat) (k : Ex → Nat → Rc) (m : Nat), i ≤ N → (∀ e j, i ≤ j → j ≤ N → ∀ y, k e j = .inr y → m ≤ y.2 ∧ y.2 ≤ N) → ∀ y, bnc (pE K V l i) k = .inr y → m ≤ y.2 ∧ y.2 ≤ N := by
    intro l i k m hi hk y e
    have ok := pE_ok (l := l) tk hi
    cases hr : pE K V l i with
    | inl z => rw [hr] at e; cases e
    | inr z => rw [hr] at e ok; exact hk z.1 z.2 ok.1.1 ok.1.2 y e
  have pag : ∀ (t : Int) (i : Nat) (k : Ex → Nat → Rc) (m : Nat), t ≠ 66 → i ≤ N → (∀ e j, i ≤ j → j ≤ N → ∀ y, k e j = .inr y → m ≤ y.2 ∧ y.2 ≤ N) → ∀ y, prt1 K V t i k = .inr y → m ≤ y.2 ∧ y.2 ≤ N := fun t i k m ht hi hk => tkg t i _ m ht hi (fun i1 => sug false (i + 1) k m i1 (fun e j z0 z1 => hk e j (by omega) z1))
  unfold bdc at e
  split at e
  · exact eug false i _ i hi (fun e j z0 z1 y q => by cases q; exact ⟨z0, z1⟩) x e
  · split at e
    · exact sug true i _ i hi (fun e j z0 z1 y q => by cases q; exact ⟨z0, z1⟩) x e
    · split at e
      · exact nug 0 39 i _ i hi (fun i1 v => tkg 11 (i + 1) _ i (by decide) i1 (fun i2 => nug 0 255 (i + 1 + 1) _ i i2 (fun i3 v y q => by cases q; exact ⟨by simp only; omega, i3⟩))) x e
      · split at e
        · exact nug 0 40 i _ i hi (fun i3 v y q => by cases q; exact ⟨by simp only; omega, i3⟩) x e
        · split at e
          · cases e; exact ⟨by simp, hi⟩
          · split at e
            · exact nug 1 60 i _ i hi (fun i3 v y q => by cases q; exact ⟨by simp only; omega, i3⟩) x e
            · unfold fdc at e
              split at e
              · cases e
              · split at e
                · cases e
                · rename_i c1 c2
                  have i1 := tk_lt tk hi (by omega)
                  refine pag 9 (i + 1) _ i (by decide) i1 (fun a j z0 z1 y q => ?_) x e
                  by_cases k1 : kd = 1
                  · rw [if_pos k1] at q
                    exact pag 10 j _ i (by decide) z1 (fun o j2 z2 z3 => pag 11 j2 _ i (by decide) z3 (fun z j3 z4 z5 y q => by cases q; exact ⟨by simp only; omega, z5⟩)) y q
                  · rw [if_neg k1] at q
                    exact pag 11 j _ i (by decide) z1 (fun z j3 z4 z5 y q => by cases q; exact ⟨by simp only; omega, z5⟩) y q
end CREST2
