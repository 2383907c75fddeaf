/-! LEVEL 3, the class reads a CLAUSE -/
def tE (g : am_H) (K V P : Nat → Int) (N : Nat) (T : Int) : Prop := tkok K V N ∧ (am_kd 321 T = 15 ∧ 242 ≤ T) ∧ ∀ j : Nat, j ≤ N → g 202 j = K j ∧ g 203 j = P j ∧ g 204 j = V j
def cO2 (g h : am_H) (T : Int) : Prop := (∀ b : Int, b ≠ 201 → b < T ∨ T + 12 < b → h b = g b) ∧ h 201 6 = T
def cC (g h : am_H) (K : Nat → Int) (N : Nat) (T : Int) (i : Nat) (cp kd : Int) (nm : Nat) (sw : Bool) : Prop := cO2 g h T ∧ (h 201 3 = (N : Int) + 1 ∧ h 201 6 = T) ∧ h 201 4 = K i ∧ h 201 5 = i ∧ h 201 7 = cp ∧ h 201 8 = kd ∧ h 201 9 = 0 ∧ h 201 10 = nm ∧ h 201 11 = (if sw = true then 1 else 0) ∧ h 201 12 = 0
def cX (g h : am_H) (T : Int) (P : Nat → Int) (f : Int) (j : Nat) : Prop := cO2 g h T ∧ h 201 12 = f ∧ h 201 13 = P j
def cRc (g : am_H) (T : Int) (P : Nat → Int) (Q : Int → am_H → Prop) (G : Cl → Nat → Prop) (r : Rc) : Prop := match r with
  | .inl x => ∀ h2, cX g h2 T P x.1 x.2 → Q 0 h2
  | .inr x => G x.1 x.2
section CCLAUSE
variable {d D : Nat} {g h : am_H} {Q : Int → am_H → Prop} {K V P : Nat → Int} {N : Nat} {T : Int} {l : Bool} {i : Nat} {cp kd : Int} {nm : Nat} {sw : Bool} {G : Cl → Nat → Prop}
theorem cC_E (E : tE g K V P N T) (C : cC g h K N T i cp kd nm sw) (hl : kd = 4 ↔ l = true) : cE h K V P N T l := by
  obtain ⟨e1, e2, e3⟩ := E
  obtain ⟨c0, c1, _, _, _, c8, _⟩ := C
  refine ⟨e1, c1, e2, by rw [c8]; exact hl, fun j hj => ?_⟩
  rw [c0.1 202 (by omega) (by omega), c0.1 203 (by omega) (by omega), c0.1 204 (by omega) (by omega)]
  exact e3 j hj
theorem cC_S (C : cC g h K N T i cp kd nm sw) : cS h h K T i cp 0 nm sw := by
  obtain ⟨c0, c1, c4, c5, c7, c8, c9, c10, c11, c12⟩ := C
  exact ⟨⟨fun _ _ _ => rfl, fun _ _ => rfl⟩, c4, c5, c7, c9, c10, c11, c12⟩
theorem cS_C {h2 : am_H} {j : Nat} {cp2 : Int} {nm2 : Nat} {sw2 : Bool} (hT : 242 ≤ T) (C : cC g h K N T i cp kd nm sw) (S : cS h h2 K T j cp2 0 nm2 sw2) : cC g h2 K N T j cp2 kd nm2 sw2 := by
  obtain ⟨c0, c1, c4, c5, c7, c8, c9, c10, c11, c12⟩ := C
  obtain ⟨⟨s0, s1⟩, s4, s5, s7, s9, s10, s11, s12⟩ := S
  refine ⟨⟨fun b q q2 => (s0 b q (by omega)).trans (c0.1 b q q2), by rw [s1 6 (by omega)]; exact c0.2⟩, ⟨by rw [s1 3 (by omega)]; exact c1.1, by rw [s1 6 (by omega)]; exact c1.2⟩, s4, s5, s7, by rw [s1 8 (by omega)]; exact c8, s9, s10, s11, s12⟩
theorem cF_X {h2 : am_H} {f : Int} {j : Nat} (hT : 242 ≤ T) (C : cO2 g h T) (F : cF h h2 T P f j) : cX g h2 T P f j :=
  ⟨⟨fun b q q2 => (F.1.1 b q (by omega)).trans (C.1 b q q2), by rw [F.1.2 6 (by omega)]; exact C.2⟩, F.2⟩
/-- other rows of the Text are other -/
theorem cC_up {a j v : Int} (C : cC g h K N T i cp kd nm sw) (hT : 242 ≤ T) (ha : T ≤ a ∧ a ≤ T + 12) : cC g (am_up h a j v) K N T i cp kd nm sw := by
  obtain ⟨c0, c1, c4, c5, c7, c8, c9, c10, c11, c12⟩ := C
  have e : am_up h a j v 201 = h 201 := upr (by omega)
  refine ⟨⟨fun b q q2 => by rw [upr (by omega)]; exact c0.1 b q q2, by rw [e]; exact c0.2⟩, ?_⟩
  rw [e]
  exact ⟨c1, c4, c5, c7, c8, c9, c10, c11, c12⟩
theorem cRc_b {r : Rs} {k : Ex → Nat → Rc} {j0 b : Nat} {s : Bool} {o : Nat} {cp1 : Int} {nm1 : Nat} {sw1 : Bool} {h1 : am_H} {Q2 : Int → am_H → Prop} (hT : 242 ≤ T) (c0 : cO2 g h T) (ok : okR N l j0 0 s b r) (post : cRc g T P Q G (bnc r k)) (bad : ∀ h2, Q 0 h2 → Q2 0 h2)
    (good : ∀ e j h2, j0 < j → j ≤ N → ws l e s → lx e + j0 ≤ j → sx e ≤ b → cRc g T P Q G (k e j) → cS h h2 K T j (cp1 + lx e) o (nm1 ||| nx e) (sw1 || px e) → (∀ q : Int, q < cp1 → h2 (T + 4) q = h1 (T + 4) q) → cat (h2 (T + 4)) cp1 e → Q2 1 h2) : cPost h h1 K P T o cp1 nm1 sw1 Q2 r := by
  cases r with
  | inl x => exact fun h2 F => bad h2 (post h2 (cF_X hT c0 F))
  | inr x =>
    have h2 : (j0 ≤ x.2 ∧ x.2 ≤ N) ∧ ws l x.1 s ∧ lx x.1 + j0 ≤ 0 + x.2 ∧ sx x.1 ≤ b := ok
    have p := lx_pos _ _ h2.2.1
    exact fun h3 S3 R3 C3 => good x.1 x.2 h3 (by omega) h2.1.2 h2.2.1 (by omega) h2.2.2.2 post S3 R3 C3
/-- a SUM, an EITHER -/
theorem c_sumC {k : Ex → Nat → Rc} (E : tE g K V P N T) (C : cC g h K N T i cp kd nm sw) (hl : kd = 4 ↔ l = true) (hi : i ≤ N) (p0 : 0 ≤ cp) (p1 : cp ≤ i) (hn : nm < 256) (hd : 62 ≤ d) {Q2 : Int → am_H → Prop} (post : cRc g T P Q G (bnc (pS K V l i) k)) (bad : ∀ h2, Q 0 h2 → Q2 0 h2)
    (good : ∀ e j h2, i < j → j ≤ N → ws l e false → lx e + i ≤ j → sx e ≤ 43 → cRc g T P Q G (k e j) → cC g h2 K N T j (cp + lx e) kd (nm ||| nx e) (sw || px e) → (∀ b : Int, b ≠ 201 → b ≠ T + 4 → h2 b = h b) → (∀ q : Int, q < cp → h2 (T + 4) q = h (T + 4) q) → cat (h2 (T + 4)) cp e → Q2 1 h2) : cf d M_X1_readSum [.inr (.inr 201)] h Q2 := by
  have n300 := E.1.1
  have hT := E.2.1.2
  refine (cprs (cC_E E C hl) 5000 d 0 i (xN 0) h cp nm sw Q2 (by omega) hi p0 hn).2.2.2.1 (by omega) (by omega) p1 (cC_S C) (cRc_b hT C.1 (pS_ok E.1 hi) post bad (fun e j h2 j0 j1 we le se post2 S2 R2 C2 => ?_))
  exact good e j h2 j0 j1 we le se post2 (cS_C hT C S2) S2.1.1 R2 C2
theorem c_eitherC {k : Ex → Nat → Rc} (E : tE g K V P N T) (C : cC g h K N T i cp kd nm sw) (hl : kd = 4 ↔ l = true) (hi : i ≤ N) (p0 : 0 ≤ cp) (p1 : cp ≤ i) (hn : nm < 256) (hd : 65 ≤ d) {Q2 : Int → am_H → Prop} (post : cRc g T P Q G (bnc (pE K V l i) k)) (bad : ∀ h2, Q 0 h2 → Q2 0 h2)
    (good : ∀ e j h2, i < j → j ≤ N → ws l e true → lx e + i ≤ j → sx e ≤ 46 → cRc g T P Q G (k e j) → cC g h2 K N T j (cp + lx e) kd (nm ||| nx e) (sw || px e) → (∀ b : Int, b ≠ 201 → b ≠ T + 4 → h2 b = h b) → (∀ q : Int, q < cp → h2 (T + 4) q = h (T + 4) q) → cat (h2 (T + 4)) cp e → Q2 1 h2) : cf d M_X1_readEither [.inr (.inr 201)] h Q2 := by
  have n300 := E.1.1
  have hT := E.2.1.2
  refine (cprs (cC_E E C hl) 5000 d 0 i (xN 0) h cp nm sw Q2 (by omega) hi p0 hn).2.2.2.2.2.2.2.2.1 (by omega) (by omega) p1 (cC_S C) (cRc_b hT C.1 (pE_ok E.1 hi) post bad (fun e j h2 j0 j1 we le se post2 S2 R2 C2 => ?_))
  exact good e j h2 j0 j1 we le se post2 (cS_C hT C S2) S2.1.1 R2 C2
theorem c_takeC {t : Int} (E : tE g K V P N T) (C : cC g h K N T i cp kd nm sw) (hi : i ≤ N) (ht : t ≠ 66) (k1 : K i = t → i + 1 ≤ N → ∀ h2, cC g h2 K N T (i + 1) cp kd nm sw → (∀ b : Int, b ≠ 201 → h2 b = h b) → Q 1 h2) (k0 : K i ≠ t → ∀ h2, cX g h2 T P 1 i → Q 0 h2) : cf (d + 1) M_X1_take [.inr (.inr 201), .inl t] h Q := by
  have hT := E.2.1.2
  refine c_take (cC_E (l := decide (kd = 4)) E C (by simp)) (cC_S C) hi ht (fun q q2 h2 S2 R2 => k1 q q2 h2 (cS_C hT C S2) (fun b qb => ?_)) (fun q h2 F => k0 q h2 (cF_X hT C.1 F))
  by_cases z : b = T + 4
  · rw [z]; exact R2
  · exact S2.1.1 b qb z
theorem c_failC {f : Int} (E : tE g K V P N T) (C : cC g h K N T i cp kd nm sw) (hi : i ≤ N) (k : ∀ h2, cX g h2 T P f i → Q 0 h2) : cf d M_X1_fail [.inr (.inr 201), .inl f] h Q :=
  c_fail (cC_E (l := decide (kd = 4)) E C (by simp)) (cC_S C) hi (fun h2 F => k h2 (cF_X E.2.1.2 C.1 F))
theorem c_advC (E : tE g K V P N T) (C : cC g h K N T i cp kd nm sw) (hi : i + 1 ≤ N) (k : ∀ h2, cC g h2 K N T (i + 1) cp kd nm sw → (∀ b : Int, b ≠ 201 → h2 b = h b) → Q 1 h2) : cf d M_X1_advance [.inr (.inr 201)] h Q := by
  refine c_advance (cC_E (l := decide (kd = 4)) E C (by simp)) (cC_S C) hi (fun h2 S2 R2 => k h2 (cS_C E.2.1.2 C S2) (fun b qb => ?_))
  by_cases z : b = T + 4
  · rw [z]; exact R2
  · exact S2.1.1 b qb z
theorem c_endC (E : tE g K V P N T) (C : cC g h K N T i cp kd nm sw) (p0 : 0 ≤ cp) (p1 : cp < 300) (k : ∀ h2, cC g h2 K N T i (cp + 1) kd nm sw → (∀ b : Int, b ≠ 201 → b ≠ T + 4 → h2 b = h b) → h2 (T + 4) cp = 24 → (∀ q : Int, q ≠ cp → h2 (T + 4) q = h (T + 4) q) → Q cp h2) : cf d M_X1_emit [.inr (.inr 201), .inl 24, .inl 0] h Q :=
  c_emit1 (cC_E (l := decide (kd = 4)) E C (by simp)) (cC_S C) p0 p1 (by omega) (by omega) (v := 24) rfl (fun h2 S2 e2 R2 => k h2 (cS_C E.2.1.2 C S2) S2.1.1 e2 R2)
theorem cRc_t1 {r : Rc} {t1 : Int} (post : cRc g T P Q G (tkc K t1 i r)) (q : K i = t1) : cRc g T P Q G r := by
  rw [tkc, if_pos q] at post
  exact post
theorem cRc_t0 {r : Rc} {t1 : Int} (post : cRc g T P Q G (tkc K t1 i r)) (q : K i ≠ t1) : ∀ h2, cX g h2 T P 1 i → Q 0 h2 := by
  rw [tkc, if_neg q] at post
  exact post
/-- at, of, to: the word, the SUM, where its steps stand -/
theorem c_readPart {k : Ex → Nat → Rc} {t a2 : Int} {f : Nat} (E : tE g K V P N T) (C : cC g h K N T i cp kd nm sw) (hk : kd ≠ 4) (hi : i ≤ N) (p0 : 0 ≤ cp) (p1 : cp ≤ i) (hn : nm < 256) (ht : t ≠ 66) (ha : T + 6 ≤ a2 ∧ a2 ≤ T + 8) (hf : f < 8) {Q2 : Int → am_H → Prop} (post : cRc g T P Q G (prt1 K V t i k)) (bad : ∀ h2, Q 0 h2 → Q2 0 h2)
    (good : ∀ e j h2, i < j → j ≤ N → ws false e false → sx e ≤ 43 → cRc g T P Q G (k e j) → cC g h2 K N T j (cp + lx e + 1) kd (nm ||| nx e) (sw || px e) → cp + lx e + 1 ≤ j → (∀ b : Int, b ≠ 201 → b ≠ T + 4 → b ≠ a2 → h2 b = h b) → h2 a2 f = cp → (∀ y : Int, y ≠ f → h2 a2 y = h a2 y) → (∀ q : Int, q < cp → h2 (T + 4) q = h (T + 4) q) → cod (h2 (T + 4)) cp e → Q2 1 h2) : cf (D + 63) M_X1_readPart [.inr (.inr 201), .inl t, .inr (.inr a2), .inl (f : Int)] h Q2 := by
  have n300 := E.1.1
  have hT := E.2.1.2
  have ka : am_kd 321 a2 = 0 ∧ am_ln a2 = 8 := by
    rcases (show a2 = T + 6 ∨ a2 = T + 7 ∨ a2 = T + 8 by omega) with rfl | rfl | rfl
    · exact kX5_8 E.2.1.1
    · exact kX5_9 E.2.1.1
    · exact kX5_10 E.2.1.1
  refine cf_of pX1 (Nat.le_of_ble_eq_true rfl) rfl (fun _ => B_X1_readPart_0 ⟨fun y => by omega, fun _ => ⟨ka.1, fun y => by rw [ka.2] at y; omega, fun _ => ⟨by rw [ka.2]; omega, B_X1_readPart_17 ?_⟩⟩⟩)
  rw [C.2.2.2.2.1]
  have C1 := cC_up (j := (f : Int)) (v := cp) C hT (a := a2) (by omega)
  unfold prt1 at post
  refine c_takeC E C1 hi ht (fun q i1 h2 C2 R2 => ⟨fun y => absurd y (by omega), fun _ => ?_⟩) (fun q h2 X => ⟨fun _ => bad h2 (cRc_t0 post q h2 X), fun y => absurd rfl y⟩)
  refine c_sumC (l := false) E C2 (by simp [hk]) i1 p0 (by omega) hn (by omega) (cRc_t1 post q) (fun h3 q3 => ⟨fun _ => bad h3 q3, fun y => absurd rfl y⟩) (fun e j h3 j0 j1 we le se post2 C3 R3 R3b K3 => ⟨fun y => absurd y (by omega), fun _ => ?_⟩)
  have pe := lx_pos _ _ we
  refine c_endC E C3 (by omega) (by omega) (fun h4 C4 R4 e4 R4b => ⟨fun y => by omega, fun _ => ?_⟩)
  have row : ∀ b : Int, b ≠ 201 → b ≠ T + 4 → h4 b = am_up h a2 (f : Int) cp b := fun b q q2 => by rw [R4 b q q2, R3 b q q2, R2 b q]
  refine good e j h4 (by omega) j1 we se post2 C4 (by omega) (fun b q q2 q3 => by rw [row b q q2, upr q3]) (by rw [row a2 (by omega) (by omega), am_up_at]) (fun y q => by rw [row a2 (by omega) (by omega), am_up_ne (by omega)]) (fun q hq => by rw [R4b q (by omega), R3b q hq, R2 _ (by omega), upr (by omega)]) ⟨cat_congr _ _ we _ K3 (fun q q0 q1 => R4b q (by omega)), e4, p0, by omega⟩
/-- a NUMBER in its bounds -/
theorem c_readNumber {k : Int → Nat → Rc} {lo hi2 a3 v4 : Int} (E : tE g K V P N T) (C : cC g h K N T i cp kd nm sw) (hi : i ≤ N) (ha : T ≤ a3 ∧ a3 ≤ T + 12) (ka : am_kd 321 a3 = 0) (hv : 0 ≤ v4 ∧ v4 < am_ln a3) {Q2 : Int → am_H → Prop} (post : cRc g T P Q G (nuc K V lo hi2 i k)) (bad : ∀ h2, Q 0 h2 → Q2 0 h2)
    (good : K i = 64 → lo ≤ V i → V i ≤ hi2 → i + 1 ≤ N → cRc g T P Q G (k (V i) (i + 1)) → ∀ h2, cC g h2 K N T (i + 1) cp kd nm sw → (∀ b : Int, b ≠ 201 → b ≠ a3 → h2 b = h b) → h2 a3 v4 = V i → (∀ y : Int, y ≠ v4 → h2 a3 y = h a3 y) → Q2 1 h2) : cf (d + 1) M_X1_readNumber [.inr (.inr 201), .inl lo, .inl hi2, .inr (.inr a3), .inl v4] h Q2 := by
  have n300 := E.1.1
  have hT := E.2.1.2
  have vv := E.1.2.2.2 i
  unfold nuc at post
  refine cf_of pX1 (Nat.le_of_ble_eq_true rfl) rfl (fun _ => B_X1_readNumber_0 (c_numberHere (cC_E (l := decide (kd = 4)) E C (by simp)) (cC_S C) hi (fun q => ⟨fun _ => ⟨fun y => B_X1_readNumber_30 ?_, fun y => ⟨fun y2 => ⟨fun z => by omega, fun _ => ⟨ka, fun z => by omega, fun _ => ⟨by omega, B_X1_readNumber_54 ?_⟩⟩⟩, fun y2 => B_X1_readNumber_30 ?_⟩⟩, fun y => by omega⟩) (fun q => ⟨fun y => absurd rfl y, fun _ => ?_⟩)))
  · rw [if_pos q, if_pos (by omega)] at post
    exact c_failC E C hi (fun h2 X => ⟨Or.inl rfl, bad h2 (post h2 X)⟩)
  · rw [if_pos q, if_neg (by omega)] at post
    have i1 := tk_lt E.1 hi (by omega)
    refine c_advC E (cC_up C hT ha) i1 (fun h2 C2 R2 => ⟨Or.inr rfl, good q y y2 i1 post h2 C2 (fun b q1 q2 => by rw [R2 b q1, upr q2]) (by rw [R2 a3 (by omega), am_up_at]) (fun y q1 => by rw [R2 a3 (by omega), am_up_ne (by omega)])⟩)
  · rw [if_pos q, if_pos (by omega)] at post
    exact c_failC E C hi (fun h2 X => ⟨Or.inl rfl, bad h2 (post h2 X)⟩)
  · rw [if_neg q] at post
    exact c_failC E C hi (fun h2 X => ⟨Or.inl rfl, bad h2 (post h2 X)⟩)
end CCLAUSE
