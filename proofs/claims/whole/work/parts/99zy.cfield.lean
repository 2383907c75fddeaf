/-! LEVEL 3, the class reads a CLAUSE of a FIELD -/
section CFIELD
variable {d D : Nat} {g h h0 : am_H} {Q : Int → am_H → Prop} {K V P : Nat → Int} {N : Nat} {T : Int} {i : Nat} {cp kd : Int} {nm : Nat} {sw : Bool} {tx : List Cl}
theorem cX_up {a j v f : Int} {n : Nat} (X : cX g h T P f n) (hT : 242 ≤ T) (ha : T ≤ a ∧ a ≤ T + 12) : cX g (am_up h a j v) T P f n := by
  refine ⟨⟨fun b q q2 => by rw [upr (by omega)]; exact X.1.1 b q q2, ?_⟩, ?_, ?_⟩
  · rw [am_up_ne (by omega)]; exact X.1.2
  · rw [am_up_ne (by omega)]; exact X.2.1
  · rw [am_up_ne (by omega)]; exact X.2.2
theorem cRc_01 {r : Rc} (post : cRc g T P Q (gC g K N T Q tx) r) : cRc g T P (fun r2 h2 => (r2 = 0 ∨ r2 = 1) ∧ Q r2 h2) (gC g K N T (fun r2 h2 => (r2 = 0 ∨ r2 = 1) ∧ Q r2 h2) tx) r := by
  cases r with
  | inl x => exact fun h2 X => ⟨Or.inl rfl, post h2 X⟩
  | inr x => exact fun h2 cp2 kd2 nm2 sw2 C p0 p1 p2 ct ok => ⟨Or.inr rfl, post h2 cp2 kd2 nm2 sw2 C p0 p1 p2 ct ok⟩
/-- what a CLAUSE of a FIELD has put down so far -/
def fFR (h h2 : am_H) (T cp kd : Int) (f tl : Nat) : Prop := (∀ b : Int, T + 1 ≤ b → b ≤ T + 3 → h2 b = h b) ∧ (h2 T 0 = h T 0 ∧ h2 T 5 = h T 5 ∧ h2 T 6 = ((tl ||| 2 ^ f : Nat) : Int)) ∧ (∀ b : Int, T + 5 ≤ b → b ≤ T + 10 → ∀ y : Int, y ≠ f → h2 b y = h b y) ∧ h2 (T + 5) f = kd ∧ ∀ q : Int, q < cp → h2 (T + 4) q = h (T + 4) q
theorem c_readField (E : tE g K V P N T) (C : cC g h K N T i cp kd 0 false) (hk : kd = 0 ∨ kd = 1 ∨ kd = 2) (kf : kfr h0 h T tx.length kd) (p : ctp h0 T tx cp) (ok : okx tx) (h24 : tx.length < 24) (hi : i ≤ N) (p0 : 0 ≤ cp) (p1 : cp + 1 ≤ i) (post : cRc g T P Q (gC g K N T Q tx) (fdc K V tx kd i)) : cf (D + 64) M_X1_readField [.inr (.inr 201)] h Q := by
  have n300 := E.1.1
  have hT := E.2.1.2
  have tT := E.2.1.1
  obtain ⟨e6, e4, e8⟩ : h 201 6 = T ∧ h 201 4 = K i ∧ h 201 8 = kd := ⟨C.2.1.2, C.2.2.1, C.2.2.2.2.2.1⟩
  have k5 := kX5_7 tT
  have k9 := kX5_11 tT
  have k10 := kX5_12 tT
  have hK : 0 ≤ K i ∧ K i < 400 := by
    by_cases q : i = N
    · subst q; rw [E.1.2.1]; omega
    · have := E.1.2.2.1 i (by omega); omega
  have tl := told_lt (tx := tx)
  have h6t : h T 6 = (told tx : Nat) := by rw [kf.2.1 6 (by omega)]; exact p.1.2
  unfold fdc at post
  refine cf_of pX1 (Nat.le_of_ble_eq_true rfl) rfl (fun _ => B_X1_readField_0 ?_)
  rw [e4, w32e (z := K i - 32) (by omega) (by omega)]
  refine c_X6_isField (fun f0 f1 => ⟨fun _ => ?_, fun y => absurd y (by omega)⟩) (fun f0 => ⟨fun y => absurd rfl y, fun _ => ?_⟩)
  · rw [e6]
    refine ⟨tT, ?_⟩
    rw [if_neg (by omega)] at post
    obtain ⟨f, hf⟩ : ∃ f : Nat, K i - 32 = f := ⟨(K i - 32).toNat, by omega⟩
    rw [hf] at post ⊢
    rw [show ((f : Nat) : Int).toNat = f by omega] at post
    have f8 : f < 8 := by omega
    refine cf_of pX5 (Nat.le_of_ble_eq_true rfl) rfl (fun _ => B_X5_tells_0 tT ?_)
    rw [h6t]
    refine c_X6_hasBit (by omega) (by omega) (fun tb => ⟨Or.inr rfl, fun y => absurd y (by omega), fun _ => ?_⟩) (fun tb => ⟨Or.inl rfl, fun _ => ?_, fun y => absurd rfl y⟩)
    · rw [if_pos tb] at post
      exact c_failC E C hi (fun h2 X => ⟨Or.inl rfl, post h2 X⟩)
    · rw [if_neg (by simp [tb])] at post
      rw [e6, h6t, ishl1 (by omega), ior_n (by omega) (by
        have := Nat.pow_lt_pow_right (a := 2) (m := f) (n := 8) (by decide) (by omega)
        omega)]
      have u1 : ∀ x : Int, (am_up h T 6 x) 201 6 = T := fun x => by rw [am_up_ne (by omega)]; exact e6
      have u2 : ∀ x : Int, (am_up h T 6 x) 201 8 = kd := fun x => by rw [am_up_ne (by omega)]; exact e8
      rw [u1, u2]
      have i1 := tk_lt E.1 hi (by omega)
      -- the end: hangs, swayed
      have bad135 : ∀ h2 : am_H, (∃ x n, cX g h2 T P x n ∧ ∀ h3, cX g h3 T P x n → Q 0 h3) → wf (D + 64) M_X1_readField Q 134 [some (.inr (.inr 201)), some (.inl (f : Int)), none] [] h2 := by
        rintro h2 ⟨x, n, X, kx⟩
        refine B_X1_readField_134 (B_X1_readField_135 ?_)
        rw [X.1.2]
        have v1 : ∀ y z : Int, (am_up h2 (T + 9) y z) 201 6 = T := fun y z => by rw [am_up_ne (by omega)]; exact X.1.2
        rw [v1]
        exact ⟨tT, k9.1, by omega, by rw [k9.2]; omega, tT, k10.1, by rw [k10.2]; omega, Or.inl rfl, kx _ (cX_up (cX_up X hT (by omega)) hT (by omega))⟩
      -- to
      have last : ∀ (h17 : am_H) (j : Nat) (cp17 : Int) (nm17 : Nat) (sw17 : Bool) (a o : Ex), cC g h17 K N T j cp17 kd nm17 sw17 → cp17 ≤ j → 0 ≤ cp17 → cp ≤ cp17 → j ≤ N → nm17 = nx a ||| nx o → sw17 = (px a || px o) → nm17 < 256 → ws false a false → ws false o false → sx a ≤ 64 → sx o ≤ 64 → fFR h h17 T cp kd f (told tx) → codp (h17 (T + 4)) (h17 (T + 6) f) a cp17 → (kd = 1 → codp (h17 (T + 4)) (h17 (T + 7) f) o cp17) → (kd ≠ 1 → o = xN 0) →
          cRc g T P Q (gC g K N T Q tx) (prt1 K V 11 j fun z j3 => .inr ((kd, (f : Int), 0, a, z, o), j3)) → wf (D + 64) M_X1_readField Q 113 [some (.inr (.inr 201)), some (.inl (f : Int)), none] [] h17 := by
        intro h17 j cp17 nm17 sw17 a o C17 q1 q2 q3 q4 en es hn wa wo xa xo FR ca co1 co2 post2
        refine B_X1_readField_113 ?_
        rw [C17.2.1.2]
        refine ⟨tT, ?_⟩
        have post3 : cRc g T P (fun r h2 => (∃ x n, cX g h2 T P x n ∧ ∀ h3, cX g h3 T P x n → Q 0 h3) ∨ r = 1) (gC g K N T Q tx) (prt1 K V 11 j fun z j3 => .inr ((kd, (f : Int), 0, a, z, o), j3)) := by
          cases hr : (prt1 K V 11 j fun z j3 => (Sum.inr ((kd, (f : Int), 0, a, z, o), j3) : Rc)) with
          | inl x => rw [hr] at post2; exact fun h2 X => Or.inl ⟨x.1, x.2, X, post2⟩
          | inr x => rw [hr] at post2; exact post2
        refine c_readPart (D := D) E C17 (by omega) q4 q2 q1 hn (by omega) (by omega) f8 post3 (fun h2 q => ⟨fun _ => bad135 h2 (by rcases q with q | q; exact q; omega), fun y => absurd rfl y⟩) (fun z j3 h3 j0 j1 wz xz post4 C3 c3 R3 e3 R3b R3c K3 => ⟨fun y => absurd y (by omega), fun _ => B_X1_readField_135 ?_⟩)
        have pz := lx_pos _ _ wz
        have v0 : h3 201 6 = T := C3.2.1.2
        rw [v0]
        have v1 : ∀ y z : Int, (am_up h3 (T + 9) y z) 201 6 = T := fun y z => by rw [am_up_ne (by omega)]; exact v0
        have v2 : ∀ y z : Int, (am_up h3 (T + 9) y z) 201 11 = h3 201 11 := fun y z => by rw [am_up_ne (by omega)]
        rw [v1, v2, C3.2.2.2.2.2.2.2.1, C3.2.2.2.2.2.2.2.2.1]
        refine ⟨tT, k9.1, by omega, by rw [k9.2]; omega, tT, k10.1, by rw [k10.2]; omega, Or.inr rfl, ?_⟩
        generalize hg : am_up (am_up h3 (T + 9) (f : Int) ((nm17 ||| nx z : Nat) : Int)) (T + 10) (f : Int) (if (sw17 || px z) = true then 1 else 0) = h4
        have C4 : cC g h4 K N T j3 (cp17 + lx z + 1) kd (nm17 ||| nx z) (sw17 || px z) := by rw [← hg]; exact cC_up (cC_up C3 hT (by omega)) hT (by omega)
        have r4 : ∀ b : Int, b ≠ T + 9 → b ≠ T + 10 → h4 b = h3 b := fun b z1 z2 => by rw [← hg, upr z2, upr z1]
        have r4y : ∀ b y : Int, y ≠ f → h4 b y = h3 b y := fun b y z1 => by rw [← hg, am_up_ne (by omega), am_up_ne (by omega)]
        have n9 : h4 (T + 9) f = ((nm17 ||| nx z : Nat) : Int) := by rw [← hg, am_up_ne (by omega), am_up_at]
        have n10 : h4 (T + 10) f = (if (sw17 || px z) = true then 1 else 0) := by rw [← hg, am_up_at]
        obtain ⟨F1, ⟨F2, F3, F4⟩, F5, F6, F7⟩ := FR
        have oc : okc (kd, (f : Int), 0, a, z, o) := by
          refine ⟨by simp only; omega, fun _ => ⟨by simp only; omega, wa, wz, wo⟩, fun y => by simp only at y; omega, fun y => by simp only at y; omega, ⟨xa, by simp only; omega, xo⟩, fun y => co2 y, fun y => by simp only at y; omega, fun y => by simp only at y; omega, fun y => by simp only at y; omega, fun y => by simp only at y; omega⟩
        have row3 : ∀ b : Int, T + 1 ≤ b → b ≤ T + 3 → h4 b = h b := fun b z1 z2 => by rw [r4 b (by omega) (by omega), R3 b (by omega) (by omega) (by omega), F1 b z1 z2]
        have rowT : h4 T = h17 T := by rw [r4 T (by omega) (by omega), R3 T (by omega) (by omega) (by omega)]
        have cz : codp (h4 (T + 4)) (h4 (T + 8) f) z (cp17 + lx z + 1) := by
          rw [r4 (T + 4) (by omega) (by omega), r4 (T + 8) (by omega) (by omega), e3]
          exact ⟨K3, by omega⟩
        have ca4 : codp (h4 (T + 4)) (h4 (T + 6) f) a (cp17 + lx z + 1) := by
          rw [r4 (T + 4) (by omega) (by omega), r4 (T + 6) (by omega) (by omega), R3 (T + 6) (by omega) (by omega) (by omega)]
          exact codp_congr wa ca R3c (by omega)
        refine post4 h4 _ kd _ _ C4 (by omega) c3 j1 (ctp_snoc p ok oc (by omega) ?_ ?_ (fun q hq => ?_) (fun k z0 z1 b z2 z3 => ?_) (fun _ => ?_) (fun y => by simp only at y; omega) (fun y y8 ny b z2 z3 => ?_) ?_ (fun y y8 hy => ?_)) (okx_snoc ok oc h24 (fun _ => ?_) (fun y => by simp only at y; omega))
        · rw [rowT, F2, kf.1]
        · rw [rowT, F4, told_new f8 ⟨by simp only; omega, rfl⟩]
        · rw [r4 (T + 4) (by omega) (by omega), R3c q (by omega), F7 q hq, kf.2.2.2.2.2.2 (T + 4) (by omega) (by omega)]
        · rw [row3 b z2 z3, kf.2.2.1 b z2 z3 k (by omega)]
        · rw [rowT, F3, kf.2.1 5 (by omega)]
        · have yf : (y : Int) ≠ f := fun e => ny ⟨by simp only; omega, e⟩
          rw [r4y b y yf]
          have : h3 b y = h17 b y := by
            by_cases z : b = T + 8
            · rw [z]; exact R3b y yf
            · rw [R3 b (by omega) (by omega) z]
          rw [this, F5 b z2 z3 y yf, kf.2.2.2.2.2.2 b (by omega) (by omega)]
        · refine ⟨?_, fun y => by simp only at y; omega, fun y => by simp only at y; omega, fun y => by simp only at y; omega, fun y => by simp only at y; omega⟩
          rw [row3 (T + 1) (by omega) (by omega)]
          exact kf.2.2.2.1
        · have yf : y = f := by have := hy.2; simp only at this; omega
          subst yf
          refine ⟨?_, ?_, ?_, ca4, cz, fun y1 => ?_⟩
          · rw [r4 (T + 5) (by omega) (by omega), R3 (T + 5) (by omega) (by omega) (by omega), F6]
          · rw [n9, en]
            unfold ncl
            simp only
            rw [Nat.or_assoc, Nat.or_comm (nx o) (nx z), ← Nat.or_assoc]
          · rw [n10, es]
            unfold sway
            simp only
            cases px a <;> cases px o <;> cases px z <;> rfl
          · rw [r4 (T + 4) (by omega) (by omega), r4 (T + 7) (by omega) (by omega), R3 (T + 7) (by omega) (by omega) (by omega)]
            exact codp_congr wo (co1 y1) R3c (by omega)
        · have := told_bit (tx := tx) f8
          rw [tb] at this
          simp only
          have t2 : ¬ 0 ≤ co tx (f : Int) := by simpa using this.symm
          omega
      -- at
      have C1 : cC g (am_up (am_up h T 6 ((told tx ||| 2 ^ f : Nat) : Int)) (T + 5) (f : Int) kd) K N T i cp kd 0 false := cC_up (cC_up C hT (by omega)) hT (by omega)
      refine ⟨tT, tT, k5.1, by omega, by rw [k5.2]; omega, c_advC E C1 i1 (fun h14 C14 R14 => ?_)⟩
      rw [C14.2.1.2]
      refine ⟨tT, ?_⟩
      have FR14 : fFR h h14 T cp kd f (told tx) := by
        refine ⟨fun b z1 z2 => ?_, ⟨?_, ?_, ?_⟩, fun b z1 z2 y z3 => ?_, ?_, fun q hq => ?_⟩
        · rw [R14 b (by omega), upr (by omega), upr (by omega)]
        · rw [R14 T (by omega), am_up_ne (by omega), am_up_ne (by omega)]
        · rw [R14 T (by omega), am_up_ne (by omega), am_up_ne (by omega)]
        · rw [R14 T (by omega), am_up_ne (by omega), am_up_at]
        · rw [R14 b (by omega), am_up_ne (by omega), am_up_ne (by omega)]
        · rw [R14 (T + 5) (by omega), am_up_at]
        · rw [R14 (T + 4) (by omega), am_up_ne (by omega), am_up_ne (by omega)]
      have badX : ∀ (r : Rc), cRc g T P Q (gC g K N T Q tx) r → cRc g T P (fun r h2 => (∃ x n, cX g h2 T P x n ∧ ∀ h3, cX g h3 T P x n → Q 0 h3) ∨ r = 1) (gC g K N T Q tx) r := by
        intro r pr
        cases r with
        | inl x => exact fun h2 X => Or.inl ⟨x.1, x.2, X, pr⟩
        | inr x => exact pr
      have badQ : ∀ (r : Rc), cRc g T P (fun r h2 => (∃ x n, cX g h2 T P x n ∧ ∀ h3, cX g h3 T P x n → Q 0 h3) ∨ r = 1) (gC g K N T Q tx) r → cRc g T P Q (gC g K N T Q tx) r := by
        intro r pr
        cases r with
        | inl x =>
          intro h2 X
          rcases pr h2 X with ⟨x2, n2, X2, k2⟩ | q
          · exact k2 h2 X2
          · exact absurd q (by omega)
        | inr x => exact pr
      refine c_readPart (D := D) (k := _) (Q := fun r h2 => (∃ x n, cX g h2 T P x n ∧ ∀ h3, cX g h3 T P x n → Q 0 h3) ∨ r = 1) E C14 (by omega) i1 p0 (by omega) (by decide) (by omega) (by omega) f8 (badX _ post) (fun h2 q => ⟨fun _ => bad135 h2 (by rcases q with q | q; exact q; omega), fun y => absurd rfl y⟩) (fun a j h17 j0 j1 wa xa post17 C17 c17 R17 e17 R17b R17c K17 => ⟨fun y => absurd y (by omega), fun _ => ?_⟩)
      have pa := lx_pos _ _ wa
      obtain ⟨F1, ⟨F2, F3, F4⟩, F5, F6, F7⟩ := FR14
      have FR17 : fFR h h17 T cp kd f (told tx) := by
        refine ⟨fun b z1 z2 => ?_, ⟨?_, ?_, ?_⟩, fun b z1 z2 y z3 => ?_, ?_, fun q hq => ?_⟩
        · rw [R17 b (by omega) (by omega) (by omega), F1 b z1 z2]
        · rw [R17 T (by omega) (by omega) (by omega), F2]
        · rw [R17 T (by omega) (by omega) (by omega), F3]
        · rw [R17 T (by omega) (by omega) (by omega), F4]
        · rw [← F5 b z1 z2 y z3]
          by_cases z : b = T + 6
          · rw [z]; exact R17b y z3
          · by_cases z4 : b = T + 4
            · omega
            · rw [R17 b (by omega) z4 z]
        · rw [R17 (T + 5) (by omega) (by omega) (by omega), F6]
        · rw [R17c q hq, F7 q hq]
      have ca17 : codp (h17 (T + 4)) (h17 (T + 6) f) a (cp + lx a + 1) := by
        rw [e17]
        exact ⟨K17, by omega⟩
      have kd17 : h17 201 8 = kd := C17.2.2.2.2.2.1
      refine ⟨fun y => last h17 j (cp + lx a + 1) _ _ a (xN 0) C17 c17 (by omega) (by omega) j1 (by simp [nx]) (by simp [px]) (nx_or (nm := 0) (by omega) wa) wa ⟨rfl, by omega, by omega⟩ (by omega) (by simp [sx]) FR17 ca17 (fun z => absurd (kd17.trans z) y) (fun _ => rfl) (by rw [if_neg (by rw [kd17] at y; exact y)] at post17; exact badQ _ post17), fun y => ?_⟩
      rw [kd17] at y
      rw [if_pos y] at post17
      rw [C17.2.1.2]
      refine ⟨tT, ?_⟩
      refine c_readPart (D := D) (Q := fun r h2 => (∃ x n, cX g h2 T P x n ∧ ∀ h3, cX g h3 T P x n → Q 0 h3) ∨ r = 1) E C17 (by omega) j1 (by omega) c17 (nx_or (nm := 0) (by omega) wa) (by decide) (by omega) f8 post17 (fun h2 q => ⟨fun _ => bad135 h2 (by rcases q with q | q; exact q; omega), fun y => absurd rfl y⟩) (fun o j2 h22 k0 k1 wo xo post22 C22 c22 R22 e22 R22b R22c K22 => ⟨fun y => absurd y (by omega), fun _ => ?_⟩)
      have po := lx_pos _ _ wo
      obtain ⟨G1, ⟨G2, G3, G4⟩, G5, G6, G7⟩ := FR17
      refine last h22 j2 _ _ _ a o C22 c22 (by omega) (by omega) k1 (by simp) (by simp) (nx_or (nx_or (nm := 0) (by omega) wa) wo) wa wo (by omega) (by omega) ⟨fun b z1 z2 => ?_, ⟨?_, ?_, ?_⟩, fun b z1 z2 y z3 => ?_, ?_, fun q hq => ?_⟩ ?_ (fun _ => ?_) (fun z => absurd y z) (badQ _ post22)
      · rw [R22 b (by omega) (by omega) (by omega), G1 b z1 z2]
      · rw [R22 T (by omega) (by omega) (by omega), G2]
      · rw [R22 T (by omega) (by omega) (by omega), G3]
      · rw [R22 T (by omega) (by omega) (by omega), G4]
      · rw [← G5 b z1 z2 y z3]
        by_cases z : b = T + 7
        · rw [z]; exact R22b y z3
        · rw [R22 b (by omega) (by omega) z]
      · rw [R22 (T + 5) (by omega) (by omega) (by omega), G6]
      · rw [R22c q (by omega), G7 q hq]
      · rw [R22 (T + 6) (by omega) (by omega) (by omega)]
        exact codp_congr wa ca17 R22c (by omega)
      · rw [e22]
        exact ⟨K22, by omega⟩
  · rw [if_pos (by omega)] at post
    exact c_failC E C hi (fun h2 X => ⟨Or.inl rfl, post h2 X⟩)
end CFIELD
