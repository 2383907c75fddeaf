/-! LEVEL 3, the class reads SUMS and EITHERS by the TOKENS: all of it *at once* -/
section CPRS2
variable {g : am_H} {K V P : Nat → Int} {N : Nat} {T : Int} {l : Bool}
theorem w0_sum {d : Nat} {h : am_H} {Q : Int → am_H → Prop} {v2 : Int} (k : Q 0 h) : wf (d + 1) M_X1_readSum Q 7 [some (.inr (.inr 201)), some (.inl 0), some (.inl v2), none] [] h :=
  B_X1_readSum_7 ⟨fun _ => ⟨Or.inl rfl, k⟩, fun _ => ⟨fun _ => ⟨Or.inl rfl, k⟩, fun y => absurd rfl y⟩⟩
theorem w0_product {d : Nat} {h : am_H} {Q : Int → am_H → Prop} {v2 : Int} (k : Q 0 h) : wf (d + 1) M_X1_readProduct Q 7 [some (.inr (.inr 201)), some (.inl 0), some (.inl v2), none] [] h :=
  B_X1_readProduct_7 ⟨fun _ => ⟨Or.inl rfl, k⟩, fun _ => ⟨fun _ => ⟨Or.inl rfl, k⟩, fun y => absurd rfl y⟩⟩
theorem w0_both {d : Nat} {h : am_H} {Q : Int → am_H → Prop} {v2 : Int} (k : Q 0 h) : wf (d + 1) M_X1_readBoth Q 7 [some (.inr (.inr 201)), some (.inl 0), some (.inl v2)] [] h :=
  B_X1_readBoth_7 ⟨fun _ => ⟨Or.inl rfl, k⟩, fun _ => ⟨fun _ => ⟨Or.inl rfl, k⟩, fun y => absurd rfl y⟩⟩
theorem w0_either {d : Nat} {h : am_H} {Q : Int → am_H → Prop} {v2 : Int} (k : Q 0 h) : wf (d + 1) M_X1_readEither Q 7 [some (.inr (.inr 201)), some (.inl 0), some (.inl v2)] [] h :=
  B_X1_readEither_7 ⟨fun _ => ⟨Or.inl rfl, k⟩, fun _ => ⟨fun _ => ⟨Or.inl rfl, k⟩, fun y => absurd rfl y⟩⟩
theorem cP_01 {h : am_H} {o : Nat} {cp : Int} {nm : Nat} {sw : Bool} {Q : Int → am_H → Prop} {r : Rs} (post : cPost g h K P T o cp nm sw Q r) : cPost g h K P T o cp nm sw (fun r2 h2 => (r2 = 0 ∨ r2 = 1) ∧ Q r2 h2) r := by
  cases r with
  | inl x => exact fun h2 F => ⟨Or.inl rfl, post h2 F⟩
  | inr x => exact fun h2 S R C => ⟨Or.inr rfl, post h2 S R C⟩
def cGo (g : am_H) (K V P : Nat → Int) (N : Nat) (T : Int) (l : Bool) (n : Nat) : Prop := ∀ (d o i : Nat) (a : Ex) (h : am_H) (cp : Int) (nm : Nat) (sw : Bool) (Q : Int → am_H → Prop), o ≤ 8 → i ≤ N → 0 ≤ cp → nm < 256 →
    (16 * (N - i) + 1 ≤ n → 7 * (8 - o) + 4 ≤ d → cp ≤ i → cS g h K T i cp o nm sw → cPost g h K P T o cp nm sw Q (prs K V l n 0 o i a) → cf d M_X1_readOne [.inr (.inr 201)] h Q) ∧
    (16 * (N - i) + 2 ≤ n → 7 * (8 - o) + 5 ≤ d → cp ≤ i → cS g h K T i cp o nm sw → cPost g h K P T o cp nm sw Q (prs K V l n 1 o i a) → cf d M_X1_readProduct [.inr (.inr 201)] h Q) ∧
    (16 * (N - i) + 1 ≤ n → 7 * (8 - o) + 5 ≤ d → cp + lx a ≤ i → ws l a false → sx a ≤ 2 + 5 * (8 - o) → cS g h K T i (cp + lx a) o (nm ||| nx a) (sw || px a) → cat (h (T + 4)) cp a → ∀ v2 : Int, 0 ≤ v2 → v2 ≤ i → cPost g h K P T o cp nm sw Q (prs K V l n 2 o i a) → wf d M_X1_readProduct Q 7 [some (.inr (.inr 201)), some (.inl 1), some (.inl v2), none] [] h) ∧
    (16 * (N - i) + 3 ≤ n → 7 * (8 - o) + 6 ≤ d → cp ≤ i → cS g h K T i cp o nm sw → cPost g h K P T o cp nm sw Q (prs K V l n 3 o i a) → cf d M_X1_readSum [.inr (.inr 201)] h Q) ∧
    (16 * (N - i) + 1 ≤ n → 7 * (8 - o) + 6 ≤ d → cp + lx a ≤ i → ws l a false → sx a ≤ 3 + 5 * (8 - o) → cS g h K T i (cp + lx a) o (nm ||| nx a) (sw || px a) → cat (h (T + 4)) cp a → ∀ v2 : Int, 0 ≤ v2 → v2 ≤ i → cPost g h K P T o cp nm sw Q (prs K V l n 4 o i a) → wf d M_X1_readSum Q 7 [some (.inr (.inr 201)), some (.inl 1), some (.inl v2), none] [] h) ∧
    (16 * (N - i) + 4 ≤ n → 7 * (8 - o) + 7 ≤ d → cp ≤ i → cS g h K T i cp o nm sw → cPost g h K P T o cp nm sw Q (prs K V l n 5 o i a) → cf d M_X1_readAsk [.inr (.inr 201)] h Q) ∧
    (16 * (N - i) + 5 ≤ n → 7 * (8 - o) + 8 ≤ d → cp ≤ i → cS g h K T i cp o nm sw → cPost g h K P T o cp nm sw Q (prs K V l n 6 o i a) → cf d M_X1_readBoth [.inr (.inr 201)] h Q) ∧
    (16 * (N - i) + 1 ≤ n → 7 * (8 - o) + 8 ≤ d → cp + lx a ≤ i → ws l a true → sx a ≤ 5 + 5 * (8 - o) → cS g h K T i (cp + lx a) o (nm ||| nx a) (sw || px a) → cat (h (T + 4)) cp a → ∀ v2 : Int, 0 ≤ v2 → v2 ≤ i → cPost g h K P T o cp nm sw Q (prs K V l n 7 o i a) → wf d M_X1_readBoth Q 7 [some (.inr (.inr 201)), some (.inl 1), some (.inl v2)] [] h) ∧
    (16 * (N - i) + 6 ≤ n → 7 * (8 - o) + 9 ≤ d → cp ≤ i → cS g h K T i cp o nm sw → cPost g h K P T o cp nm sw Q (prs K V l n 8 o i a) → cf d M_X1_readEither [.inr (.inr 201)] h Q) ∧
    (16 * (N - i) + 1 ≤ n → 7 * (8 - o) + 9 ≤ d → cp + lx a ≤ i → ws l a true → sx a ≤ 6 + 5 * (8 - o) → cS g h K T i (cp + lx a) o (nm ||| nx a) (sw || px a) → cat (h (T + 4)) cp a → ∀ v2 : Int, 0 ≤ v2 → v2 ≤ i → cPost g h K P T o cp nm sw Q (prs K V l n 9 o i a) → wf d M_X1_readEither Q 7 [some (.inr (.inr 201)), some (.inl 1), some (.inl v2)] [] h)
theorem cprs_one (E : cE g K V P N T l) {n : Nat} (ih : cGo g K V P N T l n) (d o i : Nat) (a : Ex) (h : am_H) (cp : Int) (nm : Nat) (sw : Bool) (Q : Int → am_H → Prop) (ho : o ≤ 8) (hi : i ≤ N) (c0 : 0 ≤ cp) (hn : nm < 256) :
    (16 * (N - i) + 1 ≤ n + 1 → 7 * (8 - o) + 4 ≤ d → cp ≤ i → cS g h K T i cp o nm sw → cPost g h K P T o cp nm sw Q (prs K V l (n + 1) 0 o i a) → cf d M_X1_readOne [.inr (.inr 201)] h Q) := by
  intro hf hd hc S post
  have tk := E.1
  have s4 := S.2.1
  have n300 := tk.1
  have hT := E.2.2.1.2
  obtain ⟨y, rfl⟩ : ∃ y, d = y + 3 := ⟨d - 3, by omega⟩
  simp only [prs] at post
  refine cf_of pX1 (Nat.le_of_ble_eq_true rfl) rfl (fun _ => B_X1_readOne_0 ?_)
  rw [s4]
  refine ⟨fun c1 => ?_, fun c1 => ⟨fun c2 => ?_, fun c2 => ⟨fun c3 => ?_, fun c3 => ⟨fun c4 => ?_, fun c4 => ?_⟩⟩⟩⟩
  · rw [if_pos c1] at post
    have i1 := tk_lt tk hi (by omega)
    refine c_opens E (cS_sw S) i1 (fun o8 h3 S3 R3 => ⟨fun y => absurd y (by omega), fun _ => ?_⟩) (fun o8 h3 F3 => ⟨fun _ => cP_o0 post o8 h3 F3, fun y => absurd rfl y⟩)
    have ok := (prs_ok (l := l) tk n (o + 1) (i + 1) a (by omega) i1).1 (by omega)
    refine (ih _ (o + 1) (i + 1) a h3 cp nm true _ (by omega) i1 c0 hn).1 (by omega) (by omega) (by omega) S3 (cP_call ok (cP_o1 post o8) (fun h2 q => ⟨fun _ => q, fun y => absurd rfl y⟩) (fun e j h6 j0 j1 we le se post2 S6 R6 C6 => ⟨fun y => absurd y (by omega), fun _ => c_closes E S6 ho (fun h9 S9 R9 => ⟨fun y => absurd y (by omega), fun _ => ?_⟩)⟩))
    refine c_emit1 E S9 (by omega) (by omega) (op := 9) (by omega) (by omega) rfl (fun h12 S12 e12 R12 => ⟨fun y => by omega, fun _ => ?_⟩)
    refine post2 h12 (cS_eq S12 rfl (by simp only [lx]; omega) rfl (by simp only [nx]) (by simp [px])) (fun q hq => by rw [R12 q (by omega), R9, R6 q hq, R3, upr (by omega)]) ?_
    simp only [cat]
    exact ⟨cat_congr _ _ we _ C6 (fun q q0 q1 => by rw [R12 q (by omega), R9]), e12⟩
  · rw [if_neg c1, if_pos c2] at post
    have i1 := tk_lt tk hi (by omega)
    refine cf_of pX1 (Nat.le_of_ble_eq_true rfl) rfl (fun _ => B_X1_readIf_0 ?_)
    refine c_opens E S i1 (fun o8 h3 S3 R3 => ⟨fun y => absurd y (by omega), fun _ => ?_⟩) (fun o8 h3 F3 => ⟨fun _ => ⟨Or.inl rfl, cP_o0 post o8 h3 F3⟩, fun y => absurd rfl y⟩)
    have ok := (prs_ok (l := l) tk n (o + 1) (i + 1) a (by omega) i1).2.2.2.2.2.2.2.2.1 (by omega)
    refine (ih _ (o + 1) (i + 1) a h3 cp nm sw _ (by omega) i1 c0 hn).2.2.2.2.2.2.2.2.1 (by omega) (by omega) (by omega) S3 (cP_call ok (cP_o1 post o8) (fun h2 q => ⟨fun y => absurd rfl y, fun _ => ⟨Or.inl rfl, q⟩⟩) (fun C j h5 j0 j1 wC lC sC post5 S5 R5 C5 => ⟨fun _ => ?_, fun y => absurd y (by omega)⟩))
    have pC := lx_pos _ _ wC
    refine c_emit1 E S5 (by omega) (by omega) (op := 22) (by omega) (by omega) rfl (fun h8 S8 e8 R8 => ?_)
    refine c_take E S8 j1 (by omega) (fun t1 j11 h10 S10 R10 => ⟨fun y => absurd y (by omega), fun _ => ?_⟩) (fun t1 h10 F10 => ⟨fun _ => ⟨Or.inl rfl, cP_t0 post5 t1 h10 F10⟩, fun y => absurd rfl y⟩)
    have ok2 := (prs_ok (l := l) tk n (o + 1) (j + 1) a (by omega) j11).2.2.2.1 (by omega)
    refine (ih _ (o + 1) (j + 1) a h10 (cp + lx C + 1) (nm ||| nx C) (sw || px C) _ (by omega) j11 (by omega) (nx_or hn wC)).2.2.2.1 (by omega) (by omega) (by omega) S10 (cP_call ok2 (cP_t1 post5 t1) (fun h2 q => ⟨fun y => absurd rfl y, fun _ => ⟨Or.inl rfl, q⟩⟩) (fun X j2 h13 k0 k1 wX lX sX post13 S13 R13 C13 => ⟨fun _ => ?_, fun y => absurd y (by omega)⟩))
    have pX := lx_pos _ _ wX
    refine c_emit1 E S13 (by omega) (by omega) (op := 23) (by omega) (by omega) rfl (fun h16 S16 e16 R16 => ?_)
    refine c_aim1 E S16 (by omega) (at1 := cp + lx C) (b := 22) (by omega) (by omega) (by rw [R16 _ (by omega), R13 _ (by omega), R10, e8]; rfl) (fun h18 S18 e18 R18 => ?_)
    refine c_take E S18 k1 (by omega) (fun t2 k11 h20 S20 R20 => ⟨fun y => absurd y (by omega), fun _ => ?_⟩) (fun t2 h20 F20 => ⟨fun _ => ⟨Or.inl rfl, cP_t0 post13 t2 h20 F20⟩, fun y => absurd rfl y⟩)
    have ok3 := (prs_ok (l := l) tk n (o + 1) (j2 + 1) a (by omega) k11).2.2.2.1 (by omega)
    refine (ih _ (o + 1) (j2 + 1) a h20 (cp + lx C + 1 + lx X + 1) (nm ||| nx C ||| nx X) (sw || px C || px X) _ (by omega) k11 (by omega) (nx_or (nx_or hn wC) wX)).2.2.2.1 (by omega) (by omega) (by omega) S20 (cP_call ok3 (cP_t1 post13 t2) (fun h2 q => ⟨fun y => absurd rfl y, fun _ => ⟨Or.inl rfl, q⟩⟩) (fun Y j3 h23 m0 m1 wY lY sY post23 S23 R23 C23 => ⟨fun _ => ?_, fun y => absurd y (by omega)⟩))
    have pY := lx_pos _ _ wY
    refine c_aim1 E S23 (by omega) (at1 := cp + lx C + 1 + lx X) (b := 23) (by omega) (by omega) (by rw [R23 _ (by omega), R20, R18 _ (by omega), e16]; rfl) (fun h26 S26 e26 R26 => ?_)
    refine c_take E S26 m1 (by omega) (fun t3 m11 h28 S28 R28 => ⟨fun y => absurd y (by omega), fun _ => ?_⟩) (fun t3 h28 F28 => ⟨fun _ => ⟨Or.inl rfl, cP_t0 post23 t3 h28 F28⟩, fun y => absurd rfl y⟩)
    refine c_closes E S28 ho (fun h31 S31 R31 => ⟨fun y => absurd y (by omega), fun _ => ⟨Or.inr rfl, ?_⟩⟩)
    have F1 : ∀ q : Int, q < cp + lx C → h31 (T + 4) q = h5 (T + 4) q := fun q hq => by rw [R31, R28, R26 q (by omega), R23 q (by omega), R20, R18 q (by omega), R16 q (by omega), R13 q (by omega), R10, R8 q (by omega)]
    refine cP_t1 post23 t3 h31 (cS_eq S31 rfl (by simp only [lx]; omega) rfl (by simp only [nx, Nat.or_assoc]) (by simp [px, Bool.or_assoc])) (fun q hq => by rw [F1 q (by omega), R5 q hq, R3]) ?_
    simp only [cat]
    refine ⟨cat_congr _ _ wC _ C5 (fun q q0 q1 => F1 q q1), ?_, cat_congr _ _ wX _ C13 (fun q q0 q1 => ?_), ?_, cat_congr _ _ wY _ C23 (fun q q0 q1 => ?_)⟩
    · rw [R31, R28, R26 _ (by omega), R23 _ (by omega), R20, e18]
    · rw [R31, R28, R26 q (by omega), R23 q (by omega), R20, R18 q (by omega), R16 q (by omega)]
    · rw [R31, R28, e26]
    · rw [R31, R28, R26 q (by omega)]
  · rw [if_neg c1, if_neg c2, if_pos c3] at post
    have i1 := tk_lt tk hi (by omega)
    refine c_opens E S i1 (fun o8 h3 S3 R3 => ⟨fun y => absurd y (by omega), fun _ => ?_⟩) (fun o8 h3 F3 => ⟨fun _ => cP_o0 post o8 h3 F3, fun y => absurd rfl y⟩)
    have ok := (prs_ok (l := l) tk n (o + 1) (i + 1) a (by omega) i1).2.2.2.1 (by omega)
    refine (ih _ (o + 1) (i + 1) a h3 cp nm sw _ (by omega) i1 c0 hn).2.2.2.1 (by omega) (by omega) (by omega) S3 (cP_call ok (cP_o1 post o8) (fun h2 q => ⟨fun _ => q, fun y => absurd rfl y⟩) (fun e j h6 j0 j1 we le se post2 S6 R6 C6 => ⟨fun y => absurd y (by omega), fun _ => ?_⟩))
    refine c_take E S6 j1 (by omega) (fun t1 j11 h9 S9 R9 => ⟨fun y => absurd y (by omega), fun _ => c_closes E S9 ho (fun h12 S12 R12 => ⟨fun y => absurd y (by omega), fun _ => ?_⟩)⟩) (fun t1 h9 F9 => ⟨fun _ => cP_t0 post2 t1 h9 F9, fun y => absurd rfl y⟩)
    refine cP_t1 post2 t1 h12 S12 (fun q hq => by rw [R12, R9, R6 q hq, R3]) ?_
    exact cat_congr _ _ we _ C6 (fun q q0 q1 => by rw [R12, R9])
  · rw [if_neg c1, if_neg c2, if_neg c3, if_pos c4] at post
    have i1 := tk_lt tk hi (by omega)
    refine c_opens E S i1 (fun o8 h3 S3 R3 => ⟨fun y => absurd y (by omega), fun _ => ?_⟩) (fun o8 h3 F3 => ⟨fun _ => cP_o0 post o8 h3 F3, fun y => absurd rfl y⟩)
    have ok := (prs_ok (l := l) tk n (o + 1) (i + 1) a (by omega) i1).1 (by omega)
    refine (ih _ (o + 1) (i + 1) a h3 cp nm sw _ (by omega) i1 c0 hn).1 (by omega) (by omega) (by omega) S3 (cP_call ok (cP_o1 post o8) (fun h2 q => ⟨fun _ => q, fun y => absurd rfl y⟩) (fun e j h6 j0 j1 we le se post2 S6 R6 C6 => ⟨fun y => absurd y (by omega), fun _ => c_closes E S6 ho (fun h9 S9 R9 => ⟨fun y => absurd y (by omega), fun _ => ?_⟩)⟩))
    refine c_emit1 E S9 (by omega) (by omega) (op := 7) (by omega) (by omega) rfl (fun h12 S12 e12 R12 => ⟨fun y => by omega, fun _ => ?_⟩)
    refine post2 h12 (cS_eq S12 rfl (by simp only [lx]; omega) rfl (by simp only [nx]) (by simp [px])) (fun q hq => by rw [R12 q (by omega), R9, R6 q hq, R3]) ?_
    simp only [cat]
    exact ⟨cat_congr _ _ we _ C6 (fun q q0 q1 => by rw [R12 q (by omega), R9]), e12⟩
  · rw [if_neg c1, if_neg c2, if_neg c3, if_neg c4] at post
    exact c_readName E S hi c0 hc hn (cP_01 post)

theorem cprs_product (E : cE g K V P N T l) {n : Nat} (ih : cGo g K V P N T l n) (d o i : Nat) (a : Ex) (h : am_H) (cp : Int) (nm : Nat) (sw : Bool) (Q : Int → am_H → Prop) (ho : o ≤ 8) (hi : i ≤ N) (c0 : 0 ≤ cp) (hn : nm < 256) :
    (16 * (N - i) + 2 ≤ n + 1 → 7 * (8 - o) + 5 ≤ d → cp ≤ i → cS g h K T i cp o nm sw → cPost g h K P T o cp nm sw Q (prs K V l (n + 1) 1 o i a) → cf d M_X1_readProduct [.inr (.inr 201)] h Q) := by
  intro hf hd hc S post
  have tk := E.1
  obtain ⟨y, rfl⟩ : ∃ y, d = y + 1 := ⟨d - 1, by omega⟩
  simp only [prs] at post
  refine cf_of pX1 (Nat.le_of_ble_eq_true rfl) rfl (fun _ => B_X1_readProduct_0 ?_)
  have ok := (prs_ok (l := l) tk n o i a ho hi).1 (by omega)
  refine (ih _ o i a h cp nm sw _ ho hi c0 hn).1 (by omega) (by omega) hc S (cP_call ok post (fun h2 q => w0_product q) (fun e j h2 j0 j1 we le se post2 S2 R2 C2 => ?_))
  exact (ih _ o j e h2 cp nm sw _ ho j1 c0 hn).2.2.1 (by omega) (by omega) (by omega) we (by omega) S2 C2 0 (by omega) (by omega) (cP_tail post2 R2)
theorem cprs_sum (E : cE g K V P N T l) {n : Nat} (ih : cGo g K V P N T l n) (d o i : Nat) (a : Ex) (h : am_H) (cp : Int) (nm : Nat) (sw : Bool) (Q : Int → am_H → Prop) (ho : o ≤ 8) (hi : i ≤ N) (c0 : 0 ≤ cp) (hn : nm < 256) :
    (16 * (N - i) + 3 ≤ n + 1 → 7 * (8 - o) + 6 ≤ d → cp ≤ i → cS g h K T i cp o nm sw → cPost g h K P T o cp nm sw Q (prs K V l (n + 1) 3 o i a) → cf d M_X1_readSum [.inr (.inr 201)] h Q) := by
  intro hf hd hc S post
  have tk := E.1
  obtain ⟨y, rfl⟩ : ∃ y, d = y + 1 := ⟨d - 1, by omega⟩
  simp only [prs] at post
  refine cf_of pX1 (Nat.le_of_ble_eq_true rfl) rfl (fun _ => B_X1_readSum_0 ?_)
  have ok := (prs_ok (l := l) tk n o i a ho hi).2.1 (by omega)
  refine (ih _ o i a h cp nm sw _ ho hi c0 hn).2.1 (by omega) (by omega) hc S (cP_call ok post (fun h2 q => w0_sum q) (fun e j h2 j0 j1 we le se post2 S2 R2 C2 => ?_))
  exact (ih _ o j e h2 cp nm sw _ ho j1 c0 hn).2.2.2.2.1 (by omega) (by omega) (by omega) we (by omega) S2 C2 0 (by omega) (by omega) (cP_tail post2 R2)
theorem cprs_both (E : cE g K V P N T l) {n : Nat} (ih : cGo g K V P N T l n) (d o i : Nat) (a : Ex) (h : am_H) (cp : Int) (nm : Nat) (sw : Bool) (Q : Int → am_H → Prop) (ho : o ≤ 8) (hi : i ≤ N) (c0 : 0 ≤ cp) (hn : nm < 256) :
    (16 * (N - i) + 5 ≤ n + 1 → 7 * (8 - o) + 8 ≤ d → cp ≤ i → cS g h K T i cp o nm sw → cPost g h K P T o cp nm sw Q (prs K V l (n + 1) 6 o i a) → cf d M_X1_readBoth [.inr (.inr 201)] h Q) := by
  intro hf hd hc S post
  have tk := E.1
  obtain ⟨y, rfl⟩ : ∃ y, d = y + 1 := ⟨d - 1, by omega⟩
  simp only [prs] at post
  refine cf_of pX1 (Nat.le_of_ble_eq_true rfl) rfl (fun _ => B_X1_readBoth_0 ?_)
  have ok := (prs_ok (l := l) tk n o i a ho hi).2.2.2.2.2.1 (by omega)
  refine (ih _ o i a h cp nm sw _ ho hi c0 hn).2.2.2.2.2.1 (by omega) (by omega) hc S (cP_call ok post (fun h2 q => w0_both q) (fun e j h2 j0 j1 we le se post2 S2 R2 C2 => ?_))
  exact (ih _ o j e h2 cp nm sw _ ho j1 c0 hn).2.2.2.2.2.2.2.1 (by omega) (by omega) (by omega) we (by omega) S2 C2 0 (by omega) (by omega) (cP_tail post2 R2)
theorem cprs_either (E : cE g K V P N T l) {n : Nat} (ih : cGo g K V P N T l n) (d o i : Nat) (a : Ex) (h : am_H) (cp : Int) (nm : Nat) (sw : Bool) (Q : Int → am_H → Prop) (ho : o ≤ 8) (hi : i ≤ N) (c0 : 0 ≤ cp) (hn : nm < 256) :
    (16 * (N - i) + 6 ≤ n + 1 → 7 * (8 - o) + 9 ≤ d → cp ≤ i → cS g h K T i cp o nm sw → cPost g h K P T o cp nm sw Q (prs K V l (n + 1) 8 o i a) → cf d M_X1_readEither [.inr (.inr 201)] h Q) := by
  intro hf hd hc S post
  have tk := E.1
  obtain ⟨y, rfl⟩ : ∃ y, d = y + 1 := ⟨d - 1, by omega⟩
  simp only [prs] at post
  refine cf_of pX1 (Nat.le_of_ble_eq_true rfl) rfl (fun _ => B_X1_readEither_0 ?_)
  have ok := (prs_ok (l := l) tk n o i a ho hi).2.2.2.2.2.2.1 (by omega)
  refine (ih _ o i a h cp nm sw _ ho hi c0 hn).2.2.2.2.2.2.1 (by omega) (by omega) hc S (cP_call ok post (fun h2 q => w0_either q) (fun e j h2 j0 j1 we le se post2 S2 R2 C2 => ?_))
  exact (ih _ o j e h2 cp nm sw _ ho j1 c0 hn).2.2.2.2.2.2.2.2.2 (by omega) (by omega) (by omega) we (by omega) S2 C2 0 (by omega) (by omega) (cP_tail post2 R2)
theorem cprs_t2 (E : cE g K V P N T l) {n : Nat} (ih : cGo g K V P N T l n) (d o i : Nat) (a : Ex) (h : am_H) (cp : Int) (nm : Nat) (sw : Bool) (Q : Int → am_H → Prop) (ho : o ≤ 8) (hi : i ≤ N) (c0 : 0 ≤ cp) (hn : nm < 256) :
    (16 * (N - i) + 1 ≤ n + 1 → 7 * (8 - o) + 5 ≤ d → cp + lx a ≤ i → ws l a false → sx a ≤ 2 + 5 * (8 - o) → cS g h K T i (cp + lx a) o (nm ||| nx a) (sw || px a) → cat (h (T + 4)) cp a → ∀ v2 : Int, 0 ≤ v2 → v2 ≤ i → cPost g h K P T o cp nm sw Q (prs K V l (n + 1) 2 o i a) → wf d M_X1_readProduct Q 7 [some (.inr (.inr 201)), some (.inl 1), some (.inl v2), none] [] h) := by
  intro hf hd hc wa xa S C v2 v0 v1 post
  have tk := E.1
  have s4 := S.2.1
  have n300 := tk.1
  have pa := lx_pos _ _ wa
  obtain ⟨y, rfl⟩ : ∃ y, d = y + 1 := ⟨d - 1, by omega⟩
  simp only [prs] at post
  have go : ∀ op : Int, op = (if K i = 170 then 12 else 13) → (K i = 170 ∨ K i = 175) → wf (y + 1) M_X1_readProduct Q 55 [some (.inr (.inr 201)), none, some (.inl v2), none] [.inl op] h := by
    intro op eo ct
    rw [if_pos ct, ← eo] at post
    have o3 : 0 ≤ op ∧ op < 32 := by rw [eo]; split <;> omega
    have i1 := tk_lt tk hi (by omega)
    refine B_X1_readProduct_55 (c_advance E S i1 (fun h2 S2 R2 => ⟨fun y => absurd y (by omega), fun _ => ?_⟩))
    have ok := (prs_ok (l := l) tk n o (i + 1) a ho i1).1 (by omega)
    refine (ih _ o (i + 1) a h2 (cp + lx a) (nm ||| nx a) (sw || px a) _ ho i1 (by omega) (nx_or hn wa)).1 (by omega) (by omega) (by omega) S2 (cP_call ok post (fun h2 q => ⟨fun _ => B_X1_readProduct_83 (B_X1_readProduct_84 (w0_product q)), fun y => absurd rfl y⟩) (fun e j h5 j0 j1 we le se post2 S5 R5 C5 => ⟨fun y => absurd y (by omega), fun _ => ?_⟩))
    refine c_emit1 E S5 (by omega) (by omega) o3 (by omega) rfl (fun h8 S8 e8 R8 => ⟨fun y => by omega, fun _ => B_X1_readProduct_84 ?_⟩)
    rw [w32e (z := v2 + 1) (by omega) (by omega)]
    refine (ih _ o j (xB op a e) h8 cp nm sw _ ho j1 c0 hn).2.2.1 (by omega) (by omega) (by simp only [lx]; omega) (Or.inl ⟨rfl, by rw [eo]; split <;> omega, wa, we⟩) (by simp only [sx]; omega) (cS_eq S8 rfl (by simp only [lx]; omega) rfl (by simp only [nx, Nat.or_assoc]) (by simp [px, Bool.or_assoc])) ?_ (v2 + 1) (by omega) (by omega) (cP_tail post2 (fun q hq => by rw [R8 q (by omega), R5 q (by omega), R2]))
    simp only [cat]
    exact ⟨cat_congr _ _ wa _ C (fun q q0 q1 => by rw [R8 q (by omega), R5 q (by omega), R2]), cat_congr _ _ we _ C5 (fun q q0 q1 => R8 q (by omega)), by rw [e8]; omega⟩
  have stop : ¬ (K i = 170 ∨ K i = 175) → Q 1 h := by
    intro ct
    rw [if_neg ct] at post
    exact post h S (fun _ _ => rfl) C
  refine B_X1_readProduct_7 ?_
  rw [s4]
  refine ⟨fun c => ⟨Or.inr rfl, stop (fun y => ?_)⟩, fun c => ⟨fun y => absurd y (by omega), fun _ => ⟨fun c1 => B_X1_readProduct_38 ?_, fun c1 => ⟨fun c2 => ⟨Or.inr rfl, stop (by omega)⟩, fun c2 => B_X1_readProduct_38 ?_⟩⟩⟩⟩
  · have := tk_lt tk hi (by omega); omega
  · rw [s4]
    exact ⟨fun y => absurd c1 y, fun _ => go 12 (by rw [if_pos c1]) (Or.inl c1)⟩
  · rw [s4]
    exact ⟨fun _ => go 13 (by rw [if_neg c1]) (Or.inr c2), fun y => absurd y c1⟩
theorem cprs_t4 (E : cE g K V P N T l) {n : Nat} (ih : cGo g K V P N T l n) (d o i : Nat) (a : Ex) (h : am_H) (cp : Int) (nm : Nat) (sw : Bool) (Q : Int → am_H → Prop) (ho : o ≤ 8) (hi : i ≤ N) (c0 : 0 ≤ cp) (hn : nm < 256) :
    (16 * (N - i) + 1 ≤ n + 1 → 7 * (8 - o) + 6 ≤ d → cp + lx a ≤ i → ws l a false → sx a ≤ 3 + 5 * (8 - o) → cS g h K T i (cp + lx a) o (nm ||| nx a) (sw || px a) → cat (h (T + 4)) cp a → ∀ v2 : Int, 0 ≤ v2 → v2 ≤ i → cPost g h K P T o cp nm sw Q (prs K V l (n + 1) 4 o i a) → wf d M_X1_readSum Q 7 [some (.inr (.inr 201)), some (.inl 1), some (.inl v2), none] [] h) := by
  intro hf hd hc wa xa S C v2 v0 v1 post
  have tk := E.1
  have s4 := S.2.1
  have n300 := tk.1
  have pa := lx_pos _ _ wa
  obtain ⟨y, rfl⟩ : ∃ y, d = y + 1 := ⟨d - 1, by omega⟩
  simp only [prs] at post
  have go : ∀ op : Int, op = (if K i = 171 then 10 else 11) → (K i = 171 ∨ K i = 173) → wf (y + 1) M_X1_readSum Q 55 [some (.inr (.inr 201)), none, some (.inl v2), none] [.inl op] h := by
    intro op eo ct
    rw [if_pos ct, ← eo] at post
    have o3 : 0 ≤ op ∧ op < 32 := by rw [eo]; split <;> omega
    have i1 := tk_lt tk hi (by omega)
    refine B_X1_readSum_55 (c_advance E S i1 (fun h2 S2 R2 => ⟨fun y => absurd y (by omega), fun _ => ?_⟩))
    have ok := (prs_ok (l := l) tk n o (i + 1) a ho i1).2.1 (by omega)
    refine (ih _ o (i + 1) a h2 (cp + lx a) (nm ||| nx a) (sw || px a) _ ho i1 (by omega) (nx_or hn wa)).2.1 (by omega) (by omega) (by omega) S2 (cP_call ok post (fun h2 q => ⟨fun _ => B_X1_readSum_83 (B_X1_readSum_84 (w0_sum q)), fun y => absurd rfl y⟩) (fun e j h5 j0 j1 we le se post2 S5 R5 C5 => ⟨fun y => absurd y (by omega), fun _ => ?_⟩))
    refine c_emit1 E S5 (by omega) (by omega) o3 (by omega) rfl (fun h8 S8 e8 R8 => ⟨fun y => by omega, fun _ => B_X1_readSum_84 ?_⟩)
    rw [w32e (z := v2 + 1) (by omega) (by omega)]
    refine (ih _ o j (xB op a e) h8 cp nm sw _ ho j1 c0 hn).2.2.2.2.1 (by omega) (by omega) (by simp only [lx]; omega) (Or.inl ⟨rfl, by rw [eo]; split <;> omega, wa, we⟩) (by simp only [sx]; omega) (cS_eq S8 rfl (by simp only [lx]; omega) rfl (by simp only [nx, Nat.or_assoc]) (by simp [px, Bool.or_assoc])) ?_ (v2 + 1) (by omega) (by omega) (cP_tail post2 (fun q hq => by rw [R8 q (by omega), R5 q (by omega), R2]))
    simp only [cat]
    exact ⟨cat_congr _ _ wa _ C (fun q q0 q1 => by rw [R8 q (by omega), R5 q (by omega), R2]), cat_congr _ _ we _ C5 (fun q q0 q1 => R8 q (by omega)), by rw [e8]; omega⟩
  have stop : ¬ (K i = 171 ∨ K i = 173) → Q 1 h := by
    intro ct
    rw [if_neg ct] at post
    exact post h S (fun _ _ => rfl) C
  refine B_X1_readSum_7 ?_
  rw [s4]
  refine ⟨fun c => ⟨Or.inr rfl, stop (fun y => ?_)⟩, fun c => ⟨fun y => absurd y (by omega), fun _ => ⟨fun c1 => B_X1_readSum_38 ?_, fun c1 => ⟨fun c2 => ⟨Or.inr rfl, stop (by omega)⟩, fun c2 => B_X1_readSum_38 ?_⟩⟩⟩⟩
  · have := tk_lt tk hi (by omega); omega
  · rw [s4]
    exact ⟨fun y => absurd c1 y, fun _ => go 10 (by rw [if_pos c1]) (Or.inl c1)⟩
  · rw [s4]
    exact ⟨fun _ => go 11 (by rw [if_neg c1]) (Or.inr c2), fun y => absurd y c1⟩
theorem cprs_t7 (E : cE g K V P N T l) {n : Nat} (ih : cGo g K V P N T l n) (d o i : Nat) (a : Ex) (h : am_H) (cp : Int) (nm : Nat) (sw : Bool) (Q : Int → am_H → Prop) (ho : o ≤ 8) (hi : i ≤ N) (c0 : 0 ≤ cp) (hn : nm < 256) :
    (16 * (N - i) + 1 ≤ n + 1 → 7 * (8 - o) + 8 ≤ d → cp + lx a ≤ i → ws l a true → sx a ≤ 5 + 5 * (8 - o) → cS g h K T i (cp + lx a) o (nm ||| nx a) (sw || px a) → cat (h (T + 4)) cp a → ∀ v2 : Int, 0 ≤ v2 → v2 ≤ i → cPost g h K P T o cp nm sw Q (prs K V l (n + 1) 7 o i a) → wf d M_X1_readBoth Q 7 [some (.inr (.inr 201)), some (.inl 1), some (.inl v2)] [] h) := by
  intro hf hd hc wa xa S C v2 v0 v1 post
  have tk := E.1
  have s4 := S.2.1
  have n300 := tk.1
  have pa := lx_pos _ _ wa
  obtain ⟨y, rfl⟩ : ∃ y, d = y + 1 := ⟨d - 1, by omega⟩
  simp only [prs] at post
  have stop : ¬ K i = 18 → Q 1 h := by
    intro ct
    rw [if_neg ct] at post
    exact post h S (fun _ _ => rfl) C
  refine B_X1_readBoth_7 ?_
  rw [s4]
  refine ⟨fun c => ⟨Or.inr rfl, stop (fun y => ?_)⟩, fun c => ⟨fun y => absurd y (by omega), fun _ => ⟨fun c1 => ⟨Or.inr rfl, stop c1⟩, fun c1 => ?_⟩⟩⟩
  · have := tk_lt tk hi (by omega); omega
  · rw [if_pos c1] at post
    have i1 := tk_lt tk hi (by omega)
    refine c_advance E S i1 (fun h2 S2 R2 => ⟨fun y => absurd y (by omega), fun _ => ?_⟩)
    have ok := (prs_ok (l := l) tk n o (i + 1) a ho i1).2.2.2.2.2.1 (by omega)
    refine (ih _ o (i + 1) a h2 (cp + lx a) (nm ||| nx a) (sw || px a) _ ho i1 (by omega) (nx_or hn wa)).2.2.2.2.2.1 (by omega) (by omega) (by omega) S2 (cP_call ok post (fun h2 q => ⟨fun _ => B_X1_readBoth_55 (B_X1_readBoth_56 (w0_both q)), fun y => absurd rfl y⟩) (fun e j h5 j0 j1 we le se post2 S5 R5 C5 => ⟨fun y => absurd y (by omega), fun _ => ?_⟩))
    refine c_emit1 E S5 (by omega) (by omega) (op := 20) (by omega) (by omega) rfl (fun h8 S8 e8 R8 => ⟨fun y => by omega, fun _ => B_X1_readBoth_56 ?_⟩)
    rw [w32e (z := v2 + 1) (by omega) (by omega)]
    refine (ih _ o j (xB 20 a e) h8 cp nm sw _ ho j1 c0 hn).2.2.2.2.2.2.2.1 (by omega) (by omega) (by simp only [lx]; omega) (Or.inr (Or.inr ⟨rfl, by omega, wa, we⟩)) (by simp only [sx]; omega) (cS_eq S8 rfl (by simp only [lx]; omega) rfl (by simp only [nx, Nat.or_assoc]) (by simp [px, Bool.or_assoc])) ?_ (v2 + 1) (by omega) (by omega) (cP_tail post2 (fun q hq => by rw [R8 q (by omega), R5 q (by omega), R2]))
    simp only [cat]
    exact ⟨cat_congr _ _ wa _ C (fun q q0 q1 => by rw [R8 q (by omega), R5 q (by omega), R2]), cat_congr _ _ we _ C5 (fun q q0 q1 => R8 q (by omega)), e8⟩
theorem cprs_t9 (E : cE g K V P N T l) {n : Nat} (ih : cGo g K V P N T l n) (d o i : Nat) (a : Ex) (h : am_H) (cp : Int) (nm : Nat) (sw : Bool) (Q : Int → am_H → Prop) (ho : o ≤ 8) (hi : i ≤ N) (c0 : 0 ≤ cp) (hn : nm < 256) :
    (16 * (N - i) + 1 ≤ n + 1 → 7 * (8 - o) + 9 ≤ d → cp + lx a ≤ i → ws l a true → sx a ≤ 6 + 5 * (8 - o) → cS g h K T i (cp + lx a) o (nm ||| nx a) (sw || px a) → cat (h (T + 4)) cp a → ∀ v2 : Int, 0 ≤ v2 → v2 ≤ i → cPost g h K P T o cp nm sw Q (prs K V l (n + 1) 9 o i a) → wf d M_X1_readEither Q 7 [some (.inr (.inr 201)), some (.inl 1), some (.inl v2)] [] h) := by
  intro hf hd hc wa xa S C v2 v0 v1 post
  have tk := E.1
  have s4 := S.2.1
  have n300 := tk.1
  have pa := lx_pos _ _ wa
  obtain ⟨y, rfl⟩ : ∃ y, d = y + 1 := ⟨d - 1, by omega⟩
  simp only [prs] at post
  have stop : ¬ K i = 17 → Q 1 h := by
    intro ct
    rw [if_neg ct] at post
    exact post h S (fun _ _ => rfl) C
  refine B_X1_readEither_7 ?_
  rw [s4]
  refine ⟨fun c => ⟨Or.inr rfl, stop (fun y => ?_)⟩, fun c => ⟨fun y => absurd y (by omega), fun _ => ⟨fun c1 => ⟨Or.inr rfl, stop c1⟩, fun c1 => ?_⟩⟩⟩
  · have := tk_lt tk hi (by omega); omega
  · rw [if_pos c1] at post
    have i1 := tk_lt tk hi (by omega)
    refine c_advance E S i1 (fun h2 S2 R2 => ⟨fun y => absurd y (by omega), fun _ => ?_⟩)
    have ok := (prs_ok (l := l) tk n o (i + 1) a ho i1).2.2.2.2.2.2.1 (by omega)
    refine (ih _ o (i + 1) a h2 (cp + lx a) (nm ||| nx a) (sw || px a) _ ho i1 (by omega) (nx_or hn wa)).2.2.2.2.2.2.1 (by omega) (by omega) (by omega) S2 (cP_call ok post (fun h2 q => ⟨fun _ => B_X1_readEither_55 (B_X1_readEither_56 (w0_either q)), fun y => absurd rfl y⟩) (fun e j h5 j0 j1 we le se post2 S5 R5 C5 => ⟨fun y => absurd y (by omega), fun _ => ?_⟩))
    refine c_emit1 E S5 (by omega) (by omega) (op := 21) (by omega) (by omega) rfl (fun h8 S8 e8 R8 => ⟨fun y => by omega, fun _ => B_X1_readEither_56 ?_⟩)
    rw [w32e (z := v2 + 1) (by omega) (by omega)]
    refine (ih _ o j (xB 21 a e) h8 cp nm sw _ ho j1 c0 hn).2.2.2.2.2.2.2.2.2 (by omega) (by omega) (by simp only [lx]; omega) (Or.inr (Or.inr ⟨rfl, by omega, wa, we⟩)) (by simp only [sx]; omega) (cS_eq S8 rfl (by simp only [lx]; omega) rfl (by simp only [nx, Nat.or_assoc]) (by simp [px, Bool.or_assoc])) ?_ (v2 + 1) (by omega) (by omega) (cP_tail post2 (fun q hq => by rw [R8 q (by omega), R5 q (by omega), R2]))
    simp only [cat]
    exact ⟨cat_congr _ _ wa _ C (fun q q0 q1 => by rw [R8 q (by omega), R5 q (by omega), R2]), cat_congr _ _ we _ C5 (fun q q0 q1 => R8 q (by omega)), e8⟩
theorem cprs_ask (E : cE g K V P N T l) {n : Nat} (ih : cGo g K V P N T l n) (d o i : Nat) (a : Ex) (h : am_H) (cp : Int) (nm : Nat) (sw : Bool) (Q : Int → am_H → Prop) (ho : o ≤ 8) (hi : i ≤ N) (c0 : 0 ≤ cp) (hn : nm < 256) :
    (16 * (N - i) + 4 ≤ n + 1 → 7 * (8 - o) + 7 ≤ d → cp ≤ i → cS g h K T i cp o nm sw → cPost g h K P T o cp nm sw Q (prs K V l (n + 1) 5 o i a) → cf d M_X1_readAsk [.inr (.inr 201)] h Q) := by
  intro hf hd hc S post
  have tk := E.1
  have s4 := S.2.1
  have n300 := tk.1
  obtain ⟨y, rfl⟩ : ∃ y, d = y + 2 := ⟨d - 2, by omega⟩
  simp only [prs] at post
  refine cf_of pX1 (Nat.le_of_ble_eq_true rfl) rfl (fun _ => B_X1_readAsk_0 ?_)
  rw [s4]
  refine ⟨fun c => ?_, fun c => ?_⟩
  · rw [if_neg c] at post
    have ok := (prs_ok (l := l) tk n o i a ho hi).2.2.2.1 (by omega)
    refine (ih _ o i a h cp nm sw _ ho hi c0 hn).2.2.2.1 (by omega) (by omega) hc S (cP_call ok post (fun h2 q => ⟨fun y => absurd rfl y, fun _ => q⟩) (fun e j h3 j0 j1 we le se post2 S3 R3 C3 => ⟨fun _ => c_comparisonHere S3 ⟨fun c2 => ?_, fun c2 => ?_⟩, fun y => absurd y (by omega)⟩))
    · have r19 := cmpK_rng (t := K j)
      rw [if_neg (by omega)] at post2
      have j2 := tk_lt tk j1 (cmpK_ne (by omega))
      refine c_advance E S3 j2 (fun h6 S6 R6 => ⟨fun y => absurd y (by omega), fun _ => ?_⟩)
      have ok2 := (prs_ok (l := l) tk n o (j + 1) a ho j2).2.2.2.1 (by omega)
      have pe := lx_pos _ _ we
      refine (ih _ o (j + 1) a h6 (cp + lx e) (nm ||| nx e) (sw || px e) _ ho j2 (by omega) (nx_or hn we)).2.2.2.1 (by omega) (by omega) (by omega) S6 (cP_call ok2 post2 (fun h2 q => ⟨fun _ => q, fun y => absurd rfl y⟩) (fun e2 k h9 k0 k1 we2 le2 se2 post3 S9 R9 C9 => ⟨fun y => absurd y (by omega), fun _ => ?_⟩))
      refine c_emit1 E S9 (by omega) (by omega) (by omega) (by omega) rfl (fun h12 S12 e12 R12 => ⟨fun y => by omega, fun _ => ?_⟩)
      refine post3 h12 (cS_eq S12 rfl (by simp only [lx]; omega) rfl (by simp only [nx, Nat.or_assoc]) (by simp [px, Bool.or_assoc])) (fun q hq => by rw [R12 q (by omega), R9 q (by omega), R6, R3 q hq]) ?_
      simp only [cat]
      exact ⟨cat_congr _ _ we _ C3 (fun q q0 q1 => by rw [R12 q (by omega), R9 q (by omega), R6]), cat_congr _ _ we2 _ C9 (fun q q0 q1 => R12 q (by omega)), by rw [e12]; omega⟩
    · rw [if_pos (by omega)] at post2
      exact c_fail E S3 j1 (fun h2 F => ⟨Or.inl rfl, post2 h2 F⟩)
  · rw [if_pos c] at post
    have i1 := tk_lt tk hi (by omega)
    refine c_opens E S i1 (fun o8 h3 S3 R3 => ⟨fun y => absurd y (by omega), fun _ => ?_⟩) (fun o8 h3 F3 => ⟨fun _ => cP_o0 post o8 h3 F3, fun y => absurd rfl y⟩)
    have ok := (prs_ok (l := l) tk n (o + 1) (i + 1) a (by omega) i1).2.2.2.2.2.1 (by omega)
    refine (ih _ (o + 1) (i + 1) a h3 cp nm sw _ (by omega) i1 c0 hn).2.2.2.2.2.1 (by omega) (by omega) (by omega) S3 (cP_call ok (cP_o1 post o8) (fun h2 q => ⟨fun _ => q, fun y => absurd rfl y⟩) (fun e j h6 j0 j1 we le se post2 S6 R6 C6 => ⟨fun y => absurd y (by omega), fun _ => c_closes E S6 ho (fun h9 S9 R9 => ⟨fun y => absurd y (by omega), fun _ => ?_⟩)⟩))
    refine c_emit1 E S9 (by omega) (by omega) (op := 8) (by omega) (by omega) rfl (fun h12 S12 e12 R12 => ⟨fun y => by omega, fun _ => ?_⟩)
    refine post2 h12 (cS_eq S12 rfl (by simp only [lx]; omega) rfl (by simp only [nx]) (by simp [px])) (fun q hq => by rw [R12 q (by omega), R9, R6 q hq, R3]) ?_
    simp only [cat]
    exact ⟨cat_congr _ _ we _ C6 (fun q q0 q1 => by rw [R12 q (by omega), R9]), e12⟩
theorem cprs (E : cE g K V P N T l) : ∀ n, cGo g K V P N T l n := by
  intro n
  induction n with
  | zero => intro d o i a h cp nm sw Q _ _ _ _; refine ⟨?_, ?_, ?_, ?_, ?_, ?_, ?_, ?_, ?_, ?_⟩ <;> (intro q; omega)
  | succ n ih =>
    intro d o i a h cp nm sw Q ho hi c0 hn
    exact ⟨cprs_one E ih d o i a h cp nm sw Q ho hi c0 hn, cprs_product E ih d o i a h cp nm sw Q ho hi c0 hn, cprs_t2 E ih d o i a h cp nm sw Q ho hi c0 hn, cprs_sum E ih d o i a h cp nm sw Q ho hi c0 hn, cprs_t4 E ih d o i a h cp nm sw Q ho hi c0 hn, cprs_ask E ih d o i a h cp nm sw Q ho hi c0 hn, cprs_both E ih d o i a h cp nm sw Q ho hi c0 hn, cprs_t7 E ih d o i a h cp nm sw Q ho hi c0 hn, cprs_either E ih d o i a h cp nm sw Q ho hi c0 hn, cprs_t9 E ih d o i a h cp nm sw Q ho hi c0 hn⟩
end CPRS2