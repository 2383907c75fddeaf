section SURE2
variable {d D : Nat} {h : am_H} {Q : Int → am_H → Prop} {tx : Nat → List Cl} {tt : List Cl} {size : Int}
theorem allb_s {p : Nat → Bool} {i n : Nat} : allb p i (n + 1) = (p i && allb p (i + 1) n) := rfl
theorem l_X6_sure {T : Int} {f : Nat} (tT : am_kd 321 T = 15) (hT : 242 ≤ T) (cx : ctx h T tt) (ok : okx tt) (hf : f < 8) (hc : 0 ≤ co tt f) (pl : psr (fcl tt f) = true) (k : ∀ g, fX h g → Q (bi (allb (shr (fcl tt f)) 1 40)) g) : ∀ (n i : Nat) (g : am_H), i + n = 41 → bkP g → fX h g → allb (shr (fcl tt f)) 1 40 = allb (shr (fcl tt f)) i n → wf (d + 5) M_X6_sure Q 52 [some (.inr (.inr 1)), none, some (.inl (f : Int)), some (.inr (.inr T)), some (.inl (i : Int))] [] g
  | 0, i, g, hn, bk, fg, e => by
    have kk := k g fg
    rw [e] at kk
    exact B_X6_sure_52 ⟨fun _ => kk, fun q => by omega⟩
  | n + 1, i, g, hn, bk, fg, e => by
    rw [allb_s (i := i) (n := n)] at e
    refine B_X6_sure_52 ⟨fun q => by omega, fun _ => c_X2_isShorter (d := d) tT hT (ctx_congr cx (fun b q1 q2 => fg.1 b (by omega))) ok hf hc pl (by omega) bk (fun h2 f2 bk2 => ?_)⟩
    have f3 := fX_trans fg (fX_fW f2)
    cases z : shr (fcl tt f) i with
    | true =>
      rw [z, Bool.true_and] at e
      refine ⟨fun _ => ?_, fun q => absurd q (by decide)⟩
      rw [w32e (by omega) (by omega), show (i : Int) + 1 = ((i + 1 : Nat) : Int) by omega]
      exact l_X6_sure tT hT cx ok hf hc pl k n (i + 1) h2 (by omega) bk2 f3 e
    | false =>
      rw [z, Bool.false_and] at e
      have kk := k h2 f3
      rw [e] at kk
      exact ⟨fun q => absurd rfl q, fun _ => kk⟩
theorem c_X6_sure {t f : Int} (I : INV h tx) (k : ∀ g, fX h g → Q (r_sure (h 295) tx t f) g) : cf (d + 5) M_X6_sure [.inr (.inr 1), .inl t, .inl f] h Q := by
  have no : ∀ g, fX h g → ¬ ((isT (h 295) t ∧ (0 ≤ f ∧ f ≤ 7)) ∧ kdf (tx t.toNat) f.toNat = 2 ∧ psr (fcl (tx t.toNat) f.toNat) = true) → Q 0 g := fun g fg y => by
    have kk := k g fg
    unfold r_sure at kk
    rw [if_neg y] at kk; exact kk
  refine cf_of pX6 (Nat.le_of_ble_eq_true rfl) rfl (fun _ => B_X6_sure_0 (c6_textAt I (fun q => ⟨by have := q.1; omega, fun c => by have := q.1; omega, fun _ => c_X6_isField (fun a b => ⟨fun c => by omega, fun _ => ?_⟩) (fun a => ⟨fun _ => no h fX_refl (fun y => by omega), fun c => absurd rfl c⟩)⟩) (fun q => ⟨by omega, fun _ => no h fX_refl (fun y => q y.1.1), fun c => by omega⟩)))
  obtain ⟨z1, z2, z3, z4, z5⟩ := INV_t I q.1 q.2
  obtain ⟨f0, hf0⟩ : ∃ f0 : Nat, f = (f0 : Int) := ⟨f.toNat, by omega⟩
  subst hf0
  have f8 : f0 < 8 := by omega
  rw [Int.toNat_natCast] at no
  have cf4 := z1.2.2.2.1 f0 f8
  rw [cf4.1, cf4.2.1]
  have hT := q.1
  refine ⟨z5, by omega, by omega, fun k2 => ?_, fun k2 => no h fX_refl (fun y => k2 y.2.1)⟩
  have hc : 0 ≤ co (tx t.toNat) f0 := by
    by_cases y : 0 ≤ co (tx t.toNat) f0
    · exact y
    · unfold kdf at k2
      rw [if_pos (by omega)] at k2
      omega
  have iff := fcl_sr z3 hc k2
  rw [(cf4.2.2.2 hc).1]
  refine ⟨fun y => no h fX_refl (fun z => y (by rw [(iff.mp z.2.2).1]; rfl)), fun y => ⟨fun y2 => ?_, fun y2 => no h fX_refl (fun z => y2 (by rw [(iff.mp z.2.2).2]; rfl))⟩⟩
  have pl : psr (fcl (tx t.toNat) f0) = true := iff.mpr ⟨by omega, by
    cases z : (px (fcl (tx t.toNat) f0).2.2.2.1 || px (fcl (tx t.toNat) f0).2.2.2.2.1 || px (fcl (tx t.toNat) f0).2.2.2.2.2) with
    | false => rfl
    | true => rw [z] at y2; exact absurd y2 (by decide)⟩
  refine l_X6_sure (d := d) z5 (by omega) z1 z3 f8 hc pl (fun g fg => ?_) 40 1 h (by omega) (INV_bk I) fX_refl rfl
  have kk := k g fg
  unfold r_sure at kk
  rw [if_pos ⟨⟨q, a, b⟩, by rw [Int.toNat_natCast]; exact k2, by rw [Int.toNat_natCast]; exact pl⟩, Int.toNat_natCast] at kk
  exact kk
/-- the reference looks for what is not plain -/
abbrev wP (d : Nat) (Q : Int → am_H → Prop) (x c i : Int) (h : am_H) : Prop := wf d M_X7_isPlain Q 18 [some (.inr (.inr 294)), none, some (.inl x), some (.inl c), some (.inl i), none] [] h
theorem sp_one {x c i z : Int} (hz : okz z c) (x0 : 0 ≤ x ∧ x < 3299) (hx : h 297 (x + 1) = z) (i0 : 0 ≤ i ∧ i < z) (k2 : h 297 (c + 2 * i) = 2 → Q 0 h) (k1 : h 297 (c + 2 * i) = 1 → ¬ h 297 (c + 2 * i + 1) = 8 → Q 0 h) (k : ¬ h 297 (c + 2 * i) = 2 → (h 297 (c + 2 * i) = 1 → h 297 (c + 2 * i + 1) = 8) → wP d Q x c (i + 1) h) : wP d Q x c i h := by
  unfold okz at hz
  have next : ¬ h 297 (c + 2 * i) = 2 → (h 297 (c + 2 * i) = 1 → h 297 (c + 2 * i + 1) = 8) → wf d M_X7_isPlain Q 76 [some (.inr (.inr 294)), none, some (.inl x), some (.inl c), some (.inl i), none] [] h := fun q q2 => by
    refine B_X7_isPlain_76 ?_
    rw [w32e (by omega) (by omega)]
    exact k q q2
  refine B_X7_isPlain_18 ?_
  rw [w32e (z := x + 1) (by omega) (by omega), hx, w32e (z := 2 * i) (by omega) (by omega), w32e (z := c + 2 * i) (by omega) (by omega), w32e (z := c + 2 * i + 1) (by omega) (by omega)]
  exact ⟨by omega, by omega, fun q => by omega, fun _ => ⟨by omega, by omega, k2, fun q => ⟨fun q2 => next q (fun y => absurd y q2), fun q2 => ⟨by omega, by omega, fun q3 => next q (fun _ => q3), fun q3 => k1 q2 q3⟩⟩⟩⟩
theorem l_isPlain {x c z : Int} (hz : okz z c) (x0 : 0 ≤ x ∧ x < 3299) (hx : h 297 (x + 1) = z) : ∀ e s, ws false e s → ∀ i : Int, rat (h 297) c i e → 0 ≤ i → i + ly e ≤ z → (pln e = true → wP d Q x c (i + ly e) h) → (pln e = false → Q 0 h) → wP d Q x c i h := by
  have op : ∀ (i : Int) (o : Int), h 297 (c + 2 * i) = o → ¬ o = 2 → ¬ o = 1 → 0 ≤ i ∧ i < z → wP d Q x c (i + 1) h → wP d Q x c i h := fun i o h0 o2 o1 i0 k => sp_one hz x0 hx i0 (fun q => by omega) (fun q => by omega) (fun _ _ => k)
  refine ex_ind (fun v h0 h1 i hc i0 i1 k1 k0 => ?_) (fun k q i hc i0 i1 k1 k0 => ?_) (fun t a ht w ih i hc i0 i1 k1 k0 => ?_) (fun a w ih i hc i0 i1 k1 k0 => ?_) (fun t a c2 t0 t1 w w2 ih ih2 i hc i0 i1 k1 k0 => ?_) (fun t a c2 t0 t1 w w2 ih ih2 i hc i0 i1 k1 k0 => ?_) (fun t a c2 ht w w2 ih ih2 i hc i0 i1 k1 k0 => ?_) (fun g a e w w2 w3 ih ih2 ih3 i hc i0 i1 k1 k0 => ?_)
  · simp only [rat, ly] at hc i1 k1
    refine op i 0 hc.1 (by decide) (by decide) (by omega) ?_
    exact k1 rfl
  · simp only [rat, ly] at hc i1 k1
    rw [pln_V q] at k1 k0
    refine sp_one hz x0 hx (by omega) (fun y => by omega) (fun _ y => k0 (decide_eq_false (by omega))) (fun _ y => ?_)
    have := y hc.1
    exact k1 (decide_eq_true (by omega))
  · simp only [rat, ly] at hc i1 k1
    rw [pln_U] at k1 k0
    have ps := lx_pos a _ w
    refine ih i hc.1 i0 (by omega) (fun p => ?_) (fun p => k0 (by rw [p, Bool.false_and]))
    rcases ht with rfl | rfl
    · refine op _ _ hc.2 (by decide) (by decide) (by omega) ?_
      rw [show i + (ly a : Int) + 1 = i + ((ly a + 1 : Nat) : Int) by omega]
      exact k1 (by rw [p]; rfl)
    · have e2 : h 297 (c + 2 * (i + ly a)) = 2 := hc.2
      refine sp_one hz x0 hx (by omega) (fun _ => k0 (by rw [p]; rfl)) (fun y => by omega) (fun y => absurd e2 y)
  · simp only [rat, ly] at hc i1 k1
    rw [pln_U] at k1 k0
    have ps := lx_pos a _ w
    refine ih i hc.1 i0 (by omega) (fun p => ?_) (fun p => k0 (by rw [p, Bool.false_and]))
    refine op _ _ hc.2 (by decide) (by decide) (by omega) ?_
    rw [show i + (ly a : Int) + 1 = i + ((ly a + 1 : Nat) : Int) by omega]
    exact k1 (by rw [p]; rfl)
  · simp only [rat, ly] at hc i1 k1
    rw [pln_B] at k1 k0
    have ps := lx_pos a _ w
    have ps2 := lx_pos c2 _ w2
    refine ih i hc.1 i0 (by omega) (fun p => ih2 _ hc.2.1 (by omega) (by omega) (fun p2 => ?_) (fun p2 => k0 (by rw [p2, Bool.and_false]))) (fun p => k0 (by rw [p, Bool.false_and]))
    refine op _ _ hc.2.2 (by unfold o2r; rw [if_pos (by omega)]; omega) (by unfold o2r; rw [if_pos (by omega)]; omega) (by omega) ?_
    rw [show i + (ly a : Int) + (ly c2 : Int) + 1 = i + ((ly a + ly c2 + 1 : Nat) : Int) by omega]
    exact k1 (by rw [p, p2]; rfl)
  · simp only [rat, ly] at hc i1 k1
    rw [pln_B] at k1 k0
    have ps := lx_pos a _ w
    have ps2 := lx_pos c2 _ w2
    refine ih i hc.1 i0 (by omega) (fun p => ih2 _ hc.2.1 (by omega) (by omega) (fun p2 => ?_) (fun p2 => k0 (by rw [p2, Bool.and_false]))) (fun p => k0 (by rw [p, Bool.false_and]))
    refine op _ _ hc.2.2 (by unfold o2r; rw [if_pos (by omega)]; omega) (by unfold o2r; rw [if_pos (by omega)]; omega) (by omega) ?_
    rw [show i + (ly a : Int) + (ly c2 : Int) + 1 = i + ((ly a + ly c2 + 1 : Nat) : Int) by omega]
    exact k1 (by rw [p, p2]; rfl)
  · simp only [rat, ly] at hc i1 k1
    rw [pln_B] at k1 k0
    have ps := lx_pos a _ w
    have ps2 := lx_pos c2 _ w2
    refine ih i hc.1 i0 (by omega) (fun p => ih2 _ hc.2.1 (by omega) (by omega) (fun p2 => ?_) (fun p2 => k0 (by rw [p2, Bool.and_false]))) (fun p => k0 (by rw [p, Bool.false_and]))
    refine op _ _ hc.2.2 (by unfold o2r; rw [if_neg (by omega)]; omega) (by unfold o2r; rw [if_neg (by omega)]; omega) (by omega) ?_
    rw [show i + (ly a : Int) + (ly c2 : Int) + 1 = i + ((ly a + ly c2 + 1 : Nat) : Int) by omega]
    exact k1 (by rw [p, p2]; rfl)
  · simp only [rat, ly] at hc i1 k1
    rw [pln_I] at k1 k0
    have ps := lx_pos g _ w
    have ps2 := lx_pos a _ w2
    have ps3 := lx_pos e _ w3
    refine ih i hc.1 i0 (by omega) (fun p => ih2 _ hc.2.1 (by omega) (by omega) (fun p2 => ih3 _ hc.2.2.1 (by omega) (by omega) (fun p3 => ?_) (fun p3 => k0 (by rw [p3, Bool.and_false, Bool.and_false]))) (fun p2 => k0 (by rw [p2, Bool.false_and, Bool.and_false]))) (fun p => k0 (by rw [p, Bool.false_and]))
    refine op _ _ hc.2.2.2 (by decide) (by decide) (by omega) ?_
    rw [show i + (ly g : Int) + (ly a : Int) + (ly e : Int) + 1 = i + ((ly g + ly a + ly e + 1 : Nat) : Int) by omega]
    exact k1 (by rw [p, p2, p3]; rfl)
theorem c_X7_isPlain {t x : Int} {e : Ex} (t0 : 0 ≤ t ∧ t ≤ 3) (x0 : 0 ≤ x ∧ x < 3299) (r : rsum h t x e) (hw : ws false e false) (k : Q (bi (pln e)) h) : cf d M_X7_isPlain [.inr (.inr 294), .inl t, .inl x] h Q := by
  obtain ⟨r1, r2, r3, r4⟩ := r
  refine cf_of pX7 (Nat.le_of_ble_eq_true rfl) rfl (fun _ => B_X7_isPlain_0 ⟨by omega, by omega, ?_⟩)
  rw [w32e (z := 825 * t) (by omega) (by omega), w32e (z := 825 * t + 217) (by omega) (by omega)]
  refine l_isPlain (z := h 297 x + ly e) (by unfold okz; omega) x0 r2 e false hw (h 297 x) r1 r3 (Int.le_refl _) (fun p => ?_) (fun p => by rw [p] at k; exact k)
  rw [p] at k
  refine B_X7_isPlain_18 ?_
  rw [w32e (z := x + 1) (by omega) (by omega), r2]
  exact ⟨by omega, by omega, fun _ => k, fun q => by omega⟩
end SURE2
