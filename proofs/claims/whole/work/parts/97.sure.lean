section SURE3
variable {d D : Nat} {h : am_H} {Q : Int → am_H → Prop} {tx : Nat → List Cl} {tt : List Cl} {size : Int}
theorem l_X7_sure {t c : Int} {f : Nat} (r : rtx h t tt) (ok : okx tt) (ec : co tt f = c) (hc : 0 ≤ c) (k2 : kdf tt f = 2) (pl : psr (fcl tt f) = true) (k : ∀ g, fZ h g → Q (bi (allb (shr (fcl tt f)) 1 40)) g) : ∀ (n i : Nat) (g : am_H), i + n = 41 → 1 ≤ i → fZ h g → allb (shr (fcl tt f)) 1 40 = allb (shr (fcl tt f)) i n → wf (d + 4) M_X7_sure Q 76 [some (.inr (.inr 294)), some (.inl t), none, some (.inl c), some (.inl (i : Int)), none, none, none, none] [] g
  | 0, i, g, hn, i1, fg, e => by
    have kk := k g fg
    rw [e] at kk
    exact B_X7_sure_76 ⟨fun _ => kk, fun q => by omega⟩
  | n + 1, i, g, hn, i1, fg, e => by
    rw [allb_s (i := i) (n := n)] at e
    have w := fcl_ws ok (f := f) (by omega)
    have cs := co_spec (tx := tt) (f := (f : Int)) (by omega)
    obtain ⟨ci, ci0, eci, ci2, ci3⟩ := cs
    have l24 := ok.1
    have t0 := r.1
    have rc := r.2.2 c hc (by omega)
    have pl2 := pl
    unfold psr at pl2
    rw [Bool.and_eq_true] at pl2
    have fc : fcl tt f = cl tt c := by unfold fcl; rw [ec]
    have kc2 : (cl tt c).1 = 2 := by rw [← fc]; have := (fcl_ok ok (f := f) (by omega)).2.2; omega
    rw [← fc] at rc kc2
    have e297 : g 297 = h 297 := fg.1 297 (by omega)
    have rs : ∀ (g2 : am_H) (x : Int) (y : Ex), g2 297 = h 297 → rsum h t x y → rsum g2 t x y := fun g2 x y e r => by
      unfold rsum at r ⊢
      rw [e]; exact r
    have b1 := ev_bd (nE_ok (n := (i : Int)) (by omega)) _ _ w.1
    have b2 := ev_bd (nE_ok (n := (i : Int)) (by omega)) _ _ w.2.1
    refine B_X7_sure_76 ⟨fun q => by omega, fun _ => ?_⟩
    generalize hu : am_up g 300 8 (i : Int) = u
    have u0 : ∀ x : Int, x ≠ 300 → u x = g x := fun x qx => by rw [← hu]; funext j; exact am_up_ne (by omega)
    have u8 : u 300 8 = nE i 8 := by rw [← hu, am_up_at]; unfold nE; rw [if_pos rfl]
    refine c_X7_sumPlain (d := d) (c := c) (i := 0) (η := nE i) (β := fun _ => 0) (b := 0) t0 (by omega) (by omega) (rs u _ _ (by rw [u0 297 (by omega)]; exact e297) ?_) w.1 pl2.1 (nE_ok (by omega)) u8 (fun h2 f2 => ?_)
    · exact rc.2.2.1 (by omega)
    refine c_X7_sumPlain (d := d) (c := c) (i := 1) (η := nE i) (β := fun _ => 0) (b := 0) t0 (by omega) (by omega) (rs h2 _ _ (by rw [f2.1 297 (by omega), u0 297 (by omega)]; exact e297) ?_) w.2.1 pl2.2 (nE_ok (by omega)) (p8_fB u8 f2) (fun h3 f3 => ?_)
    · exact (rc.2.1 (by omega)).2
    have fz : fZ h h3 := ⟨fun b qb => by rw [f3.1 b (by omega), f2.1 b (by omega), u0 b (by omega)]; exact fg.1 b qb, fun j qj => by rw [f3.1 294 (by omega), f2.1 294 (by omega), u0 294 (by omega)]; exact fg.2 j qj⟩
    have next : shr (fcl tt f) i = true → wf (d + 4) M_X7_sure Q 136 [some (.inr (.inr 294)), some (.inl t), none, some (.inl c), some (.inl (i : Int)), none, none, none, none] [] h3 := fun z => by
      rw [z, Bool.true_and] at e
      refine B_X7_sure_136 ?_
      rw [w32e (by omega) (by omega), show (i : Int) + 1 = ((i + 1 : Nat) : Int) by omega]
      exact l_X7_sure r ok ec hc k2 pl k n (i + 1) h3 (by omega) (by omega) fz e
    refine c_X7_isWithin (fun q1 q2 q3 => ⟨fun y => by omega, fun _ => ?_⟩) (fun q => ⟨fun _ => next ?_, fun y => absurd rfl y⟩)
    · rw [w64e (by omega) (by omega)]
      refine ⟨fun y => next ?_, fun y => ?_⟩
      · unfold shr
        exact decide_eq_true (Or.inr (lcmp_neg y))
      · have y2 := lcmp_nn y
        have z : shr (fcl tt f) i = false := by
          unfold shr pa
          exact decide_eq_false (by omega)
        rw [z, Bool.false_and] at e
        have kk := k h3 fz
        rw [e] at kk
        exact kk
    · unfold shr
      exact decide_eq_true (Or.inl q)
theorem c_X7_sure {t f : Int} (I : INV h tx) (k : ∀ g, fZ h g → Q (r_sure (h 295) tx t f) g) : cf (d + 4) M_X7_sure [.inr (.inr 294), .inl t, .inl f] h Q := by
  have no : ∀ g, fZ h g → ¬ ((isT (h 295) t ∧ (0 ≤ f ∧ f ≤ 7)) ∧ kdf (tx t.toNat) f.toNat = 2 ∧ psr (fcl (tx t.toNat) f.toNat) = true) → Q 0 g := fun g fg y => by
    have kk := k g fg
    unfold r_sure at kk
    rw [if_neg y] at kk; exact kk
  refine cf_of pX7 (Nat.le_of_ble_eq_true rfl) rfl (fun _ => B_X7_sure_0 (c7_isText I (fun q => ⟨fun c => by omega, fun _ => c_X7_isField (fun a b => ⟨fun _ => ?_, fun c => by omega⟩) (fun a => ⟨fun c => absurd rfl c, fun _ => no h fZ_refl (fun y => by omega)⟩)⟩) (fun q => ⟨fun _ => no h fZ_refl (fun y => q y.1.1), fun c => absurd rfl c⟩)))
  obtain ⟨z1, z2, z3, z4, z5⟩ := INV_t I q.1 q.2
  obtain ⟨f0, hf0⟩ : ∃ f0 : Nat, f = (f0 : Int) := ⟨f.toNat, by omega⟩
  subst hf0
  have f8 : f0 < 8 := by omega
  rw [Int.toNat_natCast] at no
  refine c_X7_layOrder (d := d + 1) z2 z3 (fun g fy y => ?_)
  have fz := fZ_fY fy
  have rg : rtx g t (tx t.toNat) := rtx_congr z2 (fz.1 297 (by omega))
  refine c_X7_sortOfField rg z3 y f8 ⟨fun k2 => ⟨by omega, by omega, ?_⟩, fun k2 => no g fz (fun w => k2 w.2.1)⟩
  have hc : 0 ≤ co (tx t.toNat) f0 := by
    by_cases y : 0 ≤ co (tx t.toNat) f0
    · exact y
    · unfold kdf at k2
      rw [if_pos (by omega)] at k2
      omega
  obtain ⟨ci, ci0, eci, ci2, ci3⟩ := co_spec hc
  have l24 := z3.1
  have w := fcl_ws z3 hc
  have rc := rg.2.2 (co (tx t.toNat) f0) hc (by omega)
  have fc : fcl (tx t.toNat) f0 = cl (tx t.toNat) (co (tx t.toNat) f0) := rfl
  have kc2 : (fcl (tx t.toNat) f0).1 = 2 := by have := (fcl_ok z3 hc).2.2; omega
  rw [← fc] at rc
  have t0 := rg.1
  rw [(y.1 f0 f8).1]
  refine c_X7_clauseAt t0 (by omega) ?_
  rw [w32e (by omega) (by omega)]
  refine c_X7_isPlain t0 (by omega) (rc.2.2.1 (by omega)) w.1 ?_
  have np : ∀ g2, fZ h g2 → psr (fcl (tx t.toNat) f0) = false → Q 0 g2 := fun g2 f2 p => no g2 f2 (fun w => by rw [w.2.2] at p; cases p)
  cases p1 : pln (fcl (tx t.toNat) f0).2.2.2.1 with
  | false => exact ⟨fun _ => np g fz (by unfold psr; rw [p1]; rfl), fun y => absurd rfl y⟩
  | true =>
    refine ⟨fun y => absurd y (by decide), fun _ => c_X7_clauseAt t0 (by omega) ?_⟩
    rw [w32e (by omega) (by omega)]
    refine c_X7_isPlain t0 (by omega) (rc.2.1 (by omega)).2 w.2.1 ?_
    cases p2 : pln (fcl (tx t.toNat) f0).2.2.2.2.1 with
    | false => exact ⟨fun y => absurd rfl y, fun _ => np g fz (by unfold psr; rw [p1, p2]; rfl)⟩
    | true =>
      have pl : psr (fcl (tx t.toNat) f0) = true := by unfold psr; rw [p1, p2]; rfl
      refine ⟨fun _ => ?_, fun y => absurd y (by decide)⟩
      refine l_X7_sure (d := d) (h := g) rg z3 rfl hc k2 pl (fun g2 f2 => ?_) 40 1 g (by omega) (by omega) fZ_refl rfl
      have kk := k g2 (fZ_trans fz f2)
      unfold r_sure at kk
      rw [if_pos ⟨⟨q, a, b⟩, by rw [Int.toNat_natCast]; exact k2, by rw [Int.toNat_natCast]; exact pl⟩, Int.toNat_natCast] at kk
      exact kk
end SURE3
