section LEAST
variable {d D : Nat} {h : am_H} {Q : Int → am_H → Prop} {tx : Nat → List Cl} {tt : List Cl} {β : Int → Int} {size : Int} {ρ R : Rd}
def lst (t : List Cl) (β : Int → Int) (n : Nat) : Bool := sndR (rdX t β n)
def r_least (α : Int → Int) (tx : Nat → List Cl) (t : Int) : Int := if isT α t then ff (lst (tx t.toNat) (fB8 α)) 0 41 else -1
theorem l_X6_least {T : Int} (tT : am_kd 321 T = 15) (hT : 242 ≤ T) (ok : okx tt) (hb : ∀ j : Int, 0 ≤ j → j < 40 → 0 ≤ β j ∧ β j ≤ 255) (k : ∀ g, fX h g → Q (ff (lst tt β) 0 41) g) : ∀ (n i : Nat) (g : am_H), i + n = 41 → ctx h T tt → h 218 9 = 0 → okP h → (∀ j : Int, 0 ≤ j → j < 40 → h 6 j = β j) → fX h g → ff (lst tt β) 0 41 = ff (lst tt β) i n → wf (D + 13) M_X6_least Q 14 [some (.inr (.inr 1)), none, some (.inr (.inr T)), some (.inl (i : Int))] [] g
  | 0, i, g, hn, cx, h9, oP, hB, fg, e => by
    have kk := k g fg
    rw [e] at kk
    exact B_X6_least_14 ⟨fun _ => kk, fun q => by omega⟩
  | n + 1, i, g, hn, cx, h9, oP, hB, fg, e => by
    refine B_X6_least_14 ⟨fun q => by omega, fun _ => ?_⟩
    have og := fg.2.2 oP
    refine c_X2_isValid (D := D) (β := β) tT hT (ctx_congr cx (fun b q1 q2 => fg.1 b (by omega))) ok (by rw [fg.2.1]; exact h9) og.1 (by omega) (fun j j0 j1 => by rw [fg.1 6 (by omega)]; exact hB j j0 j1) hb (fun h2 f2 => ?_)
    have f := fX_trans fg (fX_fW f2)
    rw [ff_s (i := i) (n := n)] at e
    rw [show sndR (rdX tt β i) = lst tt β i from rfl]
    cases z : lst tt β i with
    | false =>
      rw [if_neg (by rw [z]; decide)] at e
      refine ⟨fun _ => ?_, fun q => absurd rfl q⟩
      rw [w32e (by omega) (by omega), show (i : Int) + 1 = ((i + 1 : Nat) : Int) by omega]
      exact l_X6_least tT hT ok hb k n (i + 1) h2 (by omega) cx h9 oP hB f e
    | true =>
      rw [if_pos z] at e
      have kk := k h2 f
      rw [e] at kk
      exact ⟨fun q => absurd q (by decide), fun _ => kk⟩
theorem c_X6_least {t : Int} (I : INV h tx) (k : ∀ g, fX h g → Q (r_least (h 295) tx t) g) : cf (D + 13) M_X6_least [.inr (.inr 1), .inl t] h Q := by
  unfold r_least at k
  refine cf_of pX6 (Nat.le_of_ble_eq_true rfl) rfl (fun _ => B_X6_least_0 (c6_textAt I (fun q => ⟨by have := q.1; omega, fun _ => ?_, fun c => by have := q.1; omega⟩) (fun q => ⟨by omega, fun c => by omega, fun _ => ?_⟩)))
  · obtain ⟨z1, z2, z3, z4, z5⟩ := INV_t I q.1 q.2
    have h7 := I.2.2.2.2.2.2.1
    rw [if_pos q] at k
    exact l_X6_least z5 (by have := q.1; omega) z3 (INV_b I) k 41 0 h (by omega) z1 h7.1 h7.2 (fun j j0 j1 => sbyte I.1 j0 j1) fX_refl rfl
  · have kk := k h fX_refl
    rw [if_neg q] at kk; exact kk
theorem l_putAside (k : ∀ g, (∀ b : Int, b ≠ 317 → g b = h b) → (∀ j : Int, 0 ≤ j → j < 40 → g 317 j = h 295 (8 + j)) → Q 0 g) : ∀ (n i : Nat) (g : am_H), i + n = 40 → (∀ b : Int, b ≠ 317 → g b = h b) → (∀ j : Int, 0 ≤ j → j < i → g 317 j = h 295 (8 + j)) → wf d M_X7_putAside Q 2 [some (.inr (.inr 294)), some (.inl (i : Int))] [] g
  | 0, i, g, hn, f, e => B_X7_putAside_2 ⟨fun _ => k g f (fun j j0 j1 => e j j0 (by omega)), fun q => by omega⟩
  | n + 1, i, g, hn, f, e => by
    refine B_X7_putAside_2 ⟨fun q => by omega, fun _ => ?_⟩
    rw [w32e (z := 8 + (i : Int)) (by omega) (by omega), w32e (z := (i : Int) + 1) (by omega) (by omega), show (i : Int) + 1 = ((i + 1 : Nat) : Int) by omega]
    refine ⟨by omega, by omega, by omega, l_putAside k n (i + 1) _ (by omega) (fun b q => ?_) (fun j j0 j1 => ?_)⟩
    · rw [← f b q]; funext j; exact am_up_ne (by omega)
    · by_cases z : j = i
      · rw [z, am_up_at, f 295 (by omega)]
      · rw [am_up_ne (by omega)]; exact e j j0 (by omega)
theorem c_X7_putAside (k : ∀ g, (∀ b : Int, b ≠ 317 → g b = h b) → (∀ j : Int, 0 ≤ j → j < 40 → g 317 j = h 295 (8 + j)) → Q 0 g) : cf d M_X7_putAside [.inr (.inr 294)] h Q :=
  cf_of pX7 (Nat.le_of_ble_eq_true rfl) rfl (fun _ => B_X7_putAside_0 (l_putAside k 40 0 h (by omega) (fun _ _ => rfl) (fun j j0 j1 => by omega)))
theorem l_bringBack (k : ∀ g, (∀ b : Int, b ≠ 295 → g b = h b) → (∀ j : Int, 0 ≤ j → j < 40 → g 295 (8 + j) = h 317 j) → (∀ j : Int, j < 8 ∨ 48 ≤ j → g 295 j = h 295 j) → Q 0 g) : ∀ (n i : Nat) (g : am_H), i + n = 40 → (∀ b : Int, b ≠ 295 → g b = h b) → (∀ j : Int, 0 ≤ j → j < i → g 295 (8 + j) = h 317 j) → (∀ j : Int, j < 8 ∨ 48 ≤ j → g 295 j = h 295 j) → wf d M_X7_bringBack Q 2 [some (.inr (.inr 294)), some (.inl (i : Int))] [] g
  | 0, i, g, hn, f, e, e2 => B_X7_bringBack_2 ⟨fun _ => k g f (fun j j0 j1 => e j j0 (by omega)) e2, fun q => by omega⟩
  | n + 1, i, g, hn, f, e, e2 => by
    refine B_X7_bringBack_2 ⟨fun q => by omega, fun _ => ?_⟩
    rw [w32e (z := 8 + (i : Int)) (by omega) (by omega), w32e (z := (i : Int) + 1) (by omega) (by omega), show (i : Int) + 1 = ((i + 1 : Nat) : Int) by omega]
    refine ⟨by omega, by omega, by omega, l_bringBack k n (i + 1) _ (by omega) (fun b q => ?_) (fun j j0 j1 => ?_) (fun j q => ?_)⟩
    · rw [← f b q]; funext j; exact am_up_ne (by omega)
    · by_cases z : j = i
      · rw [z, am_up_at, f 317 (by omega)]
      · rw [am_up_ne (by omega)]; exact e j j0 (by omega)
    · rw [am_up_ne (by omega)]; exact e2 j q
theorem c_X7_bringBack (k : ∀ g, (∀ b : Int, b ≠ 295 → g b = h b) → (∀ j : Int, 0 ≤ j → j < 40 → g 295 (8 + j) = h 317 j) → (∀ j : Int, j < 8 ∨ 48 ≤ j → g 295 j = h 295 j) → Q 0 g) : cf d M_X7_bringBack [.inr (.inr 294)] h Q :=
  cf_of pX7 (Nat.le_of_ble_eq_true rfl) rfl (fun _ => B_X7_bringBack_0 (l_bringBack k 40 0 h (by omega) (fun _ _ => rfl) (fun j j0 j1 => by omega) (fun _ _ => rfl)))
def cutTo (γ : Int → Int) (n : Int) : Int → Int := fun j => if j < n then γ j else 0
theorem l_cutTo {s : Nat} (k : ∀ g, (∀ b : Int, b ≠ 295 → g b = h b) → g 295 6 = (s : Int) → (∀ j : Int, 0 ≤ j → j < 40 → g 295 (8 + j) = cutTo (fB8 (h 295)) s j) → (∀ j : Int, j ≠ 6 → j < 8 ∨ 48 ≤ j → g 295 j = h 295 j) → Q 0 g) : ∀ (n i : Nat) (g : am_H), i + n = 40 → s ≤ i → (∀ b : Int, b ≠ 295 → g b = h b) → g 295 6 = (s : Int) → (∀ j : Int, 0 ≤ j → j < i → g 295 (8 + j) = cutTo (fB8 (h 295)) s j) → (∀ j : Int, (i : Int) ≤ j → g 295 (8 + j) = h 295 (8 + j)) → (∀ j : Int, j ≠ 6 → j < 8 ∨ 48 ≤ j → g 295 j = h 295 j) → wf d M_X7_cutTo Q 10 [some (.inr (.inr 294)), none, some (.inl (i : Int))] [] g
  | 0, i, g, hn, hs, f, e6, e, e3, e2 => B_X7_cutTo_10 ⟨fun _ => k g f e6 (fun j j0 j1 => e j j0 (by omega)) e2, fun q => by omega⟩
  | n + 1, i, g, hn, hs, f, e6, e, e3, e2 => by
    refine B_X7_cutTo_10 ⟨fun q => by omega, fun _ => ?_⟩
    rw [w32e (z := 8 + (i : Int)) (by omega) (by omega), w32e (z := (i : Int) + 1) (by omega) (by omega), show (i : Int) + 1 = ((i + 1 : Nat) : Int) by omega]
    refine ⟨by omega, by omega, l_cutTo k n (i + 1) _ (by omega) (by omega) (fun b q => ?_) (by rw [am_up_ne (by omega)]; exact e6) (fun j j0 j1 => ?_) (fun j q => by rw [am_up_ne (by omega)]; exact e3 j (by omega)) (fun j q q2 => by rw [am_up_ne (by omega)]; exact e2 j q q2)⟩
    · rw [← f b q]; funext j; exact am_up_ne (by omega)
    · by_cases z : j = i
      · rw [z, am_up_at]; unfold cutTo; rw [if_neg (by omega)]
      · rw [am_up_ne (by omega)]; exact e j j0 (by omega)
theorem c_cutTo7 {s : Nat} (hs : s ≤ 40) (k : ∀ g, (∀ b : Int, b ≠ 295 → g b = h b) → g 295 6 = (s : Int) → (∀ j : Int, 0 ≤ j → j < 40 → g 295 (8 + j) = cutTo (fB8 (h 295)) s j) → (∀ j : Int, j ≠ 6 → j < 8 ∨ 48 ≤ j → g 295 j = h 295 j) → Q 0 g) : cf d M_X7_cutTo [.inr (.inr 294), .inl (s : Int)] h Q := by
  refine cf_of pX7 (Nat.le_of_ble_eq_true rfl) rfl (fun _ => B_X7_cutTo_0 ?_)
  refine l_cutTo (h := h) (s := s) k (40 - s) s _ (by omega) (Nat.le_refl _) (fun b q => by funext j; exact am_up_ne (by omega)) (am_up_at _ _ _ _) (fun j j0 j1 => ?_) (fun j q => am_up_ne (by omega)) (fun j q q2 => am_up_ne (by omega))
  rw [am_up_ne (by omega)]; unfold cutTo; rw [if_pos (by omega)]; rfl
/-- the reference tries sizes -/
def fLs (h g : am_H) : Prop := (∀ b : Int, b < 294 ∨ (296 ≤ b ∧ b ≤ 298) → g b = h b) ∧ (∀ j : Int, j ≠ 6 → j < 8 ∨ 48 ≤ j → g 295 j = h 295 j) ∧ (∀ j : Int, 0 ≤ j → j < 40 → g 317 j = h 295 (8 + j)) ∧ ∀ j : Int, j = 4 ∨ j = 5 ∨ j = 6 ∨ j = 50 → g 294 j = h 294 j
theorem l_X7_least {t : Int} (r : rtx h t tt) (ok : okx tt) (hb : ∀ j : Int, 0 ≤ j → j < 40 → 0 ≤ fB8 (h 295) j ∧ fB8 (h 295) j ≤ 255) (k : ∀ g, fLs h g → wf (D + 7) M_X7_least Q 75 [some (.inr (.inr 294)), none, some (.inl (h 295 6)), some (.inl (ff (lst tt (fB8 (h 295))) 0 41)), none] [] g) : ∀ (n i : Nat) (g : am_H), i + n = 41 → rlay g tt → fLs h g → ff (lst tt (fB8 (h 295))) 0 41 = ff (lst tt (fB8 (h 295))) i n → wf (D + 7) M_X7_least Q 32 [some (.inr (.inr 294)), some (.inl t), some (.inl (h 295 6)), some (.inl (-1)), some (.inl (i : Int))] [] g
  | 0, i, g, hn, y, fg, e => by
    have kk := k g fg
    rw [e] at kk
    exact B_X7_least_32 ⟨fun _ => kk, fun q => by omega⟩
  | n + 1, i, g, hn, y, fg, e => by
    refine B_X7_least_32 ⟨fun q => by omega, fun _ => ⟨fun q => absurd rfl q, fun _ => ?_⟩⟩
    refine c_X7_bringBack (fun g2 f2 b2 o2 => c_cutTo7 (s := i) (by omega) (fun g3 f3 s3 b3 o3 => ?_))
    have f13 : ∀ b : Int, b ≠ 295 → g3 b = g b := fun b q => (f3 b q).trans (f2 b q)
    have B3 : ∀ j : Int, 0 ≤ j → j < 40 → g3 295 (8 + j) = cutTo (fB8 (h 295)) i j := fun j j0 j1 => by
      rw [b3 j j0 j1]
      unfold cutTo fB8
      rw [b2 j j0 j1, fg.2.2.1 j j0 j1]
    have cb : ∀ j : Int, 0 ≤ j → j < 40 → 0 ≤ cutTo (fB8 (h 295)) i j ∧ cutTo (fB8 (h 295)) i j ≤ 255 := fun j j0 j1 => by
      unfold cutTo
      split
      · exact hb j j0 j1
      · omega
    refine c_X7_readBy (D := D) (β := cutTo (fB8 (h 295)) i) (rtx_congr r ((f13 297 (by omega)).trans (fg.1 297 (by omega)))) ok (rlay_congr y (fun b q1 q2 => f13 b (by omega)) (fun j _ _ => by rw [f13 294 (by omega)])) (by rw [s3]; omega) B3 cb (fun g4 f4 r4 e44 e45 e46 e47 => ?_)
    rw [s3] at r4 e44 e45 e46
    have rd : rdone g4 t tt i (rdX tt (cutTo (fB8 (h 295)) i) i) := ⟨rtx_congr r (by rw [f4.1 297 (by omega) (by omega), f13 297 (by omega), fg.1 297 (by omega)]), rlay_fV (rlay_congr y (fun b q1 q2 => f13 b (by omega)) (fun j _ _ => by rw [f13 294 (by omega)])) f4, r4, e44, e45, e46, e47⟩
    have same : sndR (rdX tt (cutTo (fB8 (h 295)) i) i) = lst tt (fB8 (h 295)) i := (rdX_size ok hb (by omega) (fun j j0 j1 => by unfold cutTo; rw [if_pos j1])).symm
    have f5 : fLs h g4 := ⟨fun b q => by rw [f4.1 b (by omega) (by omega), f13 b (by omega)]; exact fg.1 b q, fun j q1 q2 => by rw [f4.1 295 (by omega) (by omega), o3 j q1 q2, o2 j q2]; exact fg.2.1 j q1 q2, fun j j0 j1 => by rw [f4.1 317 (by omega) (by omega), f13 317 (by omega)]; exact fg.2.2.1 j j0 j1, fun j q => by rw [f4.2 j (by omega), f13 294 (by omega)]; exact fg.2.2.2 j q⟩
    have y5 : rlay g4 tt := rd.2.1
    refine c_X7_isValidNow (d := D + 5) rd (rdX_ok ok cb (by omega)).1 ?_
    rw [same]
    rw [ff_s (i := i) (n := n)] at e
    cases z : lst tt (fB8 (h 295)) i with
    | false =>
      rw [if_neg (by rw [z]; decide)] at e
      refine ⟨fun _ => B_X7_least_69 ?_, fun q => absurd rfl q⟩
      rw [w32e (by omega) (by omega), show (i : Int) + 1 = ((i + 1 : Nat) : Int) by omega]
      exact l_X7_least r ok hb k n (i + 1) g4 (by omega) y5 f5 e
    | true =>
      rw [if_pos z] at e
      refine ⟨fun q => absurd q (by decide), fun _ => B_X7_least_69 ?_⟩
      have kk := k g4 f5
      rw [e] at kk
      exact B_X7_least_32 ⟨fun _ => kk, fun _ => ⟨fun _ => kk, fun q => by omega⟩⟩
theorem c_X7_least {t : Int} (I : INV h tx) (k : ∀ g, fZ h g → Q (r_least (h 295) tx t) g) : cf (D + 7) M_X7_least [.inr (.inr 294), .inl t] h Q := by
  unfold r_least at k
  refine cf_of pX7 (Nat.le_of_ble_eq_true rfl) rfl (fun _ => B_X7_least_0 (c7_isText I (fun q => ⟨fun _ => ?_, fun c => by omega⟩) (fun q => ⟨fun c => absurd rfl c, fun _ => ?_⟩)))
  · obtain ⟨z1, z2, z3, z4, z5⟩ := INV_t I q.1 q.2
    rw [if_pos q] at k
    refine c_X7_layOrder (d := D + 4) z2 z3 (fun g f y => c_X7_putAside (fun g2 f2 b2 => ?_))
    have e295 : g2 295 = h 295 := (f2 295 (by omega)).trans (f.1 295 (by omega) (by omega))
    have fz := fZ_fY f
    rw [show g 295 6 = h 295 6 by rw [f.1 295 (by omega) (by omega)]]
    refine l_X7_least (h := h) z2 z3 (INV_b I) (fun g3 f3 => B_X7_least_75 (c_X7_bringBack (fun g4 f4 b4 o4 => ?_))) 41 0 g2 (by omega) (rlay_congr y (fun b q1 q2 => f2 b (by omega)) (fun j _ _ => by rw [f2 294 (by omega)])) ⟨fun b qb => by rw [f2 b (by omega)]; exact fz.1 b (by omega), fun j _ _ => by rw [e295], fun j j0 j1 => by rw [b2 j j0 j1, f.1 295 (by omega) (by omega)], fun j qj => by rw [f2 294 (by omega)]; exact fz.2 j qj⟩ rfl
    refine k _ ⟨fun b qb => ?_, fun j qj => by rw [am_up_ne (by omega), f4 294 (by omega)]; exact f3.2.2.2 j qj⟩
    by_cases zb : b = 295
    · rw [zb]
      funext j
      by_cases j6 : j = 6
      · rw [j6, am_up_at]
      · rw [am_up_ne (by omega)]
        by_cases j8 : j < 8 ∨ 48 ≤ j
        · rw [o4 j j8]; exact f3.2.1 j j6 j8
        · have := b4 (j - 8) (by omega) (by omega)
          rw [show 8 + (j - 8) = j by omega] at this
          rw [this, f3.2.2.1 (j - 8) (by omega) (by omega), show 8 + (j - 8) = j by omega]
    · rw [show am_up g4 295 6 (h 295 6) b = g4 b by funext j; exact am_up_ne (by omega), f4 b zb]
      exact f3.1 b (by omega)
  · have kk := k h fZ_refl
    rw [if_neg q] at kk; exact kk
end LEAST
