section MEND6
variable {d D : Nat} {h : am_H} {Q : Int → am_H → Prop} {t : List Cl} {tx : Nat → List Cl} {β : Int → Int} {size ru : Int} {R : Rd}
theorem l_mr_108 {γ δ : Int → Int} (a : ∀ j : Int, 0 ≤ j → j < 40 → h 295 (8 + j) = γ j) (b : ∀ j : Int, 0 ≤ j → j < 40 → h 318 j = δ j) (k : Q (if eq40 γ δ = true then 0 else 1) h) : ∀ (n i : Nat), i + n = 40 → eq40 γ δ = allb (fun j => decide (γ j = δ j)) i n → wf (d + 1) M_X7_mendRound Q 108 [some (.inr (.inr 294)), none, some (.inl (i : Int)), none] [] h
  | 0, i, hn, e => by
    rw [e] at k
    exact B_X7_mendRound_108 ⟨fun _ => k, fun q => by omega⟩
  | n + 1, i, hn, e => by
    rw [allb_s] at e
    refine B_X7_mendRound_108 ⟨fun q => by omega, fun _ => ?_⟩
    rw [w32e (z := 8 + (i : Int)) (by omega) (by omega), a i (by omega) (by omega), b i (by omega) (by omega)]
    refine ⟨by omega, by omega, by omega, fun q => ?_, fun q => ?_⟩
    · rw [decide_eq_true q, Bool.true_and] at e
      rw [w32e (by omega) (by omega), show (i : Int) + 1 = ((i + 1 : Nat) : Int) by omega]
      exact l_mr_108 a b k n (i + 1) (by omega) e
    · rw [decide_eq_false q, Bool.false_and] at e
      rw [e] at k
      exact k
theorem c_X7_mendRound (r : rtx h ru t) (ok : okx t) (y : rlay h t) (h6 : h 295 6 = size) (hs : 0 ≤ size ∧ size ≤ 40) (hB : ∀ j : Int, 0 ≤ j → j < 40 → h 295 (8 + j) = β j) (hb : ∀ j : Int, 0 ≤ j → j < 40 → 0 ≤ β j ∧ β j ≤ 255) (k : ∀ g, fMR h g → rlay g t → (∀ j : Int, 0 ≤ j → j < 40 → g 295 (8 + j) = rnd t size β j) → Q (if eq40 (rnd t size β) β = true then 0 else 1) g) : cf (D + 7) M_X7_mendRound [.inr (.inr 294), .inl ru] h Q := by
  refine cf_of pX7 (Nat.le_of_ble_eq_true rfl) rfl (fun _ => B_X7_mendRound_0 (c_X7_readBy (D := D) (β := β) r ok y (by rw [h6]; exact hs) hB hb (fun g1 f1 r1 e44 e45 e46 e47 => ?_)))
  rw [h6] at r1 e44 e45 e46
  have g295 : g1 295 = h 295 := f1.1 295 (by omega) (by omega)
  refine l_mr_7 (h := g1) (fun g2 f2 b2 => ?_) 40 0 g1 (by omega) (fun _ _ => rfl) (fun j j0 j1 => by omega)
  have rd : rdone g2 ru t size (rdX t β size) := by
    refine ⟨rtx_congr (rtx_fV r f1) (f2 297 (by omega)), rlay_congr (rlay_fV y f1) (fun b q q2 => f2 b (by omega)) (fun j _ _ => by rw [f2 294 (by omega)]), ?_, by rw [f2 294 (by omega)]; exact e44, by rw [f2 294 (by omega)]; exact e45, by rw [f2 294 (by omega)]; exact e46, by rw [f2 294 (by omega)]; exact e47⟩
    unfold rlv at r1 ⊢
    rw [f2 308 (by omega), f2 309 (by omega), f2 312 (by omega), f2 313 (by omega), f2 314 (by omega), f2 315 (by omega), f2 316 (by omega)]
    exact r1
  have B2 : ∀ j : Int, 0 ≤ j → j < 40 → g2 295 (8 + j) = β j := fun j j0 j1 => by rw [f2 295 (by omega), g295]; exact hB j j0 j1
  refine l_mr_36 (d := D + 6) (γ := β) rd ok (rdX_ok ok hb hs).1 rdX_I rdX_A hs.2 (fun g3 f3 b3 o3 => ?_) (ord t).length 0 β g2 (by omega) (fun _ _ => rfl) B2 (fun _ _ => rfl) rfl
  have b3' : ∀ j : Int, 0 ≤ j → j < 40 → g3 295 (8 + j) = rnd t size β j := b3
  have fm : fMR h g3 := by
    refine ⟨fun b q => by rw [f3 b (by omega), f2 b (by omega)]; exact f1.1 b (by omega) (by omega), fun j q => by rw [o3 j q, f2 295 (by omega), g295], fun j q => by rw [f3 294 (by omega), f2 294 (by omega)]; exact f1.2 j (by omega)⟩
  refine l_mr_108 (γ := rnd t size β) (δ := β) b3' (fun j j0 j1 => by rw [f3 318 (by omega), b2 j j0 j1, g295]; exact hB j j0 j1) (k g3 fm (rlay_congr rd.2.1 (fun b q q2 => f3 b (by omega)) (fun j _ _ => by rw [f3 294 (by omega)])) b3') 40 0 (by omega) rfl
theorem l_mn_62 {γ δ : Int → Int} (a : ∀ j : Int, 0 ≤ j → j < 40 → h 295 (8 + j) = γ j) (b : ∀ j : Int, 0 ≤ j → j < 40 → h 317 j = δ j) (k : Q (unl γ δ 0 40) h) : ∀ (n i : Nat) (c : Int), i + n = 40 → 0 ≤ c → c ≤ i → unl γ δ 0 40 = c + unl γ δ i n → wf (d + 1) M_X7_mendNow Q 62 [some (.inr (.inr 294)), none, none, some (.inl c), some (.inl (i : Int))] [] h
  | 0, i, c, hn, c0, c1, e => by
    rw [e] at k
    simp only [unl, Int.add_zero] at k
    exact B_X7_mendNow_62 ⟨fun _ => k, fun q => by omega⟩
  | n + 1, i, c, hn, c0, c1, e => by
    have next : ∀ v : Int, v = (if γ i = δ i then 0 else 1) → wf (d + 1) M_X7_mendNow Q 95 [some (.inr (.inr 294)), none, none, none, some (.inl (i : Int))] [.inl v, .inl c] h := fun v hv => by
      have v01 : v = 0 ∨ v = 1 := by rw [hv]; split <;> omega
      refine B_X7_mendNow_95 ?_
      rw [w32e (z := c + v) (by omega) (by omega), w32e (z := (i : Int) + 1) (by omega) (by omega), show (i : Int) + 1 = ((i + 1 : Nat) : Int) by omega]
      refine l_mn_62 a b k n (i + 1) (c + v) (by omega) (by omega) (by omega) ?_
      rw [e, show unl γ δ i (n + 1) = (if γ i = δ i then 0 else 1) + unl γ δ (i + 1) n from rfl, ← hv]
      omega
    refine B_X7_mendNow_62 ⟨fun q => by omega, fun _ => ?_⟩
    rw [w32e (z := 8 + (i : Int)) (by omega) (by omega), a i (by omega) (by omega), b i (by omega) (by omega)]
    exact ⟨by omega, by omega, by omega, fun q => next 0 (by rw [if_pos q]), fun q => next 1 (by rw [if_neg q])⟩
def fMN (h g : am_H) : Prop := (∀ b : Int, b < 294 ∨ (296 ≤ b ∧ b ≤ 298) → g b = h b) ∧ (∀ j : Int, j < 8 ∨ 48 ≤ j → g 295 j = h 295 j) ∧ ∀ j : Int, j < 22 ∨ 47 < j → g 294 j = h 294 j
theorem fMN_MR {g g2 : am_H} (a : fMN h g) (b : fMR g g2) : fMN h g2 := ⟨fun c q => (b.1 c (by omega)).trans (a.1 c q), fun j q => (b.2.1 j q).trans (a.2.1 j q), fun j q => (b.2.2 j (by omega)).trans (a.2.2 j q)⟩
theorem l_mn_25 {β0 : Int → Int} (r : rtx h ru t) (ok : okx t) (h6 : h 295 6 = size) (hs : 0 ≤ size ∧ size ≤ 40) (h0 : ∀ j : Int, 0 ≤ j → j < 40 → h 295 (8 + j) = β0 j) (k0 : mnd t size 8 β0 = none → ∀ g, fMN h g → g 295 = h 295 → Q (-1) g) (k1 : ∀ γ, mnd t size 8 β0 = some γ → ∀ g, fMN h g → (∀ j : Int, 0 ≤ j → j < 40 → g 295 (8 + j) = γ j) → (∀ j : Int, 0 ≤ j → j < 40 → g 317 j = β0 j) → Q (unl γ β0 0 40) g) : ∀ (n i : Nat) (β : Int → Int) (g : am_H), i + n = 8 → fMN h g → rlay g t → (∀ j : Int, 0 ≤ j → j < 40 → g 317 j = β0 j) → (∀ j : Int, 0 ≤ j → j < 40 → g 295 (8 + j) = β j) → (∀ j : Int, 0 ≤ j → j < 40 → 0 ≤ β j ∧ β j ≤ 255) → mnd t size 8 β0 = mnd t size n β → wf (D + 8) M_X7_mendNow Q 25 [some (.inr (.inr 294)), some (.inl ru), some (.inl (i : Int)), none, none] [] g
  | 0, i, β, g, hn, fg, y, g317, gb, hb, e => by
    have i8 : i = 8 := by omega
    subst i8
    refine B_X7_mendNow_25 ⟨fun _ => B_X7_mendNow_45 ⟨fun q => absurd rfl q, fun _ => c_X7_bringBack (fun g2 f2 b2 o2 => k0 e g2 ⟨fun b q => by rw [f2 b (by omega)]; exact fg.1 b q, fun j q => by rw [o2 j q]; exact fg.2.1 j q, fun j q => by rw [f2 294 (by omega)]; exact fg.2.2 j q⟩ ?_)⟩, fun q => by omega⟩
    funext j
    by_cases q : j < 8 ∨ 48 ≤ j
    · rw [o2 j q]; exact fg.2.1 j q
    · have := b2 (j - 8) (by omega) (by omega)
      rw [show 8 + (j - 8) = j by omega] at this
      have z := h0 (j - 8) (by omega) (by omega)
      rw [show 8 + (j - 8) = j by omega] at z
      rw [this, g317 (j - 8) (by omega) (by omega), z]
  | n + 1, i, β, g, hn, fg, y, g317, gb, hb, e => by
    have l8 : mnd t size (n + 1) β = (if eq40 (rnd t size β) β = true then some (rnd t size β) else mnd t size n (rnd t size β)) := rfl
    rw [l8] at e
    have rb := rnd_b (t := t) (size := size) hb
    refine B_X7_mendNow_25 ⟨fun q => by omega, fun _ => c_X7_mendRound (D := D) (β := β) (size := size) (rtx_congr r (fg.1 297 (by omega))) ok y (by rw [fg.2.1 6 (by omega)]; exact h6) hs gb hb (fun g2 f2 y2 b2 => ?_)⟩
    have f3 := fMN_MR fg f2
    have e317 : ∀ j : Int, 0 ≤ j → j < 40 → g2 317 j = β0 j := fun j j0 j1 => by rw [f2.1 317 (by omega)]; exact g317 j j0 j1
    by_cases q : eq40 (rnd t size β) β = true
    · rw [if_pos q] at e ⊢
      refine ⟨fun _ => B_X7_mendNow_45 ⟨fun _ => ?_, fun y => by omega⟩, fun y => absurd rfl y⟩
      exact l_mn_62 (γ := rnd t size β) (δ := β0) b2 e317 (k1 _ e g2 f3 b2 e317) 40 0 0 (by omega) (by omega) (by omega) (by omega)
    · rw [if_neg q] at e ⊢
      refine ⟨fun y => by omega, fun _ => ?_⟩
      rw [w32e (by omega) (by omega), show (i : Int) + 1 = ((i + 1 : Nat) : Int) by omega]
      exact l_mn_25 r ok h6 hs h0 k0 k1 n (i + 1) (rnd t size β) g2 (by omega) f3 y2 e317 b2 rb e
theorem c_X7_mendNow {α : Int → Int} (e295 : h 295 = α) (o : okm (cur α)) (r0 : rul7 h tx (α 1)) (k0 : mndO tx α = none → ∀ g, fMN h g → g 295 = α → Q (-1) g) (k1 : ∀ γ, mndO tx α = some γ → ∀ g, fMN h g → (∀ j : Int, 0 ≤ j → j < 40 → g 295 (8 + j) = γ j) → (∀ j : Int, 0 ≤ j → j < 40 → g 317 j = α (8 + j)) → Q (unl γ (bR α) 0 40) g) : cf (D + 8) M_X7_mendNow [.inr (.inr 294), .inl (α 1)] h Q := by
  have o2 := okm_iff.mp o
  have refl : fMN h h := ⟨fun _ _ => rfl, fun _ _ => rfl, fun _ _ => rfl⟩
  unfold mndO mndT at k0 k1
  refine cf_of pX7 (Nat.le_of_ble_eq_true rfl) rfl (fun _ => B_X7_mendNow_0 ⟨fun q => ?_, fun q => ?_⟩)
  · rw [if_pos q] at k0
    exact k0 rfl h refl e295
  · rw [if_neg (by omega)] at k0
    have z := r0.2 q
    have t0 := z.1.1
    refine c_X7_hasSum (d := D + 6) z.1 z.2 (fun s => ⟨fun _ => ?_, fun y => by omega⟩) (fun s => ⟨fun y => absurd rfl y, fun _ => ?_⟩)
    · rw [if_pos s] at k0
      refine c_X7_layOrder (d := D + 5) z.1 z.2 (fun g1 f1 y1 => c_X7_putAside (fun g2 f2 b2 => ?_))
      have g295 : g2 295 = α := (f2 295 (by omega)).trans ((f1.1 295 (by omega) (by omega)).trans e295)
      have g1295 : g1 295 = α := (f1.1 295 (by omega) (by omega)).trans e295
      have fm : fMN h g2 := ⟨fun b qb => by rw [f2 b (by omega)]; exact f1.1 b (by omega) (by omega), fun j _ => by rw [g295, e295], fun j qj => by rw [f2 294 (by omega)]; exact f1.2 j (by omega) (by omega) (by omega)⟩
      refine l_mn_25 (h := h) (D := D) (β0 := bR α) (size := α 6) z.1 z.2 (by rw [e295]) o2.2.2.1 (fun j j0 j1 => by rw [e295, bR_in j0 j1]) (fun e g f e2 => k0 e g f (e2.trans e295)) (fun γ e g f b p => k1 γ (by rw [if_neg (by omega), if_pos s]; exact e) g f b (fun j j0 j1 => by rw [p j j0 j1, bR_in j0 j1])) 8 0 (bR α) g2 (by omega) fm (rlay_congr y1 (fun b q q2 => f2 b (by omega)) (fun j _ _ => by rw [f2 294 (by omega)])) (fun j j0 j1 => by rw [b2 j j0 j1, g1295, bR_in j0 j1]) (fun j j0 j1 => by rw [g295, bR_in j0 j1]) (bR_b o) rfl
    · rw [if_neg s] at k0
      exact k0 rfl h refl e295
theorem c_X7_mend (I : INV7 h tx) (k0 : mndO tx (h 295) = none → ∀ g, fMN h g → g 295 = h 295 → Q (-1) g) (k1 : ∀ γ, mndO tx (h 295) = some γ → ∀ g, (∀ b : Int, b < 294 ∨ (296 ≤ b ∧ b ≤ 298) → g b = h b) → (∀ j : Int, j < 22 ∨ 47 < j → g 294 j = h 294 j) → g 295 = mdS (rk_ (h 295)) γ (unl γ (bR (h 295)) 0 40) → Q (unl γ (bR (h 295)) 0 40) g) : cf (D + 9) M_X7_mend [.inr (.inr 294)] h Q := by
  have ha := I.1
  have o := ha.2.2.2.2.1
  have r0 := INV7_rul I
  have rm := rk_m ha
  refine cf_of pX7 (Nat.le_of_ble_eq_true rfl) rfl (fun _ => B_X7_mend_0 (c_X7_mendNow (D := D) (tx := tx) rfl o r0 (fun e g f e2 => ⟨fun q => absurd rfl q, fun _ => k0 e g f e2⟩) (fun γ e g f b p => ⟨fun _ => ?_, fun q => by have := (unl_rng (γ := γ) (β := bR (h 295)) 40 0); omega⟩)))
  refine c_X7_bringBack (fun g2 f2 b2 o2 => ?_)
  have g2295 : g2 295 = h 295 := by
    funext j
    by_cases q : j < 8 ∨ 48 ≤ j
    · rw [o2 j q]; exact f.2.1 j q
    · have := b2 (j - 8) (by omega) (by omega)
      rw [show 8 + (j - 8) = j by omega] at this
      rw [this, p (j - 8) (by omega) (by omega), show 8 + (j - 8) = j by omega]
  refine c_X7_keep (d := D + 8) (by rw [g2295]; exact ha.2.2.1) ?_
  rw [g2295, row_at, rm.2.2.2.1]
  have f3 : ∀ b : Int, b < 294 ∨ (296 ≤ b ∧ b ≤ 298) → am_row g2 295 (rk_ (h 295)) b = h b := fun b q => by rw [row_ne (by omega), f2 b (by omega)]; exact f.1 b q
  have f4 : ∀ j : Int, j < 22 ∨ 47 < j → am_row g2 295 (rk_ (h 295)) 294 j = h 294 j := fun j q => by rw [row_ne (by omega), f2 294 (by omega)]; exact f.2.2 j q
  have ork := rm.1
  have un := unl_rng (γ := γ) (β := bR (h 295)) 40 0
  have z := c_X7_mendNow (D := D) (tx := tx) (h := am_row g2 295 (rk_ (h 295))) (α := rk_ (h 295)) (Q := fun r8 h9 => cf (D + 8) M_X7_write [.inr (.inr 294), .inl 2, .inl r8, .inl 0] h9 (fun _ h11 => Q r8 h11)) row_at ork (by rw [rm.2.2.2.1]; exact rul7_congr r0 (f3 297 (by omega))) (fun e2 => by rw [mndO_rk ha, e] at e2; cases e2) (fun γ2 e2 g5 f5 b5 p5 => ?_)
  · rw [rm.2.2.2.1] at z
    exact z
  · rw [mndO_rk ha, e] at e2
    have eg : γ = γ2 := Option.some.inj e2
    subst eg
    rw [bR_rk ha]
    have e5 : g5 295 = putB (rk_ (h 295)) γ := by
      funext j
      by_cases q : j < 8 ∨ 48 ≤ j
      · rw [f5.2.1 j q, row_at, putB_ne q]
      · have := b5 (j - 8) (by omega) (by omega)
        rw [show 8 + (j - 8) = j by omega] at this
        rw [this]
        unfold putB
        rw [if_pos (by omega)]
    have ork2 := okm_iff.mp ork
    refine c_X7_write (by rw [f5.2.2 50 (by omega), f4 50 (by omega)]; exact I.2.1) (by rw [e5, putB_ne (by omega)]; exact ork2.2.2.2.1) (by rw [e5, putB_ne (by omega)]; exact ork2.1) (by omega) (by omega) (by omega) ?_
    refine k1 γ e _ (fun b q => by rw [row_ne (by omega), f5.1 b q]; exact f3 b q) (fun j q => by rw [row_ne (by omega), f5.2.2 j q]; exact f4 j q) ?_
    rw [row_at, e5]
    rfl
end MEND6
