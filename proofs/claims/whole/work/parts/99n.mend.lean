section MEND3
variable {d D : Nat} {h : am_H} {Q : Int → am_H → Prop} {t : List Cl} {β β0 : Int → Int} {vo : Bool} {deep base size : Int} {R : Rd}
def fM2 (h g : am_H) : Prop := (∀ b : Int, b < 218 ∨ (235 ≤ b ∧ b < 240) ∨ 242 ≤ b → g b = h b) ∧ g 218 9 = h 218 9 ∧ (okP h → okP g)
theorem fM2_refl : fM2 h h := ⟨fun _ _ => rfl, rfl, fun q => q⟩
theorem rnd_needK (ok : okx t) : putS t (rdC t β false (needK t 1) 0 size) (ord t) β = rnd t size β := by
  unfold rnd
  refine putS_congr (ord t) β (fun f hf k c => ?_)
  have om := ord_mem hf
  exact rdC_part ok (needK_cl 1) om.1 (Or.inl (needK_bit.mpr ⟨f, om.1, hf, k, need_ok.2.1 f hf⟩)) c
theorem l_mended {T : Int} (tT : am_kd 321 T = 15) (hT : 242 ≤ T) (cx : ctx h T t) (ok : okx t) (h9 : h 218 9 = 0) (h53 : h 5 3 = size) (hs : 0 ≤ size ∧ size ≤ 40) (h6 : ∀ j : Int, 0 ≤ j → j < 40 → h 6 j = β0 j) (k0 : mnd t size 8 β0 = none → ∀ g, fM2 h g → Q (-1) g) (k1 : ∀ γ, mnd t size 8 β0 = some γ → ∀ g, fM2 h g → (∀ j : Int, 0 ≤ j → j < 40 → g 240 j = γ j) → Q (unl γ β0 0 40) g) : ∀ (n i : Nat) (β : Int → Int) (g : am_H), i + n = 8 → fM2 h g → okP g → g 218 7 = 240 → (∀ j : Int, 0 ≤ j → j < 40 → g 240 j = β j) → (∀ j : Int, 0 ≤ j → j < 40 → 0 ≤ β j ∧ β j ≤ 255) → mnd t size 8 β0 = mnd t size n β → wf (D + 12) M_X2_mended Q 38 [some (.inr (.inr 218)), some (.inr (.inr T)), some (.inr (.inr 5)), some (.inl (i : Int))] [] g
  | 0, i, β, g, hn, fg, og, g7, gb, hb, e => B_X2_mended_38 ⟨fun _ => k0 e g fg, fun q => by omega⟩
  | n + 1, i, β, g, hn, fg, og, g7, gb, hb, e => by
    have l8 : mnd t size (n + 1) β = (if eq40 (rnd t size β) β = true then some (rnd t size β) else mnd t size n (rnd t size β)) := rfl
    rw [l8] at e
    have e18 : g T 18 = ((needK t 1 : Nat) : Int) := by rw [fg.1 T (by omega)]; exact cx.1.2.2.2.2.2.1
    refine B_X2_mended_38 ⟨fun q => by omega, fun _ => ⟨k_5, tT, ?_⟩⟩
    rw [e18, show g 5 3 = size by rw [fg.1 5 (by omega)]; exact h53]
    have p : rpre g T t β false 0 0 size := ⟨⟨tT, hT, ctx_congr cx (fun b q q2 => fg.1 b (by omega)), ok⟩, by rw [fg.2.1]; exact h9, ⟨by rw [g7]; exact k_240, by rw [g7]; exact l_240, by rw [g7]; omega, fun j j0 j1 => by rw [g7]; exact gb j j0 j1⟩, hb, by omega, by omega, og.1.1, og.1.2⟩
    refine rfOK_0 (D := D) _ g (needK t 1) 0 size p needK_lt (fun h5 f5 c5 o5 n5 d5 e58 => ?_)
    generalize hu : am_cp h5 240 0 241 0 40 = u
    have u0 : ∀ b : Int, b ≠ 241 → u b = h5 b := fun b q => by rw [← hu]; funext j; exact am_cp_other b j q
    have u41 : ∀ j : Int, 0 ≤ j → j < 40 → u 241 j = β j := fun j j0 j1 => by
      rw [← hu]
      unfold am_cp
      rw [if_pos ⟨rfl, by omega, by omega⟩, show 0 + (j - 0) = j by omega, f5.1 240 (by omega)]
      exact gb j j0 j1
    have u40 : ∀ j : Int, 0 ≤ j → j < 40 → u 240 j = β j := fun j j0 j1 => by rw [u0 240 (by omega), f5.1 240 (by omega)]; exact gb j j0 j1
    have ut : ∀ b : Int, 242 ≤ b → u b = h b := fun b q => by rw [u0 b (by omega), f5.1 b (by omega)]; exact fg.1 b (by omega)
    have iI : okI size (rdC t β false (needK t 1) 0 size) := by
      unfold rdC
      exact lvl_I
    refine l_putSums (d := D + 8) (h := u) (γ := β) (size := size) (base := 0) (deep := 0) tT hT (ctx_congr cx (fun b q q2 => ut b (by omega))) (crd_congr c5 (fun b q q2 => u0 b (by omega))) o5 iI hs.2 (fun g7' f7 b7 => ?_) |> fun z => cf_of pX2 (Nat.le_of_ble_eq_true rfl) rfl (fun _ => B_X2_putSums_0 (z (ord t).length 0 β u (by omega) (fun _ _ => rfl) u40 rfl))
    rw [rnd_needK ok] at b7
    have rb := rnd_b (t := t) (size := size) hb
    have g41 : ∀ j : Int, 0 ≤ j → j < 40 → g7' 241 j = β j := fun j j0 j1 => by rw [f7 241 (by omega)]; exact u41 j j0 j1
    have fu : ∀ b : Int, b < 218 ∨ (235 ≤ b ∧ b < 240) ∨ 242 ≤ b → g7' b = h b := fun b q => by rw [f7 b (by omega), u0 b (by omega), f5.1 b (by omega)]; exact fg.1 b q
    have e218 : ∀ j : Int, j ≠ 10 → j ≠ 8 → g7' 218 j = g 218 j := fun j q q2 => by rw [f7 218 (by omega), u0 218 (by omega), f5.2 j q q2]
    have og7 : okP g7' := by
      refine ⟨by rw [f7 218 (by omega), u0 218 (by omega), e58]; have := og.1; omega, by rw [e218 7 (by omega) (by omega)]; exact og.2.1, fun j j0 j1 => ⟨?_, ?_⟩⟩
      · rw [f7 199 (by omega), u0 199 (by omega), f5.1 199 (by omega)]; exact (og.2.2 j j0 j1).1
      · rw [b7 j j0 j1]; exact rb j j0 j1
    have fm7 : fM2 h g7' := ⟨fu, by rw [e218 9 (by omega) (by omega)]; exact fg.2.1, fun _ => og7⟩
    refine c_X2_unlike k_241 l_241 ?_
    have ue : unl (g7' 240) (g7' 241) 0 40 = unl (rnd t size β) β 0 40 := unl_congr 40 0 (fun j _ j1 => ⟨b7 j (by omega) (by omega), g41 j (by omega) (by omega)⟩)
    rw [ue]
    have z0 : unl (rnd t size β) β 0 40 = 0 ↔ eq40 (rnd t size β) β = true := unl_0 40 0
    refine ⟨fun q => ?_, fun q => c_X2_unlike (kX0_0 k_5).1 (kX0_0 k_5).2 ?_⟩
    · have ne : ¬ eq40 (rnd t size β) β = true := fun y => q (z0.mpr y)
      rw [if_neg ne] at e
      rw [w32e (by omega) (by omega), show (i : Int) + 1 = ((i + 1 : Nat) : Int) by omega]
      exact l_mended tT hT cx ok h9 h53 hs h6 k0 k1 n (i + 1) (rnd t size β) g7' (by omega) fm7 og7 (by rw [e218 7 (by omega) (by omega)]; exact g7) b7 rb e
    · rw [if_pos (z0.mp q)] at e
      have kk := k1 _ e g7' fm7 b7
      have ue2 : unl (g7' 240) (g7' (5 + 1)) 0 40 = unl (rnd t size β) β0 0 40 := unl_congr 40 0 (fun j _ j1 => ⟨b7 j (by omega) (by omega), by rw [show (5 : Int) + 1 = 6 from rfl, fu 6 (by omega)]; exact h6 j (by omega) (by omega)⟩)
      rw [ue2]
      exact kk
/-- what mending makes of the bytes -/
def mndT (t : List Cl) (size : Int) (β : Int → Int) : Option (Int → Int) := if ∃ f : Nat, f < 8 ∧ kdf t f = 1 then mnd t size 8 β else none
def bR (α : Int → Int) : Int → Int := fun j => if 0 ≤ j ∧ j < 40 then α (8 + j) else 0
theorem bR_in {α : Int → Int} {j : Int} (j0 : 0 ≤ j) (j1 : j < 40) : bR α j = α (8 + j) := if_pos ⟨j0, j1⟩
def mndO (tx : Nat → List Cl) (α : Int → Int) : Option (Int → Int) := if α 1 < 0 then none else mndT (tx (α 1).toNat) (α 6) (bR α)
theorem c_X2_mended {T : Int} (tT : am_kd 321 T = 15) (hT : 242 ≤ T) (cx : ctx h T t) (ok : okx t) (h9 : h 218 9 = 0) (oP : okP h) (h53 : h 5 3 = size) (hs : 0 ≤ size ∧ size ≤ 40) (h6 : ∀ j : Int, 0 ≤ j → j < 40 → h 6 j = β0 j) (hb : ∀ j : Int, 0 ≤ j → j < 40 → 0 ≤ β0 j ∧ β0 j ≤ 255) (k0 : mndT t size β0 = none → ∀ g, fM2 h g → Q (-1) g) (k1 : ∀ γ, mndT t size β0 = some γ → ∀ g, fM2 h g → (∀ j : Int, 0 ≤ j → j < 40 → g 240 j = γ j) → Q (unl γ β0 0 40) g) : cf (D + 12) M_X2_mended [.inr (.inr 218), .inr (.inr T), .inr (.inr 5)] h Q := by
  have e17 := cx.1.2.2.2.2.1
  unfold mndT at k0 k1
  refine cf_of pX2 (Nat.le_of_ble_eq_true rfl) rfl (fun _ => B_X2_mended_0 ⟨by omega, fun q => by omega, fun _ => ⟨tT, ?_⟩⟩)
  rw [e17]
  by_cases s : ∃ f : Nat, f < 8 ∧ kdf t f = 1
  · rw [if_pos s] at k0 k1 ⊢
    refine ⟨fun _ => ⟨k_5, ?_⟩, fun q => by omega⟩
    generalize hg : am_up (am_cp h (5 + 1) 0 240 0 40) 218 7 240 = g
    have g0 : ∀ b : Int, b ≠ 218 → b ≠ 240 → g b = h b := fun b q q2 => by rw [← hg]; funext j; rw [am_up_ne (by omega)]; exact am_cp_other b j q2
    have g40 : ∀ j : Int, 0 ≤ j → j < 40 → g 240 j = β0 j := fun j j0 j1 => by
      rw [← hg, am_up_ne (by omega)]
      unfold am_cp
      rw [if_pos ⟨rfl, by omega, by omega⟩, show 0 + (j - 0) = j by omega]
      exact h6 j j0 j1
    have g7 : g 218 7 = 240 := by rw [← hg, am_up_at]
    have g8 : ∀ j : Int, j ≠ 7 → g 218 j = h 218 j := fun j q => by rw [← hg, am_up_ne (by omega)]; exact am_cp_other 218 j (by omega)
    have og : okP g := ⟨by rw [g8 8 (by omega)]; exact oP.1, Or.inr (Or.inr g7), fun j j0 j1 => ⟨by rw [g0 199 (by omega) (by omega)]; exact (oP.2.2 j j0 j1).1, by rw [g40 j j0 j1]; exact hb j j0 j1⟩⟩
    exact l_mended tT hT cx ok h9 h53 hs h6 k0 k1 8 0 β0 g (by omega) ⟨fun b q => g0 b (by omega) (by omega), g8 9 (by omega), fun _ => og⟩ og g7 g40 hb rfl
  · rw [if_neg s] at k0 ⊢
    exact ⟨fun q => absurd rfl q, fun _ => k0 rfl h fM2_refl⟩
end MEND3
