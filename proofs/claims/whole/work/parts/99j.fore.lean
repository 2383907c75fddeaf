section FORE2
variable {d D : Nat} {h : am_H} {Q : Int → am_H → Prop} {tx : Nat → List Cl} {t : List Cl} {α : Int → Int} {m : Int} {w : Bool}
def r_fore (tx : Nat → List Cl) (α : Int → Int) (n p : Int) : Int := if (1 ≤ n ∧ n ≤ 60) ∧ 0 ≤ p ∧ p ≤ 39 then forN false tx n.toNat α (8 + p) else -1
theorem l_X6_fore {n0 : Nat} {p : Int} (p0 : 0 ≤ p ∧ p < 40) (n60 : n0 ≤ 60) (r0 : rul h tx (α 1)) (k : ∀ g, fQ2 h g 198 → (∀ j : Int, 0 ≤ j → j < 40 → 0 ≤ g 199 j ∧ g 199 j ≤ 255) → Q (forN true tx n0 α (8 + p)) g) : ∀ (n i : Nat) (β : Int → Int) (g : am_H), i + n = n0 → fQ2 h g 198 → mrep g 198 (cur β) → okm (cur β) → β 1 = α 1 → forN true tx n0 α = forN true tx n β → wf (d + 6) M_X6_foretold Q 39 [some (.inr (.inr 1)), some (.inl (n0 : Int)), some (.inl p), some (.inl (i : Int))] [] g := by
  have fin : ∀ (β : Int → Int) (g : am_H), fQ2 h g 198 → mrep g 198 (cur β) → okm (cur β) → forN true tx n0 α = β → wf (d + 6) M_X6_foretold Q 72 [some (.inr (.inr 1)), none, some (.inl p), none] [] g := by
    intro β g fg r o e
    have rb : ∀ j : Int, 0 ≤ j → j < 40 → g 199 j = β (8 + j) := fun j j0 j1 => by
      have := r.2.2.2.2.1 j j0 j1
      rw [show (198 : Int) + 1 = 199 from rfl] at this
      rw [this, cur_lo (by omega), show 4 + (4 + j) = 8 + j by omega]
    have kk := k g fg (fun j j0 j1 => by rw [rb j j0 j1]; exact (okm_iff.mp o).2.2.2.2.1 j j0 j1)
    rw [e] at kk
    refine B_X6_foretold_72 ⟨p0.1, p0.2, ?_⟩
    rw [rb p p0.1 p0.2]
    exact kk
  intro n
  induction n with
  | zero =>
    intro i β g hn fg r o b1 e
    exact B_X6_foretold_39 ⟨fun _ => fin β g fg r o e, fun q => by omega⟩
  | succ n ih =>
    intro i β g hn fg r o b1 e
    have e4 : g 198 4 = β 4 := by
      have := r.1
      rw [cur_lo (by omega)] at this
      exact this
    refine B_X6_foretold_39 ⟨fun q => by omega, fun _ => ?_⟩
    rw [e4]
    refine ⟨fun q => fin β g fg r o (by rw [e]; exact forN_stop _ _ (by omega)), fun q => ?_⟩
    simp only [forN] at e
    rw [if_pos q] at e
    refine c_X6_passDay (d := d) (m := 198) (α := β) (Or.inr rfl) r o q (by rw [b1]; exact fQ2_rul (Or.inr rfl) fg r0) (fun g2 f2 m2 => ?_)
    rw [w32e (by omega) (by omega), show (i : Int) + 1 = ((i + 1 : Nat) : Int) by omega]
    rw [pdW_t] at e
    exact ih (i + 1) (pd tx β) g2 (by omega) (fQ2_trans fg f2) m2 (okm_pd o q) (by rw [pd_lo o (by omega)]; exact b1) e
theorem INV_okx (I : INV h tx) : ∀ i : Nat, (i : Int) = h 295 1 → okx (tx i) := fun i hi => by
  have a1 := I.2.1.2.1
  exact (I.2.2.2.2.2.2.2.2.2 i (by omega)).2.2
theorem c_X6_foretold {n p : Int} (I : INV h tx) (k : ∀ g, fX h g → Q (r_fore tx (h 295) n p) g) : cf (d + 6) M_X6_foretold [.inr (.inr 1), .inl n, .inl p] h Q := by
  have no : ¬ ((1 ≤ n ∧ n ≤ 60) ∧ 0 ≤ p ∧ p ≤ 39) → Q (-1) h := fun y => by
    have kk := k h fX_refl
    unfold r_fore at kk
    rw [if_neg y] at kk; exact kk
  refine cf_of pX6 (Nat.le_of_ble_eq_true rfl) rfl (fun _ => B_X6_foretold_0 ⟨fun q => no (by omega), fun q => ⟨fun q2 => no (by omega), fun q2 => ⟨fun q3 => no (by omega), fun q3 => ⟨fun q4 => ?_, fun q4 => no (by omega)⟩⟩⟩⟩)
  obtain ⟨n0, hn⟩ : ∃ n0 : Nat, n = (n0 : Int) := ⟨n.toNat, by omega⟩
  subst hn
  have o := I.2.1.2.2.2.2.1
  refine c_X0_copy k_198 k_5 (by omega) I.1.1 o.2.2.2.1 (fun g f m => ?_)
  have f2 : fQ2 h g 198 := fQ2_3 (Or.inr rfl) f
  refine l_X6_fore (h := h) (α := h 295) ⟨q3, q4⟩ (by omega) (INV_rul I) (fun g2 f3 b2 => ?_) n0 0 (h 295) g (by omega) f2 m o rfl rfl
  have fx : fX h g2 := by
    refine ⟨fun b q => f3.1 b (by omega) (by omega) (by omega) (by omega), f3.2.1 9 (by omega) (by omega), fun oo => ⟨by rw [f3.2.1 8 (by omega) (by omega)]; exact oo.1, ?_, fun j j0 j1 => ⟨b2 j j0 j1, by rw [f3.1 240 (by omega) (by omega) (by omega) (by omega)]; exact (oo.2.2 j j0 j1).2⟩⟩⟩
    rcases f3.2.2 with e | e
    · rw [e]; exact oo.2.1
    · rw [e]; exact Or.inr (Or.inl rfl)
  have kk := k g2 fx
  unfold r_fore at kk
  rw [if_pos (by omega), Int.toNat_natCast] at kk
  have ag := forN_ag (w := true) (w2 := false) (tx := tx) n0 (h 295) (h 295) (fun _ _ _ _ => rfl) o o (INV_okx I) (8 + p) (by omega) (by omega) (by omega)
  rw [ag]
  exact kk
/-- the reference looks ahead -/
theorem l_fore_24 {v1 v2 : Int} (k : ∀ g, (∀ b : Int, b ≠ 319 → g b = h b) → (∀ j : Int, 0 ≤ j → j < 44 → g 319 j = h 295 (4 + j)) → wf (d + 1) M_X7_foretold Q 57 [some (.inr (.inr 294)), some (.inl v1), some (.inl v2), some (.inl 0), none] [] (am_up g 294 50 0)) : ∀ (n i : Nat) (g : am_H), i + n = 44 → (∀ b : Int, b ≠ 319 → g b = h b) → (∀ j : Int, 0 ≤ j → j < i → g 319 j = h 295 (4 + j)) → wf (d + 1) M_X7_foretold Q 24 [some (.inr (.inr 294)), some (.inl v1), some (.inl v2), some (.inl (i : Int)), none] [] g
  | 0, i, g, hn, f, e => B_X7_foretold_24 ⟨fun _ => k g f (fun j j0 j1 => e j j0 (by omega)), fun q => by omega⟩
  | n + 1, i, g, hn, f, e => by
    refine B_X7_foretold_24 ⟨fun q => by omega, fun _ => ?_⟩
    rw [w32e (z := 4 + (i : Int)) (by omega) (by omega), w32e (z := (i : Int) + 1) (by omega) (by omega), show (i : Int) + 1 = ((i + 1 : Nat) : Int) by omega]
    refine ⟨by omega, by omega, by omega, l_fore_24 k n (i + 1) _ (by omega) (fun b q => ?_) (fun j j0 j1 => ?_)⟩
    · rw [← f b q]; funext j; exact am_up_ne (by omega)
    · by_cases z : j = i
      · rw [z, am_up_at, f 295 (by omega)]
      · rw [am_up_ne (by omega)]; exact e j j0 (by omega)
theorem l_fore_97 {v3 : Int} (k : ∀ g, (∀ b : Int, b ≠ 295 → g b = h b) → (∀ j : Int, 0 ≤ j → j < 44 → g 295 (4 + j) = h 319 j) → (∀ j : Int, j < 4 ∨ 48 ≤ j → g 295 j = h 295 j) → Q v3 (am_up g 294 50 1)) : ∀ (n i : Nat) (g : am_H), i + n = 44 → (∀ b : Int, b ≠ 295 → g b = h b) → (∀ j : Int, 0 ≤ j → j < i → g 295 (4 + j) = h 319 j) → (∀ j : Int, j < 4 ∨ 48 ≤ j → g 295 j = h 295 j) → wf (d + 1) M_X7_foretold Q 97 [some (.inr (.inr 294)), none, none, some (.inl v3), some (.inl (i : Int))] [] g
  | 0, i, g, hn, f, e, e2 => B_X7_foretold_97 ⟨fun _ => k g f (fun j j0 j1 => e j j0 (by omega)) e2, fun q => by omega⟩
  | n + 1, i, g, hn, f, e, e2 => by
    refine B_X7_foretold_97 ⟨fun q => by omega, fun _ => ?_⟩
    rw [w32e (z := 4 + (i : Int)) (by omega) (by omega), w32e (z := (i : Int) + 1) (by omega) (by omega), show (i : Int) + 1 = ((i + 1 : Nat) : Int) by omega]
    refine ⟨by omega, by omega, by omega, l_fore_97 k n (i + 1) _ (by omega) (fun b q => ?_) (fun j j0 j1 => ?_) (fun j q => ?_)⟩
    · rw [← f b q]; funext j; exact am_up_ne (by omega)
    · by_cases z : j = i
      · rw [z, am_up_at, f 319 (by omega)]
      · rw [am_up_ne (by omega)]; exact e j j0 (by omega)
    · rw [am_up_ne (by omega)]; exact e2 j q
theorem l_fore_57 {n0 : Nat} {p : Int} (p0 : 0 ≤ p ∧ p < 40) (n60 : n0 ≤ 60) (r0 : rul7 h tx (α 1)) (h50 : h 294 50 = 0) (k : ∀ g, fP2 h g → g 295 = forN false tx n0 α → wf (d + 6) M_X7_foretold Q 97 [some (.inr (.inr 294)), none, none, some (.inl (forN false tx n0 α (8 + p))), some (.inl 0)] [] g) : ∀ (n i : Nat) (β : Int → Int) (g : am_H), i + n = n0 → fP2 h g → g 295 = β → okm (cur β) → β 1 = α 1 → forN false tx n0 α = forN false tx n β → wf (d + 6) M_X7_foretold Q 57 [some (.inr (.inr 294)), some (.inl (n0 : Int)), some (.inl p), some (.inl (i : Int)), none] [] g
  | 0, i, β, g, hn, fg, r, o, b1, e => by
    have kk := k g fg (by rw [e]; exact r)
    refine B_X7_foretold_57 ⟨fun _ => ?_, fun q => by omega⟩
    rw [w32e (z := 8 + p) (by omega) (by omega), r]
    rw [e] at kk
    exact ⟨by omega, by omega, kk⟩
  | n + 1, i, β, g, hn, fg, r, o, b1, e => by
    have next : ∀ (g2 : am_H) (γ : Int → Int), fP2 h g2 → g2 295 = γ → okm (cur γ) → γ 1 = α 1 → forN false tx n0 α = forN false tx n γ → wf (d + 6) M_X7_foretold Q 78 [some (.inr (.inr 294)), some (.inl (n0 : Int)), some (.inl p), some (.inl (i : Int)), none] [] g2 := fun g2 γ f2 r2 o2 c1 e2 => by
      refine B_X7_foretold_78 ?_
      rw [w32e (by omega) (by omega), show (i : Int) + 1 = ((i + 1 : Nat) : Int) by omega]
      exact l_fore_57 p0 n60 r0 h50 k n (i + 1) γ g2 (by omega) f2 r2 o2 c1 e2
    simp only [forN] at e
    refine B_X7_foretold_57 ⟨fun q => by omega, fun _ => ?_⟩
    rw [r]
    refine ⟨fun q => ?_, fun q => ?_⟩
    · rw [if_neg (by omega)] at e
      exact next g β fg r o b1 (by rw [e, forN_stop _ _ (by omega)])
    · rw [if_pos q] at e
      refine c_X7_pass (d := d) (w := false) (tx := tx) (α := β) r ⟨(fun q => by cases q), fun q => absurd ((fg.2 50 (by omega) (by omega) (by omega)).trans h50) q⟩ o q (by rw [b1]; exact rul7_congr r0 (fg.1 297 (by omega) (by omega) (by omega))) (fun g2 f2 e2 _ => ?_)
      exact next g2 _ (fP2_trans fg f2) e2 (okm_pdW o q) (by rw [pdW_1 o]; exact b1) e
theorem forN_hi : ∀ (n : Nat) (α : Int → Int) (j : Int), okm (cur α) → j < 4 ∨ 48 ≤ j → forN false tx n α j = α j
  | 0, _, _, _, _ => rfl
  | n + 1, α, j, o, hj => by
    simp only [forN]
    split
    · rename_i q
      rw [forN_hi n _ j (okm_pdW o q) hj, pdW_hi o (by omega)]
    · rfl
theorem c_X7_foretold {n p : Int} (I : INV h tx) (k : ∀ g, fZ h g ∨ fZ (am_up h 294 50 1) g → Q (r_fore tx (h 295) n p) g) : cf (d + 6) M_X7_foretold [.inr (.inr 294), .inl n, .inl p] h Q := by
  have no : ¬ ((1 ≤ n ∧ n ≤ 60) ∧ 0 ≤ p ∧ p ≤ 39) → Q (-1) h := fun y => by
    have kk := k h (Or.inl fZ_refl)
    unfold r_fore at kk
    rw [if_neg y] at kk; exact kk
  have o := I.2.1.2.2.2.2.1
  refine cf_of pX7 (Nat.le_of_ble_eq_true rfl) rfl (fun _ => B_X7_foretold_0 (c_X7_isIn (fun a b => ⟨fun c => by omega, fun _ => c_X7_isIn (fun a2 b2 => ⟨fun _ => ?_, fun c => by omega⟩) (fun a2 => ⟨fun c => absurd rfl c, fun _ => no (by omega)⟩)⟩) (fun a => ⟨fun _ => no (by omega), fun c => absurd rfl c⟩)))
  obtain ⟨n0, hn⟩ : ∃ n0 : Nat, n = (n0 : Int) := ⟨n.toNat, by omega⟩
  subst hn
  refine l_fore_24 (h := h) (fun g f e => ?_) 44 0 h (by omega) (fun _ _ => rfl) (fun j j0 j1 => by omega)
  generalize hu : am_up g 294 50 0 = u
  have u0 : ∀ b : Int, b ≠ 294 → u b = g b := fun b q => by rw [← hu]; funext j; exact am_up_ne (by omega)
  have u295 : u 295 = h 295 := (u0 295 (by omega)).trans (f 295 (by omega))
  have u319 : ∀ j : Int, 0 ≤ j → j < 44 → u 319 j = h 295 (4 + j) := fun j j0 j1 => by rw [u0 319 (by omega)]; exact e j j0 j1
  refine l_fore_57 (h := u) (α := h 295) ⟨a2, by omega⟩ (by omega) (rul7_congr (INV7_rul (INV_7 I)) ((u0 297 (by omega)).trans (f 297 (by omega)))) (by rw [← hu, am_up_at]) (fun g2 f2 e2 => ?_) n0 0 (h 295) u (by omega) fP2_refl u295 o rfl rfl
  refine l_fore_97 (h := g2) (fun g3 f3 e3 e4 => ?_) 44 0 g2 (by omega) (fun _ _ => rfl) (fun j j0 j1 => by omega) (fun _ _ => rfl)
  have kk := k (am_up g3 294 50 1) (Or.inr ⟨fun b q => ?_, fun j q => ?_⟩)
  · unfold r_fore at kk
    rw [if_pos (by omega), Int.toNat_natCast] at kk
    exact kk
  · have l : am_up g3 294 50 1 b = g3 b := by funext j; exact am_up_ne (by omega)
    have r : am_up h 294 50 1 b = h b := by funext j; exact am_up_ne (by omega)
    rw [l, r]
    by_cases z : b = 295
    · rw [z]
      funext j
      by_cases jj : j < 4 ∨ 48 ≤ j
      · rw [e4 j jj, e2, forN_hi n0 _ j o jj]
      · have := e3 (j - 4) (by omega) (by omega)
        rw [show 4 + (j - 4) = j by omega] at this
        rw [this, f2.1 319 (by omega) (by omega) (by omega), u319 (j - 4) (by omega) (by omega), show 4 + (j - 4) = j by omega]
    · rw [f3 b z, f2.1 b (by omega) z (by omega), u0 b (by omega), f b (by omega)]
  · by_cases z : j = 50
    · rw [z, am_up_at, am_up_at]
    · rw [am_up_ne (by omega), am_up_ne (by omega), f3 294 (by omega), f2.2 j (by omega) (by omega) (by omega), ← hu, am_up_ne (by omega), f 294 (by omega)]
theorem INV_50 (I : INV h tx) {v : Int} (hv : ¬ v = 0) : INV (am_up h 294 50 v) tx := by
  obtain ⟨i1, i2, i3, i4, i5, i6, i7, i8, i9, i10⟩ := I
  have e : ∀ b : Int, b ≠ 294 → am_up h 294 50 v b = h b := fun b q => by funext j; exact am_up_ne (by omega)
  have e2 : ∀ j : Int, j ≠ 50 → am_up h 294 50 v 294 j = h 294 j := fun j q => am_up_ne (by omega)
  unfold INV
  rw [e 295 (by omega), e 296 (by omega), e 1 (by omega), e 2 (by omega), e 298 (by omega), e 218 (by omega), e2 4 (by omega), e2 5 (by omega), e2 6 (by omega), am_up_at]
  exact ⟨srep_fr i1 (fun b q q2 => e b (by omega)), i2, srep_fr i3 (fun b q q2 => e b (by omega)), i4, i5, hv, ⟨i7.1, okP_congr i7.2 (by rw [e 218 (by omega)]) (by rw [e 218 (by omega)]) (e 199 (by omega)) (e 240 (by omega))⟩, i8, i9, fun i hi => ⟨ctx_congr (i10 i hi).1 (fun b q q2 => e b (by have := i2.1.2; omega)), rtx_congr (i10 i hi).2.1 (e 297 (by omega)), (i10 i hi).2.2⟩⟩
end FORE2
