section FLIPS
variable {d D : Nat} {h : am_H} {Q : Int → am_H → Prop} {tx : Nat → List Cl} {t : List Cl} {β : Int → Int} {size : Int} {R R2 : Rd}
/-- a byte is 255 less it -/
def flp (β : Int → Int) (p : Int) : Int → Int := up1 β p (255 - β p)
theorem flp_b {p : Int} (hb : ∀ j : Int, 0 ≤ j → j < 40 → 0 ≤ β j ∧ β j ≤ 255) (p0 : 0 ≤ p ∧ p < 40) : ∀ j : Int, 0 ≤ j → j < 40 → 0 ≤ flp β p j ∧ flp β p j ≤ 255 := by
  intro j j0 j1
  unfold flp
  by_cases e : j = p
  · rw [e, up1_at]
    have := hb p p0.1 p0.2
    omega
  · rw [up1_ne e]; exact hb j j0 j1
def r_flips (α : Int → Int) (tx : Nat → List Cl) (t p : Int) : Int := if isT α t ∧ 0 ≤ p ∧ p < α 6 then ((told (tx t.toNat) &&& (lik (rdX (tx t.toNat) (fB8 α) (α 6)) (rdX (tx t.toNat) (flp (fB8 α) p) (α 6)) ^^^ 4294967295) : Nat) : Int) else -1
theorem c_X6_flips {t p : Int} (I : INV h tx) (k : ∀ g, fX h g → Q (r_flips (h 295) tx t p) g) : cf (D + 13) M_X6_flips [.inr (.inr 1), .inl t, .inl p] h Q := by
  unfold r_flips at k
  have s6 := INV_6 I
  have e53 := s_6 I.1
  refine cf_of pX6 (Nat.le_of_ble_eq_true rfl) rfl (fun _ => B_X6_flips_0 (c6_textAt I (fun q => ⟨by have := q.1; omega, fun c => by have := q.1; omega, fun _ => ⟨fun c => ?_, fun c => ⟨fun c2 => ?_, fun c2 => ⟨fun c3 => ?_, fun c3 => by omega⟩⟩⟩⟩) (fun q => ⟨by omega, fun _ => ?_, fun c => by omega⟩)))
  · have kk := k h fX_refl
    rw [if_neg (fun y => by omega)] at kk; exact kk
  · have kk := k h fX_refl
    rw [if_neg (fun y => by omega)] at kk; exact kk
  · obtain ⟨z1, z2, z3, z4, z5⟩ := INV_t I q.1 q.2
    have tb := q.1
    have pb : 0 ≤ p ∧ p < 40 := ⟨c, c3⟩
    have hb := INV_b I
    refine c_rdF (D := D) (W := 255) I q.1 q.2 (by decide) (fun h2 f2 I2 c2' o2 e8 e7 => ?_)
    refine c_X3_copyK (kc_crd c2') (fun h3 f3 c3' => ?_)
    have x3 : fX h2 h3 := ⟨fun b qb => f3 b (by omega) (by omega), by rw [f3 218 (by omega) (by omega)], fun qq => okP_congr qq (by rw [f3 218 (by omega) (by omega)]) (by rw [f3 218 (by omega) (by omega)]) (f3 199 (by omega) (by omega)) (f3 240 (by omega) (by omega))⟩
    have I3 := INV_fX I2 x3
    have e295 : h3 295 = h 295 := by rw [f3 295 (by omega) (by omega), f2.1 295 (by omega)]
    have m5 := I3.1.1
    rw [e295] at m5
    have ok5 := I.2.1.2.2.2.2.1
    refine c_X0_copy k_198 k_5 (by omega) m5 ok5.2.2.2.1 (fun h4 f4 m4 => ?_)
    have b199 : ∀ j : Int, 0 ≤ j → j < 40 → h4 199 j = fB8 (h 295) j := fun j j0 j1 => by
      have := m4.2.2.2.2.1 j j0 j1
      rw [show (198 : Int) + 1 = 199 from rfl] at this
      rw [this, cur_lo (by omega), show 4 + (4 + j) = 8 + j by omega]
      rfl
    have x4 : fX h3 h4 := ⟨fun b qb => f4 b (by omega) (by omega) (by omega), by rw [f4 218 (by omega) (by omega) (by omega)], fun qq => ⟨by rw [f4 218 (by omega) (by omega) (by omega)]; exact qq.1, by rw [f4 218 (by omega) (by omega) (by omega)]; exact qq.2.1, fun j j0 j1 => by rw [b199 j j0 j1, f4 240 (by omega) (by omega) (by omega)]; exact ⟨hb j j0 j1, (qq.2.2 j j0 j1).2⟩⟩⟩
    have s198 : h4 198 3 = h 295 6 := by
      have := m4.2.2.1
      rw [this, cur_lo (by omega)]
      rfl
    have hp := hb p c pb.2
    rw [b199 p c pb.2, w32e (by omega) (by omega)]
    generalize hg : am_up h4 199 p (255 - fB8 (h 295) p) = g
    have g0 : ∀ b : Int, b ≠ 199 → g b = h4 b := fun b qb => by rw [← hg]; funext j; exact am_up_ne (by omega)
    have gb : ∀ j : Int, 0 ≤ j → j < 40 → g (198 + 1) j = flp (fB8 (h 295)) p j := fun j j0 j1 => by
      rw [show (198 : Int) + 1 = 199 from rfl, ← hg]
      unfold flp
      by_cases e : j = p
      · rw [e, am_up_at, up1_at]
      · rw [am_up_ne (by omega), up1_ne e]; exact b199 j j0 j1
    have x5 : fX h4 g := ⟨fun b qb => g0 b (by omega), by rw [g0 218 (by omega)], fun qq => ⟨by rw [g0 218 (by omega)]; exact qq.1, by rw [g0 218 (by omega)]; exact qq.2.1, fun j j0 j1 => ⟨by rw [show (199 : Int) = 198 + 1 from rfl, gb j j0 j1]; exact flp_b hb pb j j0 j1, by rw [g0 240 (by omega)]; exact (qq.2.2 j j0 j1).2⟩⟩⟩
    have xg : fX h g := fX_trans (fX_fW f2) (fX_trans x3 (fX_trans x4 x5))
    have Ig := INV_fX I xg
    have ctxg : ctx g (242 + 13 * t) (tx t.toNat) := ctx_congr z1 (fun b q1 q2 => xg.1 b (by omega))
    refine c_X2_readFile (D := D) (W := 255) (Or.inr rfl) z5 (by omega) ctxg z3 Ig.2.2.2.2.2.2.1.1 (by rw [g0 198 (by omega)]; exact s198) s6 gb (flp_b hb pb) (by decide) (fun h6 f6 c6 o6 e86 e76 => ⟨z5, ?_⟩)
    refine c_X3_likeFields (d := D + 10) k_235 k_220 (kc_congr c3' ?_ ?_) (kc_crd c6) o2 o6 ?_
    · rw [f6.1 235 (by omega), g0 235 (by omega), f4 235 (by omega) (by omega) (by omega)]
    · rw [f6.1 _ (by omega), g0 _ (by omega), f4 _ (by omega) (by omega) (by omega)]
    have kk := k h6 (fX_trans xg (fX_fW f6))
    rw [if_pos ⟨q, c, by omega⟩] at kk
    have tl := told_lt (tx := tx t.toNat)
    have t6 : h6 (242 + 13 * t) 6 = (told (tx t.toNat) : Nat) := by rw [f6.1 _ (by omega)]; exact ctxg.1.2.1
    rw [t6, andn_n (by omega)]
    exact kk
  · have kk := k h fX_refl
    rw [if_neg (fun y => q y.1)] at kk; exact kk
def fli (R R2 : Rd) (f : Nat) : Bool := !decide (R2 f 0 = R f 0) || !decide (R2 f 3 = R f 3)
theorem l_X7_flips (hv : ∀ f : Nat, f < 8 → h 312 f = R2 f 0 ∧ h 315 f = R2 f 3) (w : ∀ f : Nat, f < 8 → h 320 f = R f 0 ∧ h 321 f = R f 3) (k : Q ((bset (fli R R2) 8 : Nat) : Int) h) : ∀ (n m : Nat), m + n = 8 → wf (d + 1) M_X7_flips Q 115 [some (.inr (.inr 294)), none, none, some (.inl ((bset (fli R R2) m : Nat) : Int)), some (.inl (m : Int))] [] h
  | 0, m, hm => by
    have : m = 8 := by omega
    subst this
    exact B_X7_flips_115 ⟨fun _ => k, fun q => by omega⟩
  | n + 1, m, hm => by
    have m8 : m < 8 := by omega
    have ih := l_X7_flips hv w k n (m + 1) (by omega)
    rw [bset_snoc] at ih
    have p8 : 2 ^ m < 256 := Nat.pow_lt_pow_right (n := 8) (by decide) m8
    have bl := Nat.lt_trans (bset_lt (p := fli R R2) m) p8
    have next : ∀ s1 : Nat, s1 < 256 → s1 = (if fli R R2 m = true then 2 ^ m else 0) → wf (d + 1) M_X7_flips Q 165 [some (.inr (.inr 294)), none, none, none, some (.inl (m : Int))] [.inl (s1 : Int), .inl ((bset (fli R R2) m : Nat) : Int)] h := by
      intro s1 s8 e1
      refine B_X7_flips_165 ?_
      rw [ior_n (by omega) (by omega), w32e (by omega) (by omega), e1]
      exact ih
    have yes : fli R R2 m = true → wf (d + 1) M_X7_flips Q 157 [some (.inr (.inr 294)), none, none, none, some (.inl (m : Int))] [.inl ((bset (fli R R2) m : Nat) : Int)] h := by
      intro q
      refine B_X7_flips_157 ?_
      rw [ishl1 (by omega)]
      exact next (2 ^ m) p8 (by rw [if_pos q])
    refine B_X7_flips_115 ⟨fun q => by omega, fun _ => ⟨by omega, by omega, ?_⟩⟩
    rw [(hv m m8).1, (hv m m8).2, (w m m8).1, (w m m8).2]
    exact ⟨fun q => yes (by unfold fli; simp [q]), fun q => ⟨fun q2 => next 0 (by omega) (by unfold fli; simp [q, q2]), fun q2 => yes (by unfold fli; simp [q2])⟩⟩
theorem rd_nt {f : Nat} (hf : f < 8) (h : co t f < 0) : rdX t β size f 0 = 0 ∧ rdX t β size f 3 = 3 := by
  have m : f ∉ ord t := fun m => by have := (ord_mem m).2; omega
  have v := (rd0_v (tx := t) (deep := 0) hf).2.1 h
  have e : ∀ c, rdX t β size f c = rd0 t 0 f c := fun c => by unfold rdX rdC; exact lvl_out hf m c
  exact ⟨(e 0).trans v.1, (e 3).trans v.2.2.2⟩
theorem flips_eq {β2 : Int → Int} {β3 : Int → Int} : told t &&& (lik (rdX t β2 size) (rdX t β3 size) ^^^ 4294967295) = bset (fli (rdX t β2 size) (rdX t β3 size)) 8 := by
  have tl := told_lt (tx := t)
  refine bits_ext (n := 8) (Nat.lt_of_le_of_lt Nat.and_le_left tl) (bset_lt 8) (fun f hf => ?_)
  rw [andn_bit (by omega), told_bit hf, bset_bit]
  unfold lik fli
  rw [bset_bit]
  by_cases c : 0 ≤ co t f
  · generalize rdX t β2 size f 0 = a
    generalize rdX t β3 size f 0 = b
    generalize rdX t β2 size f 3 = v
    generalize rdX t β3 size f 3 = w
    by_cases h1 : b = a
    · subst h1
      by_cases h2 : w = v
      · subst h2; simp [hf, c]
      · have h2' : ¬ v = w := fun z => h2 z.symm
        simp [hf, c, h2, h2']
    · have h1' : ¬ a = b := fun z => h1 z.symm
      simp [hf, c, h1, h1']
  · have n2 := rd_nt (β := β2) (size := size) hf (by omega : co t f < 0)
    have n3 := rd_nt (β := β3) (size := size) hf (by omega : co t f < 0)
    rw [n2.1, n2.2, n3.1, n3.2]
    simp [c]
theorem c_X7_flips {t p : Int} (I : INV h tx) (k : ∀ g, fZ h g → Q (r_flips (h 295) tx t p) g) : cf (D + 8) M_X7_flips [.inr (.inr 294), .inl t, .inl p] h Q := by
  unfold r_flips at k
  have s6 := INV_6 I
  refine cf_of pX7 (Nat.le_of_ble_eq_true rfl) rfl (fun _ => B_X7_flips_0 (c7_isText I (fun q => ⟨fun c => by omega, fun _ => c_X7_isPlace s6 (fun a b => ⟨fun _ => ?_, fun c => by omega⟩) (fun a => ⟨fun c => absurd rfl c, fun _ => ?_⟩)⟩) (fun q => ⟨fun _ => ?_, fun c => absurd rfl c⟩)))
  · obtain ⟨z1, z2, z3, z4, z5⟩ := INV_t I q.1 q.2
    have hb := INV_b I
    have hp := hb p a (by omega)
    refine c_X7_read (D := D) I q.1 q.2 (fun g f2 I2 r2 => ?_)
    refine l_keep8 (W := fun m g => wf (D + 8) M_X7_flips Q 25 [some (.inr (.inr 294)), some (.inl t), some (.inl p), some (.inl (m : Int)), none] [] g) r2 (fun m g3 m8 w => ?_) (fun g3 f3 w3 => ?_) 8 0 g (by omega) (fun _ _ _ => rfl) (fun f hf => by omega)
    · refine B_X7_flips_25 ⟨fun q => by omega, fun _ => ⟨by omega, by omega, ?_⟩⟩
      rw [w32e (by omega) (by omega)]
      exact w
    · have fz3 : fZ g g3 := ⟨fun b qb => f3 b (by omega) (by omega), fun j _ => by rw [f3 294 (by omega) (by omega)]⟩
      have fz : fZ h g3 := fZ_trans f2 fz3
      have e295 : g3 295 = h 295 := fz.1 295 (by omega)
      have ep : h 295 (8 + p) = fB8 (h 295) p := rfl
      refine B_X7_flips_25 ⟨fun _ => ?_, fun q => by omega⟩
      rw [w32e (z := 8 + p) (by omega) (by omega), e295, ep, w32e (z := 255 - fB8 (h 295) p) (by omega) (by omega)]
      refine ⟨by omega, by omega, ?_⟩
      generalize hg : am_up g3 295 (8 + p) (255 - fB8 (h 295) p) = u
      have u0 : ∀ b : Int, b ≠ 295 → u b = g3 b := fun b qb => by rw [← hg]; funext j; exact am_up_ne (by omega)
      have u6 : u 295 6 = h 295 6 := by rw [← hg, am_up_ne (by omega), e295]
      have uB : ∀ j : Int, 0 ≤ j → j < 40 → u 295 (8 + j) = flp (fB8 (h 295)) p j := fun j j0 j1 => by
        rw [← hg]
        unfold flp
        by_cases e : j = p
        · rw [e, am_up_at, up1_at]
        · rw [am_up_ne (by omega), up1_ne e, e295]; rfl
      refine c_X7_readBy (D := D + 1) (rtx_congr r2.1 (by rw [u0 297 (by omega), f3 297 (by omega) (by omega)])) z3 (rlay_congr r2.2.1 (fun b q1 q2 => by rw [u0 b (by omega), f3 b (by omega) (by omega)]) (fun j _ _ => by rw [u0 294 (by omega), f3 294 (by omega) (by omega)])) (by rw [u6]; exact s6) uB (flp_b hb ⟨a, by omega⟩) (fun v fv rv e44 e45 e46 e47 => ?_)
      rw [u6] at rv
      have v295 : v 295 = u 295 := fv.1 295 (by omega) (by omega)
      have vp : v 295 (8 + p) = 255 - fB8 (h 295) p := by rw [v295, ← hg, am_up_at]
      rw [vp, w32e (by omega) (by omega), show 255 - (255 - fB8 (h 295) p) = fB8 (h 295) p by omega]
      generalize hw : am_up v 295 (8 + p) (fB8 (h 295) p) = w
      have w0 : ∀ b : Int, b ≠ 295 → w b = v b := fun b qb => by rw [← hw]; funext j; exact am_up_ne (by omega)
      have w295 : w 295 = h 295 := by
        funext j
        rw [← hw]
        by_cases e : j = 8 + p
        · rw [e, am_up_at]; rfl
        · rw [am_up_ne (by omega), v295, ← hg, am_up_ne (by omega), e295]
      have fzw : fZ h w := by
        refine ⟨fun b qb => ?_, fun j qj => ?_⟩
        · by_cases e : b = 295
          · rw [e]; exact w295
          · rw [w0 b e, fv.1 b (by omega) (by omega), u0 b e, fz.1 b qb]
        · rw [w0 294 (by omega), fv.2 j (by omega), u0 294 (by omega), fz.2 j qj]
      have kk := k w fzw
      rw [if_pos ⟨q, a, b⟩, flips_eq] at kk
      refine l_X7_flips (d := D + 7) (R := rdX (tx t.toNat) (fB8 (h 295)) (h 295 6)) (R2 := rdX (tx t.toNat) (flp (fB8 (h 295)) p) (h 295 6)) (fun f hf => ?_) (fun f hf => ?_) kk 8 0 (by omega)
      · have rf := rv.2.2 f hf
        rw [show 8 * (0 : Int) + (f : Int) = f by omega] at rf
        rw [w0 312 (by omega), w0 315 (by omega)]
        exact ⟨rf.2.1, rf.1⟩
      · rw [w0 320 (by omega), w0 321 (by omega), fv.1 320 (by omega) (by omega), fv.1 321 (by omega) (by omega), u0 320 (by omega), u0 321 (by omega)]
        exact w3 f hf
  · have kk := k h fZ_refl
    rw [if_neg (fun y => by omega)] at kk; exact kk
  · have kk := k h fZ_refl
    rw [if_neg (fun y => q y.1)] at kk; exact kk
end FLIPS
