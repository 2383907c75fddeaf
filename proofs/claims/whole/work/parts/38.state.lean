/-! LEVEL 3, a state of the class (at 4, and the image at 101) against the reference's row -/
theorem kd_step : ∀ s : Nat, s = 4 ∨ s = 101 → ∀ i, i < 30 → am_kd 321 ((s + 7 + 3 * i : Nat) : Int) = 10 := by
  intro s hs
  rcases hs with rfl | rfl
  · decide +kernel
  · decide +kernel
theorem kd_now {s : Int} (hs : s = 4 ∨ s = 101) : am_kd 321 (s + 1) = 10 ∧ am_kd 321 s = 14 := by
  rcases hs with rfl | rfl
  · exact ⟨k_5, k_4⟩
  · exact ⟨k_102, k_101⟩
theorem kd_st {s i : Int} (hs : s = 4 ∨ s = 101) (h0 : 0 ≤ i) (h1 : i < 30) : am_kd 321 (s + 4 + 3 + 3 * i) = 10 := by
  have := kd_step s.toNat (by omega) i.toNat (by omega)
  rw [show ((s.toNat + 7 + 3 * i.toNat : Nat) : Int) = s + 4 + 3 + 3 * i by omega] at this
  exact this
/-- the moment that is now -/
def cur (α : Int → Int) : Int → Int := mv α 4 2134
/-- the moment ahead of the k-th STEP -/
def stp (α : Int → Int) (k : Int) : Int → Int := fun j => α (64 + 69 * k + j)
def srep (h : am_H) (s : Int) (α : Int → Int) : Prop := mrep h (s + 1) (cur α) ∧ h s 3 = α 2 ∧ (0 ≤ h s 2 ∧ h s 2 < 30) ∧ (∀ k : Int, 0 ≤ k → k < α 2 → mrep h (s + 4 + 3 + 3 * ((h s 2 + k) % 30)) (stp α k)) ∧ h s 4 = α 0 ∧ h s 5 = α 1 ∧ h s 8 = α 3 ∧ ∀ i : Int, 0 ≤ i → i < α 3 → h (s + 5) i = α (48 + 2 * i) ∧ h (s + 6) i = α (48 + 2 * i + 1)
def oka (α : Int → Int) : Prop := (0 ≤ α 0 ∧ α 0 ≤ 4) ∧ (-1 ≤ α 1 ∧ α 1 < α 0) ∧ (0 ≤ α 2 ∧ α 2 ≤ 30) ∧ (0 ≤ α 3 ∧ α 3 ≤ 8) ∧ okm (cur α) ∧ ∀ k : Int, 0 ≤ k → k < α 2 → okm (stp α k)
def frS (h h2 : am_H) (s : Int) : Prop := ∀ b : Int, b < s ∨ s + 96 < b → h2 b = h b
theorem frS_of3 {h h2 : am_H} {s m : Int} (f : fr3 h h2 m) (q : s ≤ m ∧ m + 2 ≤ s + 96) : frS h h2 s := fun b hb => f b (by omega) (by omega) (by omega)
theorem frS_trans {h h2 h3 : am_H} {s : Int} (a : frS h h2 s) (b : frS h2 h3 s) : frS h h3 s := fun c q => (b c q).trans (a c q)
theorem frS_up {h : am_H} {s i v : Int} : frS h (am_up h s i v) s := by
  intro b q
  funext j
  exact am_up_ne (by omega)
/-- what rk_ is, place by place -/
theorem rk_lo {α : Int → Int} {j : Int} (h2 : 0 ≤ α 2 ∧ α 2 ≤ 30) (hj : (j < 64 ∧ j ≠ 2) ∨ 2134 ≤ j) : rk_ α j = α j := by
  unfold rk_
  by_cases c : α 2 = 30
  · rw [if_pos c]
    simp only [up1_at]
    rw [up1_ne (by omega)]
    unfold cp1
    rw [if_neg (by omega), if_neg (by omega), up1_ne (by omega), if_neg (by omega)]
  · rw [if_neg c, up1_ne (by omega)]
    unfold cp1
    rw [if_neg (by omega), if_neg (by omega)]
theorem rk_2 {α : Int → Int} : rk_ α 2 = if α 2 = 30 then 30 else α 2 + 1 := by
  unfold rk_
  by_cases c : α 2 = 30
  · rw [if_pos c, if_pos c, up1_at, up1_at]
    rfl
  · rw [if_neg c, if_neg c, up1_at]
theorem rk_new {α : Int → Int} {j : Int} (h2 : 0 ≤ α 2 ∧ α 2 ≤ 30) (h0 : 0 ≤ j) (h1 : j < 69) : rk_ α (64 + 69 * (if α 2 = 30 then 29 else α 2) + j) = cur α j := by
  unfold rk_ cur mv
  by_cases c : α 2 = 30
  · rw [if_pos c, if_pos c]
    simp only [up1_at]
    rw [up1_ne (by omega)]
    unfold cp1
    by_cases e : j < 44
    · rw [if_neg (by omega), if_pos (by omega), if_pos e, up1_ne (by omega), if_neg (by omega)]
      congr 1
      omega
    · rw [if_pos (by omega), if_neg e, if_neg (by omega), up1_ne (by omega), if_neg (by omega)]
      congr 1
      omega
  · rw [if_neg c, if_neg c, up1_ne (by omega)]
    unfold cp1
    by_cases e : j < 44
    · rw [if_neg (by omega), if_pos (by omega), if_pos e]
      congr 1
      omega
    · rw [if_pos (by omega), if_neg e, if_neg (by omega)]
      congr 1
      omega
theorem rk_old {α : Int → Int} {k j : Int} (h2 : 0 ≤ α 2 ∧ α 2 ≤ 30) (h0 : 0 ≤ j) (h1 : j < 69) (k0 : 0 ≤ k) (k1 : k < (if α 2 = 30 then 29 else α 2)) : rk_ α (64 + 69 * k + j) = α (64 + 69 * (if α 2 = 30 then k + 1 else k) + j) := by
  unfold rk_
  by_cases c : α 2 = 30
  · rw [if_pos c] at k1
    rw [if_pos c, if_pos c]
    simp only [up1_at]
    rw [up1_ne (by omega)]
    unfold cp1
    rw [if_neg (by omega), if_neg (by omega), up1_ne (by omega), if_pos (by omega)]
    congr 1
    omega
  · rw [if_neg c] at k1
    rw [if_neg c, if_neg c, up1_ne (by omega)]
    unfold cp1
    rw [if_neg (by omega), if_neg (by omega)]
theorem cur_rk {α : Int → Int} (h2 : 0 ≤ α 2 ∧ α 2 ≤ 30) {j : Int} (h0 : 0 ≤ j) : cur (rk_ α) j = cur α j := by
  unfold cur mv
  by_cases e : j < 44
  · rw [if_pos e, if_pos e, rk_lo h2 (by omega)]
  · rw [if_neg e, if_neg e, rk_lo h2 (by omega)]
section STATE
variable {d : Nat} {h : am_H} {Q : Int → am_H → Prop} {s : Int} {α : Int → Int}
theorem c_X4_stepAt {i : Int} (hs : s = 4 ∨ s = 101) (h2 : 0 ≤ h s 2 ∧ h s 2 < 30) (hi : 0 ≤ i ∧ i ≤ 30) (k : Q (s + 4 + 3 + 3 * ((h s 2 + i) % 30)) h) : cf (d + 1) M_X4_stepAt [.inr (.inr s), .inl i] h Q := by
  refine cf_of pX4 (Nat.le_of_ble_eq_true rfl) rfl (fun _ => B_X4_stepAt_0 (kd_now hs).2 ?_)
  rw [w32e (by omega) (by omega)]
  exact c_fmod (by omega) (by omega) (by omega) (by omega) ⟨by omega, by omega, k⟩
theorem c_X4_copyStep {m o : Int} {μ : Int → Int} (t0 : am_kd 321 m = 10) (t1 : am_kd 321 o = 10) (hne : o ≠ m) (hm : mrep h o μ) (h3 : 0 ≤ μ 3 ∧ μ 3 ≤ 25) (k : ∀ h2, fr3 h h2 m → mrep h2 m μ → Q 0 h2) : cf (d + 1) M_X4_copyStep [.inr (.inr m), .inr (.inr o)] h Q := by
  have e0 := (am_kd_sh t0 (by decide)).1
  have e1 := (am_kd_sh t1 (by decide)).1
  exact cf_of pX4 (Nat.le_of_ble_eq_true rfl) rfl (fun _ => B_X4_copyStep_0 ⟨by omega, fun c => by omega, fun _ => ⟨by omega, fun c => by omega, fun _ => ⟨t0, c_X0_copy t0 t1 hne hm h3 k⟩⟩⟩)
theorem c_X4_keepStep (hs : s = 4 ∨ s = 101) (hr : srep h s α) (ha : oka α) (k : ∀ h2, frS h h2 s → srep h2 s (rk_ α) → Q 0 h2) : cf (d + 2) M_X4_keepStep [.inr (.inr s)] h Q := by
  obtain ⟨r1, r2, r3, r4, r5, r6, r7, r8⟩ := hr
  have a2 := ha.2.2.1
  have hc : 0 ≤ cur α 3 ∧ cur α 3 ≤ 25 := ha.2.2.2.2.1.2.2.2.1
  have h0 : 0 ≤ h s 3 ∧ h s 3 ≤ 30 := by rw [r2]; exact a2
  refine cf_of pX4 (Nat.le_of_ble_eq_true rfl) rfl (fun _ => B_X4_keepStep_0 (kd_now hs).2 (c_X4_stepAt hs r3 h0 (c_X4_copyStep (kd_st hs (by omega) (by omega)) (kd_now hs).1 (by omega) r1 hc (fun h4 f hm => ?_))))
  generalize hix : (h s 2 + h s 3) % 30 = ix at f hm
  have hix0 : 0 ≤ ix ∧ ix < 30 := by omega
  have es : h4 s = h s := f s (by omega) (by omega) (by omega)
  have e5 : h4 (s + 5) = h (s + 5) := f _ (by omega) (by omega) (by omega)
  have e6 : h4 (s + 6) = h (s + 6) := f _ (by omega) (by omega) (by omega)
  have hcur : mrep h4 (s + 1) (cur α) := mrep_congr r1 (f _ (by omega) (by omega) (by omega)) (f _ (by omega) (by omega) (by omega)) (f _ (by omega) (by omega) (by omega))
  have hoth : ∀ q : Int, 0 ≤ q → q < 30 → q ≠ ix → ∀ μ, mrep h (s + 4 + 3 + 3 * q) μ → mrep h4 (s + 4 + 3 + 3 * q) μ := fun q q0 q1 qn μ hq => mrep_congr hq (f _ (by omega) (by omega) (by omega)) (f _ (by omega) (by omega) (by omega)) (f _ (by omega) (by omega) (by omega))
  have new : ∀ (g : am_H) (fst cnt : Int), (g = am_up h4 s 2 fst ∨ g = am_up h4 s 3 cnt) → g s 3 = rk_ α 2 → (0 ≤ g s 2 ∧ g s 2 < 30) → (∀ q : Int, 0 ≤ q → q < rk_ α 2 → mrep h4 (s + 4 + 3 + 3 * ((g s 2 + q) % 30)) (stp (rk_ α) q)) → Q 0 g := by
    intro g fst cnt hg g3 g2 gs
    have go : ∀ b : Int, b ≠ s → g b = h4 b := by
      intro b hb
      rcases hg with rfl | rfl <;> (funext j; exact am_up_ne (by omega))
    have gl : ∀ j : Int, j ≠ 2 → j ≠ 3 → g s j = h s j := by
      intro j j2 j3
      rw [← es]
      rcases hg with rfl | rfl <;> exact am_up_ne (by omega)
    refine k g (fun b hb => by rw [go b (by omega)]; exact f b (by omega) (by omega) (by omega)) ⟨?_, g3, g2, fun q q0 q1 => ?_, ?_, ?_, ?_, fun i i0 i1 => ?_⟩
    · refine mrep_eq (mrep_congr hcur (go _ (by omega)) (go _ (by omega)) (go _ (by omega))) hc.1 (fun j j0 _ => cur_rk a2 j0)
    · exact mrep_congr (gs q q0 q1) (go _ (by omega)) (go _ (by omega)) (go _ (by omega))
    · rw [gl 4 (by omega) (by omega), rk_lo a2 (by omega)]; exact r5
    · rw [gl 5 (by omega) (by omega), rk_lo a2 (by omega)]; exact r6
    · rw [gl 8 (by omega) (by omega), rk_lo a2 (by omega)]; exact r7
    · rw [rk_lo a2 (by omega)] at i1
      have a3 := ha.2.2.2.1
      rw [go _ (by omega), go _ (by omega), e5, e6, rk_lo a2 (by omega), rk_lo a2 (by omega)]
      exact r8 i i0 i1
  rw [es]
  refine ⟨fun c => ?_, fun c => ?_⟩
  · have c30 : α 2 = 30 := by omega
    rw [w32e (z := h s 2 + 1) (by omega) (by omega)]
    refine c_fmod (by omega) (by omega) (by omega) (by omega) (new _ _ 0 (Or.inl rfl) ?_ ?_ (fun q q0 q1 => ?_))
    · rw [am_up_ne (by omega), es, rk_2, if_pos c30]; omega
    · rw [am_up_at]; omega
    · rw [rk_2, if_pos c30] at q1
      rw [am_up_at]
      by_cases e : q = 29
      · subst e
        rw [show ((h s 2 + 1) % 30 + 29) % 30 = ix by omega]
        refine mrep_eq hm hc.1 (fun j j0 j1 => ?_)
        have := rk_new (j := j) a2 j0 (by omega)
        rw [if_pos c30] at this
        exact this
      · rw [show ((h s 2 + 1) % 30 + q) % 30 = (h s 2 + (q + 1)) % 30 by omega]
        have old := hoth _ (by omega) (by omega) (by omega) _ (r4 (q + 1) (by omega) (by omega))
        have ok := (ha.2.2.2.2.2 (q + 1) (by omega) (by omega)).2.2.2.1
        refine mrep_eq old ok.1 (fun j j0 j1 => ?_)
        have := rk_old (k := q) (j := j) a2 j0 (by omega) q0 (by rw [if_pos c30]; omega)
        rw [if_pos c30] at this
        exact this
  · have c30 : α 2 ≠ 30 := by omega
    rw [w32e (z := h s 3 + 1) (by omega) (by omega)]
    refine new _ 0 _ (Or.inr rfl) ?_ ?_ (fun q q0 q1 => ?_)
    · rw [am_up_at, rk_2, if_neg c30]; omega
    · rw [am_up_ne (by omega), es]; omega
    · rw [rk_2, if_neg c30] at q1
      rw [am_up_ne (by omega), es]
      by_cases e : q = α 2
      · subst e
        rw [show (h s 2 + α 2) % 30 = ix by omega]
        refine mrep_eq hm hc.1 (fun j j0 j1 => ?_)
        have := rk_new (j := j) a2 j0 (by omega)
        rw [if_neg c30] at this
        exact this
      · have old := hoth _ (by omega) (by omega) (by omega) _ (r4 q q0 (by omega))
        have ok := (ha.2.2.2.2.2 q q0 (by omega)).2.2.2.1
        refine mrep_eq old ok.1 (fun j j0 j1 => ?_)
        have := rk_old (k := q) (j := j) a2 j0 (by omega) q0 (by rw [if_neg c30]; omega)
        rw [if_neg c30] at this
        exact this
end STATE
