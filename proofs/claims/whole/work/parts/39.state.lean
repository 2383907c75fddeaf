theorem okm_eq {μ ν : Int → Int} (k : okm μ) (e : ∀ j : Int, 0 ≤ j → j < 44 → ν j = μ j) : okm ν := by
  obtain ⟨k0, k1, k2, k3, k4, k5⟩ := k
  have e2 := e 2 (by omega) (by omega)
  refine ⟨by rw [e 0 (by omega) (by omega)]; exact k0, by rw [e 1 (by omega) (by omega)]; exact k1, by rw [e2]; exact k2, by rw [e 3 (by omega) (by omega)]; exact k3, fun i a b => by rw [e (4 + i) (by omega) (by omega)]; exact k4 i a b, fun i a b => ?_⟩
  rw [e2] at a
  rw [e (4 + i) (by omega) (by omega)]
  exact k5 i a b
theorem oka_rk {α : Int → Int} (ha : oka α) : oka (rk_ α) := by
  obtain ⟨a0, a1, a2, a3, a4, a5⟩ := ha
  refine ⟨by rw [rk_lo a2 (by omega)]; exact a0, by rw [rk_lo a2 (by omega), rk_lo a2 (by omega)]; exact a1, by rw [rk_2]; split <;> omega, by rw [rk_lo a2 (by omega)]; exact a3, okm_eq a4 (fun j j0 _ => cur_rk a2 j0), fun k k0 k1 => ?_⟩
  rw [rk_2] at k1
  by_cases c : α 2 = 30
  · rw [if_pos c] at k1
    by_cases e : k = 29
    · refine okm_eq a4 (fun j j0 j1 => ?_)
      have := rk_new (j := j) a2 j0 (by omega)
      rw [if_pos c] at this
      rw [e]
      exact this
    · refine okm_eq (a5 (k + 1) (by omega) (by omega)) (fun j j0 j1 => ?_)
      have := rk_old (k := k) (j := j) a2 j0 (by omega) k0 (by rw [if_pos c]; omega)
      rw [if_pos c] at this
      exact this
  · rw [if_neg c] at k1
    by_cases e : k = α 2
    · refine okm_eq a4 (fun j j0 j1 => ?_)
      have := rk_new (j := j) a2 j0 (by omega)
      rw [if_neg c] at this
      rw [e]
      exact this
    · refine okm_eq (a5 k k0 (by omega)) (fun j j0 j1 => ?_)
      have := rk_old (k := k) (j := j) a2 j0 (by omega) k0 (by rw [if_neg c]; omega)
      rw [if_neg c] at this
      exact this
/-- what ru_ is, place by place -/
theorem ru_lo {α : Int → Int} {j : Int} (h2 : 1 ≤ α 2 ∧ α 2 ≤ 30) (hj : (j < 4 ∧ j ≠ 2) ∨ (48 ≤ j ∧ j < 2134)) : ru_ α j = α j := by
  unfold ru_ cp1
  rw [if_neg (by omega), if_neg (by omega), up1_ne (by omega)]
theorem ru_2 {α : Int → Int} (h2 : 1 ≤ α 2 ∧ α 2 ≤ 30) : ru_ α 2 = α 2 - 1 := by
  unfold ru_ cp1
  rw [if_neg (by omega), if_neg (by omega), up1_at]
theorem cur_ru {α : Int → Int} (h2 : 1 ≤ α 2 ∧ α 2 ≤ 30) {j : Int} (h0 : 0 ≤ j) (h1 : j < 69) : cur (ru_ α) j = stp α (α 2 - 1) j := by
  unfold cur mv stp ru_ cp1
  by_cases e : j < 44
  · rw [if_pos e, if_neg (by omega), if_pos (by omega), up1_ne (by omega)]
    congr 1
    omega
  · rw [if_neg e, if_pos (by omega), if_neg (by omega), up1_ne (by omega)]
    congr 1
    omega
theorem stp_ru {α : Int → Int} (h2 : 1 ≤ α 2 ∧ α 2 ≤ 30) {k j : Int} (k0 : 0 ≤ k) (k1 : k < 30) (h0 : 0 ≤ j) (h1 : j < 69) : stp (ru_ α) k j = stp α k j := by
  unfold stp
  exact ru_lo h2 (by omega)
theorem oka_ru {α : Int → Int} (ha : oka α) (h1 : 0 < α 2) : oka (ru_ α) := by
  obtain ⟨a0, a1, a2, a3, a4, a5⟩ := ha
  have b2 : 1 ≤ α 2 ∧ α 2 ≤ 30 := by omega
  refine ⟨by rw [ru_lo b2 (by omega)]; exact a0, by rw [ru_lo b2 (by omega), ru_lo b2 (by omega)]; exact a1, by rw [ru_2 b2]; omega, by rw [ru_lo b2 (by omega)]; exact a3, okm_eq (a5 (α 2 - 1) (by omega) (by omega)) (fun j j0 j1 => cur_ru b2 j0 (by omega)), fun k k0 k1 => ?_⟩
  rw [ru_2 b2] at k1
  exact okm_eq (a5 k k0 (by omega)) (fun j j0 j1 => stp_ru b2 k0 (by omega) j0 (by omega))
/-- what rw_ is, place by place -/
theorem rw_lo {α : Int → Int} {what v b j : Int} (h7 : 0 ≤ α 7 ∧ α 7 ≤ 25) (hj : j < 2134) (h : j ≠ 7) : rw_ α what v b j = α j := by
  unfold rw_
  by_cases c : α 7 = 25
  · rw [if_pos c]
    simp only [up1_at]
    rw [up1_ne h, up1_ne (by omega), up1_ne h]
    unfold cp1
    rw [if_neg (by omega)]
  · rw [if_neg c, up1_ne h, up1_ne (by omega)]
theorem cur_rw {α : Int → Int} {what v b j : Int} (h7 : 0 ≤ α 7 ∧ α 7 ≤ 25) (j0 : 0 ≤ j) (j1 : j < 69) : cur (rw_ α what v b) j = mw (cur α) what v b j := by
  have e3 : cur α 3 = α 7 := by simp [cur, mv]
  have e0 : cur α 0 = α 4 := by simp [cur, mv]
  unfold mw
  rw [e3]
  by_cases c : α 7 = 25
  · rw [if_pos c]
    try dsimp only
    rw [if_neg (by omega), if_pos rfl, if_neg (by omega), if_neg (by omega), e0]
    unfold cur mv rw_
    rw [if_pos c]
    simp only [up1_at]
    have e4 : up1 (cp1 α 2134 2133 1 25) 7 24 4 = α 4 := by
      rw [up1_ne (by omega)]
      unfold cp1
      rw [if_neg (by omega)]
    rw [e4]
    by_cases e : j < 44
    · rw [if_pos e]
      by_cases q : j = 3
      · subst q
        rw [show (4 : Int) + 3 = 7 by omega, up1_at, up1_at]
      · rw [up1_ne (by omega), up1_ne (by omega), up1_ne (by omega), up1_ne q, up1_ne (by omega)]
        try dsimp only
        unfold cp1
        rw [if_neg (by omega), if_neg (by omega), if_neg (by omega), if_pos e]
    · rw [if_neg e, up1_ne (by omega), up1_ne (k := j) (by omega)]
      by_cases q : j = 68
      · subst q
        rw [show (2134 : Int) + (68 - 44) = 2134 + 24 by omega, up1_at, show (44 : Int) + 24 = 68 by omega, up1_at]
      · rw [up1_ne (by omega), up1_ne (by omega), up1_ne (by omega)]
        try dsimp only
        unfold cp1
        rw [if_pos (by omega), if_pos (by omega), if_neg (by omega)]
        congr 1
        omega
  · rw [if_neg c, e3, e0]
    unfold cur mv rw_
    rw [if_neg c]
    by_cases e : j < 44
    · rw [if_pos e]
      by_cases q : j = 3
      · subst q
        rw [show (4 : Int) + 3 = 7 by omega, up1_at, up1_at]
      · rw [up1_ne (by omega), up1_ne (by omega), up1_ne q, up1_ne (by omega)]
        try dsimp only
        rw [if_pos e]
    · rw [if_neg e, up1_ne (by omega), up1_ne (k := j) (by omega)]
      by_cases q : j = 44 + α 7
      · subst q
        rw [show 2134 + (44 + α 7 - 44) = 2134 + α 7 by omega, up1_at, up1_at]
      · rw [up1_ne (by omega), up1_ne q]
        try dsimp only
        rw [if_neg e]
section STATE2
variable {d : Nat} {h : am_H} {Q : Int → am_H → Prop} {s : Int} {α : Int → Int}
/-- the moment that is now is another one -/
theorem srep_now {h2 : am_H} {α2 : Int → Int} (hr : srep h s α) (ha : oka α) (f : fr3 h h2 (s + 1)) (hm : mrep h2 (s + 1) (cur α2)) (e : ∀ j : Int, (0 ≤ j ∧ j < 4) ∨ (48 ≤ j ∧ j < 2134) → α2 j = α j) : srep h2 s α2 := by
  obtain ⟨r1, r2, r3, r4, r5, r6, r7, r8⟩ := hr
  have a2 := ha.2.2.1
  have es : h2 s = h s := f s (by omega) (by omega) (by omega)
  refine ⟨hm, by rw [es, e 2 (by omega)]; exact r2, by rw [es]; exact r3, fun k k0 k1 => ?_, by rw [es, e 0 (by omega)]; exact r5, by rw [es, e 1 (by omega)]; exact r6, by rw [es, e 3 (by omega)]; exact r7, fun i i0 i1 => ?_⟩
  · rw [e 2 (by omega)] at k1
    rw [es]
    have ok := (ha.2.2.2.2.2 k k0 k1).2.2.2.1
    exact mrep_eq (mrep_congr (r4 k k0 k1) (f _ (by omega) (by omega) (by omega)) (f _ (by omega) (by omega) (by omega)) (f _ (by omega) (by omega) (by omega))) ok.1 (fun j j0 j1 => by
      unfold stp
      exact e _ (by unfold stp at ok j1; omega))
  · rw [e 3 (by omega)] at i1
    have a3 := ha.2.2.2.1
    rw [f _ (by omega) (by omega) (by omega), f _ (by omega) (by omega) (by omega), e _ (by omega), e _ (by omega)]
    exact r8 i i0 i1
theorem c_X4_takeBack (hs : s = 4 ∨ s = 101) (hr : srep h s α) (ha : oka α) (k0 : α 2 = 0 → Q (-1) h) (k1 : 0 < α 2 → ∀ h2, frS h h2 s → srep h2 s (ru_ α) → Q (α 2 - 1) h2) : cf (d + 2) M_X4_takeBack [.inr (.inr s)] h Q := by
  obtain ⟨r1, r2, r3, r4, r5, r6, r7, r8⟩ := id hr
  have a2 := ha.2.2.1
  refine cf_of pX4 (Nat.le_of_ble_eq_true rfl) rfl (fun _ => B_X4_takeBack_0 (kd_now hs).2 ⟨fun c => ?_, fun c => k0 (by omega)⟩)
  have b2 : 1 ≤ α 2 ∧ α 2 ≤ 30 := by omega
  have k := k1 (by omega)
  rw [w32e (z := h s 3 - 1) (by omega) (by omega)]
  generalize hg : am_up h s 3 (h s 3 - 1) = g
  have go : ∀ b : Int, b ≠ s → g b = h b := by
    intro b hb
    subst hg
    funext j
    exact am_up_ne (by omega)
  have gl : ∀ j : Int, j ≠ 3 → g s j = h s j := by
    intro j hj
    subst hg
    exact am_up_ne (by omega)
  have g3 : g s 3 = α 2 - 1 := by
    subst hg
    rw [am_up_at, r2]
  have step := r4 (α 2 - 1) (by omega) (by omega)
  have ok := (ha.2.2.2.2.2 (α 2 - 1) (by omega) (by omega)).2.2.2.1
  refine c_X4_stepAt hs (by rw [gl 2 (by omega)]; exact r3) (by omega) ?_
  rw [gl 2 (by omega), r2]
  refine c_X4_copyStep (kd_now hs).1 (kd_st hs (by omega) (by omega)) (by omega) (mrep_congr step (go _ (by omega)) (go _ (by omega)) (go _ (by omega))) ok (fun h5 f hm => ?_)
  have es : h5 s = g s := f s (by omega) (by omega) (by omega)
  have e5 : ∀ b : Int, b ≠ s → b ≠ s + 1 → b ≠ s + 2 → b ≠ s + 3 → h5 b = h b := fun b z0 z1 z2 z3 => (f b (by omega) (by omega) (by omega)).trans (go b z0)
  rw [es, g3]
  refine k h5 (fun b hb => e5 b (by omega) (by omega) (by omega) (by omega)) ⟨mrep_eq hm ok.1 (fun j j0 j1 => cur_ru b2 j0 (by omega)), by rw [es, g3, ru_2 b2], by rw [es, gl 2 (by omega)]; exact r3, fun q q0 q1 => ?_, by rw [es, gl 4 (by omega), ru_lo b2 (by omega)]; exact r5, by rw [es, gl 5 (by omega), ru_lo b2 (by omega)]; exact r6, by rw [es, gl 8 (by omega), ru_lo b2 (by omega)]; exact r7, fun i i0 i1 => ?_⟩
  · rw [ru_2 b2] at q1
    rw [es, gl 2 (by omega)]
    have ok2 := (ha.2.2.2.2.2 q q0 (by omega)).2.2.2.1
    exact mrep_eq (mrep_congr (r4 q q0 (by omega)) (e5 _ (by omega) (by omega) (by omega) (by omega)) (e5 _ (by omega) (by omega) (by omega) (by omega)) (e5 _ (by omega) (by omega) (by omega) (by omega))) ok2.1 (fun j j0 j1 => stp_ru b2 q0 (by omega) j0 (by omega))
  · rw [ru_lo b2 (by omega)] at i1
    have a3 := ha.2.2.2.1
    rw [e5 _ (by omega) (by omega) (by omega) (by omega), e5 _ (by omega) (by omega) (by omega) (by omega), ru_lo b2 (by omega), ru_lo b2 (by omega)]
    exact r8 i i0 i1
end STATE2
