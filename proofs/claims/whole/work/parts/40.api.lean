/-! LEVEL 3, calls on THE FILE: the class over what its state is, the reference over its row -/
section API
variable {d : Nat} {h : am_H} {Q : Int → am_H → Prop} {α : Int → Int}
theorem cur_lo {α : Int → Int} {j : Int} (h1 : j < 44) : cur α j = α (4 + j) := by
  unfold cur mv
  rw [if_pos h1]
/-- set -/
def s_set (α : Int → Int) (p v : Int) : Int → Int := rw_ (up1 (rk_ α) (8 + p) v) 0 p v
theorem rk_7 {α : Int → Int} (ha : oka α) : 0 ≤ rk_ α 7 ∧ rk_ α 7 ≤ 25 := by
  rw [rk_lo ha.2.2.1 (by omega)]
  have := ha.2.2.2.2.1.2.2.2.1
  rw [cur_lo (by omega)] at this
  exact this
theorem rk_4 {α : Int → Int} (ha : oka α) : 0 ≤ rk_ α 4 ∧ rk_ α 4 ≤ 9999 := by
  rw [rk_lo ha.2.2.1 (by omega)]
  have := ha.2.2.2.2.1.1
  rw [cur_lo (by omega)] at this
  exact this
theorem cur_up8 {α : Int → Int} {p v j : Int} (hp : 0 ≤ p ∧ p < 40) (h0 : 0 ≤ j) : cur (up1 α (8 + p) v) j = up1 (cur α) (4 + p) v j := by
  unfold cur mv up1
  by_cases e : j < 44
  · rw [if_pos e]
    by_cases q : j = 4 + p
    · rw [if_pos (by omega), if_pos q]
    · rw [if_neg (by omega), if_neg q]
      try dsimp only
      rw [if_pos e]
  · rw [if_neg e, if_neg (by omega), if_neg (by omega)]
    try dsimp only
    rw [if_neg e]
def mws (μ : Int → Int) : Int → Int := fun j => if 44 ≤ j ∧ j < 68 then μ (j + 1) else if j = 3 then 24 else μ j
theorem mw_pos {μ : Int → Int} {what v b : Int} (c : μ 3 = 25) : mw μ what v b = up1 (up1 (mws μ) 68 (((μ 0 * 4 + what) * 41 + v) * 256 + b)) 3 25 := by
  unfold mw
  rw [if_pos c]
  have e3 : mws μ 3 = 24 := by simp [mws]
  have e0 : mws μ 0 = μ 0 := by simp [mws]
  show up1 (up1 (mws μ) (44 + mws μ 3) (((mws μ 0 * 4 + what) * 41 + v) * 256 + b)) 3 (mws μ 3 + 1) = _
  rw [e3, e0]
  rfl
theorem mw_neg {μ : Int → Int} {what v b : Int} (c : ¬ μ 3 = 25) : mw μ what v b = up1 (up1 μ (44 + μ 3) (((μ 0 * 4 + what) * 41 + v) * 256 + b)) 3 (μ 3 + 1) := by
  unfold mw
  rw [if_neg c]
theorem mw_congr {μ ν : Int → Int} {what v b : Int} (e : ∀ j : Int, 0 ≤ j → ν j = μ j) (h3 : 0 ≤ μ 3) {j : Int} (j0 : 0 ≤ j) : mw ν what v b j = mw μ what v b j := by
  have e3 := e 3 (by omega)
  have e0 := e 0 (by omega)
  by_cases c : μ 3 = 25
  · rw [mw_pos c, mw_pos (e3.trans c), e0]
    have es : mws ν j = mws μ j := by
      unfold mws
      rw [e (j + 1) (by omega), e j j0]
    unfold up1
    rw [es]
  · rw [mw_neg c, mw_neg (by rw [e3]; exact c), e0, e3]
    unfold up1
    rw [e j j0]
theorem mw_3 {μ : Int → Int} {what v b : Int} (h3 : 0 ≤ μ 3 ∧ μ 3 ≤ 25) : 0 ≤ mw μ what v b 3 ∧ mw μ what v b 3 ≤ 25 := by
  unfold mw
  by_cases c : μ 3 = 25
  · rw [if_pos c, up1_at]
    simp
  · rw [if_neg c, up1_at]
    omega
theorem c_X6_set {p v : Int} (hr : srep h 4 α) (ha : oka α) (k1 : cset α p v → ∀ h2, frS h h2 4 → srep h2 4 (s_set α p v) → Q 1 h2) (k0 : ¬ cset α p v → Q 0 h) : cf (d + 3) M_X6_set [.inr (.inr 1), .inl p, .inl v] h Q := by
  have hm := hr.1
  have e3 : h 5 3 = α 6 := hm.2.2.1.trans (cur_lo (by omega))
  have okc := ha.2.2.2.2.1
  have e3b : 0 ≤ h 5 3 ∧ h 5 3 ≤ 40 := by
    have := okc.2.2.1
    rw [cur_lo (by omega)] at this
    rw [e3]
    exact this
  have eb : 0 ≤ p → p < 40 → h (5 + 1) p = α (8 + p) := fun a b => by
    have := hm.2.2.2.2.1 p a b
    rw [cur_lo (by omega)] at this
    rw [show (4 : Int) + (4 + p) = 8 + p by omega] at this
    exact this
  refine cf_of pX6 (Nat.le_of_ble_eq_true rfl) rfl (fun _ => B_X6_set_0 (c_X0_canPut k_5 e3b (fun a1 a2 a3 a4 a5 => ⟨fun _ => ?_, fun c => by omega⟩) (fun a => ⟨fun c => absurd rfl c, fun _ => k0 (fun q => a ?_)⟩)))
  · have hp : 0 ≤ p ∧ p < 40 := by omega
    have hc : cset α p v := ⟨a1, by omega, a3, a4, by rw [← eb hp.1 hp.2]; exact a5⟩
    have k := k1 hc
    refine c_X4_keepStep (Or.inl rfl) hr ha (fun h5 f5 r5 => ?_)
    have ok5 := (oka_rk ha).2.2.2.2.1
    refine c_X0_putByte k_5 r5.1 ok5.1 ok5.2.2.2.1 hp ⟨a3, a4⟩ (fun h7 f7 m7 => k h7 (frS_trans f5 (frS_of3 f7 (by omega))) ?_)
    refine srep_now r5 (oka_rk ha) f7 ?_ (fun j hj => ?_)
    · refine mrep_eq m7 ?_ (fun j j0 j1 => ?_)
      · have := mw_3 (μ := up1 (cur (rk_ α)) (4 + p) v) (what := 0) (v := p) (b := v) (by rw [up1_ne (by omega)]; exact ok5.2.2.2.1)
        exact this.1
      · have l3 := mw_3 (μ := up1 (cur (rk_ α)) (4 + p) v) (what := 0) (v := p) (b := v) (by rw [up1_ne (by omega)]; exact ok5.2.2.2.1)
        unfold s_set
        rw [cur_rw (by rw [up1_ne (by omega)]; exact rk_7 ha) j0 (by omega)]
        exact mw_congr (fun i i0 => cur_up8 hp i0) (by rw [up1_ne (by omega)]; exact ok5.2.2.2.1.1) j0
    · unfold s_set
      rw [rw_lo (by rw [up1_ne (by omega)]; exact rk_7 ha) (by omega) (by omega), up1_ne (by omega)]
  · exact ⟨q.1, by rw [e3]; exact q.2.1, q.2.2.1, q.2.2.2.1, by rw [eb q.1 (by have := q.2.1; omega)]; exact q.2.2.2.2⟩
theorem c_X7_set {p v : Int} (hw : ¬ h 294 50 = 0) (ha : oka (h 295)) (k1 : cset (h 295) p v → Q 1 (am_row h 295 (s_set (h 295) p v))) (k0 : ¬ cset (h 295) p v → Q 0 h) : cf (d + 3) M_X7_set [.inr (.inr 294), .inl p, .inl v] h Q := by
  have okc := ha.2.2.2.2.1
  have h6 : 0 ≤ h 295 6 ∧ h 295 6 ≤ 40 := by
    have := okc.2.2.1
    rw [cur_lo (by omega)] at this
    exact this
  refine cf_of pX7 (Nat.le_of_ble_eq_true rfl) rfl (fun _ => B_X7_set_0 (c_X7_canSet h6 (fun hc => ⟨fun _ => c_X7_keep ha.2.2.1 ?_, fun c => by omega⟩) (fun hc => ⟨fun c => absurd rfl c, fun _ => k0 hc⟩)))
  refine c_X7_setNow (by rw [row_ne (by omega)]; exact hw) (by rw [row_at]; exact rk_7 ha) (by rw [row_at]; exact rk_4 ha) ⟨hc.1, by have := hc.2.1; omega⟩ ⟨hc.2.2.1, hc.2.2.2.1⟩ ?_
  rw [row_at, row_row]
  exact k1 hc
/-- size -/
def s_size (α : Int → Int) (n : Int) : Int → Int := rw_ (fl1 (up1 (rk_ α) 6 n) 8 n 40 0) 1 n 0
theorem cur_fl {α : Int → Int} {n j : Int} (hn : 0 ≤ n ∧ n ≤ 40) (h0 : 0 ≤ j) : cur (fl1 (up1 α 6 n) 8 n 40 0) j = mz (cur α) n j := by
  unfold cur mv fl1
  by_cases e : j < 44
  · rw [if_pos e]
    by_cases q : j = 2
    · subst q
      rw [if_neg (by omega), show (4 : Int) + 2 = 6 by omega, up1_at, mz_2]
    · by_cases q2 : 4 + n ≤ j
      · rw [if_pos (by omega), mz_0 q (by omega)]
      · rw [if_neg (by omega), up1_ne (by omega), mz_ne q (by omega)]
        try dsimp only
        rw [if_pos e]
  · rw [if_neg e, if_neg (by omega), up1_ne (by omega), mz_ne (by omega) (by omega)]
    try dsimp only
    rw [if_neg e]
theorem fl_lo {α : Int → Int} {n j : Int} (h : j < 8 ∨ 48 ≤ j) (h6 : j ≠ 6) (hn : 0 ≤ n) : fl1 (up1 α 6 n) 8 n 40 0 j = α j := by
  unfold fl1
  rw [if_neg (by omega), up1_ne h6]
theorem c_X6_size {n : Int} (hr : srep h 4 α) (ha : oka α) (k1 : csize α n → ∀ h2, frS h h2 4 → srep h2 4 (s_size α n) → Q 1 h2) (k0 : ¬ csize α n → Q 0 h) : cf (d + 3) M_X6_size [.inr (.inr 1), .inl n] h Q := by
  have hm := hr.1
  have e3 : h 5 3 = α 6 := hm.2.2.1.trans (cur_lo (by omega))
  refine cf_of pX6 (Nat.le_of_ble_eq_true rfl) rfl (fun _ => B_X6_size_0 (c_X0_canResize k_5 (fun a1 a2 a3 => ⟨fun _ => ?_, fun c => by omega⟩) (fun a => ⟨fun c => absurd rfl c, fun _ => k0 (fun q => a ⟨q.1, q.2.1, by rw [e3]; exact q.2.2⟩)⟩)))
  have hn : 0 ≤ n ∧ n ≤ 40 := ⟨a1, a2⟩
  have k := k1 ⟨a1, a2, by rw [← e3]; exact a3⟩
  refine c_X4_keepStep (Or.inl rfl) hr ha (fun h5 f5 r5 => ?_)
  have ok5 := (oka_rk ha).2.2.2.2.1
  refine c_X0_resize k_5 r5.1 ok5.1 ok5.2.2.2.1 hn (fun h7 f7 m7 => k h7 (frS_trans f5 (frS_of3 f7 (by omega))) ?_)
  have l3 := mw_3 (μ := mz (cur (rk_ α)) n) (what := 1) (v := n) (b := 0) (by rw [mz_ne (by omega) (by omega)]; exact ok5.2.2.2.1)
  have g7 : 0 ≤ fl1 (up1 (rk_ α) 6 n) 8 n 40 0 7 ∧ fl1 (up1 (rk_ α) 6 n) 8 n 40 0 7 ≤ 25 := by
    rw [fl_lo (by omega) (by omega) a1]
    exact rk_7 ha
  refine srep_now r5 (oka_rk ha) f7 (mrep_eq m7 l3.1 (fun j j0 j1 => ?_)) (fun j hj => ?_)
  · unfold s_size
    rw [cur_rw g7 j0 (by omega)]
    exact mw_congr (fun i i0 => cur_fl hn i0) (by rw [mz_ne (by omega) (by omega)]; exact ok5.2.2.2.1.1) j0
  · unfold s_size
    rw [rw_lo g7 (by omega) (by omega), fl_lo (by omega) (by omega) a1]
theorem c_X7_size {n : Int} (hw : ¬ h 294 50 = 0) (ha : oka (h 295)) (k1 : csize (h 295) n → Q 1 (am_row h 295 (s_size (h 295) n))) (k0 : ¬ csize (h 295) n → Q 0 h) : cf (d + 3) M_X7_size [.inr (.inr 294), .inl n] h Q := by
  refine cf_of pX7 (Nat.le_of_ble_eq_true rfl) rfl (fun _ => B_X7_size_0 (c_X7_canSize (fun hc => ⟨fun _ => c_X7_keep ha.2.2.1 ?_, fun c => by omega⟩) (fun hc => ⟨fun c => absurd rfl c, fun _ => k0 hc⟩)))
  refine c_X7_sizeNow (by rw [row_ne (by omega)]; exact hw) (by rw [row_at]; exact rk_7 ha) (by rw [row_at]; exact rk_4 ha) ⟨hc.1, hc.2.1⟩ ?_
  rw [row_at, row_row]
  exact k1 hc
theorem c_X6_undo (hr : srep h 4 α) (ha : oka α) (k0 : α 2 = 0 → Q (-1) h) (k1 : 0 < α 2 → ∀ h2, frS h h2 4 → srep h2 4 (ru_ α) → Q (α 2 - 1) h2) : cf (d + 3) M_X6_undo [.inr (.inr 1)] h Q :=
  cf_of pX6 (Nat.le_of_ble_eq_true rfl) rfl (fun _ => B_X6_undo_0 (c_X4_takeBack (Or.inl rfl) hr ha k0 k1))
end API
