section OKA
variable {α : Int → Int}
theorem oka_now {β : Int → Int} (ha : oka α) (hc : okm (cur β)) (e : ∀ j : Int, (0 ≤ j ∧ j < 4) ∨ (48 ≤ j ∧ j < 2134) → β j = α j) : oka β := by
  obtain ⟨a0, a1, a2, a3, a4, a5⟩ := ha
  have e0 := e 0 (by omega)
  have e1 := e 1 (by omega)
  have e2 := e 2 (by omega)
  have e3 := e 3 (by omega)
  exact ⟨by omega, by omega, by omega, by omega, hc, fun k k0 k1 => okm_eq (a5 k k0 (by omega)) (fun j j0 j1 => e _ (by omega))⟩
theorem mw_lo {μ : Int → Int} {what v b j : Int} (h3 : 0 ≤ μ 3 ∧ μ 3 ≤ 25) (j1 : j < 44) (n3 : j ≠ 3) : mw μ what v b j = μ j := by
  by_cases c : μ 3 = 25
  · rw [mw_pos c, up1_ne (by omega), up1_ne (by omega)]
    unfold mws
    rw [if_neg (by omega), if_neg n3]
  · rw [mw_neg c, up1_ne n3, up1_ne (by omega)]
theorem okm_mw {μ : Int → Int} {what v b : Int} (hm : okm μ) : okm (mw μ what v b) := by
  obtain ⟨m0, m1, m2, m3, m4, m5⟩ := hm
  have q0 : mw μ what v b 0 = μ 0 := mw_lo m3 (by omega) (by omega)
  have q1 : mw μ what v b 1 = μ 1 := mw_lo m3 (by omega) (by omega)
  have q2 : mw μ what v b 2 = μ 2 := mw_lo m3 (by omega) (by omega)
  refine ⟨by omega, by omega, by omega, mw_3 m3, fun i i0 i1 => ?_, fun i i0 i1 => ?_⟩
  · rw [mw_lo m3 (by omega) (by omega)]; exact m4 i i0 i1
  · rw [mw_lo m3 (by omega) (by omega)]; exact m5 i (by omega) i1
theorem okm_byte {μ : Int → Int} {p v : Int} (hm : okm μ) (hp : 0 ≤ p ∧ p < μ 2) (hv : 0 ≤ v ∧ v ≤ 255) : okm (up1 μ (4 + p) v) := by
  obtain ⟨m0, m1, m2, m3, m4, m5⟩ := hm
  refine ⟨?_, ?_, ?_, ?_, fun i i0 i1 => ?_, fun i i0 i1 => ?_⟩
  · rw [up1_ne (by omega)]; exact m0
  · rw [up1_ne (by omega)]; exact m1
  · rw [up1_ne (by omega)]; exact m2
  · rw [up1_ne (by omega)]; exact m3
  · by_cases c : i = p
    · subst c; rw [up1_at]; exact hv
    · rw [up1_ne (by omega)]; exact m4 i i0 i1
  · rw [up1_ne (by omega)] at i0
    rw [up1_ne (by omega)]; exact m5 i i0 i1
theorem okm_mz {μ : Int → Int} {n : Int} (hm : okm μ) (hn : 0 ≤ n ∧ n ≤ 40) : okm (mz μ n) := by
  obtain ⟨m0, m1, m2, m3, m4, m5⟩ := hm
  have q : ∀ j : Int, j < 4 + n → j ≠ 2 → mz μ n j = μ j := fun j h1 h2 => by unfold mz; rw [if_neg h2, if_neg (by omega)]
  have q2 : mz μ n 2 = n := by unfold mz; rw [if_pos rfl]
  have qz : ∀ i : Int, n ≤ i → 0 ≤ i → i < 40 → mz μ n (4 + i) = 0 := fun i h1 h2 h3 => by unfold mz; rw [if_neg (by omega), if_pos (by omega)]
  refine ⟨?_, ?_, ?_, ?_, fun i i0 i1 => ?_, fun i i0 i1 => ?_⟩
  · rw [q 0 (by omega) (by omega)]; exact m0
  · rw [q 1 (by omega) (by omega)]; exact m1
  · rw [q2]; exact hn
  · rw [q 3 (by omega) (by omega)]; exact m3
  · by_cases c : i < n
    · rw [q _ (by omega) (by omega)]; exact m4 i i0 i1
    · rw [qz i (by omega) i0 i1]; omega
  · rw [q2] at i0
    exact qz i i0 (by omega) i1
theorem cur_2 : cur α 2 = α 6 := cur_lo (by omega)
theorem oka_set {p v : Int} (ha : oka α) (c : cset α p v) : oka (s_set α p v) := by
  have a2 := ha.2.2.1
  obtain ⟨c0, c1, c2, c3, _⟩ := c
  have o6 := ok6 ha
  have h7 : 0 ≤ up1 (rk_ α) (8 + p) v 7 ∧ up1 (rk_ α) (8 + p) v 7 ≤ 25 := by
    rw [up1_ne (by omega)]; exact rk_7 ha
  unfold s_set
  refine oka_now (oka_rk ha) ?_ (fun j hj => ?_)
  · refine okm_eq (okm_mw (what := 0) (v := p) (b := v) (μ := up1 (cur α) (4 + p) v) ?_) (fun j j0 j1 => ?_)
    · exact okm_byte ha.2.2.2.2.1 (by rw [cur_2]; exact ⟨c0, c1⟩) ⟨c2, c3⟩
    · rw [cur_rw h7 j0 (by omega)]
      refine mw_congr (fun i i0 => ?_) ?_ j0
      · rw [cur_up8 (by omega) i0]
        unfold up1
        by_cases e : i = 4 + p
        · rw [if_pos e, if_pos e]
        · rw [if_neg e, if_neg e]; exact cur_rk a2 i0
      · rw [up1_ne (by omega)]; exact ha.2.2.2.2.1.2.2.2.1.1
  · rw [rw_lo h7 (by omega) (by omega), up1_ne (by omega)]
theorem oka_size {n : Int} (ha : oka α) (c : csize α n) : oka (s_size α n) := by
  have a2 := ha.2.2.1
  obtain ⟨c0, c1, _⟩ := c
  have h7 : 0 ≤ fl1 (up1 (rk_ α) 6 n) 8 n 40 0 7 ∧ fl1 (up1 (rk_ α) 6 n) 8 n 40 0 7 ≤ 25 := by
    rw [fl_lo (by omega) (by omega) c0]; exact rk_7 ha
  unfold s_size
  refine oka_now (oka_rk ha) ?_ (fun j hj => ?_)
  · refine okm_eq (okm_mw (what := 1) (v := n) (b := 0) (μ := mz (cur α) n) ?_) (fun j j0 j1 => ?_)
    · exact okm_mz ha.2.2.2.2.1 ⟨c0, c1⟩
    · rw [cur_rw h7 j0 (by omega)]
      refine mw_congr (fun i i0 => ?_) ?_ j0
      · rw [cur_fl ⟨c0, c1⟩ i0]
        unfold mz
        by_cases e : i = 2
        · rw [if_pos e, if_pos e]
        · rw [if_neg e, if_neg e]
          by_cases e2 : 4 + n ≤ i ∧ i < 44
          · rw [if_pos e2, if_pos e2]
          · rw [if_neg e2, if_neg e2]; exact cur_rk a2 i0
      · unfold mz
        rw [if_neg (by omega), if_neg (by omega)]
        exact ha.2.2.2.2.1.2.2.2.1.1
  · rw [rw_lo h7 (by omega) (by omega), fl_lo (by omega) (by omega) c0]
theorem row_lines {h : am_H} (hr : srep h 4 α) (ha : oka α) : ∀ j : Int, 0 ≤ j → j < α 7 → 0 ≤ α (2134 + j) ∧ α (2134 + j) ≤ 500000000 :=
  fun _ j0 j1 => lr_bd (s_line hr j0 j1)
end OKA
