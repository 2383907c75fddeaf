section PLAYED3
variable {d D : Nat} {h : am_H} {Q : Int → am_H → Prop} {tx : Nat → List Cl} {t : List Cl} {α : Int → Int}
theorem s_set_lo {p v j : Int} (ha : oka α) (hp : 0 ≤ p ∧ p < 40) (hj : j = 0 ∨ j = 1 ∨ j = 3 ∨ (48 ≤ j ∧ j < 64)) : s_set α p v j = α j := by
  unfold s_set
  rw [rw_lo (by rw [up1_ne (by omega)]; exact rk_7 ha) (by omega) (by omega), up1_ne (by omega)]
  exact rk_lo ha.2.2.1 (by omega)
theorem s_size_lo {n j : Int} (ha : oka α) (hn : 0 ≤ n ∧ n ≤ 40) (hj : j = 0 ∨ j = 1 ∨ j = 3 ∨ (48 ≤ j ∧ j < 64)) : s_size α n j = α j := by
  unfold s_size
  rw [rw_lo (by rw [fl_lo (by omega) (by omega) hn.1]; exact rk_7 ha) (by omega) (by omega), fl_lo (by omega) (by omega) hn.1]
  exact rk_lo ha.2.2.1 (by omega)
theorem mdK_ok (ha : oka α) : oka (mdK tx α) ∧ ∀ j : Int, j = 0 ∨ j = 1 ∨ j = 3 ∨ (48 ≤ j ∧ j < 64) → mdK tx α j = α j := by
  have ork := (rk_m ha).1
  unfold mdK
  cases e : mndO tx α with
  | none => exact ⟨ha, fun _ _ => rfl⟩
  | some γ =>
    have lo : ∀ j : Int, (0 ≤ j ∧ j < 4) ∨ (48 ≤ j ∧ j < 2134) → mdS (rk_ α) γ (unl γ (bR α) 0 40) j = rk_ α j := fun j hj => mdS_lo ork (by omega)
    exact ⟨oka_now (oka_rk ha) (okm_mdS ork (mndO_ok ork (by rw [mndO_rk ha]; exact e))) lo, fun j hj => (lo j (by omega)).trans (rk_lo ha.2.2.1 (by omega))⟩
theorem actS_ok {c : Cl} (ha : oka α) : oka (actS tx α c) ∧ ∀ j : Int, j = 0 ∨ j = 1 ∨ j = 3 ∨ (48 ≤ j ∧ j < 64) → actS tx α c j = α j := by
  have o6 := ok6 ha
  by_cases a5 : c.1 = 5
  · have eB : actB tx α c = decide (0 ≤ c.2.1 ∧ c.2.1 < α 6 ∧ 0 ≤ c.2.2.1 ∧ c.2.2.1 ≤ 255 ∧ ¬ α (8 + c.2.1) = c.2.2.1) := by unfold actB; rw [if_pos a5]
    unfold actS
    rw [if_pos a5]
    split
    · rename_i b
      rw [eB] at b
      have q := of_decide_eq_true b
      exact ⟨oka_set ha q, fun j hj => s_set_lo ha ⟨q.1, by omega⟩ hj⟩
    · exact ⟨ha, fun _ _ => rfl⟩
  · by_cases a6 : c.1 = 6
    · have eB : actB tx α c = decide (0 ≤ c.2.1 ∧ c.2.1 ≤ 40 ∧ ¬ c.2.1 = α 6) := by unfold actB; rw [if_neg a5, if_pos a6]
      unfold actS
      rw [if_neg a5, if_pos a6]
      split
      · rename_i b
        rw [eB] at b
        have q := of_decide_eq_true b
        exact ⟨oka_size ha q, fun j hj => s_size_lo ha ⟨q.1, q.2.1⟩ hj⟩
      · exact ⟨ha, fun _ _ => rfl⟩
    · unfold actS
      rw [if_neg a5, if_neg a6]
      by_cases a7 : c.1 = 7
      · rw [if_pos a7]; exact mdK_ok ha
      · rw [if_neg a7]
        split
        · have o4 := (okm_iff.mp ha.2.2.2.2.1).1
          have z := dayN_ok (tx := tx) (mday α c.2.1) α ha (by unfold mday; omega)
          refine ⟨z.1, fun j hj => ?_⟩
          rcases hj with rfl | rfl | rfl | hj
          · exact z.2.2.1
          · exact z.2.2.2.1
          · exact z.2.2.2.2.1
          · exact z.2.2.2.2.2 j hj.1 hj.2
        · exact ⟨ha, fun _ _ => rfl⟩
theorem l_X7_played {u : Int} (I0 : INV7 h tx) (r : rtx h u t) (ok : okx t) (k : ∀ g, fN7 h g → g 295 = plyS tx t (h 295) → Q (plyI tx t 0 (h 295)) g) : ∀ (n i : Nat) (β : Int → Int) (g : am_H), i + n = t.length → fN7 h g → g 295 = β → oka β → β 0 = h 295 0 → plyS tx t (h 295) = plyS tx (t.drop i) β → plyI tx t 0 (h 295) = plyI tx (t.drop i) i β → wf (D + 11) M_X7_played Q 13 [some (.inr (.inr 294)), some (.inl u), some (.inl (i : Int))] [] g
  | 0, i, β, g, hn, fg, eg, hb, b0, e1, e2 => by
    have rg : rtx g u t := rtx_congr r (fg.1 297 (by omega))
    rw [List.drop_eq_nil_of_le (by omega)] at e1 e2
    have kk := k g fg (by rw [e1]; exact eg)
    rw [e2] at kk
    exact B_X7_played_13 (c_X7_clauses rg ⟨fun _ => kk, fun q => by omega⟩)
  | n + 1, i, β, g, hn, fg, eg, hb, b0, e1, e2 => by
    have u0 := r.1
    have l24 := ok.1
    have hi : i < t.length := by omega
    have rg : rtx g u t := rtx_congr r (fg.1 297 (by omega))
    have ci : t.drop i = cl t i :: t.drop (i + 1) := by
      rw [List.drop_eq_getElem_cons hi]
      unfold cl
      rw [show ((i : Int)).toNat = i by omega, List.getD_eq_getElem?_getD, List.getElem?_eq_getElem hi]
      rfl
    rw [ci] at e1 e2
    simp only [plyS, plyI] at e1 e2
    have Ig : INV7 g tx := ⟨by rw [eg]; exact hb, by rw [fg.2 50 (by omega)]; exact I0.2.1, fun x hx => by
      rw [eg, b0] at hx
      exact ⟨rtx_congr (I0.2.2 x hx).1 (fg.1 297 (by omega)), (I0.2.2 x hx).2⟩⟩
    refine B_X7_played_13 (c_X7_clauses rg ⟨fun q => by omega, fun _ => c_X7_clauseAt u0 (by omega) (c_X7_isPlayed (D := D) (α := β) (k0 := i) Ig eg rg ok (by omega) (fun g2 f2 eg2 => ?_))⟩)
    have so := actS_ok (tx := tx) (c := cl t i) hb
    have f3 := fN7_trans fg f2
    cases z : actB tx β (cl t i) with
    | true =>
      rw [z, if_pos rfl] at e1 e2
      refine ⟨fun _ => ?_, fun q => absurd q (by decide)⟩
      rw [w32e (by omega) (by omega), show (i : Int) + 1 = ((i + 1 : Nat) : Int) by omega]
      exact l_X7_played I0 r ok k n (i + 1) _ g2 (by omega) f3 eg2 so.1 (by rw [so.2 0 (by omega)]; exact b0) e1 (by rw [e2]; rfl)
    | false =>
      rw [z, if_neg (by decide)] at e1 e2
      have kk := k g2 f3 (by rw [e1]; exact eg2)
      rw [e2] at kk
      exact ⟨fun q => absurd rfl q, fun _ => kk⟩
theorem c_X7_played {u : Int} (I : INV7 h tx) (k1 : isT (h 295) u → ∀ g, fN7 h g → g 295 = plyS tx (tx u.toNat) (h 295) → Q (plyI tx (tx u.toNat) 0 (h 295)) g) (k0 : ¬ isT (h 295) u → Q (-2) h) : cf (D + 11) M_X7_played [.inr (.inr 294), .inl u] h Q := by
  refine cf_of pX7 (Nat.le_of_ble_eq_true rfl) rfl (fun _ => B_X7_played_0 (c_X7_isText (d := D + 9) I.1.1 (fun a b => ⟨fun _ => ?_, fun q => by omega⟩) (fun a => ⟨fun q => absurd rfl q, fun _ => k0 (fun y => by have := y.1; have := y.2; omega)⟩)))
  have z := I.2.2 u.toNat (by omega)
  rw [show ((u.toNat : Nat) : Int) = u by omega] at z
  exact l_X7_played (D := D) I z.1 z.2 (k1 ⟨a, b⟩) (tx u.toNat).length 0 (h 295) h (by omega) fN7_refl rfl I.1 rfl rfl rfl
end PLAYED3
