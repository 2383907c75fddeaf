section FORE
variable {d D : Nat} {h : am_H} {Q : Int → am_H → Prop} {tx : Nat → List Cl} {t : List Cl} {α : Int → Int} {m : Int} {w : Bool}
theorem ev_c {l : Bool} {η β β2 : Int → Int} {b : Int} (hS : ∀ j : Int, b ≤ j → j < b + η 8 → β j = β2 j) : ∀ e s, ws l e s → ev η β b e = ev η β2 b e := by
  refine ex_ind (fun v h0 h1 => rfl) (fun k q => rfl) (fun t a ht _ ih => ?_) (fun a _ ih => ?_) (fun t a c _ _ _ _ i1 i2 => ?_) (fun t a c h0 h1 _ _ i1 i2 => ?_) (fun t a c ht _ _ i1 i2 => ?_) (fun c a e _ _ _ i1 i2 i3 => ?_)
  · simp only [ev]
    rw [ih]
    unfold un1 pk
    rcases ht with rfl | rfl
    · rfl
    · by_cases q : 0 ≤ ev η β2 b a ∧ ev η β2 b a < η 8
      · rw [if_pos q, if_pos q, hS _ (by omega) (by omega)]
      · rw [if_neg q, if_neg q]
  · simp only [ev]
    rw [ih]
    rfl
  · simp only [ev]; rw [i1, i2]
  · simp only [ev]; rw [i1, i2]
  · simp only [ev]; rw [i1, i2]
  · simp only [ev]; rw [i1, i2, i3]
/-- two rows alike but for the book -/
def agL (α β : Int → Int) : Prop := ∀ j : Int, 0 ≤ j → j < 48 → j ≠ 7 → α j = β j
theorem agL_up {β : Int → Int} {c v : Int} (a : agL α β) : agL (up1 α c v) (up1 β c v) := fun j j0 j1 j7 => by
  unfold up1
  rw [a j j0 j1 j7]
theorem agL_xs {β : Int → Int} (a : agL α β) : agL (xs α) (xs β) := by
  unfold xs
  rw [a 5 (by omega) (by omega) (by omega)]
  exact agL_up a
theorem agL_day {β : Int → Int} (a : agL α β) : agL (dayA α) (dayA β) := by
  unfold dayA
  rw [a 4 (by omega) (by omega) (by omega)]
  exact agL_up a
theorem rots_ag {β : Int → Int} {p : Int} (a : agL α β) (o : okm (cur α)) (p0 : 0 ≤ p ∧ p < 40) (hx : ∀ i : Nat, (i : Int) = α 1 → okx (tx i)) : rots tx α p = rots tx β p := by
  have o2 := okm_iff.mp o
  have a1 := a 1 (by omega) (by omega) (by omega)
  unfold rots
  rw [← a1]
  by_cases n : α 1 < 0
  · rw [if_pos n, if_pos n]
  · rw [if_neg n, if_neg n, ← a 6 (by omega) (by omega) (by omega), ← a 4 (by omega) (by omega) (by omega), ← a (8 + p) (by omega) (by omega) (by omega)]
    unfold rtv
    cases ef : (tx (α 1).toNat).find? (fun c => decide (c.1 = 4)) with
    | none => rfl
    | some c =>
      obtain ⟨i, hi, ei, e4⟩ := find_at ef
      have oc := (hx (α 1).toNat (by omega)).2.1 c (by rw [← ei]; exact cl_mem hi)
      have e := ev_c (η := nR (α 6) (α 4) p (α (8 + p))) (β := fB8 α) (β2 := fB8 β) (b := 0) (fun j j0 j1 => a (8 + j) (by omega) (by
        have : nR (α 6) (α 4) p (α (8 + p)) 8 = α 6 := rfl
        omega) (by omega)) _ _ (oc.2.2.2.1 e4)
      show hld _ 0 10 = hld _ 0 10
      rw [e]
theorem rotW_at {p b : Nat} {j : Int} (h7 : 0 ≤ α 7 ∧ α 7 ≤ 25) (hj : j < 48) (j7 : j ≠ 7) : rotW w α p b j = up1 α (8 + (p : Int)) (((α (8 + (p : Int))).toNat ^^^ 2 ^ b : Nat) : Int) j := by
  unfold rotW
  split
  · unfold rotA
    exact rw_lo (by rw [up1_ne (by omega)]; exact h7) (by omega) j7
  · rfl
theorem prB_ag {β : Int → Int} (a : agL α β) (o : okm (cur α)) (hx : ∀ i : Nat, (i : Int) = α 1 → okx (tx i)) : prB tx α = prB tx β := by
  have a6 := a 6 (by omega) (by omega) (by omega)
  have a5 := a 5 (by omega) (by omega) (by omega)
  have a2 := agL_xs a
  have a3 := agL_xs a2
  have a4 := agL_xs a3
  have o3 := okm_xs (okm_xs (okm_xs o))
  have o2 := okm_iff.mp o
  unfold prB
  rw [← a6, ← a5, ← a3 5 (by omega) (by omega) (by omega)]
  by_cases q : 0 < α 6
  · have b1 := Int.emod_nonneg (α 5) (show α 6 ≠ 0 by omega)
    have b2 := Int.emod_lt_of_pos (α 5) q
    rw [rots_ag a4 o3 (by omega) (fun i hi => hx i (by rw [hi, xs_1, xs_1, xs_1]))]
  · rw [decide_eq_false q, Bool.false_and, Bool.false_and]
theorem pdW_ag {β : Int → Int} {w2 : Bool} (a : agL α β) (o : okm (cur α)) (o' : okm (cur β)) (hx : ∀ i : Nat, (i : Int) = α 1 → okx (tx i)) : agL (pdW w tx α) (pdW w2 tx β) := by
  have a6 := a 6 (by omega) (by omega) (by omega)
  have a5 := a 5 (by omega) (by omega) (by omega)
  have a2 := agL_xs a
  have a3 := agL_xs a2
  have a4 := agL_xs a3
  have o3 := okm_xs (okm_xs (okm_xs o))
  have o3' := okm_xs (okm_xs (okm_xs o'))
  have o2 := okm_iff.mp o
  unfold pdW
  refine agL_day ?_
  rw [← prB_ag a o hx, ← a6, ← a5, ← a2 5 (by omega) (by omega) (by omega)]
  by_cases q : 0 < α 6
  · rw [if_pos q, if_pos q]
    have b1 := Int.emod_nonneg (α 5) (show α 6 ≠ 0 by omega)
    have b2 := Int.emod_lt_of_pos (α 5) q
    by_cases r : prB tx α = true
    · rw [if_pos r, if_pos r]
      intro j j0 j1 j7
      rw [rotW_at (okm_iff.mp o3).2.2.2.1 j1 j7, rotW_at (okm_iff.mp o3').2.2.2.1 j1 j7, ← a4 _ (by omega) (by omega) (by omega)]
      exact agL_up a4 j j0 j1 j7
    · rw [if_neg r, if_neg r]; exact a4
  · rw [if_neg q, if_neg q]; exact a
theorem okm_pdW (o : okm (cur α)) (h4 : α 4 < 9999) : okm (cur (pdW w tx α)) := by
  cases w with
  | true => rw [pdW_t]; exact okm_pd o h4
  | false =>
    have o3 := okm_xs (okm_xs (okm_xs o))
    have o2 := okm_iff.mp o
    have x4 : xs (xs (xs α)) 4 = α 4 := by unfold xs; rw [up1_ne (by omega), up1_ne (by omega), up1_ne (by omega)]
    unfold pdW
    refine okm_day ?_ ?_
    · split
      · split
        · have b1 := Int.emod_nonneg (α 5) (show α 6 ≠ 0 by omega)
          have b2 := Int.emod_lt_of_pos (α 5) (show 0 < α 6 by omega)
          have o4 := okm_iff.mp o3
          have bp := o4.2.2.2.2.1 (α 5 % α 6).toNat (by omega) (by omega)
          have rv := rot_v (x := (xs (xs (xs α)) (8 + ((α 5 % α 6).toNat : Int))).toNat) (b := (xs α 5 % 8).toNat) (by omega) (by omega)
          have e2 : cur (xs (xs (xs α))) 2 = α 6 := by rw [cur_lo (by omega)]; show xs (xs (xs α)) 6 = α 6; rw [xs_6, xs_6, xs_6]
          unfold rotW
          rw [if_neg (by decide)]
          refine okm_eq (okm_byte (p := ((α 5 % α 6).toNat : Int)) (v := (((xs (xs (xs α)) (8 + ((α 5 % α 6).toNat : Int))).toNat ^^^ 2 ^ (xs α 5 % 8).toNat : Nat) : Int)) o3 (by omega) (by omega)) (fun j j0 j1 => cur_up8 (by omega) j0)
        · exact o3
      · exact o
    · split
      · split
        · unfold rotW
          rw [if_neg (by decide), up1_ne (by omega), x4]; exact h4
        · rw [x4]; exact h4
      · exact h4
/-- days pass, to look ahead -/
def forN (w : Bool) (tx : Nat → List Cl) : Nat → (Int → Int) → Int → Int
  | 0, α => α
  | n + 1, α => if α 4 < 9999 then forN w tx n (pdW w tx α) else α
theorem forN_stop : ∀ (n : Nat) (α : Int → Int), ¬ α 4 < 9999 → forN w tx n α = α
  | 0, _, _ => rfl
  | n + 1, α, h => by simp only [forN]; rw [if_neg h]
theorem pdW_1 (o : okm (cur α)) : pdW w tx α 1 = α 1 := by
  have o3 := okm_xs (okm_xs (okm_xs o))
  have x1 : xs (xs (xs α)) 1 = α 1 := by rw [xs_1, xs_1, xs_1]
  unfold pdW dayA
  rw [up1_ne (by omega)]
  split
  · split
    · rw [rotW_at (okm_iff.mp o3).2.2.2.1 (by omega) (by omega), up1_ne (by omega), x1]
    · exact x1
  · rfl
theorem forN_ag {w2 : Bool} : ∀ (n : Nat) (α β : Int → Int), agL α β → okm (cur α) → okm (cur β) → (∀ i : Nat, (i : Int) = α 1 → okx (tx i)) → agL (forN w tx n α) (forN w2 tx n β)
  | 0, _, _, a, _, _, _ => a
  | n + 1, α, β, a, o, o', hx => by
    simp only [forN]
    rw [← a 4 (by omega) (by omega) (by omega)]
    by_cases q : α 4 < 9999
    · rw [if_pos q, if_pos q]
      exact forN_ag n _ _ (pdW_ag a o o' hx) (okm_pdW o q) (okm_pdW o' (by rw [← a 4 (by omega) (by omega) (by omega)]; exact q)) (fun i hi => hx i (by rw [hi, pdW_1 o]))
    · rw [if_neg q, if_neg q]; exact a
theorem pdW_hi {j : Int} (o : okm (cur α)) (hj : j < 4 ∨ 48 ≤ j ∨ j = 7) : pdW false tx α j = α j := by
  have xj : xs (xs (xs α)) j = α j := by unfold xs; rw [up1_ne (by omega), up1_ne (by omega), up1_ne (by omega)]
  have o2 := okm_iff.mp o
  unfold pdW dayA
  rw [up1_ne (by omega)]
  split
  · split
    · have b1 := Int.emod_nonneg (α 5) (show α 6 ≠ 0 by omega)
      have b2 := Int.emod_lt_of_pos (α 5) (show 0 < α 6 by omega)
      unfold rotW
      rw [if_neg (by decide), up1_ne (by omega)]
      exact xj
    · exact xj
  · rfl
end FORE
