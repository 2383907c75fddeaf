section COPY
variable {d : Nat} {h : am_H} {Q : Int → am_H → Prop} {α : Int → Int}
theorem srep_eq {s : Int} {β : Int → Int} (hr : srep h s α) (ha : oka α) (e : ∀ j : Int, 0 ≤ j → j < 2159 → β j = α j) : srep h s β := by
  obtain ⟨r1, r2, r3, r4, r5, r6, r7, r8⟩ := hr
  have a2 := ha.2.2.1
  have a3 := ha.2.2.2.1
  have hc : 0 ≤ cur α 3 ∧ cur α 3 ≤ 25 := ha.2.2.2.2.1.2.2.2.1
  refine ⟨mrep_eq r1 hc.1 (fun j j0 j1 => ?_), ?_, r3, fun k k0 k1 => ?_, ?_, ?_, ?_, fun i i0 i1 => ?_⟩
  · unfold cur mv
    by_cases c : j < 44
    · rw [if_pos c, if_pos c]; exact e _ (by omega) (by omega)
    · rw [if_neg c, if_neg c]; exact e _ (by omega) (by omega)
  · rw [e 2 (by omega) (by omega)]; exact r2
  · rw [e 2 (by omega) (by omega)] at k1
    have hs3 : 0 ≤ stp α k 3 ∧ stp α k 3 ≤ 25 := (ha.2.2.2.2.2 k k0 k1).2.2.2.1
    exact mrep_eq (r4 k k0 k1) hs3.1 (fun j j0 j1 => e _ (by omega) (by omega))
  · rw [e 0 (by omega) (by omega)]; exact r5
  · rw [e 1 (by omega) (by omega)]; exact r6
  · rw [e 3 (by omega) (by omega)]; exact r7
  · rw [e 3 (by omega) (by omega)] at i1
    rw [e _ (by omega) (by omega), e _ (by omega) (by omega)]
    exact r8 i i0 i1
theorem oka_eq {β : Int → Int} (ha : oka α) (e : ∀ j : Int, 0 ≤ j → j < 2159 → β j = α j) : oka β := by
  obtain ⟨a0, a1, a2, a3, a4, a5⟩ := ha
  have e0 := e 0 (by omega) (by omega)
  have e1 := e 1 (by omega) (by omega)
  have e2 := e 2 (by omega) (by omega)
  have e3 := e 3 (by omega) (by omega)
  refine ⟨by omega, by omega, by omega, by omega, okm_eq a4 (fun j j0 j1 => ?_), fun k k0 k1 => okm_eq (a5 k k0 (by omega)) (fun j j0 j1 => e _ (by omega) (by omega))⟩
  unfold cur mv
  rw [if_pos j1, if_pos j1]
  exact e _ (by omega) (by omega)
theorem srep_fr {h2 : am_H} {s : Int} (hr : srep h s α) (f : ∀ b : Int, s ≤ b → b ≤ s + 96 → h2 b = h b) : srep h2 s α := by
  obtain ⟨r1, r2, r3, r4, r5, r6, r7, r8⟩ := hr
  rw [srep, f s (by omega) (by omega), f (s + 5) (by omega) (by omega), f (s + 6) (by omega) (by omega)]
  exact ⟨mrep_congr r1 (f _ (by omega) (by omega)) (f _ (by omega) (by omega)) (f _ (by omega) (by omega)), r2, r3, fun k k0 k1 => mrep_congr (r4 k k0 k1) (f _ (by omega) (by omega)) (f _ (by omega) (by omega)) (f _ (by omega) (by omega)), r5, r6, r7, r8⟩
/-- a moment is copied cell by cell -/
def mcp (h2 : am_H) (m : Int) (h : am_H) (o : Int) : Prop := (∀ j : Int, 2 ≤ j → j ≤ 5 → h2 m j = h o j) ∧ (∀ i : Int, 0 ≤ i → i < 40 → h2 (m + 1) i = h (o + 1) i) ∧ ∀ i : Int, 0 ≤ i → i < 25 → h2 (m + 2) i = h (o + 2) i
theorem mrep_mcp {h2 : am_H} {m o : Int} {μ : Int → Int} (c : mcp h2 m h o) (hm : mrep h o μ) (h3 : 0 ≤ μ 3 ∧ μ 3 ≤ 25) : mrep h2 m μ := by
  obtain ⟨c1, c2, c3⟩ := c
  obtain ⟨q0, q1, q2, q3, q4, q5⟩ := hm
  refine ⟨?_, ?_, ?_, ?_, fun i a b => ?_, fun j a b => ?_⟩
  · rw [c1 4 (by omega) (by omega)]; exact q0
  · rw [c1 5 (by omega) (by omega)]; exact q1
  · rw [c1 3 (by omega) (by omega)]; exact q2
  · rw [c1 2 (by omega) (by omega)]; exact q3
  · rw [c2 i a b]; exact q4 i a b
  · rw [c3 j a (by omega)]; exact q5 j a b
theorem c_X0_copyAll {m o : Int} (t0 : am_kd 321 m = 10) (t1 : am_kd 321 o = 10) (hne : o ≠ m) (k : ∀ h2, fr3 h h2 m → mcp h2 m h o → Q 0 h2) : cf d M_X0_copy [.inr (.inr m), .inr (.inr o)] h Q := by
  have ap := mom_apart t0 t1 hne
  refine cf_of pX0 (Nat.le_of_ble_eq_true rfl) rfl (fun _ => B_X0_copy_0 t0 ⟨t1, k _ ?_ ⟨fun j a c => ?_, fun i a c => ?_, fun j a c => ?_⟩⟩)
  · intro b z1 z2 z3
    funext j
    repeat (first | rw [am_up_ne (by omega)] | rw [am_cp_other _ _ (by omega)])
  · rcases (show j = 2 ∨ j = 3 ∨ j = 4 ∨ j = 5 by omega) with rfl | rfl | rfl | rfl <;> repeat (first | rw [am_up_at] | rw [am_up_ne (by omega)] | rw [am_cp_other _ _ (by omega)])
  · repeat (first | rw [am_up_ne (by omega)] | rw [am_cp_other _ _ (by omega)])
    unfold am_cp
    rw [if_pos ⟨rfl, by omega, by omega⟩, show 0 + (i - 0) = i by omega]
  · repeat (first | rw [am_up_ne (by omega)])
    rw [am_cp, if_pos ⟨rfl, by omega, by omega⟩, show 0 + (j - 0) = j by omega, am_cp_other _ _ (by omega)]
theorem c_X4_copyStepAll {m o : Int} (t0 : am_kd 321 m = 10) (t1 : am_kd 321 o = 10) (hne : o ≠ m) (q0 : 1 ≤ m) (q1 : 1 ≤ o) (k : ∀ h2, fr3 h h2 m → mcp h2 m h o → Q 0 h2) : cf (d + 1) M_X4_copyStep [.inr (.inr m), .inr (.inr o)] h Q :=
  cf_of pX4 (Nat.le_of_ble_eq_true rfl) rfl (fun _ => B_X4_copyStep_0 ⟨by omega, fun c => by omega, fun _ => ⟨by omega, fun c => by omega, fun _ => ⟨t0, c_X0_copyAll t0 t1 hne k⟩⟩⟩)
theorem c_X4_copy {s o : Int} (hs : (s = 4 ∧ o = 101) ∨ (s = 101 ∧ o = 4)) (hr : srep h o α) (ha : oka α) (k : ∀ h2, frS h h2 s → srep h2 s α → Q 0 h2) : cf (d + 2) M_X4_copy [.inr (.inr s), .inr (.inr o)] h Q := by
  obtain ⟨r1, r2, r3, r4, r5, r6, r7, r8⟩ := hr
  have hs1 : s = 4 ∨ s = 101 := by omega
  have hs2 : o = 4 ∨ o = 101 := by omega
  have a2 := ha.2.2.1
  have a3 := ha.2.2.2.1
  have hc : 0 ≤ cur α 3 ∧ cur α 3 ≤ 25 := ha.2.2.2.2.1.2.2.2.1
  have loop : ∀ (n : Nat) (i : Int) (g : am_H), i + n = 30 → 0 ≤ i → frS h g s → mcp g (s + 1) h (o + 1) → (∀ j : Int, 0 ≤ j → j < i → mcp g (s + 4 + 3 + 3 * j) h (o + 4 + 3 + 3 * j)) → wf (d + 2) M_X4_copy Q 13 [some (.inr (.inr s)), some (.inr (.inr o)), some (.inl i)] [] g := by
    intro n
    induction n with
    | zero =>
      intro i g hi i0 f c0 c1
      have eo : ∀ b : Int, o ≤ b → b ≤ o + 96 → g b = h b := fun b b0 b1 => f b (by omega)
      refine B_X4_copy_13 (kd_now hs1).2 ⟨fun _ => ⟨(kd_now hs2).2, ?_⟩, fun c => by omega⟩
      refine k _ (frS_trans f (fun b hb => ?_)) ⟨?_, ?_, ?_, fun q q0 q1 => ?_, ?_, ?_, ?_, fun i i0 i1 => ?_⟩
      · funext j
        repeat (first | rw [am_up_ne (by omega)] | rw [am_cp_other _ _ (by omega)])
      · refine mrep_congr (mrep_mcp c0 r1 hc) ?_ ?_ ?_ <;> (funext j; repeat (first | rw [am_up_ne (by omega)] | rw [am_cp_other _ _ (by omega)]))
      · repeat (first | rw [am_up_at] | rw [am_up_ne (by omega)] | rw [am_cp_other _ _ (by omega)])
        rw [eo o (by omega) (by omega)]; exact r2
      · repeat (first | rw [am_up_at] | rw [am_up_ne (by omega)] | rw [am_cp_other _ _ (by omega)])
        rw [eo o (by omega) (by omega)]; exact r3
      · have e2 : ∀ (z : am_H), z s 2 = h o 2 → (∀ b : Int, s < b → b ≠ s + 5 → b ≠ s + 6 → z b = g b) → mrep z (s + 4 + 3 + 3 * ((z s 2 + q) % 30)) (stp α q) := by
          intro z z2 zb
          rw [z2]
          have r4q := r4 q q0 q1
          have hm : 0 ≤ (h o 2 + q) % 30 ∧ (h o 2 + q) % 30 < 30 := by omega
          generalize hix : (h o 2 + q) % 30 = ix at hm
          rw [hix] at r4q
          exact mrep_congr (mrep_mcp (c1 ix hm.1 (by omega)) r4q (ha.2.2.2.2.2 q q0 q1).2.2.2.1) (zb _ (by omega) (by omega) (by omega)) (zb _ (by omega) (by omega) (by omega)) (zb _ (by omega) (by omega) (by omega))
        refine e2 _ ?_ ?_
        · repeat (first | rw [am_up_at] | rw [am_up_ne (by omega)] | rw [am_cp_other _ _ (by omega)])
          rw [eo o (by omega) (by omega)]
        · intro b b0 b1 b2
          funext j
          repeat (first | rw [am_up_ne (by omega)] | rw [am_cp_other _ _ (by omega)])
      · repeat (first | rw [am_up_at] | rw [am_up_ne (by omega)] | rw [am_cp_other _ _ (by omega)])
        rw [eo o (by omega) (by omega)]; exact r5
      · repeat (first | rw [am_up_at] | rw [am_up_ne (by omega)] | rw [am_cp_other _ _ (by omega)])
        rw [eo o (by omega) (by omega)]; exact r6
      · repeat (first | rw [am_up_at] | rw [am_up_ne (by omega)] | rw [am_cp_other _ _ (by omega)])
        rw [eo o (by omega) (by omega)]; exact r7
      · have r8i := r8 i i0 i1
        refine ⟨?_, ?_⟩
        · rw [am_up_ne (by omega), am_cp_other _ _ (by omega), am_cp, if_pos ⟨rfl, by omega, by omega⟩, show 0 + (i - 0) = i by omega]
          repeat (first | rw [am_up_ne (by omega)] | rw [am_cp_other _ _ (by omega)])
          rw [eo _ (by omega) (by omega)]
          exact r8i.1
        · rw [am_up_ne (by omega), am_cp, if_pos ⟨rfl, by omega, by omega⟩, show 0 + (i - 0) = i by omega]
          repeat (first | rw [am_up_ne (by omega)] | rw [am_cp_other _ _ (by omega)])
          rw [eo _ (by omega) (by omega)]
          exact r8i.2
    | succ n ih =>
      intro i g hi i0 f c0 c1
      refine B_X4_copy_13 (kd_now hs1).2 ⟨fun c => by omega, fun c => ⟨i0, (kd_now hs2).2, c_X4_copyStepAll (kd_st hs1 i0 c) (kd_st hs2 i0 c) (by omega) (by omega) (by omega) (fun g2 f2 m2 => ?_)⟩⟩
      rw [w32e (by omega) (by omega)]
      have eo : ∀ b : Int, o ≤ b → b ≤ o + 96 → g b = h b := fun b b0 b1 => f b (by omega)
      refine ih (i + 1) g2 (by omega) (by omega) (frS_trans f (frS_of3 f2 (by omega))) ?_ ?_
      · refine ⟨fun j j0 j1 => ?_, fun j j0 j1 => ?_, fun j j0 j1 => ?_⟩ <;> rw [f2 _ (by omega) (by omega) (by omega)]
        · exact c0.1 j j0 j1
        · exact c0.2.1 j j0 j1
        · exact c0.2.2 j j0 j1
      · intro j j0 j1
        by_cases e : j = i
        · subst e
          refine ⟨fun i a b => ?_, fun i a b => ?_, fun i a b => ?_⟩
          · rw [m2.1 i a b, eo _ (by omega) (by omega)]
          · rw [m2.2.1 i a b, eo _ (by omega) (by omega)]
          · rw [m2.2.2 i a b, eo _ (by omega) (by omega)]
        · have cj := c1 j j0 (by omega)
          refine ⟨fun j j0 j1 => ?_, fun j j0 j1 => ?_, fun j j0 j1 => ?_⟩ <;> rw [f2 _ (by omega) (by omega) (by omega)]
          · exact cj.1 j j0 j1
          · exact cj.2.1 j j0 j1
          · exact cj.2.2 j j0 j1
  refine cf_of pX4 (Nat.le_of_ble_eq_true rfl) rfl (fun _ => B_X4_copy_0 (kd_now hs1).2 ⟨(kd_now hs2).2, c_X0_copyAll (kd_now hs1).1 (kd_now hs2).1 (by omega) (fun g f m => ?_)⟩)
  exact loop 30 0 g (by omega) (by omega) (frS_of3 f (by omega)) m (fun j j0 j1 => by omega)
/-- the reference's copy of a row -/
def ccp (α β : Int → Int) : Int → Int := fun j => if 0 ≤ j ∧ j < 2159 then α j else β j
theorem ccp_in {α β : Int → Int} {j : Int} (h0 : 0 ≤ j) (h1 : j < 2159) : ccp α β j = α j := if_pos ⟨h0, h1⟩
theorem c_X7_copy {a b : Int} (hs : (a = 295 ∧ b = 296) ∨ (a = 296 ∧ b = 295)) (k : Q 0 (am_row h b (ccp (h a) (h b)))) : cf d M_X7_copy [.inr (.inr a), .inr (.inr b)] h Q := by
  have ka : am_kd 321 a = 0 ∧ am_ln a = 2159 := by
    rcases hs with ⟨rfl, rfl⟩ | ⟨rfl, rfl⟩
    · exact ⟨k_295, l_295⟩
    · exact ⟨k_296, l_296⟩
  have kb : am_kd 321 b = 0 ∧ am_ln b = 2159 := by
    rcases hs with ⟨rfl, rfl⟩ | ⟨rfl, rfl⟩
    · exact ⟨k_296, l_296⟩
    · exact ⟨k_295, l_295⟩
  have loop : ∀ (n : Nat) (i : Int) (γ : Int → Int), i + n = 2159 → 0 ≤ i → (∀ j : Int, γ j = if 0 ≤ j ∧ j < i then h a j else h b j) → wf d M_X7_copy Q 2 [some (.inr (.inr a)), some (.inr (.inr b)), some (.inl i)] [] (am_row h b γ) := by
    intro n
    induction n with
    | zero =>
      intro i γ hi i0 e
      refine B_X7_copy_2 ⟨fun _ => ?_, fun c => by omega⟩
      have : γ = ccp (h a) (h b) := by
        funext j
        rw [e j, ccp, show i = 2159 by omega]
      rw [this]; exact k
    | succ n ih =>
      intro i γ hi i0 e
      refine B_X7_copy_2 ⟨fun c => by omega, fun c => ⟨ka.1, i0, by omega, kb.1, by omega, ?_⟩⟩
      rw [w32e (by omega) (by omega), up_row2, row_ne (by omega)]
      refine ih (i + 1) _ (by omega) (by omega) (fun j => ?_)
      unfold up1
      by_cases c : j = i
      · rw [if_pos c, if_pos (by omega), c]
      · rw [if_neg c, e j]
        by_cases c2 : 0 ≤ j ∧ j < i
        · rw [if_pos c2, if_pos (by omega)]
        · rw [if_neg c2, if_neg (by omega)]
  refine cf_of pX7 (Nat.le_of_ble_eq_true rfl) rfl (fun _ => B_X7_copy_0 ?_)
  have := loop 2159 0 (h b) (by omega) (by omega) (fun j => by rw [if_neg (by omega)])
  rw [row_id] at this
  exact this
theorem c_X6_image (hr : srep h 4 α) (ha : oka α) (k : ∀ h2, frS h h2 101 → srep h2 101 α → Q (α 4) h2) : cf (d + 3) M_X6_image [.inr (.inr 1)] h Q :=
  cf_of pX6 (Nat.le_of_ble_eq_true rfl) rfl (fun _ => B_X6_image_0 (c_X4_copy (Or.inr ⟨rfl, rfl⟩) hr ha (fun h2 f q => by rw [f 5 (by omega), s_4 hr]; exact k h2 f q)))
theorem c_X6_back (hr : srep h 101 α) (ha : oka α) (k : ∀ h2, frS h h2 4 → srep h2 4 α → Q (α 4) h2) : cf (d + 3) M_X6_back [.inr (.inr 1)] h Q :=
  cf_of pX6 (Nat.le_of_ble_eq_true rfl) rfl (fun _ => B_X6_back_0 (c_X4_copy (Or.inl ⟨rfl, rfl⟩) hr ha (fun h2 f q => by rw [s_4 q]; exact k h2 f q)))
theorem c_X7_image (k : Q (h 295 4) (am_row h 296 (ccp (h 295) (h 296)))) : cf (d + 1) M_X7_image [.inr (.inr 294)] h Q :=
  cf_of pX7 (Nat.le_of_ble_eq_true rfl) rfl (fun _ => B_X7_image_0 (c_X7_copy (Or.inl ⟨rfl, rfl⟩) (by rw [row_ne (by omega)]; exact k)))
theorem c_X7_back (k : Q (h 296 4) (am_row h 295 (ccp (h 296) (h 295)))) : cf (d + 1) M_X7_back [.inr (.inr 294)] h Q :=
  cf_of pX7 (Nat.le_of_ble_eq_true rfl) rfl (fun _ => B_X7_back_0 (c_X7_copy (Or.inr ⟨rfl, rfl⟩) (by rw [row_at, ccp_in (by omega) (by omega)]; exact k)))
end COPY
