/-! LEVEL 3, the reference reads a whole SUM, a whole EITHER -/
section RALL
variable {d D : Nat} {g h : am_H} {Q : Int → am_H → Prop} {K V P E : Nat → Int} {N : Nat} {c t : Int} {l : Bool} {i o : Nat} {w v1 : Int} {σ : List Int}
theorem btw_none {k : Int} {σ : List Int} (h : stopK 5 k) (e : opw σ = -1) : ∀ r, btw k σ r → r < 0 := btw_no h (by rw [e]; intro q; rcases q with q | q <;> omega)
theorem prt_none {k r o : Int} {b : Bool} (h : o ≠ 40 ∧ o ≠ 41 ∧ o ≠ 42 ∧ o ≠ 43) (q : prt k b o r) : r < 0 := by
  rcases q with q | q | q | q | q
  · exact absurd q.1 h.1
  · exact absurd q.1 h.2.1
  · exact absurd q.1 h.2.2.1
  · exact absurd q.1 h.2.2.2
  · have := q.2.2.2.2; omega
/-- behind what is read -/
def gA (h : am_H) (K V P E : Nat → Int) (c w : Int) (Q : Int → am_H → Prop) (e : Ex) (j : Nat) : Prop := ∀ h2, rO h h2 c → rL h2 K V P E j → h2 294 13 = w + ly e → rat (h2 297) c w e → (∀ q : Int, q < c + 2 * w → h2 297 q = h 297 q) → Q 0 h2
theorem rO_refl : rO h h c := ⟨fun _ _ _ _ => rfl, fun _ _ => rfl, fun _ _ => rfl⟩
theorem c_allS (H : rE h K V P E N c t l) (L : rL h K V P E i) (ew : h 294 13 = w) (hi : i ≤ N) (w0 : 0 ≤ w) (w1 : w ≤ i) (post : rPo h P c Q (gA h K V P E c w Q) (pS K V l i)) : cf (D + 6) M_X7_all [.inr (.inr 294), .inl (-1)] h Q := by
  have n300 := H.1.1
  refine cf_of pX7 (Nat.le_of_ble_eq_true rfl) rfl (fun _ => B_X7_all_0 ⟨fun _ => ?_, fun y => by omega⟩)
  generalize hg : am_up (am_up (am_up h 294 16 0) 294 17 0) 294 18 0 = h1
  have f2 : ∀ j : Int, j < 16 ∨ 18 < j → h1 294 j = h 294 j := fun j q => by rw [← hg, am_up_ne (by omega), am_up_ne (by omega), am_up_ne (by omega)]
  have f1 : ∀ b : Int, b ≠ 294 → h1 b = h b := fun b q => by rw [← hg, upr q, upr q, upr q]
  have S1 : rS h h1 K V P E c i w 0 [] false := by
    refine ⟨⟨fun b q _ _ => f1 b q, fun j q => f2 j (by omega), fun q _ => by rw [f1 297 (by omega)]⟩, rL_congr L (fun j q => f2 j (by omega)) (f1 298 (by omega)), by rw [f2 13 (by omega)]; exact ew, ?_, ?_, ?_, trivial⟩
    · rw [← hg, am_up_ne (by omega), am_up_ne (by omega), am_up_at]; rfl
    · rw [← hg, am_up_ne (by omega), am_up_at]; rfl
    · rw [← hg, am_up_at]; rfl
  refine (rprs H 5000 D i (xN 0) h1 w (-1) [] Q hi w0 (Or.inl rfl)).2.2.2.1 0 (by omega) (by omega) (by simp) w1 trivial (fun _ q => q.2) S1 ?_
  have ok := pS_ok (l := l) H.1 hi
  unfold pS at post ok
  cases hr : prs K V l 5000 3 0 i (xN 0) with
  | inl x => rw [hr] at post; exact post
  | inr x =>
    rw [hr] at post ok
    have ok2 : (i ≤ x.2 ∧ x.2 ≤ N) ∧ ws l x.1 false ∧ lx x.1 + i ≤ 0 + x.2 ∧ sx x.1 ≤ 43 := ok
    have ll := ly_lx _ _ ok2.2.1
    intro h2 w2 pend p R st
    have eo : opw (pend ++ []) = -1 := opw_app _ (pnd_r p (by omega))
    obtain ⟨p1, p2, p3, p4, p5, p6, p7, p8⟩ := p
    have e := p3.1
    refine wLp_end H p1 (btw_none st eo) (fun r q => prt_none (by rw [eo]; omega) q) eo (fun y => by omega) (by omega) (by omega) (by rw [List.append_nil]; omega) (by omega) (fun y hy => by have := (p2 y hy).1; omega) trivial (fun h3 S3 C3 R3 => ?_)
    rw [e] at S3
    exact post h3 S3.1 S3.2.1 S3.2.2.1 (p3.2 _ R3 C3) (fun q hq => by rw [R3 q (by omega), R q hq, f1 297 (by omega)])
theorem c_allE (H : rE h K V P E N c t l) (L : rL h K V P E i) (ew : h 294 13 = w) (hi : i ≤ N) (w0 : 0 ≤ w) (w1 : w ≤ i) (post : rPo h P c Q (gA h K V P E c w Q) (pE K V l i)) : cf (D + 6) M_X7_all [.inr (.inr 294), .inl 44] h Q := by
  have n300 := H.1.1
  refine cf_of pX7 (Nat.le_of_ble_eq_true rfl) rfl (fun _ => B_X7_all_0 ⟨fun y => absurd rfl y, fun _ => ?_⟩)
  generalize hg : am_up (am_up (am_up (am_up (am_up h 294 16 0) 294 17 0) 294 18 0) 299 0 44) 294 16 1 = h1
  have f2 : ∀ j : Int, j < 16 ∨ 18 < j → h1 294 j = h 294 j := fun j q => by rw [← hg, am_up_ne (by omega), am_up_ne (by omega), am_up_ne (by omega), am_up_ne (by omega), am_up_ne (by omega)]
  have f1 : ∀ b : Int, b ≠ 294 → b ≠ 299 → h1 b = h b := fun b q q2 => by rw [← hg, upr q, upr q2, upr q, upr q, upr q]
  have S1 : rS h h1 K V P E c i w 0 [44] false := by
    refine ⟨⟨fun b q _ q2 => f1 b q q2, fun j q => f2 j (by omega), fun q _ => by rw [f1 297 (by omega) (by omega)]⟩, rL_congr L (fun j q => f2 j (by omega)) (f1 298 (by omega) (by omega)), by rw [f2 13 (by omega)]; exact ew, ?_, ?_, ?_, ⟨?_, trivial⟩⟩
    · rw [← hg, am_up_at]; rfl
    · rw [← hg, am_up_ne (by omega), am_up_ne (by omega), am_up_ne (by omega), am_up_at]; rfl
    · rw [← hg, am_up_ne (by omega), am_up_ne (by omega), am_up_at]; rfl
    · rw [← hg, am_up_ne (by omega)]; exact am_up_at _ _ _ _
  refine (rprs H 5000 D i (xN 0) h1 w 44 [44] Q hi w0 (Or.inr rfl)).2.2.2.2.2.2.2.2.1 0 (by omega) (by omega) (by simp) w1 (by show rkO 44 < 1; decide) ⟨Or.inr (by decide), Or.inl (by decide)⟩ S1 ?_
  have ok := pE_ok (l := l) H.1 hi
  unfold pE at post ok
  cases hr : prs K V l 5000 8 0 i (xN 0) with
  | inl x => rw [hr] at post; exact post
  | inr x =>
    rw [hr] at post ok
    have ok2 : (i ≤ x.2 ∧ x.2 ≤ N) ∧ ws l x.1 true ∧ lx x.1 + i ≤ 0 + x.2 ∧ sx x.1 ≤ 46 := ok
    have ll := ly_lx _ _ ok2.2.1
    intro h2 w2 pend p R st
    have eo : opw (pend ++ [44]) = 44 := by rw [opw_app _ (pnd_r p (by omega))]; decide
    obtain ⟨p1, p2, p3, p4, p5, p6, p7, p8⟩ := p
    have e := p3.1
    have cc := p5 (by omega)
    refine wLp_end H p1 (btw_no2 st cc) (fun r q => prt_none (by rw [eo]; omega) q) eo (fun y => cc) (by omega) (by omega) (by rw [List.length_append, List.length_cons, List.length_nil]; omega) (by omega) (fun y hy => (p2 y hy).1) (by show rkO 44 < 1; decide) (fun h3 S3 C3 R3 => ?_)
    rw [e] at S3
    exact post h3 S3.1 S3.2.1 S3.2.2.1 (p3.2 _ R3 C3) (fun q hq => by rw [R3 q (by omega), R q hq, f1 297 (by omega) (by omega)])
end RALL
/-! CLAUSES of the reference -/
def rC0 (g h : am_H) (t : Int) : Prop := (∀ b : Int, b ≠ 294 → b ≠ 297 → b ≠ 299 → h b = g b) ∧ (∀ j : Int, j < 7 ∨ j = 12 ∨ j = 15 ∨ 20 < j → h 294 j = g 294 j) ∧ ∀ q : Int, q < 825 * t → h 297 q = g 297 q
def rC (g h : am_H) (K V P E : Nat → Int) (t : Int) (i : Nat) (w kd : Int) (hr : Bool) (td : Nat) : Prop := rC0 g h t ∧ rL h K V P E i ∧ h 294 13 = w ∧ h 294 14 = kd ∧ h 294 19 = (if hr = true then 1 else 0) ∧ h 294 20 = td
def rX (g h : am_H) (t : Int) (P : Nat → Int) (j : Nat) : Prop := rC0 g h t ∧ h 294 8 = P j
def rG (g : am_H) (K V P E : Nat → Int) (N : Nat) (t : Int) : Prop := tkok K V N ∧ (g 294 12 = 825 * t ∧ 0 ≤ t ∧ t ≤ 3) ∧ rNx g K V P E N
def rRc (g : am_H) (t : Int) (P : Nat → Int) (Q : Int → am_H → Prop) (G : Cl → Nat → Prop) (r : Rc) : Prop := match r with
  | .inl x => ∀ h2, rX g h2 t P x.2 → Q x.1 h2
  | .inr x => G x.1 x.2
section RCL
variable {d D : Nat} {g h : am_H} {Q : Int → am_H → Prop} {K V P E : Nat → Int} {N : Nat} {t : Int} {l : Bool} {i : Nat} {w kd : Int} {hr : Bool} {td : Nat} {G : Cl → Nat → Prop}
theorem rC_X (C : rC g h K V P E t i w kd hr td) : rX g h t P i := ⟨C.1, C.2.1.2.1⟩
theorem rC_E (H : rG g K V P E N t) (C : rC g h K V P E t i w kd hr td) (hl : kd = 4 ↔ l = true) : rE h K V P E N (825 * t + 217) t l := by
  obtain ⟨h1, h2, h3⟩ := H
  obtain ⟨⟨c1, c2, c3⟩, c4, c5, c6, c7, c8⟩ := C
  refine ⟨h1, ⟨by rw [c2 12 (by omega)]; exact h2.1, rfl, h2.2⟩, by rw [c6]; exact hl, fun d i hh Q hi e298 e4 e7 k => ?_⟩
  exact h3 d i hh Q hi (by rw [e298, c1 298 (by omega) (by omega) (by omega)]) (by rw [e4, c2 4 (by omega)]) e7 k
theorem rO_C {h2 : am_H} {j : Nat} {w2 : Int} (C : rC g h K V P E t i w kd hr td) (o : rO h h2 (825 * t + 217)) (L : rL h2 K V P E j) (e : h2 294 13 = w2) : rC g h2 K V P E t j w2 kd hr td := by
  obtain ⟨⟨c1, c2, c3⟩, c4, c5, c6, c7, c8⟩ := C
  obtain ⟨o1, o2, o3⟩ := o
  exact ⟨⟨fun b q q2 q3 => (o1 b q q2 q3).trans (c1 b q q2 q3), fun j q => (o2 j (by omega)).trans (c2 j q), fun q hq => (o3 q (by omega)).trans (c3 q hq)⟩, L, e, by rw [o2 14 (by omega)]; exact c6, by rw [o2 19 (by omega)]; exact c7, by rw [o2 20 (by omega)]; exact c8⟩
theorem rO_X {h2 : am_H} {j : Nat} (C : rC0 g h t) (o : rO h h2 (825 * t + 217)) (e : h2 294 8 = P j) : rX g h2 t P j :=
  ⟨⟨fun b q q2 q3 => (o.1 b q q2 q3).trans (C.1 b q q2 q3), fun j q => (o.2.1 j (by omega)).trans (C.2.1 j q), fun q hq => (o.2.2 q (by omega)).trans (C.2.2 q hq)⟩, e⟩
/-- a place of the row of texts is another one -/
theorem rC_up {a v : Int} (C : rC g h K V P E t i w kd hr td) (ha : 825 * t ≤ a) : rC g (am_up h 297 a v) K V P E t i w kd hr td := by
  obtain ⟨⟨c1, c2, c3⟩, c4, c5, c6, c7, c8⟩ := C
  refine ⟨⟨fun b q q2 q3 => by rw [upr q2]; exact c1 b q q2 q3, fun j q => by rw [am_up_ne (by omega)]; exact c2 j q, fun q hq => by rw [am_up_ne (by omega)]; exact c3 q hq⟩, rL_congr c4 (fun j q => am_up_ne (by omega)) (upr (by omega)), ?_, ?_, ?_, ?_⟩
  · rw [am_up_ne (by omega)]; exact c5
  · rw [am_up_ne (by omega)]; exact c6
  · rw [am_up_ne (by omega)]; exact c7
  · rw [am_up_ne (by omega)]; exact c8
theorem rX_up {a v : Int} {j : Nat} (X : rX g h t P j) (ha : 825 * t ≤ a) : rX g (am_up h 297 a v) t P j := by
  obtain ⟨⟨c1, c2, c3⟩, c4⟩ := X
  exact ⟨⟨fun b q q2 q3 => by rw [upr q2]; exact c1 b q q2 q3, fun j q => by rw [am_up_ne (by omega)]; exact c2 j q, fun q hq => by rw [am_up_ne (by omega)]; exact c3 q hq⟩, by rw [am_up_ne (by omega)]; exact c4⟩
theorem c_nextC (H : rG g K V P E N t) (C : rC g h K V P E t i w kd hr td) (hi : i + 1 ≤ N) (k : ∀ h2, rC g h2 K V P E t (i + 1) w kd hr td → h2 297 = h 297 → Q 0 h2) : cf (d + 2) M_X7_nextToken [.inr (.inr 294)] h Q := by
  obtain ⟨⟨c1, c2, c3⟩, c4, c5, c6, c7, c8⟩ := C
  refine H.2.2 d i h Q hi (c1 298 (by omega) (by omega) (by omega)) (c2 4 (by omega)) c4.1 (fun h2 f L => ?_)
  refine k h2 ⟨⟨fun b q q2 q3 => (f.1 b q).trans (c1 b q q2 q3), fun j q => (f.2 j (by omega)).trans (c2 j q), fun q hq => by rw [f.1 297 (by omega)]; exact c3 q hq⟩, L, ?_, ?_, ?_, ?_⟩ (f.1 297 (by omega))
  · rw [f.2 13 (by omega)]; exact c5
  · rw [f.2 14 (by omega)]; exact c6
  · rw [f.2 19 (by omega)]; exact c7
  · rw [f.2 20 (by omega)]; exact c8
theorem rRc_t1 {r : Rc} {t1 : Int} (post : rRc g t P Q G (tkc K t1 i r)) (q : K i = t1) : rRc g t P Q G r := by
  rw [tkc, if_pos q] at post
  exact post
theorem rRc_t0 {r : Rc} {t1 : Int} (post : rRc g t P Q G (tkc K t1 i r)) (q : K i ≠ t1) : ∀ h2, rX g h2 t P i → Q 1 h2 := by
  rw [tkc, if_neg q] at post
  exact post
/-- a SUM of a CLAUSE: where its steps stand -/
theorem c_sumClause {k : Ex → Nat → Rc} {x s : Int} (H : rG g K V P E N t) (C : rC g h K V P E t i w kd hr td) (hl : kd = 4 ↔ l = true) (hi : i ≤ N) (w0 : 0 ≤ w) (w1 : w ≤ i) (hx : 825 * t + 1 ≤ x ∧ x + 9 ≤ 825 * t + 217) (hs : 0 ≤ s ∧ s ≤ 2) {Q2 : Int → am_H → Prop} (post : rRc g t P Q G (bnc (pS K V l i) k)) (bad : ∀ f h2, ¬ f = 0 → Q f h2 → Q2 f h2)
    (good : ∀ e j h2, i < j → j ≤ N → ws l e false → lx e + i ≤ j → ly e ≤ lx e → rRc g t P Q G (k e j) → rC g h2 K V P E t j (w + ly e) kd hr td → rat (h2 297) (825 * t + 217) w e → h2 297 (x + 3 + 2 * s) = w → h2 297 (x + 4 + 2 * s) = w + ly e → (∀ q : Int, q < 825 * t + 217 + 2 * w → q ≠ x + 3 + 2 * s → q ≠ x + 4 + 2 * s → h2 297 q = h 297 q) → Q2 0 h2) : cf (D + 8) M_X7_sumClause [.inr (.inr 294), .inl x, .inl s] h Q2 := by
  have n300 := H.1.1
  have t3 := H.2.1
  refine cf_of pX7 (Nat.le_of_ble_eq_true rfl) rfl (fun _ => B_X7_sumClause_0 ?_)
  rw [w32e (z := x + 3) (by omega) (by omega), w32e (z := x + 4) (by omega) (by omega), w32e (z := 2 * s) (by omega) (by omega), w32e (z := x + 3 + 2 * s) (by omega) (by omega), w32e (z := x + 4 + 2 * s) (by omega) (by omega), C.2.2.1]
  have C1 := rC_up (a := x + 3 + 2 * s) (v := w) C (by omega)
  refine ⟨by omega, by omega, cf_of pX7 (Nat.le_of_ble_eq_true rfl) rfl (fun _ => B_X7_summed_0 (c_allS (D := D) (rC_E H C1 hl) C1.2.1 C1.2.2.1 hi w0 w1 ?_))⟩
  have ok := pS_ok (l := l) H.1 hi
  cases hr : pS K V l i with
  | inl y =>
    rw [hr] at post ok
    have o1 : 1 ≤ y.1 ∧ y.1 ≤ 5 := ok.1
    intro h2 o2 e2
    exact ⟨by omega, by omega, bad _ _ (by omega) (post _ (rX_up (rO_X C1.1 o2 e2) (by omega)))⟩
  | inr y =>
    rw [hr] at post ok
    have ok2 : (i ≤ y.2 ∧ y.2 ≤ N) ∧ ws l y.1 false ∧ lx y.1 + i ≤ 0 + y.2 ∧ sx y.1 ≤ 43 := ok
    have pl := lx_pos _ _ ok2.2.1
    intro h2 o2 L2 e13 R2 S2
    refine ⟨by omega, by omega, ?_⟩
    rw [e13]
    have C2 := rC_up (a := x + 4 + 2 * s) (v := w + ly y.1) (rO_C C1 o2 L2 e13) (by omega)
    refine good y.1 y.2 _ (by omega) ok2.1.2 ok2.2.1 (by omega) (ly_lx _ _ ok2.2.1) post C2 (rat_congr _ _ ok2.2.1 _ R2 (fun q q0 q1 => am_up_ne (by omega))) ?_ (am_up_at _ _ _ _) (fun q hq q1 q2 => ?_)
    · rw [am_up_ne (by omega), S2 _ (by omega), am_up_at]
    · rw [am_up_ne (by omega), S2 q hq, am_up_ne (by omega)]
end RCL
