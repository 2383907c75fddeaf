section PLAIN
variable {d D : Nat} {Q : Int → am_H → Prop} {l : Bool} {η β : Int → Int} {b : Int} {z c : Int}
/-- plain: of its NAMES size alone, and nothing peeks -/
def pln (e : Ex) : Bool := decide (nx e = 0) && !px e
theorem pln_iff {e : Ex} : pln e = true ↔ nx e = 0 ∧ px e = false := by
  unfold pln
  rw [Bool.and_eq_true, decide_eq_true_eq]
  cases px e <;> simp
theorem pln_U {t : Int} {a : Ex} : pln (xU t a) = (pln a && !decide (t = 9)) := by
  rw [Bool.eq_iff_iff, Bool.and_eq_true, pln_iff, pln_iff, show nx (xU t a) = nx a from rfl, show px (xU t a) = (px a || t == 9) from rfl, Bool.or_eq_false_iff]
  simp [and_assoc]
theorem pln_B {t : Int} {a e : Ex} : pln (xB t a e) = (pln a && pln e) := by
  rw [Bool.eq_iff_iff, Bool.and_eq_true, pln_iff, pln_iff, pln_iff, show nx (xB t a e) = (nx a ||| nx e) from rfl, show px (xB t a e) = (px a || px e) from rfl, Bool.or_eq_false_iff, Nat.or_eq_zero_iff]
  constructor
  · rintro ⟨⟨q1, q2⟩, q3, q4⟩; exact ⟨⟨q1, q3⟩, q2, q4⟩
  · rintro ⟨⟨q1, q3⟩, q2, q4⟩; exact ⟨⟨q1, q2⟩, q3, q4⟩
theorem pln_I {g a e : Ex} : pln (xI g a e) = (pln g && (pln a && pln e)) := by
  rw [Bool.eq_iff_iff, Bool.and_eq_true, Bool.and_eq_true, pln_iff, pln_iff, pln_iff, pln_iff, show nx (xI g a e) = (nx g ||| nx a ||| nx e) from rfl, show px (xI g a e) = (px g || px a || px e) from rfl, Bool.or_eq_false_iff, Bool.or_eq_false_iff, Nat.or_eq_zero_iff, Nat.or_eq_zero_iff]
  constructor
  · rintro ⟨⟨⟨q1, q2⟩, q3⟩, ⟨q4, q5⟩, q6⟩; exact ⟨⟨q1, q4⟩, ⟨q2, q5⟩, q3, q6⟩
  · rintro ⟨⟨q1, q4⟩, ⟨q2, q5⟩, q3, q6⟩; exact ⟨⟨⟨q1, q2⟩, q3⟩, ⟨q4, q5⟩, q6⟩
theorem pln_V {k : Nat} (ha : al false k) : pln (xV k) = decide (k = 8) := by
  unfold al at ha
  have a2 := ha.2
  simp at a2
  rcases (show k = 0 ∨ k = 1 ∨ k = 2 ∨ k = 3 ∨ k = 4 ∨ k = 5 ∨ k = 6 ∨ k = 7 ∨ k = 8 ∨ k = 9 by omega) with rfl | rfl | rfl | rfl | rfl | rfl | rfl | rfl | rfl | rfl <;> simp [pln, nx, px]
theorem pln_ev {η2 β2 : Int → Int} {b2 : Int} (h8 : η 8 = η2 8) : ∀ e s, ws false e s → pln e = true → ev η β b e = ev η2 β2 b2 e := by
  refine ex_ind (fun v h0 h1 _ => rfl) (fun k q p => ?_) (fun t a ht _ ih p => ?_) (fun a _ ih p => ?_) (fun t a c _ _ _ _ i1 i2 p => ?_) (fun t a c h0 h1 _ _ i1 i2 p => ?_) (fun t a c ht _ _ i1 i2 p => ?_) (fun c a e _ _ _ i1 i2 i3 p => ?_)
  · rw [pln_V q, decide_eq_true_eq] at p
    subst p
    exact h8
  · rw [pln_U, Bool.and_eq_true] at p
    have t7 : t = 7 := by
      rcases ht with q | q
      · exact q
      · subst q; exact absurd p.2 (by decide)
    subst t7
    simp only [ev, un1]
    rw [ih p.1]
    rfl
  · rw [pln_U, Bool.and_eq_true] at p
    simp only [ev, un1]
    rw [ih p.1]
    rfl
  · rw [pln_B, Bool.and_eq_true] at p
    simp only [ev]
    rw [i1 p.1, i2 p.2]
  · rw [pln_B, Bool.and_eq_true] at p
    simp only [ev]
    rw [i1 p.1, i2 p.2]
  · rw [pln_B, Bool.and_eq_true] at p
    simp only [ev]
    rw [i1 p.1, i2 p.2]
  · rw [pln_I, Bool.and_eq_true, Bool.and_eq_true] at p
    simp only [ev]
    rw [i1 p.1, i2 p.2.1, i3 p.2.2]
theorem p8_fB {h h2 : am_H} {n m v : Int} (c : h 300 8 = v) (f : fB h h2 n m) : h2 300 8 = v := by
  rw [f.1 300 (by omega)]; exact c
theorem sr_neg {h : am_H} {n m i v : Int} {q : Nat} (hz : okz z c) (i0 : 0 ≤ i ∧ i < z) (n0 : 1 ≤ n ∧ n ≤ 330) (h0 : h 297 (c + 2 * i) = o1r 7) (e1 : h 301 (n - 1) = v) (hv : -20000000 ≤ v ∧ v ≤ 20000000) (e2 : h 302 (n - 1) = (q : Int)) (hq : q < 2 ^ 40)
    (k : ∀ h2, (∀ m, fB h h2 (n - 1) m) → h2 301 (n - 1) = un1 η β b 7 v → h2 302 (n - 1) = ((q ||| pl1 η b 7 v : Nat) : Int) → wR d Q z c n m (i + 1) h2) : wR d Q z c n m i h := by
  unfold okz at hz
  have o1 : o1r 7 = 5 := by decide
  refine B_X7_work_20 ⟨fun q => by omega, fun _ => ?_⟩
  rw [w32e (z := 2 * i) (by omega) (by omega), w32e (z := c + 2 * i) (by omega) (by omega), w32e (z := c + 2 * i + 1) (by omega) (by omega), h0]
  refine ⟨by omega, by omega, by omega, by omega, fun _ => ⟨fun _ => ⟨fun q => by omega, fun _ => ?_⟩, fun q => by omega⟩, fun q => by omega⟩
  rw [w32e (z := n - 1) (by omega) (by omega), o1]
  refine cf_of pX7 (Nat.le_of_ble_eq_true rfl) rfl (fun _ => B_X7_ofOne_0 ⟨fun c => by omega, fun _ => ⟨by omega, by omega, ?_⟩⟩)
  rw [e1, w64e (by omega) (by omega)]
  refine wR_next (by omega) (k _ (fun m => fB_up (by omega)) (by rw [am_up_at]; rfl) ?_)
  rw [am_up_ne (by omega), e2]
  simp [pl1]
/-- a tree's steps, worked: a SUM comes to the values, an EITHER to the truths -/
def rp (d : Nat) (Q : Int → am_H → Prop) (z c : Int) (l : Bool) (η β : Int → Int) (b : Int) (e : Ex) (s : Bool) : Prop :=
  ∀ (n m i : Int) (h : am_H), rat (h 297) c i e → 0 ≤ i → i + ly e ≤ z → 0 ≤ n → n + ly e ≤ 330 → 0 ≤ m → m + ly e ≤ 330 → h 300 8 = η 8 →
    (∀ h2, fB h h2 n m → (s = false → h2 301 n = ev η β b e ∧ h2 302 n = ((lk η β b e : Nat) : Int)) → (s = true → h2 303 m = ev η β b e ∧ h2 304 m = ((lk η β b e : Nat) : Int)) → wR d Q z c (if s = true then n else n + 1) (if s = true then m + 1 else m) (i + ly e) h2) → wR d Q z c n m i h
theorem rp_num (hz : okz z c) (v : Int) : rp d Q z c l η β b (xN v) false := by
  intro n m i h hc i0 i1 n0 n1 m0 m1 hce k
  simp only [rat, ly] at hc i1 n1
  refine sr_num hz (by omega) (by omega) hc.1 hc.2 ?_
  have := k _ (fB_trans (fB_up (by omega)) (fB_up (r := 302) (i := n) (v := 0) (by omega)) (Int.le_refl _) (Int.le_refl _)) (fun _ => ⟨(am_up_ne (by omega)).trans (am_up_at _ _ _ v), am_up_at _ _ _ _⟩) (fun q => by cases q)
  exact this
theorem rp_var (hz : okz z c) (k : Nat) (ha : k = 8) : rp d Q z c l η β b (xV k) false := by
  intro n m i h hc i0 i1 n0 n1 m0 m1 hce kk
  simp only [rat, ly] at hc i1 n1
  subst ha
  refine sr_var hz (by omega) (by omega) hc.1 hc.2 (by omega) ?_
  rw [show ((8 : Nat) : Int) = 8 from rfl, hce]
  have := kk _ (fB_trans (fB_up (by omega)) (fB_up (r := 302) (i := n) (v := 0) (by omega)) (Int.le_refl _) (Int.le_refl _)) (fun _ => ⟨(am_up_ne (by omega)).trans (am_up_at _ _ _ (η 8)), am_up_at _ _ _ _⟩) (fun q => by cases q)
  exact this
theorem rp_neg (hz : okz z c) (he : eok l η β b) (a : Ex) (hw : ws l a false) (ih : rp d Q z c l η β b a false) : rp d Q z c l η β b (xU 7 a) false := by
  intro n m i h hc i0 i1 n0 n1 m0 m1 hce k
  simp only [rat, ly] at hc i1 n1 m1
  have bd := (ev_bd he a _ hw).1
  have ll := lk_lt he a _ hw
  have ps := lx_pos a _ hw
  refine ih n m i h hc.1 i0 (by omega) n0 (by omega) m0 (by omega) hce (fun h2 f2 v2 _ => ?_)
  have v3 := v2 rfl
  have e4 : h2 297 = h 297 := f2.1 _ (by omega)
  rw [if_neg (by decide), if_neg (by decide)]
  have j1 : n + 1 - 1 = n := by omega
  refine sr_neg (η := η) (β := β) (b := b) (v := ev η β b a) (q := lk η β b a) hz (by omega) (by omega) (by rw [e4]; exact hc.2) (by rw [j1]; exact v3.1) (by omega) (by rw [j1]; exact v3.2) ll (fun h3 f3 w3 q3 => ?_)
  rw [j1] at f3 w3 q3
  have := k h3 (fB_trans f2 (f3 m) (Int.le_refl _) (Int.le_refl _)) (fun _ => ⟨w3, q3⟩) (fun q => by cases q)
  rw [show i + ly a + 1 = i + ly (xU 7 a) by simp only [ly]; omega]
  exact this
theorem rp_not (hz : okz z c) (he : eok l η β b) (a : Ex) (hw : ws l a true) (ih : rp d Q z c l η β b a true) : rp d Q z c l η β b (xU 8 a) true := by
  intro n m i h hc i0 i1 n0 n1 m0 m1 hce k
  simp only [rat, ly] at hc i1 n1 m1
  have ps := lx_pos a _ hw
  refine ih n m i h hc.1 i0 (by omega) n0 (by omega) m0 (by omega) hce (fun h2 f2 _ v2 => ?_)
  have v3 := v2 rfl
  have e4 : h2 297 = h 297 := f2.1 _ (by omega)
  rw [if_pos rfl, if_pos rfl]
  have j1 : m + 1 - 1 = m := by omega
  refine sr_not (x := ev η β b a) hz (by omega) (by omega) (by rw [e4]; exact hc.2) (by rw [j1]; exact v3.1) ?_
  rw [j1]
  have := k _ (fB_trans f2 (fB_up (r := 303) (i := m) (v := if ev η β b a = 0 then 1 else 0) (by omega)) (Int.le_refl _) (Int.le_refl _)) (fun q => by cases q) (fun _ => ⟨am_up_at _ _ _ _, by rw [am_up_ne (by omega), v3.2]; simp [lk, pl1]⟩)
  rw [show i + ly a + 1 = i + ly (xU 8 a) by simp only [ly]; omega]
  exact this
theorem rp_two (hz : okz z c) (he : eok l η β b) (t : Int) (a e : Ex) (ht : 10 ≤ t ∧ t ≤ 13) (hw : ws l a false) (hw2 : ws l e false) (ih : rp d Q z c l η β b a false) (ih2 : rp d Q z c l η β b e false) : rp d Q z c l η β b (xB t a e) false := by
  intro n m i h hc i0 i1 n0 n1 m0 m1 hce k
  simp only [rat, ly] at hc i1 n1 m1
  have bd := (ev_bd he a _ hw).1
  have bd2 := (ev_bd he e _ hw2).1
  have ll := lk_lt he a _ hw
  have ll2 := lk_lt he e _ hw2
  have ps := lx_pos a _ hw
  have ps2 := lx_pos e _ hw2
  refine ih n m i h hc.1 i0 (by omega) n0 (by omega) m0 (by omega) hce (fun h2 f2 v2 _ => ?_)
  have v3 := v2 rfl
  have e4 : h2 297 = h 297 := f2.1 _ (by omega)
  rw [if_neg (by decide), if_neg (by decide)]
  refine ih2 (n + 1) m (i + ly a) h2 (by rw [e4]; exact hc.2.1) (by omega) (by omega) (by omega) (by omega) m0 (by omega) (p8_fB hce f2) (fun h3 f3 v4 _ => ?_)
  have v5 := v4 rfl
  have e5 : h3 297 = h 297 := (f3.1 _ (by omega)).trans e4
  have w := f3.2.1 n (by omega)
  rw [if_neg (by decide), if_neg (by decide)]
  have j1 : n + 1 + 1 - 2 = n := by omega
  have j2 : n + 1 + 1 - 1 = n + 1 := by omega
  refine sr_two (t := t) (x := ev η β b a) (y := ev η β b e) (q := lk η β b a) (r := lk η β b e) hz (by omega) (by omega) ht (by rw [e5]; exact hc.2.2) (by rw [j1, w.1]; exact v3.1) (by rw [j2]; exact v5.1) (by omega) (by omega) (by rw [j1, w.2]; exact v3.2) (by rw [j2]; exact v5.2) ll ll2 ?_
  rw [j1, j2]
  have := k _ (fB_trans (fB_trans f2 f3 (by omega) (Int.le_refl _)) (fB_trans (fB_up (r := 301) (i := n) (by omega)) (fB_up (r := 302) (i := n) (by omega)) (Int.le_refl _) (Int.le_refl _)) (Int.le_refl _) (Int.le_refl _)) (fun _ => ⟨(am_up_ne (by omega)).trans (am_up_at _ _ _ (op2 t (ev η β b a) (ev η β b e))), am_up_at _ _ _ ((lk η β b a ||| lk η β b e : Nat) : Int)⟩) (fun q => by cases q)
  rw [show i + ly a + ly e + 1 = i + ly (xB t a e) by simp only [ly]; omega]
  exact this
theorem rp_cmp (hz : okz z c) (he : eok l η β b) (t : Int) (a e : Ex) (ht : 14 ≤ t ∧ t ≤ 19) (hw : ws l a false) (hw2 : ws l e false) (ih : rp d Q z c l η β b a false) (ih2 : rp d Q z c l η β b e false) : rp d Q z c l η β b (xB t a e) true := by
  intro n m i h hc i0 i1 n0 n1 m0 m1 hce k
  simp only [rat, ly] at hc i1 n1 m1
  have ll := lk_lt he a _ hw
  have ll2 := lk_lt he e _ hw2
  have ps := lx_pos a _ hw
  have ps2 := lx_pos e _ hw2
  refine ih n m i h hc.1 i0 (by omega) n0 (by omega) m0 (by omega) hce (fun h2 f2 v2 _ => ?_)
  have v3 := v2 rfl
  have e4 : h2 297 = h 297 := f2.1 _ (by omega)
  rw [if_neg (by decide), if_neg (by decide)]
  refine ih2 (n + 1) m (i + ly a) h2 (by rw [e4]; exact hc.2.1) (by omega) (by omega) (by omega) (by omega) m0 (by omega) (p8_fB hce f2) (fun h3 f3 v4 _ => ?_)
  have v5 := v4 rfl
  have e5 : h3 297 = h 297 := (f3.1 _ (by omega)).trans e4
  have w := f3.2.1 n (by omega)
  rw [if_neg (by decide), if_neg (by decide)]
  have j1 : n + 1 + 1 - 2 = n := by omega
  have j2 : n + 1 + 1 - 1 = n + 1 := by omega
  refine sr_cmp (t := t) (x := ev η β b a) (y := ev η β b e) (q := lk η β b a) (r := lk η β b e) hz (by omega) (by omega) (by omega) ht (by rw [e5]; exact hc.2.2) (by rw [j1, w.1]; exact v3.1) (by rw [j2]; exact v5.1) (by rw [j1, w.2]; exact v3.2) (by rw [j2]; exact v5.2) ll ll2 ?_
  rw [j1]
  have := k _ (fB_trans (fB_trans f2 f3 (by omega) (Int.le_refl _)) (fB_trans (fB_up (r := 303) (i := m) (by omega)) (fB_up (r := 304) (i := m) (by omega)) (Int.le_refl _) (Int.le_refl _)) (Int.le_refl _) (Int.le_refl _)) (fun q => by cases q) (fun _ => ⟨(am_up_ne (by omega)).trans (am_up_at _ _ _ (op2 t (ev η β b a) (ev η β b e))), am_up_at _ _ _ ((lk η β b a ||| lk η β b e : Nat) : Int)⟩)
  rw [show i + ly a + ly e + 1 = i + ly (xB t a e) by simp only [ly]; omega]
  exact this
theorem rp_join (hz : okz z c) (he : eok l η β b) (t : Int) (a e : Ex) (ht : t = 20 ∨ t = 21) (hw : ws l a true) (hw2 : ws l e true) (ih : rp d Q z c l η β b a true) (ih2 : rp d Q z c l η β b e true) : rp d Q z c l η β b (xB t a e) true := by
  intro n m i h hc i0 i1 n0 n1 m0 m1 hce k
  simp only [rat, ly] at hc i1 n1 m1
  have ll := lk_lt he a _ hw
  have ll2 := lk_lt he e _ hw2
  have ps := lx_pos a _ hw
  have ps2 := lx_pos e _ hw2
  refine ih n m i h hc.1 i0 (by omega) n0 (by omega) m0 (by omega) hce (fun h2 f2 _ v2 => ?_)
  have v3 := v2 rfl
  have e4 : h2 297 = h 297 := f2.1 _ (by omega)
  rw [if_pos rfl, if_pos rfl]
  refine ih2 n (m + 1) (i + ly a) h2 (by rw [e4]; exact hc.2.1) (by omega) (by omega) n0 (by omega) (by omega) (by omega) (p8_fB hce f2) (fun h3 f3 _ v4 => ?_)
  have v5 := v4 rfl
  have e5 : h3 297 = h 297 := (f3.1 _ (by omega)).trans e4
  have w := f3.2.2 m (by omega)
  rw [if_pos rfl, if_pos rfl]
  have j1 : m + 1 + 1 - 2 = m := by omega
  have j2 : m + 1 + 1 - 1 = m + 1 := by omega
  refine sr_join (t := t) (x := ev η β b a) (y := ev η β b e) (q := lk η β b a) (r := lk η β b e) hz (by omega) (by omega) ht (by rw [e5]; exact hc.2.2) (by rw [j1, w.1]; exact v3.1) (by rw [j2]; exact v5.1) (by rw [j1, w.2]; exact v3.2) (by rw [j2]; exact v5.2) ll ll2 ?_
  rw [j1, j2]
  have := k _ (fB_trans (fB_trans f2 f3 (Int.le_refl _) (by omega)) (fB_trans (fB_up (r := 303) (i := m) (by omega)) (fB_up (r := 304) (i := m) (by omega)) (Int.le_refl _) (Int.le_refl _)) (Int.le_refl _) (Int.le_refl _)) (fun q => by cases q) (fun _ => ⟨(am_up_ne (by omega)).trans (am_up_at _ _ _ (op2 t (ev η β b a) (ev η β b e))), am_up_at _ _ _ ((lk η β b a ||| lk η β b e : Nat) : Int)⟩)
  rw [show i + ly a + ly e + 1 = i + ly (xB t a e) by simp only [ly]; omega]
  exact this
theorem rp_ite (hz : okz z c) (he : eok l η β b) (g a e : Ex) (hw : ws l g true) (hw2 : ws l a false) (hw3 : ws l e false) (ih : rp d Q z c l η β b g true) (ih2 : rp d Q z c l η β b a false) (ih3 : rp d Q z c l η β b e false) : rp d Q z c l η β b (xI g a e) false := by
  intro n m i h hc i0 i1 n0 n1 m0 m1 hce k
  simp only [rat, ly] at hc i1 n1 m1
  have ll := lk_lt he g _ hw
  have ll2 := lk_lt he a _ hw2
  have ll3 := lk_lt he e _ hw3
  have ps := lx_pos g _ hw
  have ps2 := lx_pos a _ hw2
  have ps3 := lx_pos e _ hw3
  refine ih n m i h hc.1 i0 (by omega) n0 (by omega) m0 (by omega) hce (fun h2 f2 _ v2 => ?_)
  have v3 := v2 rfl
  have e4 : h2 297 = h 297 := f2.1 _ (by omega)
  rw [if_pos rfl, if_pos rfl]
  refine ih2 n (m + 1) (i + ly g) h2 (by rw [e4]; exact hc.2.1) (by omega) (by omega) n0 (by omega) (by omega) (by omega) (p8_fB hce f2) (fun h3 f3 v4 _ => ?_)
  have v5 := v4 rfl
  have e5 : h3 297 = h 297 := (f3.1 _ (by omega)).trans e4
  have w := f3.2.2 m (by omega)
  rw [if_neg (by decide), if_neg (by decide)]
  refine ih3 (n + 1) (m + 1) (i + ly g + ly a) h3 (by rw [e5]; exact hc.2.2.1) (by omega) (by omega) (by omega) (by omega) (by omega) (by omega) (p8_fB (p8_fB hce f2) f3) (fun h4 f4 v6 _ => ?_)
  have v7 := v6 rfl
  have e6 : h4 297 = h 297 := (f4.1 _ (by omega)).trans e5
  have w2 := f4.2.2 m (by omega)
  have w3 := f4.2.1 n (by omega)
  rw [if_neg (by decide), if_neg (by decide)]
  have j1 : n + 1 + 1 - 2 = n := by omega
  have j2 : n + 1 + 1 - 1 = n + 1 := by omega
  have j3 : m + 1 - 1 = m := by omega
  refine sr_sel (x := ev η β b g) (a := ev η β b a) (f := ev η β b e) (q := lk η β b g) (r := lk η β b a) (s := lk η β b e) hz (by omega) (by omega) (by omega) (by rw [e6]; exact hc.2.2.2) (by rw [j3, w2.1, w.1]; exact v3.1) (by rw [j3, w2.2, w.2]; exact v3.2) (by rw [j1, w3.1]; exact v5.1) (by rw [j2]; exact v7.1) (by rw [j1, w3.2]; exact v5.2) (by rw [j2]; exact v7.2) ll ll2 ll3 (fun h5 f5 v8 q8 => ?_)
  rw [j1] at v8 q8
  rw [j1, j3] at f5
  rw [j2, j3]
  have := k h5 (fB_trans (fB_trans f2 (fB_trans f3 f4 (by omega) (Int.le_refl _)) (Int.le_refl _) (by omega)) f5 (Int.le_refl _) (Int.le_refl _)) (fun _ => ⟨v8, q8⟩) (fun q => by cases q)
  rw [show i + ly g + ly a + ly e + 1 = i + ly (xI g a e) by simp only [ly]; omega]
  exact this
theorem rp_all (hz : okz z c) (he : eok false η β b) : ∀ e s, ws false e s → pln e = true → rp d Q z c false η β b e s :=
  ex_ind (fun v h0 h1 _ => rp_num hz v) (fun k q p => rp_var hz k (by rw [pln_V q, decide_eq_true_eq] at p; exact p)) (fun t a ht w ih p => by
      rw [pln_U, Bool.and_eq_true] at p
      have t7 : t = 7 := by
        rcases ht with q | q
        · exact q
        · subst q; exact absurd p.2 (by decide)
      subst t7
      exact rp_neg hz he a w (ih p.1)) (fun a w ih p => by
      rw [pln_U, Bool.and_eq_true] at p
      exact rp_not hz he a w (ih p.1))
    (fun t a e t0 t1 w w2 i i2 p => by
      rw [pln_B, Bool.and_eq_true] at p
      exact rp_two hz he t a e ⟨t0, t1⟩ w w2 (i p.1) (i2 p.2)) (fun t a e t0 t1 w w2 i i2 p => by
      rw [pln_B, Bool.and_eq_true] at p
      exact rp_cmp hz he t a e ⟨t0, t1⟩ w w2 (i p.1) (i2 p.2))
    (fun t a e ht w w2 i i2 p => by
      rw [pln_B, Bool.and_eq_true] at p
      exact rp_join hz he t a e ht w w2 (i p.1) (i2 p.2)) (fun g a e w w2 w3 i i2 i3 p => by
      rw [pln_I, Bool.and_eq_true, Bool.and_eq_true] at p
      exact rp_ite hz he g a e w w2 w3 (i p.1) (i2 p.2.1) (i3 p.2.2))
/-- a plain SUM, worked by the reference -/
theorem c_X7_sumPlain {h : am_H} {t c i : Int} {e : Ex} (t0 : 0 ≤ t ∧ t ≤ 3) (c0 : 0 ≤ c ∧ c < 24) (i0 : 0 ≤ i ∧ i ≤ 2) (r : rsum h t (825 * t + 1 + 9 * c + (3 + 2 * i)) e) (hw : ws false e false) (p : pln e = true) (he : eok false η β b) (h8 : h 300 8 = η 8)
    (k : ∀ h2, fB h h2 0 0 → Q (ev η β b e) h2) : cf (d + 3) M_X7_sumOf [.inr (.inr 294), .inl t, .inl c, .inl i] h Q := by
  obtain ⟨r1, r2, r3, r4⟩ := r
  refine cf_of pX7 (Nat.le_of_ble_eq_true rfl) rfl (fun _ => B_X7_sumOf_0 (c_X7_clauseAt t0 (by omega) ?_))
  rw [w32e (z := 825 * t + 1 + 9 * c + 3) (by omega) (by omega), w32e (z := 2 * i) (by omega) (by omega), show 825 * t + 1 + 9 * c + 3 + 2 * i = 825 * t + 1 + 9 * c + (3 + 2 * i) by omega, w32e (z := 825 * t + 1 + 9 * c + (3 + 2 * i)) (by omega) (by omega), w32e (z := 825 * t + 1 + 9 * c + (3 + 2 * i) + 1) (by omega) (by omega), r2]
  refine ⟨by omega, by omega, by omega, by omega, cf_of pX7 (Nat.le_of_ble_eq_true rfl) rfl (fun _ => B_X7_work_0 ?_)⟩
  rw [w32e (z := 825 * t) (by omega) (by omega), w32e (z := 825 * t + 217) (by omega) (by omega)]
  generalize hx : h 297 (825 * t + 1 + 9 * c + (3 + 2 * i)) = x at r1 r3 r4 ⊢
  refine rp_all (z := x + ly e) (c := 825 * t + 217) (by unfold okz; omega) he e false hw p 0 0 x h r1 r3 (Int.le_refl _) (by omega) (by omega) (by omega) (by omega) h8 (fun h2 f2 v2 w2 => ?_)
  have v := v2 rfl
  have q := k h2 f2
  rw [← v.1] at q
  exact B_X7_work_20 ⟨fun _ => q, fun q => by omega⟩
end PLAIN
