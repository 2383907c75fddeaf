section WORK2
variable {d : Nat} {Q : Int → am_H → Prop} {l : Bool} {η β : Int → Int} {b : Int} {z c : Int}
/-- where the steps lie -/
def okz (z c : Int) : Prop := 0 ≤ c ∧ c ≤ 2692 ∧ z ≤ 304
theorem sr_num {h : am_H} {n m i v : Int} (hz : okz z c) (i0 : 0 ≤ i ∧ i < z) (n0 : 0 ≤ n ∧ n < 330) (h0 : h 297 (c + 2 * i) = 0) (h1 : h 297 (c + 2 * i + 1) = v) (k : wR d Q z c (n + 1) m (i + 1) (am_up (am_up h 301 n v) 302 n 0)) : wR d Q z c n m i h := by
  unfold okz at hz
  refine B_X7_work_20 ⟨fun q => by omega, fun _ => ?_⟩
  rw [w32e (z := 2 * i) (by omega) (by omega), w32e (z := c + 2 * i) (by omega) (by omega), w32e (z := c + 2 * i + 1) (by omega) (by omega), h0, h1]
  refine ⟨by omega, by omega, by omega, by omega, fun q => by omega, fun _ => ⟨fun q => absurd rfl q, fun _ => B_X7_work_87 ⟨n0.1, n0.2, n0.1, n0.2, ?_⟩⟩⟩
  rw [w32e (z := n + 1) (by omega) (by omega)]
  exact wR_next (by omega) k
theorem sr_var {h : am_H} {n m i v : Int} (hz : okz z c) (i0 : 0 ≤ i ∧ i < z) (n0 : 0 ≤ n ∧ n < 330) (h0 : h 297 (c + 2 * i) = 1) (h1 : h 297 (c + 2 * i + 1) = v) (v0 : 0 ≤ v ∧ v < 13) (k : wR d Q z c (n + 1) m (i + 1) (am_up (am_up h 301 n (h 300 v)) 302 n 0)) : wR d Q z c n m i h := by
  unfold okz at hz
  refine B_X7_work_20 ⟨fun q => by omega, fun _ => ?_⟩
  rw [w32e (z := 2 * i) (by omega) (by omega), w32e (z := c + 2 * i) (by omega) (by omega), w32e (z := c + 2 * i + 1) (by omega) (by omega), h0, h1]
  refine ⟨by omega, by omega, by omega, by omega, fun q => by omega, fun _ => ⟨fun _ => ⟨v0.1, v0.2, B_X7_work_87 ⟨n0.1, n0.2, n0.1, n0.2, ?_⟩⟩, fun q => by omega⟩⟩
  rw [w32e (z := n + 1) (by omega) (by omega)]
  exact wR_next (by omega) k
theorem sr_one {h : am_H} {n m i t v : Int} {q : Nat} (he : eok l η β b) (hc : rce l h η β b) (hz : okz z c) (i0 : 0 ≤ i ∧ i < z) (n0 : 1 ≤ n ∧ n ≤ 330) (ht : t = 7 ∨ t = 9) (h0 : h 297 (c + 2 * i) = o1r t) (e1 : h 301 (n - 1) = v) (hv : -20000000 ≤ v ∧ v ≤ 20000000) (e2 : h 302 (n - 1) = (q : Int)) (hq : q < 2 ^ 40)
    (k : ∀ h2, (∀ m, fB h h2 (n - 1) m) → h2 301 (n - 1) = un1 η β b t v → h2 302 (n - 1) = ((q ||| pl1 η b t v : Nat) : Int) → wR d Q z c n m (i + 1) h2) : wR d Q z c n m i h := by
  unfold okz at hz
  have o1 : o1r t = 5 ∨ o1r t = 2 := by rcases ht with rfl | rfl <;> decide
  refine B_X7_work_20 ⟨fun q => by omega, fun _ => ?_⟩
  rw [w32e (z := 2 * i) (by omega) (by omega), w32e (z := c + 2 * i) (by omega) (by omega), w32e (z := c + 2 * i + 1) (by omega) (by omega), h0]
  refine ⟨by omega, by omega, by omega, by omega, fun _ => ⟨fun _ => ⟨fun q => by omega, fun _ => ?_⟩, fun q => by omega⟩, fun q => by omega⟩
  rw [w32e (z := n - 1) (by omega) (by omega)]
  exact c_X7_ofOne he hc ht (by omega) e1 hv e2 hq (fun h2 f2 v2 q2 => wR_next (by omega) (k h2 f2 v2 q2))
theorem sr_two {h : am_H} {n m i t x y : Int} {q r : Nat} (hz : okz z c) (i0 : 0 ≤ i ∧ i < z) (n0 : 2 ≤ n ∧ n ≤ 330) (ht : 10 ≤ t ∧ t ≤ 13) (h0 : h 297 (c + 2 * i) = o2r t) (e1 : h 301 (n - 2) = x) (e2 : h 301 (n - 1) = y) (hx : -20000000 ≤ x ∧ x ≤ 20000000) (hy : -20000000 ≤ y ∧ y ≤ 20000000) (e3 : h 302 (n - 2) = (q : Int)) (e4 : h 302 (n - 1) = (r : Int)) (hq : q < 2 ^ 40) (hr : r < 2 ^ 40)
    (k : wR d Q z c (n - 1) m (i + 1) (am_up (am_up h 301 (n - 2) (op2 t x y)) 302 (n - 2) ((q ||| r : Nat) : Int))) : wR d Q z c n m i h := by
  unfold okz at hz
  have o1 : o2r t = t - 4 := by unfold o2r; rw [if_pos (by omega)]
  rw [o1] at h0
  refine B_X7_work_20 ⟨fun q => by omega, fun _ => ?_⟩
  rw [w32e (z := 2 * i) (by omega) (by omega), w32e (z := c + 2 * i) (by omega) (by omega), w32e (z := c + 2 * i + 1) (by omega) (by omega), h0]
  refine ⟨by omega, by omega, by omega, by omega, fun _ => ⟨fun _ => ⟨fun _ => ⟨fun q => by omega, fun _ => ?_⟩, fun q => by omega⟩, fun q => by omega⟩, fun q => by omega⟩
  rw [w32e (z := n + -1) (by omega) (by omega), w32e (z := n + -1 - 1) (by omega) (by omega), show n + -1 - 1 = n - 2 by omega, show n + -1 = n - 1 by omega]
  refine ⟨by omega, by omega, by omega, by omega, ?_⟩
  rw [e1, e2]
  refine c_X7_two ht hx hy ?_
  rw [e3, e4, lor_n (by omega) (by omega)]
  exact wR_next (by omega) k
theorem sr_cmp {h : am_H} {n m i t x y : Int} {q r : Nat} (hz : okz z c) (i0 : 0 ≤ i ∧ i < z) (n0 : 2 ≤ n ∧ n ≤ 330) (m0 : 0 ≤ m ∧ m < 330) (ht : 14 ≤ t ∧ t ≤ 19) (h0 : h 297 (c + 2 * i) = o2r t) (e1 : h 301 (n - 2) = x) (e2 : h 301 (n - 1) = y) (e3 : h 302 (n - 2) = (q : Int)) (e4 : h 302 (n - 1) = (r : Int)) (hq : q < 2 ^ 40) (hr : r < 2 ^ 40)
    (k : wR d Q z c (n - 2) (m + 1) (i + 1) (am_up (am_up h 303 m (op2 t x y)) 304 m ((q ||| r : Nat) : Int))) : wR d Q z c n m i h := by
  unfold okz at hz
  have o1 : o2r t = t - 4 := by unfold o2r; rw [if_pos (by omega)]
  have ec : op2 t x y = cmp2 t x y := op2_c (by omega)
  have e01 := cmp2_01 t x y
  rw [o1] at h0
  refine B_X7_work_20 ⟨fun q => by omega, fun _ => ?_⟩
  rw [w32e (z := 2 * i) (by omega) (by omega), w32e (z := c + 2 * i) (by omega) (by omega), w32e (z := c + 2 * i + 1) (by omega) (by omega), h0]
  refine ⟨by omega, by omega, by omega, by omega, fun _ => ⟨fun _ => ⟨fun _ => ⟨fun _ => ⟨fun q => by omega, fun _ => ?_⟩, fun q => by omega⟩, fun q => by omega⟩, fun q => by omega⟩, fun q => by omega⟩
  rw [w32e (z := n + -2) (by omega) (by omega), w32e (z := n + -2 + 1) (by omega) (by omega), show n + -2 + 1 = n - 1 by omega, show n + -2 = n - 2 by omega]
  refine ⟨by omega, by omega, by omega, by omega, ?_⟩
  rw [e1, e2]
  refine c_X7_isAsked ht ⟨m0.1, m0.2, e01, ?_⟩
  rw [e3, e4, lor_n (by omega) (by omega), w32e (z := m + 1) (by omega) (by omega), ← ec]
  exact wR_next (by omega) k
theorem sr_join {h : am_H} {n m i t x y : Int} {q r : Nat} (hz : okz z c) (i0 : 0 ≤ i ∧ i < z) (m0 : 2 ≤ m ∧ m ≤ 330) (ht : t = 20 ∨ t = 21) (h0 : h 297 (c + 2 * i) = o2r t) (e1 : h 303 (m - 2) = x) (e2 : h 303 (m - 1) = y) (e3 : h 304 (m - 2) = (q : Int)) (e4 : h 304 (m - 1) = (r : Int)) (hq : q < 2 ^ 40) (hr : r < 2 ^ 40)
    (k : wR d Q z c n (m - 1) (i + 1) (am_up (am_up h 303 (m - 2) (op2 t x y)) 304 (m - 2) ((q ||| r : Nat) : Int))) : wR d Q z c n m i h := by
  unfold okz at hz
  have o1 : o2r t = t + 1 := by unfold o2r; rw [if_neg (by omega)]
  have e01 : op2 t x y = 0 ∨ op2 t x y = 1 := by
    unfold op2
    rcases ht with rfl | rfl
    · rw [if_neg (by decide), if_neg (by decide), if_neg (by decide), if_neg (by decide), if_pos rfl]
      split <;> omega
    · rw [if_neg (by decide), if_neg (by decide), if_neg (by decide), if_neg (by decide), if_neg (by decide), if_pos rfl]
      split <;> omega
  rw [o1] at h0
  refine B_X7_work_20 ⟨fun q => by omega, fun _ => ?_⟩
  rw [w32e (z := 2 * i) (by omega) (by omega), w32e (z := c + 2 * i) (by omega) (by omega), w32e (z := c + 2 * i + 1) (by omega) (by omega), h0]
  refine ⟨by omega, by omega, by omega, by omega, fun _ => ⟨fun _ => ⟨fun _ => ⟨fun _ => ⟨fun _ => ⟨fun _ => ?_, fun q => by omega⟩, fun q => by omega⟩, fun q => by omega⟩, fun q => by omega⟩, fun q => by omega⟩, fun q => by omega⟩
  rw [w32e (z := m + -1) (by omega) (by omega), w32e (z := m + -1 - 1) (by omega) (by omega), show m + -1 - 1 = m - 2 by omega, show m + -1 = m - 1 by omega]
  refine ⟨by omega, by omega, by omega, by omega, ?_⟩
  rw [e1, e2]
  refine c_X7_joined ht ⟨e01, ?_⟩
  rw [e3, e4, lor_n (by omega) (by omega)]
  exact wR_next (by omega) k
theorem sr_not {h : am_H} {n m i x : Int} (hz : okz z c) (i0 : 0 ≤ i ∧ i < z) (m0 : 1 ≤ m ∧ m ≤ 330) (h0 : h 297 (c + 2 * i) = 20) (e1 : h 303 (m - 1) = x)
    (k : wR d Q z c n m (i + 1) (am_up h 303 (m - 1) (if x = 0 then 1 else 0))) : wR d Q z c n m i h := by
  unfold okz at hz
  refine B_X7_work_20 ⟨fun q => by omega, fun _ => ?_⟩
  rw [w32e (z := 2 * i) (by omega) (by omega), w32e (z := c + 2 * i) (by omega) (by omega), w32e (z := c + 2 * i + 1) (by omega) (by omega), h0]
  refine ⟨by omega, by omega, by omega, by omega, fun _ => ⟨fun _ => ⟨fun _ => ⟨fun _ => ⟨fun _ => ⟨fun q => absurd rfl q, fun _ => ?_⟩, fun q => by omega⟩, fun q => by omega⟩, fun q => by omega⟩, fun q => by omega⟩, fun q => by omega⟩
  rw [w32e (z := m - 1) (by omega) (by omega), e1]
  refine ⟨by omega, by omega, fun q => B_X7_work_370 ⟨by omega, by omega, Or.inl rfl, wR_next (by omega) ?_⟩, fun q => B_X7_work_370 ⟨by omega, by omega, Or.inr rfl, wR_next (by omega) ?_⟩⟩
  · rw [if_neg q] at k; exact k
  · rw [if_pos q] at k; exact k
theorem sr_sel {h : am_H} {n m i x a f : Int} {q r s : Nat} (hz : okz z c) (i0 : 0 ≤ i ∧ i < z) (n0 : 2 ≤ n ∧ n ≤ 330) (m0 : 1 ≤ m ∧ m ≤ 330) (h0 : h 297 (c + 2 * i) = 3) (e1 : h 303 (m - 1) = x) (e2 : h 304 (m - 1) = (q : Int)) (e3 : h 301 (n - 2) = a) (e4 : h 301 (n - 1) = f) (e5 : h 302 (n - 2) = (r : Int)) (e6 : h 302 (n - 1) = (s : Int)) (hq : q < 2 ^ 40) (hr : r < 2 ^ 40) (hs : s < 2 ^ 40)
    (k : ∀ h2, fB h h2 (n - 2) (m - 1) → h2 301 (n - 2) = (if x = 0 then f else a) → h2 302 (n - 2) = ((q ||| (if x = 0 then s else r) : Nat) : Int) → wR d Q z c (n - 1) (m - 1) (i + 1) h2) : wR d Q z c n m i h := by
  unfold okz at hz
  refine B_X7_work_20 ⟨fun q => by omega, fun _ => ?_⟩
  rw [w32e (z := 2 * i) (by omega) (by omega), w32e (z := c + 2 * i) (by omega) (by omega), w32e (z := c + 2 * i + 1) (by omega) (by omega), h0]
  refine ⟨by omega, by omega, by omega, by omega, fun _ => ⟨fun q => absurd rfl q, fun _ => ?_⟩, fun q => by omega⟩
  rw [w32e (z := m + -1) (by omega) (by omega), w32e (z := n + -1) (by omega) (by omega), w32e (z := n + -1 - 1) (by omega) (by omega), show n + -1 - 1 = n - 2 by omega, show n + -1 = n - 1 by omega, show m + -1 = m - 1 by omega, e1]
  refine ⟨by omega, by omega, fun x0 => ?_, fun x0 => ⟨by omega, by omega, by omega, by omega, ?_⟩⟩
  · rw [if_neg x0, if_neg x0] at k
    refine B_X7_work_140 ⟨by omega, by omega, fun q => by rw [e1] at q; exact absurd q x0, fun _ => ?_⟩
    rw [w32e (z := n - 1 - 1) (by omega) (by omega), show n - 1 - 1 = n - 2 by omega]
    refine ⟨by omega, by omega, B_X7_work_184 ⟨by omega, by omega, ?_⟩⟩
    rw [e5, e2, lor_n (by omega) (by omega)]
    refine wR_next (by omega) (k _ (fB_up (by omega)) ?_ (by rw [am_up_at]))
    rw [am_up_ne (by omega), e3]
  · rw [if_pos x0, if_pos x0] at k
    refine B_X7_work_140 ⟨by omega, by omega, fun _ => ⟨by omega, by omega, ?_⟩, fun q => absurd ((am_up_ne (by omega)).trans (e1.trans x0)) q⟩
    rw [w32e (z := n - 1 - 1) (by omega) (by omega), show n - 1 - 1 = n - 2 by omega]
    refine B_X7_work_184 ⟨by omega, by omega, ?_⟩
    rw [am_up_ne (by omega), am_up_ne (by omega), e6, e2, lor_n (by omega) (by omega)]
    refine wR_next (by omega) (k _ (fB_trans (fB_up (by omega)) (fB_up (by omega)) (Int.le_refl _) (Int.le_refl _)) ?_ (by rw [am_up_at]))
    rw [am_up_ne (by omega), am_up_at, e4]
/-- a tree's steps, worked: a SUM comes to the values, an EITHER to the truths -/
def rr (d : Nat) (Q : Int → am_H → Prop) (z c : Int) (l : Bool) (η β : Int → Int) (b : Int) (e : Ex) (s : Bool) : Prop :=
  ∀ (n m i : Int) (h : am_H), rat (h 297) c i e → 0 ≤ i → i + ly e ≤ z → 0 ≤ n → n + ly e ≤ 330 → 0 ≤ m → m + ly e ≤ 330 → rce l h η β b →
    (∀ h2, fB h h2 n m → (s = false → h2 301 n = ev η β b e ∧ h2 302 n = ((lk η β b e : Nat) : Int)) → (s = true → h2 303 m = ev η β b e ∧ h2 304 m = ((lk η β b e : Nat) : Int)) → wR d Q z c (if s = true then n else n + 1) (if s = true then m + 1 else m) (i + ly e) h2) → wR d Q z c n m i h
theorem rr_num (hz : okz z c) (v : Int) : rr d Q z c l η β b (xN v) false := by
  intro n m i h hc i0 i1 n0 n1 m0 m1 hce k
  simp only [rat, ly] at hc i1 n1
  refine sr_num hz (by omega) (by omega) hc.1 hc.2 ?_
  have := k _ (fB_trans (fB_up (by omega)) (fB_up (r := 302) (i := n) (v := 0) (by omega)) (Int.le_refl _) (Int.le_refl _)) (fun _ => ⟨(am_up_ne (by omega)).trans (am_up_at _ _ _ v), am_up_at _ _ _ _⟩) (fun q => by cases q)
  exact this
theorem rr_var (hz : okz z c) (k : Nat) (ha : al l k) : rr d Q z c l η β b (xV k) false := by
  intro n m i h hc i0 i1 n0 n1 m0 m1 hce kk
  simp only [rat, ly] at hc i1 n1
  have k12 := ha.1
  refine sr_var hz (by omega) (by omega) hc.1 hc.2 (by omega) ?_
  rw [hce.2.2.1 k ha]
  have := kk _ (fB_trans (fB_up (by omega)) (fB_up (r := 302) (i := n) (v := 0) (by omega)) (Int.le_refl _) (Int.le_refl _)) (fun _ => ⟨(am_up_ne (by omega)).trans (am_up_at _ _ _ (η k)), am_up_at _ _ _ _⟩) (fun q => by cases q)
  exact this
theorem rr_one (hz : okz z c) (he : eok l η β b) (t : Int) (a : Ex) (ht : t = 7 ∨ t = 9) (hw : ws l a false) (ih : rr d Q z c l η β b a false) : rr d Q z c l η β b (xU t a) false := by
  intro n m i h hc i0 i1 n0 n1 m0 m1 hce k
  simp only [rat, ly] at hc i1 n1 m1
  have bd := (ev_bd he a _ hw).1
  have ll := lk_lt he a _ hw
  have ps := lx_pos a _ hw
  refine ih n m i h hc.1 i0 (by omega) n0 (by omega) m0 (by omega) hce (fun h2 f2 v2 _ => ?_)
  have v3 := v2 rfl
  have e4 : h2 297 = h 297 := f2.1 _ (by omega)
  rw [if_neg (by decide), if_neg (by decide)]
  have j1 : n + 1 - 1 = n := by omega
  refine sr_one (t := t) (v := ev η β b a) (q := lk η β b a) he (rce_fB hce f2) hz (by omega) (by omega) ht (by rw [e4]; exact hc.2) (by rw [j1]; exact v3.1) (by omega) (by rw [j1]; exact v3.2) ll (fun h3 f3 w3 q3 => ?_)
  rw [j1] at f3 w3 q3
  have := k h3 (fB_trans f2 (f3 m) (Int.le_refl _) (Int.le_refl _)) (fun _ => ⟨w3, q3⟩) (fun q => by cases q)
  rw [show i + ly a + 1 = i + ly (xU t a) by simp only [ly]; omega]
  exact this
theorem rr_not (hz : okz z c) (he : eok l η β b) (a : Ex) (hw : ws l a true) (ih : rr d Q z c l η β b a true) : rr d Q z c l η β b (xU 8 a) true := by
  intro n m i h hc i0 i1 n0 n1 m0 m1 hce k
  simp only [rat, ly] at hc i1 n1 m1
  have ps := lx_pos a _ hw
  refine ih n m i h hc.1 i0 (by omega) n0 (by omega) m0 (by omega) hce (fun h2 f2 _ v2 => ?_)
  have v3 := v2 rfl
  have e4 : h2 297 = h 297 := f2.1 _ (by omega)
  rw [if_pos rfl, if_pos rfl]
  have j1 : m + 1 - 1 = m := by omega
  refine sr_not (x := ev η β b a) hz (by omega) (by omega) (by rw [e4]; exact hc.2) (by rw [j1]; exact v3.1) ?_
  rw [j1]
  have := k _ (fB_trans f2 (fB_up (r := 303) (i := m) (v := if ev η β b a = 0 then 1 else 0) (by omega)) (Int.le_refl _) (Int.le_refl _)) (fun q => by cases q) (fun _ => ⟨am_up_at _ _ _ _, by rw [am_up_ne (by omega), v3.2]; simp [lk, pl1]⟩)
  rw [show i + ly a + 1 = i + ly (xU 8 a) by simp only [ly]; omega]
  exact this
theorem rr_two (hz : okz z c) (he : eok l η β b) (t : Int) (a e : Ex) (ht : 10 ≤ t ∧ t ≤ 13) (hw : ws l a false) (hw2 : ws l e false) (ih : rr d Q z c l η β b a false) (ih2 : rr d Q z c l η β b e false) : rr d Q z c l η β b (xB t a e) false := by
  intro n m i h hc i0 i1 n0 n1 m0 m1 hce k
  simp only [rat, ly] at hc i1 n1 m1
  have bd := (ev_bd he a _ hw).1
  have bd2 := (ev_bd he e _ hw2).1
  have ll := lk_lt he a _ hw
  have ll2 := lk_lt he e _ hw2
  have ps := lx_pos a _ hw
  have ps2 := lx_pos e _ hw2
  refine ih n m i h hc.1 i0 (by omega) n0 (by omega) m0 (by omega) hce (fun h2 f2 v2 _ => ?_)
  have v3 := v2 rfl
  have e4 : h2 297 = h 297 := f2.1 _ (by omega)
  rw [if_neg (by decide), if_neg (by decide)]
  refine ih2 (n + 1) m (i + ly a) h2 (by rw [e4]; exact hc.2.1) (by omega) (by omega) (by omega) (by omega) m0 (by omega) (rce_fB hce f2) (fun h3 f3 v4 _ => ?_)
  have v5 := v4 rfl
  have e5 : h3 297 = h 297 := (f3.1 _ (by omega)).trans e4
  have w := f3.2.1 n (by omega)
  rw [if_neg (by decide), if_neg (by decide)]
  have j1 : n + 1 + 1 - 2 = n := by omega
  have j2 : n + 1 + 1 - 1 = n + 1 := by omega
  refine sr_two (t := t) (x := ev η β b a) (y := ev η β b e) (q := lk η β b a) (r := lk η β b e) hz (by omega) (by omega) ht (by rw [e5]; exact hc.2.2) (by rw [j1, w.1]; exact v3.1) (by rw [j2]; exact v5.1) (by omega) (by omega) (by rw [j1, w.2]; exact v3.2) (by rw [j2]; exact v5.2) ll ll2 ?_
  rw [j1, j2]
  have := k _ (fB_trans (fB_trans f2 f3 (by omega) (Int.le_refl _)) (fB_trans (fB_up (r := 301) (i := n) (by omega)) (fB_up (r := 302) (i := n) (by omega)) (Int.le_refl _) (Int.le_refl _)) (Int.le_refl _) (Int.le_refl _)) (fun _ => ⟨(am_up_ne (by omega)).trans (am_up_at _ _ _ (op2 t (ev η β b a) (ev η β b e))), am_up_at _ _ _ ((lk η β b a ||| lk η β b e : Nat) : Int)⟩) (fun q => by cases q)
  rw [show i + ly a + ly e + 1 = i + ly (xB t a e) by simp only [ly]; omega]
  exact this
theorem rr_cmp (hz : okz z c) (he : eok l η β b) (t : Int) (a e : Ex) (ht : 14 ≤ t ∧ t ≤ 19) (hw : ws l a false) (hw2 : ws l e false) (ih : rr d Q z c l η β b a false) (ih2 : rr d Q z c l η β b e false) : rr d Q z c l η β b (xB t a e) true := by
  intro n m i h hc i0 i1 n0 n1 m0 m1 hce k
  simp only [rat, ly] at hc i1 n1 m1
  have ll := lk_lt he a _ hw
  have ll2 := lk_lt he e _ hw2
  have ps := lx_pos a _ hw
  have ps2 := lx_pos e _ hw2
  refine ih n m i h hc.1 i0 (by omega) n0 (by omega) m0 (by omega) hce (fun h2 f2 v2 _ => ?_)
  have v3 := v2 rfl
  have e4 : h2 297 = h 297 := f2.1 _ (by omega)
  rw [if_neg (by decide), if_neg (by decide)]
  refine ih2 (n + 1) m (i + ly a) h2 (by rw [e4]; exact hc.2.1) (by omega) (by omega) (by omega) (by omega) m0 (by omega) (rce_fB hce f2) (fun h3 f3 v4 _ => ?_)
  have v5 := v4 rfl
  have e5 : h3 297 = h 297 := (f3.1 _ (by omega)).trans e4
  have w := f3.2.1 n (by omega)
  rw [if_neg (by decide), if_neg (by decide)]
  have j1 : n + 1 + 1 - 2 = n := by omega
  have j2 : n + 1 + 1 - 1 = n + 1 := by omega
  refine sr_cmp (t := t) (x := ev η β b a) (y := ev η β b e) (q := lk η β b a) (r := lk η β b e) hz (by omega) (by omega) (by omega) ht (by rw [e5]; exact hc.2.2) (by rw [j1, w.1]; exact v3.1) (by rw [j2]; exact v5.1) (by rw [j1, w.2]; exact v3.2) (by rw [j2]; exact v5.2) ll ll2 ?_
  rw [j1]
  have := k _ (fB_trans (fB_trans f2 f3 (by omega) (Int.le_refl _)) (fB_trans (fB_up (r := 303) (i := m) (by omega)) (fB_up (r := 304) (i := m) (by omega)) (Int.le_refl _) (Int.le_refl _)) (Int.le_refl _) (Int.le_refl _)) (fun q => by cases q) (fun _ => ⟨(am_up_ne (by omega)).trans (am_up_at _ _ _ (op2 t (ev η β b a) (ev η β b e))), am_up_at _ _ _ ((lk η β b a ||| lk η β b e : Nat) : Int)⟩)
  rw [show i + ly a + ly e + 1 = i + ly (xB t a e) by simp only [ly]; omega]
  exact this
theorem rr_join (hz : okz z c) (he : eok l η β b) (t : Int) (a e : Ex) (ht : t = 20 ∨ t = 21) (hw : ws l a true) (hw2 : ws l e true) (ih : rr d Q z c l η β b a true) (ih2 : rr d Q z c l η β b e true) : rr d Q z c l η β b (xB t a e) true := by
  intro n m i h hc i0 i1 n0 n1 m0 m1 hce k
  simp only [rat, ly] at hc i1 n1 m1
  have ll := lk_lt he a _ hw
  have ll2 := lk_lt he e _ hw2
  have ps := lx_pos a _ hw
  have ps2 := lx_pos e _ hw2
  refine ih n m i h hc.1 i0 (by omega) n0 (by omega) m0 (by omega) hce (fun h2 f2 _ v2 => ?_)
  have v3 := v2 rfl
  have e4 : h2 297 = h 297 := f2.1 _ (by omega)
  rw [if_pos rfl, if_pos rfl]
  refine ih2 n (m + 1) (i + ly a) h2 (by rw [e4]; exact hc.2.1) (by omega) (by omega) n0 (by omega) (by omega) (by omega) (rce_fB hce f2) (fun h3 f3 _ v4 => ?_)
  have v5 := v4 rfl
  have e5 : h3 297 = h 297 := (f3.1 _ (by omega)).trans e4
  have w := f3.2.2 m (by omega)
  rw [if_pos rfl, if_pos rfl]
  have j1 : m + 1 + 1 - 2 = m := by omega
  have j2 : m + 1 + 1 - 1 = m + 1 := by omega
  refine sr_join (t := t) (x := ev η β b a) (y := ev η β b e) (q := lk η β b a) (r := lk η β b e) hz (by omega) (by omega) ht (by rw [e5]; exact hc.2.2) (by rw [j1, w.1]; exact v3.1) (by rw [j2]; exact v5.1) (by rw [j1, w.2]; exact v3.2) (by rw [j2]; exact v5.2) ll ll2 ?_
  rw [j1, j2]
  have := k _ (fB_trans (fB_trans f2 f3 (Int.le_refl _) (by omega)) (fB_trans (fB_up (r := 303) (i := m) (by omega)) (fB_up (r := 304) (i := m) (by omega)) (Int.le_refl _) (Int.le_refl _)) (Int.le_refl _) (Int.le_refl _)) (fun q => by cases q) (fun _ => ⟨(am_up_ne (by omega)).trans (am_up_at _ _ _ (op2 t (ev η β b a) (ev η β b e))), am_up_at _ _ _ ((lk η β b a ||| lk η β b e : Nat) : Int)⟩)
  rw [show i + ly a + ly e + 1 = i + ly (xB t a e) by simp only [ly]; omega]
  exact this
theorem rr_ite (hz : okz z c) (he : eok l η β b) (g a e : Ex) (hw : ws l g true) (hw2 : ws l a false) (hw3 : ws l e false) (ih : rr d Q z c l η β b g true) (ih2 : rr d Q z c l η β b a false) (ih3 : rr d Q z c l η β b e false) : rr d Q z c l η β b (xI g a e) false := by
  intro n m i h hc i0 i1 n0 n1 m0 m1 hce k
  simp only [rat, ly] at hc i1 n1 m1
  have ll := lk_lt he g _ hw
  have ll2 := lk_lt he a _ hw2
  have ll3 := lk_lt he e _ hw3
  have ps := lx_pos g _ hw
  have ps2 := lx_pos a _ hw2
  have ps3 := lx_pos e _ hw3
  refine ih n m i h hc.1 i0 (by omega) n0 (by omega) m0 (by omega) hce (fun h2 f2 _ v2 => ?_)
  have v3 := v2 rfl
  have e4 : h2 297 = h 297 := f2.1 _ (by omega)
  rw [if_pos rfl, if_pos rfl]
  refine ih2 n (m + 1) (i + ly g) h2 (by rw [e4]; exact hc.2.1) (by omega) (by omega) n0 (by omega) (by omega) (by omega) (rce_fB hce f2) (fun h3 f3 v4 _ => ?_)
  have v5 := v4 rfl
  have e5 : h3 297 = h 297 := (f3.1 _ (by omega)).trans e4
  have w := f3.2.2 m (by omega)
  rw [if_neg (by decide), if_neg (by decide)]
  refine ih3 (n + 1) (m + 1) (i + ly g + ly a) h3 (by rw [e5]; exact hc.2.2.1) (by omega) (by omega) (by omega) (by omega) (by omega) (by omega) (rce_fB (rce_fB hce f2) f3) (fun h4 f4 v6 _ => ?_)
  have v7 := v6 rfl
  have e6 : h4 297 = h 297 := (f4.1 _ (by omega)).trans e5
  have w2 := f4.2.2 m (by omega)
  have w3 := f4.2.1 n (by omega)
  rw [if_neg (by decide), if_neg (by decide)]
  have j1 : n + 1 + 1 - 2 = n := by omega
  have j2 : n + 1 + 1 - 1 = n + 1 := by omega
  have j3 : m + 1 - 1 = m := by omega
  refine sr_sel (x := ev η β b g) (a := ev η β b a) (f := ev η β b e) (q := lk η β b g) (r := lk η β b a) (s := lk η β b e) hz (by omega) (by omega) (by omega) (by rw [e6]; exact hc.2.2.2) (by rw [j3, w2.1, w.1]; exact v3.1) (by rw [j3, w2.2, w.2]; exact v3.2) (by rw [j1, w3.1]; exact v5.1) (by rw [j2]; exact v7.1) (by rw [j1, w3.2]; exact v5.2) (by rw [j2]; exact v7.2) ll ll2 ll3 (fun h5 f5 v8 q8 => ?_)
  rw [j1] at v8 q8
  rw [j1, j3] at f5
  rw [j2, j3]
  have := k h5 (fB_trans (fB_trans f2 (fB_trans f3 f4 (by omega) (Int.le_refl _)) (Int.le_refl _) (by omega)) f5 (Int.le_refl _) (Int.le_refl _)) (fun _ => ⟨v8, q8⟩) (fun q => by cases q)
  rw [show i + ly g + ly a + ly e + 1 = i + ly (xI g a e) by simp only [ly]; omega]
  exact this
theorem rr_all (hz : okz z c) (he : eok l η β b) : ∀ e s, ws l e s → rr d Q z c l η β b e s :=
  ex_ind (fun v h0 h1 => rr_num hz v) (fun k q => rr_var hz k q) (fun t a ht w ih => rr_one hz he t a ht w ih) (fun a w ih => rr_not hz he a w ih)
    (fun t a e t0 t1 w w2 i i2 => rr_two hz he t a e ⟨t0, t1⟩ w w2 i i2) (fun t a e t0 t1 w w2 i i2 => rr_cmp hz he t a e ⟨t0, t1⟩ w w2 i i2)
    (fun t a e ht w w2 i i2 => rr_join hz he t a e ht w w2 i i2) (fun g a e w w2 w3 i i2 i3 => rr_ite hz he g a e w w2 w3 i i2 i3)
/-- the reference works a tree: a SUM is the first value, an EITHER the first truth -/
theorem c_X7_work {h : am_H} {e : Ex} {s : Bool} {t i : Int} (t0 : 0 ≤ t ∧ t ≤ 3) (he : eok l η β b) (hw : ws l e s) (hc : rat (h 297) (825 * t + 217) i e) (i0 : 0 ≤ i) (i1 : i + ly e ≤ 304) (hce : rce l h η β b)
    (k : ∀ h2, fB h h2 0 0 → (s = false → h2 301 0 = ev η β b e ∧ h2 302 0 = ((lk η β b e : Nat) : Int)) → (s = true → h2 303 0 = ev η β b e ∧ h2 304 0 = ((lk η β b e : Nat) : Int)) → Q 0 h2) : cf (d + 2) M_X7_work [.inr (.inr 294), .inl t, .inl i, .inl (i + ly e)] h Q := by
  refine cf_of pX7 (Nat.le_of_ble_eq_true rfl) rfl (fun _ => B_X7_work_0 ?_)
  rw [w32e (z := 825 * t) (by omega) (by omega), w32e (z := 825 * t + 217) (by omega) (by omega)]
  refine rr_all (z := i + ly e) (c := 825 * t + 217) (by unfold okz; omega) he e s hw 0 0 i h hc i0 (Int.le_refl _) (by omega) (by omega) (by omega) (by omega) hce (fun h2 f2 v2 w2 => ?_)
  exact B_X7_work_20 ⟨fun _ => k h2 f2 v2 w2, fun q => by omega⟩
end WORK2
