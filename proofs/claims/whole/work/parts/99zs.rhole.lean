/-! LEVEL 3, what waits on the pile: a tree with holes -/
theorem rat_congr {l : Bool} {κ κ2 : Int → Int} {c : Int} : ∀ e s, ws l e s → ∀ p : Int, rat κ c p e → (∀ q : Int, c + 2 * p ≤ q → q < c + 2 * (p + ly e) → κ2 q = κ q) → rat κ2 c p e := by
  refine ex_ind (fun v h0 h1 => ?_) (fun k q => ?_) (fun t a ht wa ih => ?_) (fun a wa ih => ?_) (fun t a c _ _ wa wc i1 i2 => ?_) (fun t a c h0 h1 wa wc i1 i2 => ?_) (fun t a c ht wa wc i1 i2 => ?_) (fun c a e wc wa we i1 i2 i3 => ?_) <;> intro p h f <;> simp only [ly] at f <;> simp only [rat] at h ⊢
  · rw [f _ (by omega) (by omega), f _ (by omega) (by omega)]; exact h
  · rw [f _ (by omega) (by omega), f _ (by omega) (by omega)]; exact h
  · exact ⟨ih p h.1 (fun q q0 q1 => f q q0 (by omega)), by rw [f _ (by omega) (by omega)]; exact h.2⟩
  · exact ⟨ih p h.1 (fun q q0 q1 => f q q0 (by omega)), by rw [f _ (by omega) (by omega)]; exact h.2⟩
  · exact ⟨i1 p h.1 (fun q q0 q1 => f q q0 (by omega)), i2 _ h.2.1 (fun q q0 q1 => f q (by omega) (by omega)), by rw [f _ (by omega) (by omega)]; exact h.2.2⟩
  · exact ⟨i1 p h.1 (fun q q0 q1 => f q q0 (by omega)), i2 _ h.2.1 (fun q q0 q1 => f q (by omega) (by omega)), by rw [f _ (by omega) (by omega)]; exact h.2.2⟩
  · exact ⟨i1 p h.1 (fun q q0 q1 => f q q0 (by omega)), i2 _ h.2.1 (fun q q0 q1 => f q (by omega) (by omega)), by rw [f _ (by omega) (by omega)]; exact h.2.2⟩
  · exact ⟨i1 p h.1 (fun q q0 q1 => f q q0 (by omega)), i2 _ h.2.1 (fun q q0 q1 => f q (by omega) (by omega)), i3 _ h.2.2.1 (fun q q0 q1 => f q (by omega) (by omega)), by rw [f _ (by omega) (by omega)]; exact h.2.2.2⟩
def tU (u : Int) : Int := if u = 5 then 7 else 9
/-- what is open around a ONE, the innermost first -/
def wrU : List Int → Ex → Ex
  | [], e => e
  | u :: us, e => wrU us (xU (tU u) e)
theorem rat_wr {κ : Int → Int} {c w : Int} : ∀ (us : List Int) (e : Ex), (∀ u, u ∈ us → u = 5 ∨ u = 2) → rat κ c w e → cds κ c (w + ly e) us → rat κ c w (wrU us e)
  | [], _, _, h, _ => h
  | u :: us, e, hu, h, d => by
    refine rat_wr us (xU (tU u) e) (fun x hx => hu x (List.mem_cons_of_mem _ hx)) ?_ ?_
    · simp only [rat]
      refine ⟨h, ?_⟩
      rw [d.1]
      rcases hu u List.mem_cons_self with rfl | rfl <;> decide
    · have := d.2
      simp only [ly]
      rw [show w + ((ly e + 1 : Nat) : Int) = w + ly e + 1 by omega]
      exact this
def hol (c w w2 : Int) (pend : List Int) (e : Ex) (κ : Int → Int) : Prop := w2 + pend.length = w + ly e ∧ ∀ κ2 : Int → Int, (∀ q : Int, q < c + 2 * w2 → κ2 q = κ q) → cds κ2 c w2 pend → rat κ2 c w e
def stopK (m k : Int) : Prop := (k ≠ 170 ∧ k ≠ 175) ∧ (m ≤ 5 → k ≠ 171 ∧ k ≠ 173) ∧ (m ≤ 2 → k ≠ 18) ∧ (m ≤ 1 → k ≠ 17)
/-- the state behind a tree, m the least that what waits binds -/
def pnd (g h : am_H) (K V P E : Nat → Int) (c m w w2 : Int) (i o : Nat) (σ pend : List Int) (e : Ex) : Prop := rS g h K V P E c i w2 (o + cntO pend) (pend ++ σ) true ∧ (∀ y, y ∈ pend → m ≤ rkO y ∧ rkO y < 7) ∧ hol c w w2 pend e (h 297) ∧ w ≤ w2 ∧ (m ≤ 4 → cpd (pend ++ σ) = true) ∧ (5 ≤ m → cntO pend = 0) ∧ (pend.length : Int) ≤ 7 - m + cntO pend ∧ o + cntO pend ≤ 8
section RHOLE
variable {D : Nat} {g h : am_H} {Q : Int → am_H → Prop} {K V P E : Nat → Int} {N : Nat} {c t : Int} {l s : Bool} {i o : Nat} {w w2 v1 m : Int} {σ pend : List Int} {a : Ex}
theorem pnd_nil (wa : ws l a s) (S : rS g h K V P E c i (w + ly a) o σ true) (ra : rat (h 297) c w a) (ho : o ≤ 8) : pnd g h K V P E c 7 w (w + ly a) i o σ [] a :=
  ⟨by simpa [cntO] using S, fun y hy => by simp at hy, ⟨by simp, fun κ2 f _ => rat_congr _ _ wa _ ra (fun q q0 q1 => f q q1)⟩, by omega, fun y => by omega, fun _ => rfl, by simp [cntO], by simpa [cntO] using ho⟩
theorem pnd_w {m2 : Int} (p : pnd g h K V P E c m w w2 i o σ pend a) (q : m2 ≤ m) (hc : m2 ≤ 4 → cpd (pend ++ σ) = true) (h0 : 5 ≤ m2 → cntO pend = 0) : pnd g h K V P E c m2 w w2 i o σ pend a := by
  obtain ⟨p1, p2, p3, p4, p5, p6, p7, p8⟩ := p
  exact ⟨p1, fun y hy => ⟨by have := (p2 y hy).1; omega, (p2 y hy).2⟩, p3, p4, hc, h0, by omega, p8⟩
theorem pnd_op {r m2 : Int} (H : rE g K V P E N c t l) (p : pnd g h K V P E c m w w2 i o σ pend a) (hi : i + 1 ≤ N) (hb : ∀ r2, btw (K i) (pend ++ σ) r2 → r2 = r) (r0 : 0 ≤ r) (hm : m2 = if rkO r = 4 then 5 else rkO r) (hmm : m2 ≤ m) (m1 : 1 ≤ m) (w0 : 0 ≤ w) (w1 : w + ly a ≤ 303) (len : σ.length ≤ 100) (ht : top σ (fun x => rkO x < m2))
    (k : ∀ h2, rS g h2 K V P E c (i + 1) (w + ly a) o (r :: σ) false → rat (h2 297) c w a → (∀ q : Int, q < c + 2 * w → h2 297 q = h 297 q) → wLp D Q v1 h2) : wLp D Q v1 h := by
  obtain ⟨p1, p2, p3, p4, p5, p6, p7, p8⟩ := p
  have e := p3.1
  refine wLp_op H p1 hi hb r0 hm (by omega) (by omega) (by rw [List.length_append]; omega) (by omega) (fun x hx => by have := (p2 x hx).1; omega) ht (fun h2 S2 C2 R2 => k h2 ?_ (p3.2 _ R2 C2) (fun q hq => R2 q (by omega)))
  rw [e] at S2
  exact S2
theorem pnd_part {x r : Int} (H : rE g K V P E N c t l) (p : pnd g h K V P E c m w w2 i o (x :: σ) pend a) (hi : i + 1 ≤ N) (hx : 40 ≤ x) (hb : ∀ r, btw (K i) (pend ++ x :: σ) r → r < 0) (hp : ∀ r2, prt (K i) (cpd (pend ++ x :: σ)) x r2 → r2 = r) (r0 : 0 < r) (m1 : 1 ≤ m) (w0 : 0 ≤ w) (w1 : w + ly a ≤ 303) (len : σ.length ≤ 100)
    (k : ∀ h2, rS g h2 K V P E c (i + 1) (w + ly a) o (r :: σ) false → rat (h2 297) c w a → (∀ q : Int, q < c + 2 * w → h2 297 q = h 297 q) → wLp D Q v1 h2) : wLp D Q v1 h := by
  obtain ⟨p1, p2, p3, p4, p5, p6, p7, p8⟩ := p
  have e := p3.1
  refine wLp_part H p1 hi hx hb hp r0 (by omega) (by omega) (by rw [List.length_append, List.length_cons]; omega) (by omega) (fun y hy => by have := (p2 y hy).1; omega) (fun h2 S2 C2 R2 => k h2 ?_ (p3.2 _ R2 C2) (fun q hq => R2 q (by omega)))
  rw [e] at S2
  exact S2
theorem pnd_close {x : Int} {us : List Int} {s1 : Nat} (H : rE g K V P E N c t l) (p : pnd g h K V P E c m w w2 i (o + us.length + 1) (x :: (us ++ σ)) pend a) (hi : i + 1 ≤ N) (hx : x = 40 ∧ s1 = 0 ∨ x = 43 ∧ s1 = 1) (hb : ∀ r, btw (K i) (pend ++ x :: (us ++ σ)) r → r < 0) (hp : ∀ r2, prt (K i) (cpd (pend ++ x :: (us ++ σ))) x r2 → r2 = 0) (m1 : 1 ≤ m) (w0 : 0 ≤ w) (w1 : w + ly a + s1 + us.length ≤ 303) (len : (us ++ σ).length ≤ 100) (hu : ∀ u, u ∈ us → rkO u = 7) (ht : top σ (fun x => rkO x < 7))
    (k : ∀ h2, rS g h2 K V P E c (i + 1) (w + ly a + s1 + us.length) o σ true → rat (h2 297) c w a → (s1 = 1 → h2 297 (c + 2 * (w + ly a)) = 3) → cds (h2 297) c (w + ly a + s1) us → (∀ q : Int, q < c + 2 * w → h2 297 q = h 297 q) → wLp D Q v1 h2) : wLp D Q v1 h := by
  obtain ⟨p1, p2, p3, p4, p5, p6, p7, p8⟩ := p
  have e := p3.1
  refine wLp_close H p1 hi hx hb hp (by omega) (by omega) (by rw [List.length_append, List.length_cons]; omega) (by omega) (fun y hy => by have := (p2 y hy).1; omega) hu ht (fun h2 S2 C2 e2 U2 R2 => ?_)
  rw [e] at S2 e2 U2
  exact k h2 S2 (p3.2 _ R2 C2) e2 U2 (fun q hq => R2 q (by omega))
theorem pnd_fail (p : pnd g h K V P E c m w w2 i o σ pend a) (m1 : 1 ≤ m) (len : σ.length ≤ 100) (hb : ∀ r, btw (K i) (pend ++ σ) r → r < 0) (hp : ∀ r, prt (K i) (cpd (pend ++ σ)) (opw (pend ++ σ)) r → r < 0) (hv : opw (pend ++ σ) ≠ v1 ∨ (v1 = 44 ∧ cpd (pend ++ σ) = false)) (k : Q 1 h) : wLp D Q v1 h := by
  obtain ⟨p1, p2, p3, p4, p5, p6, p7, p8⟩ := p
  exact wLp_fail p1 (by rw [List.length_append]; omega) hb hp hv k
theorem pnd_join {r t2 mB w4 : Int} {pB : List Int} {B : Ex} {κ : Int → Int} (p : pnd g h K V P E c mB (w + ly a) w4 i o (r :: σ) pB B) (wa : ws l a s) (ra : rat κ c w a) (same : ∀ q : Int, q < c + 2 * (w + ly a) → h 297 q = κ q) (hr : o2r t2 = r) (hm : m + 1 ≤ mB) (hr2 : m ≤ rkO r ∧ rkO r < 7 ∧ r ≠ 20) (hc : m ≤ 4 → cpd (pB ++ r :: σ) = true) : pnd g h K V P E c m w w4 i o σ (pB ++ [r]) (xB t2 a B) := by
  obtain ⟨p1, p2, p3, p4, p5, p6, p7, p8⟩ := p
  have c0 : cntO (pB ++ [r]) = cntO pB := by
    rw [cntO_app]
    simp only [cntO]
    rw [if_neg (by omega)]
    omega
  have e := p3.1
  have ea : (pB ++ [r]) ++ σ = pB ++ r :: σ := by simp
  refine ⟨by rw [c0, ea]; exact p1, fun y hy => ?_, ⟨by simp only [List.length_append, List.length_cons, List.length_nil, ly]; omega, fun κ2 f d => ?_⟩, by omega, fun y => by rw [ea]; exact hc y, fun y => by rw [c0]; exact p6 (by omega), ?_, by rw [c0]; exact p8⟩
  · rcases List.mem_append.mp hy with z | z
    · have := p2 y z; omega
    · rw [List.mem_singleton.mp z]; omega
  · have d2 := (cds_app pB [r] w4).1 d
    simp only [rat]
    refine ⟨rat_congr _ _ wa _ ra (fun q q0 q1 => by rw [f q (by omega), same q q1]), p3.2 κ2 f d2.1, ?_⟩
    have := d2.2.1
    rw [e] at this
    rw [this, hr]
  · rw [c0]
    simp only [List.length_append, List.length_cons, List.length_nil]
    omega
/-- a not -/
theorem pnd_not (p : pnd g h K V P E c 3 w w2 i (o + 1) (20 :: σ) pend a) : pnd g h K V P E c 3 w w2 i o σ (pend ++ [20]) (xU 8 a) := by
  obtain ⟨p1, p2, p3, p4, p5, p6, p7, p8⟩ := p
  have c0 : cntO (pend ++ [20]) = cntO pend + 1 := by
    rw [cntO_app, show cntO [20] = 1 from by decide]
  have e := p3.1
  have ea : (pend ++ [20]) ++ σ = pend ++ 20 :: σ := by simp
  refine ⟨by rw [c0, ea, show o + (cntO pend + 1) = o + 1 + cntO pend by omega]; exact p1, fun y hy => ?_, ⟨by simp only [List.length_append, List.length_cons, List.length_nil, ly]; omega, fun κ2 f d => ?_⟩, by omega, fun y => by rw [ea]; exact p5 y, fun y => by omega, ?_, by rw [c0]; omega⟩
  · rcases List.mem_append.mp hy with z | z
    · exact p2 y z
    · rw [List.mem_singleton.mp z]; decide
  · have d2 := (cds_app pend [20] w2).1 d
    simp only [rat]
    refine ⟨p3.2 κ2 f d2.1, ?_⟩
    have := d2.2.1
    rw [e] at this
    rw [this]; decide
  · rw [c0]
    simp only [List.length_append, List.length_cons, List.length_nil]
    omega
end RHOLE
