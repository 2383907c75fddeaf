section RUN
variable {d : Nat} {Q : Int → am_H → Prop} {T A : Int} {l : Bool} {η β : Int → Int} {b : Int}
theorem dec_n {op v : Nat} (ho : op < 32) (hv : v < 60000) : am_iand ((v : Int) * 32 + op) 31 = op ∧ am_ishr ((v : Int) * 32 + op) 5 = v := by
  rw [show (v : Int) * 32 + op = ((v * 32 + op : Nat) : Int) by omega, show (31 : Int) = ((31 : Nat) : Int) from rfl, show (5 : Int) = ((5 : Nat) : Int) from rfl]
  constructor
  · rw [iand_n (by omega), show (31 : Nat) = 2 ^ 5 - 1 from rfl, Nat.and_two_pow_sub_one_eq_mod]
    congr 1
    omega
  · rw [ishr_n (by omega) (by omega)]
    congr 1
    omega
/-- the head of the loop -/
abbrev wA (d : Nat) (Q : Int → am_H → Prop) (T A top p : Int) (h : am_H) : Prop := wf (d + 3) M_X2_answer Q 16 [some (.inr (.inr 218)), none, none, some (.inr (.inr A)), some (.inl top), some (.inr (.inr (T + 4))), some (.inl p), none, none] [] h
theorem wA_next {top p : Int} {h : am_H} (p0 : 0 ≤ p ∧ p < 300) (k : wA d Q T A top (p + 1) h) : wf (d + 3) M_X2_answer Q 258 [some (.inr (.inr 218)), none, none, some (.inr (.inr A)), some (.inl top), some (.inr (.inr (T + 4))), some (.inl p), none, none] [] h := by
  refine B_X2_answer_258 ?_
  rw [w32e (by omega) (by omega)]
  exact k
theorem st_leaf {h : am_H} {top p : Int} {op v : Nat} {z : Int} (tT : am_kd 321 T = 15) (p0 : 0 ≤ p ∧ p < 300) (t0 : 0 ≤ top ∧ top < 64) (hk : h (T + 4) p = v * 32 + op) (ho : op ≤ 6) (hv : v < 60000) (hl : ∀ Q2 : Int → am_H → Prop, Q2 z h → cf (d + 2) M_X2_leaf [.inr (.inr 218), .inl (op : Int), .inl (v : Int), .inr (.inr A)] h Q2) (k : wA d Q T A (top + 1) (p + 1) (am_up h 219 top z)) : wA d Q T A top p h := by
  have e := dec_n (op := op) (v := v) (by omega) hv
  have lT := kX5_4 tT
  refine B_X2_answer_16 ⟨lT.1, fun c => by rw [lT.2] at c; omega, fun _ => ⟨p0.1, by rw [lT.2]; exact p0.2, ?_⟩⟩
  rw [hk, e.1, e.2]
  refine ⟨fun c => by omega, fun _ => ⟨fun c => by omega, fun _ => ⟨fun c => by omega, fun _ => hl _ ?_⟩⟩⟩
  rw [w32e (z := top + 1) (by omega) (by omega)]
  exact wA_next p0 k
theorem st_84 {h : am_H} {top p : Int} {op v : Nat} (tT : am_kd 321 T = 15) (p0 : 0 ≤ p ∧ p < 300) (hk : h (T + 4) p = v * 32 + op) (ho : 7 ≤ op ∧ op < 32) (hv : v < 60000) (k : wf (d + 3) M_X2_answer Q 84 [some (.inr (.inr 218)), none, none, some (.inr (.inr A)), some (.inl top), some (.inr (.inr (T + 4))), some (.inl p), some (.inl (op : Int)), some (.inl (v : Int))] [] h) : wA d Q T A top p h := by
  have e := dec_n (op := op) (v := v) (by omega) hv
  have lT := kX5_4 tT
  refine B_X2_answer_16 ⟨lT.1, fun c => by rw [lT.2] at c; omega, fun _ => ⟨p0.1, by rw [lT.2]; exact p0.2, ?_⟩⟩
  rw [hk, e.1, e.2]
  exact ⟨fun _ => k, fun c => by omega⟩
theorem st_one {h : am_H} {top p t : Int} {q : Nat} (tT : am_kd 321 T = 15) (tA : am_kd 321 A = 13) (hA : 220 ≤ A) (he : eok l η β b) (hc : ce l h A η β b) (p0 : 0 ≤ p ∧ p < 300) (t0 : 1 ≤ top ∧ top ≤ 64) (ht : t = 7 ∨ t = 8 ∨ t = 9) (hk : h (T + 4) p = t) (hv : -20000000 ≤ h 219 (top - 1) ∧ h 219 (top - 1) ≤ 20000000) (hq : h 218 10 = (q : Int)) (hq2 : q < 2 ^ 40)
    (k : ∀ h2, fA h h2 (top - 1) → h2 219 (top - 1) = un1 η β b t (h 219 (top - 1)) → h2 218 10 = ((q ||| pl1 η b t (h 219 (top - 1)) : Nat) : Int) → wA d Q T A top (p + 1) h2) : wA d Q T A top p h := by
  refine st_84 (op := t.toNat) (v := 0) tT p0 (by omega) (by omega) (by omega) ?_
  rw [show ((t.toNat : Nat) : Int) = t by omega]
  refine B_X2_answer_84 ⟨fun c => by omega, fun _ => ⟨fun c => by omega, fun _ => ⟨fun c => by omega, fun _ => ?_⟩⟩⟩
  rw [w32e (z := top - 1) (by omega) (by omega)]
  refine ⟨by omega, by omega, c_X2_ofOne tA hA he hc hv ht hq hq2 (fun h2 f2 q2 => wA_next p0 (k _ (fA_trans (f2 _) (fA_up (Int.le_refl _)) (Int.le_refl _)) (am_up_at _ _ _ _) ?_))⟩
  rw [am_up_ne (by omega)]
  exact q2
theorem st_two {h : am_H} {top p t : Int} (tT : am_kd 321 T = 15) (p0 : 0 ≤ p ∧ p < 300) (t0 : 2 ≤ top ∧ top ≤ 64) (ht : 10 ≤ t ∧ t ≤ 21) (hk : h (T + 4) p = t) (hv : -20000000 ≤ h 219 (top - 2) ∧ h 219 (top - 2) ≤ 20000000) (hv2 : -20000000 ≤ h 219 (top - 1) ∧ h 219 (top - 1) ≤ 20000000) (hb : t = 20 ∨ t = 21 → (h 219 (top - 2) = 0 ∨ h 219 (top - 2) = 1) ∧ (h 219 (top - 1) = 0 ∨ h 219 (top - 1) = 1))
    (k : wA d Q T A (top - 1) (p + 1) (am_up h 219 (top - 2) (op2 t (h 219 (top - 2)) (h 219 (top - 1))))) : wA d Q T A top p h := by
  refine st_84 (op := t.toNat) (v := 0) tT p0 (by omega) (by omega) (by omega) ?_
  rw [show ((t.toNat : Nat) : Int) = t by omega]
  refine B_X2_answer_84 ⟨fun _ => ?_, fun c => by omega⟩
  refine B_X2_answer_132 ⟨fun c => by omega, fun _ => ⟨fun c => by omega, fun _ => ⟨fun c => by omega, fun _ => ?_⟩⟩⟩
  rw [w32e (z := top + -1) (by omega) (by omega), w32e (z := top + -1 - 1) (by omega) (by omega), show top + -1 - 1 = top - 2 by omega, show top + -1 = top - 1 by omega]
  exact ⟨by omega, by omega, by omega, by omega, c_X2_ofTwo hv hv2 hb (wA_next p0 k)⟩
theorem st_skn {h : am_H} {top p : Int} {v : Nat} (tT : am_kd 321 T = 15) (p0 : 0 ≤ p ∧ p < 300) (t0 : 1 ≤ top ∧ top ≤ 64) (hk : h (T + 4) p = 22 + 32 * (v : Int)) (hv : p < v ∧ v ≤ 300) (k1 : ¬ h 219 (top - 1) = 0 → wA d Q T A (top - 1) (p + 1) h) (k0 : h 219 (top - 1) = 0 → wA d Q T A (top - 1) v h) : wA d Q T A top p h := by
  refine st_84 (op := 22) (v := v) tT p0 (by omega) (by omega) (by omega) ?_
  refine B_X2_answer_84 ⟨fun _ => ?_, fun c => by omega⟩
  refine B_X2_answer_132 ⟨fun _ => ?_, fun c => by omega⟩
  refine B_X2_answer_188 ⟨fun c => absurd rfl c, fun _ => ⟨fun c => by omega, fun _ => ⟨fun c => by omega, fun _ => ?_⟩⟩⟩
  rw [w32e (z := top + -1) (by omega) (by omega), w32e (z := (v : Int) - 1) (by omega) (by omega), show top + -1 = top - 1 by omega]
  refine ⟨by omega, by omega, fun c => B_X2_answer_235 (wA_next p0 (k1 c)), fun c => c_max (fun c2 => ?_) (fun c2 => ?_)⟩
  · refine B_X2_answer_235 (wA_next (by omega) ?_)
    rw [show (v : Int) - 1 + 1 = v by omega]
    exact k0 c
  · refine B_X2_answer_235 (wA_next (by omega) ?_)
    rw [show p + 1 = (v : Int) by omega]
    exact k0 c
theorem st_skp {h : am_H} {top p : Int} {v : Nat} (tT : am_kd 321 T = 15) (p0 : 0 ≤ p ∧ p < 300) (hk : h (T + 4) p = 23 + 32 * (v : Int)) (hv : p < v ∧ v ≤ 300) (k : wA d Q T A top v h) : wA d Q T A top p h := by
  refine st_84 (op := 23) (v := v) tT p0 (by omega) (by omega) (by omega) ?_
  refine B_X2_answer_84 ⟨fun _ => ?_, fun c => by omega⟩
  refine B_X2_answer_132 ⟨fun _ => ?_, fun c => by omega⟩
  refine B_X2_answer_188 ⟨fun _ => ?_, fun c => by omega⟩
  refine B_X2_answer_240 ⟨fun c => absurd rfl c, fun _ => ?_⟩
  rw [w32e (z := (v : Int) - 1) (by omega) (by omega)]
  refine c_max (fun c2 => ?_) (fun c2 => ?_)
  · refine wA_next (by omega) ?_
    rw [show (v : Int) - 1 + 1 = v by omega]
    exact k
  · refine wA_next (by omega) ?_
    rw [show p + 1 = (v : Int) by omega]
    exact k
theorem st_end {h : am_H} {top p : Int} (tT : am_kd 321 T = 15) (p0 : 0 ≤ p ∧ p < 300) (t0 : 1 ≤ top ∧ top ≤ 64) (hk : h (T + 4) p = 24) (k : Q (h 219 (top - 1)) h) : wA d Q T A top p h := by
  refine st_84 (op := 24) (v := 0) tT p0 (by omega) (by omega) (by omega) ?_
  refine B_X2_answer_84 ⟨fun _ => ?_, fun c => by omega⟩
  refine B_X2_answer_132 ⟨fun _ => ?_, fun c => by omega⟩
  refine B_X2_answer_188 ⟨fun _ => ?_, fun c => by omega⟩
  refine B_X2_answer_240 ⟨fun _ => ?_, fun c => by omega⟩
  refine B_X2_answer_264 ⟨fun c => by omega, fun _ => ⟨fun c => by omega, fun _ => ?_⟩⟩
  rw [w32e (z := top - 1) (by omega) (by omega)]
  exact ⟨by omega, by omega, k⟩
/-- a tree's steps, run -/
def xr (d : Nat) (Q : Int → am_H → Prop) (T A : Int) (l : Bool) (η β : Int → Int) (b : Int) (e : Ex) (_ : Bool) : Prop :=
  ∀ (p top : Int) (h : am_H) (q : Nat), cat (h (T + 4)) p e → 0 ≤ p → p + lx e ≤ 300 → 0 ≤ top → top + sx e ≤ 64 → ce l h A η β b → h 218 10 = (q : Int) → q < 2 ^ 40 →
    (∀ h2, fA h h2 top → h2 219 top = ev η β b e → h2 218 10 = ((q ||| lk η β b e : Nat) : Int) → wA d Q T A (top + 1) (p + lx e) h2) → wA d Q T A top p h
theorem xr_num (tT : am_kd 321 T = 15) (v : Int) (h0 : 0 ≤ v) (h1 : v ≤ 9999) : xr d Q T A l η β b (xN v) false := by
  intro p top h q hc p0 p1 t0 t1 hce hq hq2 k
  simp only [cat, lx, sx] at hc p1 t1
  refine st_leaf (op := 0) (v := v.toNat) tT (by omega) (by omega) (by omega) (by omega) (by omega) (fun Q2 q => c_X2_leafN q) (k _ (fA_up (Int.le_refl _)) ?_ ?_)
  · rw [am_up_at, show ((v.toNat : Nat) : Int) = v by omega]; rfl
  · rw [am_up_ne (by omega), hq]; simp [lk]
theorem xr_var (tT : am_kd 321 T = 15) (tA : am_kd 321 A = 13) (k : Nat) (ha : al l k) : xr d Q T A l η β b (xV k) false := by
  intro p top h q hc p0 p1 t0 t1 hce hq hq2 kk
  simp only [cat, lx, sx] at hc p1 t1
  have k12 := ha.1
  refine st_leaf (op := if k < 8 then 1 else k - 6) (v := if k < 8 then k else 0) (z := η k) tT (by omega) (by omega) ?_ (by split <;> omega) (by split <;> omega) (fun Q2 q => ?_) (kk _ (fA_up (Int.le_refl _)) ?_ ?_)
  · rw [hc]
    by_cases c : k < 8
    · rw [if_pos c, if_pos c, if_pos c]; omega
    · rw [if_neg c, if_neg c, if_neg c]; omega
  · have z := c_X2_leaf (d := d + 1) (Q := Q2) tA hce ha q
    by_cases c : k < 8
    · rw [if_pos c, if_pos c] at z ⊢
      exact z
    · rw [if_neg c, if_neg c] at z ⊢
      rw [show ((k - 6 : Nat) : Int) = (k : Int) - 6 by omega]
      exact z
  · rw [am_up_at]; rfl
  · rw [am_up_ne (by omega), hq]; simp [lk]
theorem xr_one (tT : am_kd 321 T = 15) (hT : 242 ≤ T) (tA : am_kd 321 A = 13) (hA : 220 ≤ A) (he : eok l η β b) (t : Int) (a : Ex) (s : Bool) (ht : t = 7 ∨ t = 8 ∨ t = 9) (hw : ws l a s) (ih : xr d Q T A l η β b a s) : xr d Q T A l η β b (xU t a) s := by
  intro p top h q hc p0 p1 t0 t1 hce hq hq2 k
  simp only [cat, lx, sx] at hc p1 t1
  have bd := (ev_bd he a s hw).1
  have ll := lk_lt he a s hw
  have ps := lx_pos a s hw
  refine ih p top h q hc.1 p0 (by omega) t0 (by omega) hce hq hq2 (fun h2 f2 v2 q2 => ?_)
  have e4 : h2 (T + 4) = h (T + 4) := f2.1 _ (by omega) (by omega)
  refine st_one (t := t) (q := q ||| lk η β b a) tT tA hA he (ce_fA hA hce f2) (by omega) (by omega) ht (by rw [e4]; exact hc.2) (by rw [show top + 1 - 1 = top by omega, v2]; omega) q2 (Nat.or_lt_two_pow hq2 ll) (fun h3 f3 v3 q3 => ?_)
  rw [show top + 1 - 1 = top by omega] at f3 v3 q3
  rw [v2] at v3 q3
  have := k h3 (fA_trans f2 f3 (Int.le_refl _)) v3 (by rw [q3, Nat.or_assoc]; rfl)
  rw [show p + lx a + 1 = p + lx (xU t a) by simp only [lx]; omega]
  exact this
theorem xr_two (tT : am_kd 321 T = 15) (hT : 242 ≤ T) (hA : 220 ≤ A) (he : eok l η β b) (t : Int) (a c : Ex) (s s2 : Bool) (ht : 10 ≤ t ∧ t ≤ 21) (hs : t = 20 ∨ t = 21 → s = true) (hw : ws l a s) (hw2 : ws l c s) (ih : xr d Q T A l η β b a s) (ih2 : xr d Q T A l η β b c s) : xr d Q T A l η β b (xB t a c) s2 := by
  intro p top h q hc p0 p1 t0 t1 hce hq hq2 k
  simp only [cat, lx, sx] at hc p1 t1
  have bd := ev_bd he a s hw
  have bd2 := ev_bd he c s hw2
  have ll := lk_lt he a s hw
  have ll2 := lk_lt he c s hw2
  have ps := lx_pos a s hw
  have ps2 := lx_pos c s hw2
  refine ih p top h q hc.1 p0 (by omega) t0 (by omega) hce hq hq2 (fun h2 f2 v2 q2 => ?_)
  have e4 : h2 (T + 4) = h (T + 4) := f2.1 _ (by omega) (by omega)
  refine ih2 (p + lx a) (top + 1) h2 _ (by rw [e4]; exact hc.2.1) (by omega) (by omega) (by omega) (by omega) (ce_fA hA hce f2) q2 (Nat.or_lt_two_pow hq2 ll) (fun h3 f3 v3 q3 => ?_)
  have e5 : h3 (T + 4) = h (T + 4) := (f3.1 _ (by omega) (by omega)).trans e4
  have w2 : h3 219 top = ev η β b a := (f3.2.2 top (by omega)).trans v2
  have i1 : top + 1 + 1 - 2 = top := by omega
  have i2 : top + 1 + 1 - 1 = top + 1 := by omega
  refine st_two (t := t) tT (by omega) (by omega) ht (by rw [e5]; exact hc.2.2) (by rw [i1, w2]; omega) (by rw [i2, v3]; omega) (fun z => by rw [i1, i2, w2, v3]; exact ⟨bd.2 (hs z), bd2.2 (hs z)⟩) ?_
  rw [i1, i2, w2, v3]
  have z := k (am_up h3 219 top (op2 t (ev η β b a) (ev η β b c))) (fA_trans (fA_trans f2 f3 (by omega)) (fA_up (Int.le_refl _)) (Int.le_refl _)) (by rw [am_up_at]; rfl) (by rw [am_up_ne (by omega), q3, Nat.or_assoc]; rfl)
  rw [show p + lx a + lx c + 1 = p + lx (xB t a c) by simp only [lx]; omega]
  exact z
theorem xr_ite (tT : am_kd 321 T = 15) (hT : 242 ≤ T) (hA : 220 ≤ A) (he : eok l η β b) (c a e : Ex) (hw : ws l c true) (hw2 : ws l a false) (hw3 : ws l e false) (ih : xr d Q T A l η β b c true) (ih2 : xr d Q T A l η β b a false) (ih3 : xr d Q T A l η β b e false) : xr d Q T A l η β b (xI c a e) false := by
  intro p top h q hc p0 p1 t0 t1 hce hq hq2 k
  simp only [cat, lx, sx] at hc p1 t1
  obtain ⟨k1, k2, k3, k4, k5⟩ := hc
  have ll := lk_lt he c true hw
  have ps := lx_pos c true hw
  have ps2 := lx_pos a false hw2
  have ps3 := lx_pos e false hw3
  refine ih p top h q k1 p0 (by omega) t0 (by omega) hce hq hq2 (fun h2 f2 v2 q2 => ?_)
  have e4 : h2 (T + 4) = h (T + 4) := f2.1 _ (by omega) (by omega)
  have i2 : top + 1 - 1 = top := by omega
  have fin : ∀ h3, fA h2 h3 top → ∀ y : Ex, ev η β b (xI c a e) = ev η β b y → lk η β b (xI c a e) = lk η β b c ||| lk η β b y → h3 219 top = ev η β b y → h3 218 10 = ((q ||| lk η β b c ||| lk η β b y : Nat) : Int) → wA d Q T A (top + 1) (p + lx (xI c a e)) h3 := by
    intro h3 f3 y y1 y2 v3 q3
    exact k h3 (fA_trans f2 f3 (Int.le_refl _)) (by rw [v3, y1]) (by rw [q3, y2, Nat.or_assoc])
  have pe : p + lx c + 1 + lx a + 1 + lx e = p + lx (xI c a e) := by simp only [lx]; omega
  refine st_skn (v := (p + lx c + 1 + lx a + 1).toNat) tT (by omega) (by omega) (by rw [e4, k2]; omega) (by omega) (fun z => ?_) (fun z => ?_)
  · rw [i2] at z ⊢
    rw [v2] at z
    refine ih2 (p + lx c + 1) top h2 _ (by rw [e4]; exact k3) (by omega) (by omega) t0 (by omega) (ce_fA hA hce f2) q2 (Nat.or_lt_two_pow hq2 ll) (fun h3 f3 v3 q3 => ?_)
    have e5 : h3 (T + 4) = h (T + 4) := (f3.1 _ (by omega) (by omega)).trans e4
    refine st_skp (v := (p + lx c + 1 + lx a + 1 + lx e).toNat) tT (by omega) (by rw [e5, k4]; omega) (by omega) ?_
    rw [show (((p + lx c + 1 + lx a + 1 + lx e).toNat : Nat) : Int) = p + lx (xI c a e) by omega]
    refine fin h3 f3 a ?_ ?_ v3 q3
    · simp only [ev]; rw [if_neg z]
    · simp only [lk]; rw [if_neg z]
  · rw [i2] at z ⊢
    rw [v2] at z
    rw [show (((p + lx c + 1 + lx a + 1).toNat : Nat) : Int) = p + lx c + 1 + lx a + 1 by omega]
    refine ih3 (p + lx c + 1 + lx a + 1) top h2 _ (by rw [e4]; exact k5) (by omega) (by omega) t0 (by omega) (ce_fA hA hce f2) q2 (Nat.or_lt_two_pow hq2 ll) (fun h3 f3 v3 q3 => ?_)
    rw [pe]
    refine fin h3 f3 e ?_ ?_ v3 q3
    · simp only [ev]; rw [if_pos z]
    · simp only [lk]; rw [if_pos z]
theorem xr_all (tT : am_kd 321 T = 15) (hT : 242 ≤ T) (tA : am_kd 321 A = 13) (hA : 220 ≤ A) (he : eok l η β b) : ∀ e s, ws l e s → xr d Q T A l η β b e s :=
  ex_ind (fun v h0 h1 => xr_num tT v h0 h1) (fun k q => xr_var tT tA k q) (fun t a ht w ih => xr_one tT hT tA hA he t a false (by omega) w ih) (fun a w ih => xr_one tT hT tA hA he 8 a true (by omega) w ih)
    (fun t a c t0 t1 w w2 i i2 => xr_two tT hT hA he t a c false false (by omega) (fun z => by omega) w w2 i i2)
    (fun t a c t0 t1 w w2 i i2 => xr_two tT hT hA he t a c false true (by omega) (fun z => by omega) w w2 i i2)
    (fun t a c ht w w2 i i2 => xr_two tT hT hA he t a c true true (by omega) (fun _ => rfl) w w2 i i2)
    (fun c a e w w2 w3 i i2 i3 => xr_ite tT hT hA he c a e w w2 w3 i i2 i3)
/-- the class asks a tree -/
theorem c_X2_answer {h : am_H} {e : Ex} {s : Bool} {p : Int} {q : Nat} (tT : am_kd 321 T = 15) (hT : 242 ≤ T) (tA : am_kd 321 A = 13) (hA : 220 ≤ A) (he : eok l η β b) (hw : ws l e s) (hs : sx e ≤ 64) (hc : cat (h (T + 4)) p e) (hend : h (T + 4) (p + lx e) = 24) (p0 : 0 ≤ p) (p1 : p + lx e < 300) (hce : ce l h A η β b) (hq : h 218 10 = (q : Int)) (hq2 : q < 2 ^ 40)
    (k : ∀ h2, fA h h2 0 → h2 218 10 = ((q ||| lk η β b e : Nat) : Int) → Q (ev η β b e) h2) : cf (d + 3) M_X2_answer [.inr (.inr 218), .inr (.inr T), .inl p, .inr (.inr A)] h Q := by
  have go : wA d Q T A 0 p h := by
    refine xr_all tT hT tA hA he e s hw p 0 h q hc p0 (by omega) (by omega) (by omega) hce hq hq2 (fun h2 f2 v2 q2 => ?_)
    have e4 : h2 (T + 4) = h (T + 4) := f2.1 _ (by omega) (by omega)
    refine st_end tT (by omega) (by omega) (by rw [e4]; exact hend) ?_
    rw [show (0 : Int) + 1 - 1 = 0 by omega, v2]
    exact k h2 f2 q2
  refine cf_of pX2 (Nat.le_of_ble_eq_true rfl) rfl (fun _ => B_X2_answer_0 ⟨tT, c_max (fun c => ?_) (fun c => go)⟩)
  have : p = 0 := by omega
  subst this
  exact go
end RUN
