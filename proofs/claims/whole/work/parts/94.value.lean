section RUNV
variable {d : Nat} {h : am_H} {Q : Int → am_H → Prop} {T A : Int} {l : Bool} {η β : Int → Int} {b : Int}
theorem c_ofOneV {A v t : Int} {η β : Int → Int} {b : Int} {l : Bool} (tA : am_kd 321 A = 13) (hA : 220 ≤ A) (he : eok l η β b) (hc : ce l h A η β b) (hv : -20000000 ≤ v ∧ v ≤ 20000000) (ht : t = 7 ∨ t = 8 ∨ t = 9) (k : ∀ h2, (∀ top, fA h h2 top) → Q (un1 η β b t v) h2) : cf (d + 1) M_X2_ofOne [.inr (.inr 218), .inl t, .inl v, .inr (.inr A)] h Q := by
  have e1 := he.1
  have e2 := he.2.1
  have c0 := hc.1
  have c1 := hc.2.1
  have nk : ¬ (t = 9 ∧ 0 ≤ v ∧ v < η 8) → Q (un1 η β b t v) h := fun c => by
    exact k h (fun _ => fA_refl)
  refine cf_of pX2 (Nat.le_of_ble_eq_true rfl) rfl (fun _ => B_X2_ofOne_0 ⟨fun c7 => ⟨fun c8 => ?_, fun c8 => ?_⟩, fun c7 => ?_⟩)
  · have t9 : t = 9 := by omega
    have eu : un1 η β b t v = pk η β b v := by
      unfold un1
      rw [if_neg c7, if_neg c8]
    have nb : ¬ (0 ≤ v ∧ v < η 8) → wf (d + 1) M_X2_ofOne Q 63 [some (.inr (.inr 218)), none, some (.inl v), some (.inr (.inr A))] [] h := fun c => by
      refine B_X2_ofOne_63 (c_X2_byteIn tA he hc hv ?_)
      rw [← eu]
      exact nk (fun z => c z.2)
    refine ⟨fun c => nb (by omega), fun c => ⟨tA, fun c2 => nb (by omega), fun c2 => ?_⟩⟩
    rw [c0, w32e (z := b + v) (by omega) (by omega), w32e (z := b + v + 1) (by omega) (by omega), show b + v = (((b + v).toNat : Nat) : Int) by omega, show (((b + v).toNat : Nat) : Int) + 1 = (((b + v).toNat + 1 : Nat) : Int) by omega]
    refine c_X6_span (by omega) (by omega) ?_
    refine B_X2_ofOne_63 (c_X2_byteIn tA he (ce_fA hA hc (fA_pk (t := 0))) hv ?_)
    rw [← eu]
    exact k _ (fun top => fA_pk)
  · refine ⟨fun c => ?_, fun c => ?_⟩
    · have := nk (by omega)
      unfold un1 at this
      rw [if_neg c7, if_pos c8, if_neg c] at this
      exact this
    · have := nk (by omega)
      unfold un1 at this
      rw [if_neg c7, if_pos c8, if_pos c] at this
      exact this
  · have := nk (by omega)
    unfold un1 at this
    rw [if_pos c7] at this
    rw [w32e (by omega) (by omega)]
    exact this
theorem sv_one {h : am_H} {top p t : Int} (tT : am_kd 321 T = 15) (tA : am_kd 321 A = 13) (hA : 220 ≤ A) (he : eok l η β b) (hc : ce l h A η β b) (p0 : 0 ≤ p ∧ p < 300) (t0 : 1 ≤ top ∧ top ≤ 64) (ht : t = 7 ∨ t = 8 ∨ t = 9) (hk : h (T + 4) p = t) (hv : -20000000 ≤ h 219 (top - 1) ∧ h 219 (top - 1) ≤ 20000000)
    (k : ∀ h2, fA h h2 (top - 1) → h2 219 (top - 1) = un1 η β b t (h 219 (top - 1)) → wA d Q T A top (p + 1) h2) : wA d Q T A top p h := by
  refine st_84 (op := t.toNat) (v := 0) tT p0 (by omega) (by omega) (by omega) ?_
  rw [show ((t.toNat : Nat) : Int) = t by omega]
  refine B_X2_answer_84 ⟨fun c => by omega, fun _ => ⟨fun c => by omega, fun _ => ⟨fun c => by omega, fun _ => ?_⟩⟩⟩
  rw [w32e (z := top - 1) (by omega) (by omega)]
  refine ⟨by omega, by omega, c_ofOneV tA hA he hc hv ht (fun h2 f2 => wA_next p0 (k _ (fA_trans (f2 _) (fA_up (Int.le_refl _)) (Int.le_refl _)) (am_up_at _ _ _ _)))⟩
/-- a tree's steps, run -/
def xv (d : Nat) (Q : Int → am_H → Prop) (T A : Int) (l : Bool) (η β : Int → Int) (b : Int) (e : Ex) (_ : Bool) : Prop :=
  ∀ (p top : Int) (h : am_H), cat (h (T + 4)) p e → 0 ≤ p → p + lx e ≤ 300 → 0 ≤ top → top + sx e ≤ 64 → ce l h A η β b →
    (∀ h2, fA h h2 top → h2 219 top = ev η β b e → wA d Q T A (top + 1) (p + lx e) h2) → wA d Q T A top p h
theorem xv_num (tT : am_kd 321 T = 15) (v : Int) (h0 : 0 ≤ v) (h1 : v ≤ 9999) : xv d Q T A l η β b (xN v) false := by
  intro p top h hc p0 p1 t0 t1 hce k
  simp only [cat, lx, sx] at hc p1 t1
  refine st_leaf (op := 0) (v := v.toNat) tT (by omega) (by omega) (by omega) (by omega) (by omega) (fun Q2 q => c_X2_leafN q) (k _ (fA_up (Int.le_refl _)) ?_)
  · rw [am_up_at, show ((v.toNat : Nat) : Int) = v by omega]; rfl
theorem xv_var (tT : am_kd 321 T = 15) (tA : am_kd 321 A = 13) (k : Nat) (ha : al l k) : xv d Q T A l η β b (xV k) false := by
  intro p top h hc p0 p1 t0 t1 hce kk
  simp only [cat, lx, sx] at hc p1 t1
  have k12 := ha.1
  refine st_leaf (op := if k < 8 then 1 else k - 6) (v := if k < 8 then k else 0) (z := η k) tT (by omega) (by omega) ?_ (by split <;> omega) (by split <;> omega) (fun Q2 q => ?_) (kk _ (fA_up (Int.le_refl _)) ?_)
  · rw [hc]
    by_cases c : k < 8
    · rw [if_pos c, if_pos c, if_pos c]; omega
    · rw [if_neg c, if_neg c, if_neg c]; omega
  · have z := c_X2_leaf (d := d + 1) (Q := Q2) tA hce ha q
    by_cases c : k < 8
    · rw [if_pos c, if_pos c] at z ⊢
      exact z
    · rw [if_neg c, if_neg c] at z ⊢
      rw [show ((k - 6 : Nat) : Int) = (k : Int) - 6 by omega]
      exact z
  · rw [am_up_at]; rfl
theorem xv_one (tT : am_kd 321 T = 15) (hT : 242 ≤ T) (tA : am_kd 321 A = 13) (hA : 220 ≤ A) (he : eok l η β b) (t : Int) (a : Ex) (s : Bool) (ht : t = 7 ∨ t = 8 ∨ t = 9) (hw : ws l a s) (ih : xv d Q T A l η β b a s) : xv d Q T A l η β b (xU t a) s := by
  intro p top h hc p0 p1 t0 t1 hce k
  simp only [cat, lx, sx] at hc p1 t1
  have bd := (ev_bd he a s hw).1
  have ll := lk_lt he a s hw
  have ps := lx_pos a s hw
  refine ih p top h hc.1 p0 (by omega) t0 (by omega) hce (fun h2 f2 v2 => ?_)
  have e4 : h2 (T + 4) = h (T + 4) := f2.1 _ (by omega) (by omega)
  refine sv_one (t := t) tT tA hA he (ce_fA hA hce f2) (by omega) (by omega) ht (by rw [e4]; exact hc.2) (by rw [show top + 1 - 1 = top by omega, v2]; omega) (fun h3 f3 v3 => ?_)
  rw [show top + 1 - 1 = top by omega] at f3 v3
  rw [v2] at v3
  have := k h3 (fA_trans f2 f3 (Int.le_refl _)) v3
  rw [show p + lx a + 1 = p + lx (xU t a) by simp only [lx]; omega]
  exact this
theorem xv_two (tT : am_kd 321 T = 15) (hT : 242 ≤ T) (hA : 220 ≤ A) (he : eok l η β b) (t : Int) (a c : Ex) (s s2 : Bool) (ht : 10 ≤ t ∧ t ≤ 21) (hs : t = 20 ∨ t = 21 → s = true) (hw : ws l a s) (hw2 : ws l c s) (ih : xv d Q T A l η β b a s) (ih2 : xv d Q T A l η β b c s) : xv d Q T A l η β b (xB t a c) s2 := by
  intro p top h hc p0 p1 t0 t1 hce k
  simp only [cat, lx, sx] at hc p1 t1
  have bd := ev_bd he a s hw
  have bd2 := ev_bd he c s hw2
  have ll := lk_lt he a s hw
  have ll2 := lk_lt he c s hw2
  have ps := lx_pos a s hw
  have ps2 := lx_pos c s hw2
  refine ih p top h hc.1 p0 (by omega) t0 (by omega) hce (fun h2 f2 v2 => ?_)
  have e4 : h2 (T + 4) = h (T + 4) := f2.1 _ (by omega) (by omega)
  refine ih2 (p + lx a) (top + 1) h2 (by rw [e4]; exact hc.2.1) (by omega) (by omega) (by omega) (by omega) (ce_fA hA hce f2) (fun h3 f3 v3 => ?_)
  have e5 : h3 (T + 4) = h (T + 4) := (f3.1 _ (by omega) (by omega)).trans e4
  have w2 : h3 219 top = ev η β b a := (f3.2.2 top (by omega)).trans v2
  have i1 : top + 1 + 1 - 2 = top := by omega
  have i2 : top + 1 + 1 - 1 = top + 1 := by omega
  refine st_two (t := t) tT (by omega) (by omega) ht (by rw [e5]; exact hc.2.2) (by rw [i1, w2]; omega) (by rw [i2, v3]; omega) (fun z => by rw [i1, i2, w2, v3]; exact ⟨bd.2 (hs z), bd2.2 (hs z)⟩) ?_
  rw [i1, i2, w2, v3]
  have z := k (am_up h3 219 top (op2 t (ev η β b a) (ev η β b c))) (fA_trans (fA_trans f2 f3 (by omega)) (fA_up (Int.le_refl _)) (Int.le_refl _)) (by rw [am_up_at]; rfl)
  rw [show p + lx a + lx c + 1 = p + lx (xB t a c) by simp only [lx]; omega]
  exact z
theorem xv_ite (tT : am_kd 321 T = 15) (hT : 242 ≤ T) (hA : 220 ≤ A) (he : eok l η β b) (c a e : Ex) (hw : ws l c true) (hw2 : ws l a false) (hw3 : ws l e false) (ih : xv d Q T A l η β b c true) (ih2 : xv d Q T A l η β b a false) (ih3 : xv d Q T A l η β b e false) : xv d Q T A l η β b (xI c a e) false := by
  intro p top h hc p0 p1 t0 t1 hce k
  simp only [cat, lx, sx] at hc p1 t1
  obtain ⟨k1, k2, k3, k4, k5⟩ := hc
  have ll := lk_lt he c true hw
  have ps := lx_pos c true hw
  have ps2 := lx_pos a false hw2
  have ps3 := lx_pos e false hw3
  refine ih p top h k1 p0 (by omega) t0 (by omega) hce (fun h2 f2 v2 => ?_)
  have e4 : h2 (T + 4) = h (T + 4) := f2.1 _ (by omega) (by omega)
  have i2 : top + 1 - 1 = top := by omega
  have fin : ∀ h3, fA h2 h3 top → ∀ y : Ex, ev η β b (xI c a e) = ev η β b y → h3 219 top = ev η β b y → wA d Q T A (top + 1) (p + lx (xI c a e)) h3 := by
    intro h3 f3 y y1 v3
    exact k h3 (fA_trans f2 f3 (Int.le_refl _)) (by rw [v3, y1])
  have pe : p + lx c + 1 + lx a + 1 + lx e = p + lx (xI c a e) := by simp only [lx]; omega
  refine st_skn (v := (p + lx c + 1 + lx a + 1).toNat) tT (by omega) (by omega) (by rw [e4, k2]; omega) (by omega) (fun z => ?_) (fun z => ?_)
  · rw [i2] at z ⊢
    rw [v2] at z
    refine ih2 (p + lx c + 1) top h2 (by rw [e4]; exact k3) (by omega) (by omega) t0 (by omega) (ce_fA hA hce f2) (fun h3 f3 v3 => ?_)
    have e5 : h3 (T + 4) = h (T + 4) := (f3.1 _ (by omega) (by omega)).trans e4
    refine st_skp (v := (p + lx c + 1 + lx a + 1 + lx e).toNat) tT (by omega) (by rw [e5, k4]; omega) (by omega) ?_
    rw [show (((p + lx c + 1 + lx a + 1 + lx e).toNat : Nat) : Int) = p + lx (xI c a e) by omega]
    refine fin h3 f3 a ?_ v3
    simp only [ev]; rw [if_neg z]
  · rw [i2] at z ⊢
    rw [v2] at z
    rw [show (((p + lx c + 1 + lx a + 1).toNat : Nat) : Int) = p + lx c + 1 + lx a + 1 by omega]
    refine ih3 (p + lx c + 1 + lx a + 1) top h2 (by rw [e4]; exact k5) (by omega) (by omega) t0 (by omega) (ce_fA hA hce f2) (fun h3 f3 v3 => ?_)
    rw [pe]
    refine fin h3 f3 e ?_ v3
    simp only [ev]; rw [if_pos z]
theorem xv_all (tT : am_kd 321 T = 15) (hT : 242 ≤ T) (tA : am_kd 321 A = 13) (hA : 220 ≤ A) (he : eok l η β b) : ∀ e s, ws l e s → xv d Q T A l η β b e s :=
  ex_ind (fun v h0 h1 => xv_num tT v h0 h1) (fun k q => xv_var tT tA k q) (fun t a ht w ih => xv_one tT hT tA hA he t a false (by omega) w ih) (fun a w ih => xv_one tT hT tA hA he 8 a true (by omega) w ih)
    (fun t a c t0 t1 w w2 i i2 => xv_two tT hT hA he t a c false false (by omega) (fun z => by omega) w w2 i i2)
    (fun t a c t0 t1 w w2 i i2 => xv_two tT hT hA he t a c false true (by omega) (fun z => by omega) w w2 i i2)
    (fun t a c ht w w2 i i2 => xv_two tT hT hA he t a c true true (by omega) (fun _ => rfl) w w2 i i2)
    (fun c a e w w2 w3 i i2 i3 => xv_ite tT hT hA he c a e w w2 w3 i i2 i3)
/-- the class asks a tree, for its value alone -/
theorem c_answerV {h : am_H} {e : Ex} {s : Bool} {p : Int} (tT : am_kd 321 T = 15) (hT : 242 ≤ T) (tA : am_kd 321 A = 13) (hA : 220 ≤ A) (he : eok l η β b) (hw : ws l e s) (hs : sx e ≤ 64) (hc : cat (h (T + 4)) p e) (hend : h (T + 4) (p + lx e) = 24) (p0 : 0 ≤ p) (p1 : p + lx e < 300) (hce : ce l h A η β b)
    (k : ∀ h2, fA h h2 0 → Q (ev η β b e) h2) : cf (d + 3) M_X2_answer [.inr (.inr 218), .inr (.inr T), .inl p, .inr (.inr A)] h Q := by
  have go : wA d Q T A 0 p h := by
    refine xv_all tT hT tA hA he e s hw p 0 h hc p0 (by omega) (by omega) (by omega) hce (fun h2 f2 v2 => ?_)
    have e4 : h2 (T + 4) = h (T + 4) := f2.1 _ (by omega) (by omega)
    refine st_end tT (by omega) (by omega) (by rw [e4]; exact hend) ?_
    rw [show (0 : Int) + 1 - 1 = 0 by omega, v2]
    exact k h2 f2
  refine cf_of pX2 (Nat.le_of_ble_eq_true rfl) rfl (fun _ => B_X2_answer_0 ⟨tT, c_max (fun c => ?_) (fun c => go)⟩)
  have : p = 0 := by omega
  subst this
  exact go
end RUNV
