/-! LEVEL 3, the reference reads a CLAUSE -/
def rsp (h : am_H) (t x : Int) (e : Ex) (w : Int) : Prop := rsum h t x e ∧ h 297 x + ly e ≤ w
def rtpB (h : am_H) (t x : Int) (c : Cl) (w : Int) : Prop := (c.1 ≤ 2 → h 297 (x + 1) = c.2.1 ∧ rsp h t (x + 5) c.2.2.2.2.1 w) ∧ (c.1 ≤ 4 → rsp h t (x + 3) c.2.2.2.1 w) ∧ (c.1 = 1 → rsp h t (x + 7) c.2.2.2.2.2 w) ∧ (5 ≤ c.1 ∧ ¬ c.1 = 7 → h 297 (x + 1) = c.2.1) ∧ (c.1 = 5 → h 297 (x + 2) = c.2.2.1)
/-- only the CLAUSE at x and later steps are other -/
def rfr (h h2 : am_H) (t x w : Int) : Prop := ∀ q : Int, q < 825 * t + 217 + 2 * w → q ≤ x ∨ x + 9 ≤ q → h2 297 q = h 297 q
def gB (g : am_H) (K V P E : Nat → Int) (N : Nat) (t kd : Int) (hr : Bool) (td : Nat) (Q : Int → am_H → Prop) (h : am_H) (w x : Int) (c : Cl) (j : Nat) : Prop := ∀ (h2 : am_H) (w2 : Int) (td2 : Nat), rC g h2 K V P E t j w2 kd hr td2 → w ≤ w2 → w2 ≤ j → j ≤ N → rfr h h2 t x w → rtpB h2 t x c w2 → (c.1 ≤ 2 → td2 = td ||| 2 ^ c.2.1.toNat) → (¬ c.1 ≤ 2 → td2 = td) → Q 0 h2
section RCLAUSE
variable {d D : Nat} {g h h2 : am_H} {Q : Int → am_H → Prop} {K V P E : Nat → Int} {N : Nat} {t : Int} {l : Bool} {i : Nat} {w w2 kd x : Int} {hr : Bool} {td : Nat} {G : Cl → Nat → Prop}
theorem rsp_congr {e : Ex} {s : Bool} (we : ws l e s) (r : rsp h t x e w) (q : w ≤ w2) (hx : x + 1 < 825 * t + 217) (e1 : h2 297 x = h 297 x) (e2 : h2 297 (x + 1) = h 297 (x + 1)) (f : ∀ q : Int, 825 * t + 217 ≤ q → q < 825 * t + 217 + 2 * w → h2 297 q = h 297 q) : rsp h2 t x e w2 := by
  obtain ⟨⟨r1, r2, r3, r4⟩, r5⟩ := r
  unfold rsp rsum
  rw [e1, e2]
  exact ⟨⟨rat_congr _ _ we _ r1 (fun q q0 q1 => f q (by omega) (by omega)), r2, r3, r4⟩, by omega⟩
theorem rsp_new {e : Ex} (R : rat (h 297) (825 * t + 217) w e) (e1 : h 297 x = w) (e2 : h 297 (x + 1) = w + ly e) (w0 : 0 ≤ w) (w1 : w + ly e ≤ 304) (q : w + ly e ≤ w2) : rsp h t x e w2 := by
  unfold rsp rsum
  rw [e1, e2]
  exact ⟨⟨R, rfl, w0, w1⟩, q⟩
/-- a NUMBER in its bounds -/
theorem c_figure {k : Int → Nat → Rc} {a lo hi2 : Int} (H : rG g K V P E N t) (C : rC g h K V P E t i w kd hr td) (hi : i ≤ N) (ha : 825 * t ≤ a ∧ a < 3300) (hh : hi2 ≤ 9999) (post : rRc g t P Q G (nuc K V lo hi2 i k)) {Q2 : Int → am_H → Prop} (bad : ∀ f h2, ¬ f = 0 → Q f h2 → Q2 f h2) (good : K i = 64 → i + 1 ≤ N → rRc g t P Q G (k (V i) (i + 1)) → lo ≤ V i → V i ≤ hi2 → ∀ h2, rC g h2 K V P E t (i + 1) w kd hr td → h2 297 a = V i → (∀ q : Int, q ≠ a → h2 297 q = h 297 q) → Q2 0 h2) : cf (d + 3) M_X7_figure [.inr (.inr 294), .inl a, .inl lo, .inl hi2] h Q2 := by
  have R := C.2.1.2.2.1
  have n := rtk_n R
  unfold nuc at post
  refine cf_of pX7 (Nat.le_of_ble_eq_true rfl) rfl (fun _ => B_X7_figure_0 ⟨fun q => ?_, fun q => ?_⟩)
  · have k64 := n.2.1.1 q
    have vv := rtk_v R k64
    rw [if_pos k64] at post
    have i1 := tk_lt H.1 hi (by omega)
    have t3 := H.2.1
    refine c_X7_isIn (fun a1 a2 => ⟨fun _ => ⟨by omega, ha.2, ?_⟩, fun y => by omega⟩) (fun a1 => ⟨fun y => absurd rfl y, fun _ => ?_⟩)
    · have ev : h 294 10 = V i := vv.1 (by
        by_cases z : V i ≤ 9999
        · exact z
        · have := vv.2 (by omega); omega)
      rw [ev]
      rw [ev] at a1 a2
      rw [if_neg (by omega)] at post
      refine c_nextC H (rC_up C (by omega)) i1 (fun h2 C2 R2 => good k64 i1 post a1 a2 h2 C2 (by rw [R2, am_up_at]) (fun q hq => by rw [R2, am_up_ne (by omega)]))
    · rw [if_pos (by
        by_cases z : V i ≤ 9999
        · have := vv.1 z; omega
        · omega)] at post
      exact bad _ _ (by simp) (post h (rC_X C))
  · rw [if_neg (fun z => q (n.2.1.2 z))] at post
    exact bad _ _ (by simp) (post h (rC_X C))
/-- a SUM behind a word -/
theorem c_furtherSum {k : Ex → Nat → Rc} {s v u : Int} (H : rG g K V P E N t) (C : rC g h K V P E t i w kd hr td) (hk : kd ≠ 4) (hi : i ≤ N) (w0 : 0 ≤ w) (w1 : w ≤ i) (hx : 825 * t + 1 ≤ x ∧ x + 9 ≤ 825 * t + 217) (hs : 0 ≤ s ∧ s ≤ 2) (hu : 0 ≤ u ∧ u ≤ 22) (ev : v = wdv u) {Q2 : Int → am_H → Prop} (post : rRc g t P Q G (prt1 K V u i k)) (bad : ∀ f h2, ¬ f = 0 → Q f h2 → Q2 f h2)
    (good : ∀ e j h2, i + 1 < j → j ≤ N → ws false e false → lx e + (i + 1) ≤ j → ly e ≤ lx e → rRc g t P Q G (k e j) → rC g h2 K V P E t j (w + ly e) kd hr td → rat (h2 297) (825 * t + 217) w e → h2 297 (x + 3 + 2 * s) = w → h2 297 (x + 4 + 2 * s) = w + ly e → (∀ q : Int, q < 825 * t + 217 + 2 * w → q ≠ x + 3 + 2 * s → q ≠ x + 4 + 2 * s → h2 297 q = h 297 q) → Q2 0 h2) : cf (D + 9) M_X7_furtherSum [.inr (.inr 294), .inl x, .inl s, .inr (.inl v)] h Q2 := by
  unfold prt1 at post
  refine cf_of pX7 (Nat.le_of_ble_eq_true rfl) rfl (fun _ => B_X7_furtherSum_0 (c_isW C.2.1 u hu ev (fun z => ⟨fun _ => ?_, fun y => absurd y (by omega)⟩) (fun z => ⟨fun y => absurd rfl y, fun _ => bad _ _ (by decide) (rRc_t0 post z h (rC_X C))⟩)))
  have i1 := tk_lt H.1 hi (by omega)
  refine c_nextC H C i1 (fun h2 C2 R2 => ?_)
  refine c_sumClause (D := D) (l := false) H C2 (by simp [hk]) i1 w0 (by omega) hx hs (rRc_t1 post z) bad (fun e j h3 j0 j1 we le ll post2 C3 R3 a1 a2 F3 => ?_)
  exact good e j h3 j0 j1 we le ll post2 C3 R3 a1 a2 (fun q hq z1 z2 => by rw [F3 q hq z1 z2, R2])
theorem c_fieldClause (H : rG g K V P E N t) {tx : List Cl} (C : rC g h K V P E t i w kd hr td) (hk : kd = 0 ∨ kd = 1 ∨ kd = 2) (htd : td = told tx) (hi : i ≤ N) (w0 : 0 ≤ w) (w1 : w + 1 ≤ i) (hx : 825 * t + 1 ≤ x ∧ x + 9 ≤ 825 * t + 217) (post : rRc g t P Q (gB g K V P E N t kd hr td Q h w x) (fdc K V tx kd i)) : cf (D + 10) M_X7_fieldClause [.inr (.inr 294), .inl kd, .inl x] h Q := by
  have n300 := H.1.1
  have t3 := H.2.1
  have tl := told_lt (tx := tx)
  unfold fdc at post
  have last : ∀ (h4 : am_H) (j : Nat) (w4 : Int) (td4 : Nat) (f : Nat) (a o : Ex), rC g h4 K V P E t j w4 kd hr td4 → f < 8 → td4 = td ||| 2 ^ f → i + 1 ≤ j → j ≤ N → w ≤ w4 → w4 ≤ j → ws false a false → ws false o false → h4 297 (x + 1) = f → rsp h4 t (x + 3) a w4 → (kd = 1 → rsp h4 t (x + 7) o w4) → rfr h h4 t x w → rRc g t P Q (gB g K V P E N t kd hr td Q h w x) (prt1 K V 11 j fun z j3 => .inr ((kd, (f : Int), 0, a, z, o), j3)) → wf (D + 10) M_X7_fieldClause Q 89 [some (.inr (.inr 294)), none, some (.inl x), none, some (.inl 0)] [] h4 := by
    intro h4 j w4 td4 f a o C4 f8 etd j0 j1 q1 q2 wa wo ef ra ro fr post2
    refine B_X7_fieldClause_89 ⟨fun _ => c_w2 (by omega) (by omega) (r := wdv 11) (by decide) ?_, fun y => absurd rfl y⟩
    refine c_furtherSum (D := D) (s := 1) (u := 11) H C4 (by omega) j1 (by omega) q2 hx (by omega) (by omega) rfl post2 (fun f h2 _ q => q) (fun z j3 h5 k0 k1 wz lz llz post5 C5 R5 a1 a2 F5 => ?_)
    refine post5 h5 _ _ C5 (by omega) (by omega) k1 (fun q hq z1 => by rw [F5 q (by omega) (by omega) (by omega)]; exact fr q hq z1) ⟨fun _ => ⟨?_, ?_⟩, fun _ => ?_, fun z1 => ?_, fun z1 => by simp only at z1; omega, fun z1 => by simp only at z1; omega⟩ (fun _ => ?_) (fun z1 => by simp only at z1; omega)
    · rw [F5 _ (by omega) (by omega) (by omega)]; exact ef
    · refine rsp_new R5 ?_ ?_ (by omega) (by simp only; omega) (by simp only; omega)
      · rw [show x + 5 = x + 3 + 2 * 1 by omega]; exact a1
      · rw [show x + 5 + 1 = x + 4 + 2 * 1 by omega]; exact a2
    · exact rsp_congr wa ra (by omega) (by omega) (F5 _ (by omega) (by omega) (by omega)) (F5 _ (by omega) (by omega) (by omega)) (fun q q0 q1 => F5 q q1 (by omega) (by omega))
    · exact rsp_congr wo (ro z1) (by omega) (by omega) (F5 _ (by omega) (by omega) (by omega)) (F5 _ (by omega) (by omega) (by omega)) (fun q q0 q1 => F5 q q1 (by omega) (by omega))
    · rw [etd]; simp
  refine cf_of pX7 (Nat.le_of_ble_eq_true rfl) rfl (fun _ => B_X7_fieldClause_0 (c_fieldNamed C.2.1 (fun k0 k1 => ⟨fun _ => ?_, fun y => by omega⟩) (fun k0 => ⟨fun y => by omega, fun _ => ?_⟩)))
  · rw [if_neg (by omega)] at post
    obtain ⟨f, hf⟩ : ∃ f : Nat, K i - 32 = f := ⟨(K i - 32).toNat, by omega⟩
    rw [hf] at post ⊢
    rw [show ((f : Nat) : Int).toNat = f by omega] at post
    have f8 : f < 8 := by omega
    have i1 := tk_lt H.1 hi (by omega)
    rw [C.2.2.2.2.2, htd]
    refine c_X7_has (by omega) (by omega) (fun tb => ⟨fun y => by omega, fun _ => ?_⟩) (fun tb => ⟨fun _ => ?_, fun y => absurd rfl y⟩)
    · rw [if_pos tb] at post
      exact post h (rC_X C)
    · rw [if_neg (by simp [tb])] at post
      rw [C.2.2.2.2.2, htd, ishl1 (by omega), ior_n (by omega) (by
        have := Nat.pow_lt_pow_right (a := 2) (m := f) (n := 8) (by decide) (by omega)
        omega), w32e (z := x + 1) (by omega) (by omega)]
      have C1 : rC g (am_up h 294 20 ((told tx ||| 2 ^ f : Nat) : Int)) K V P E t i w kd hr (told tx ||| 2 ^ f) := by
        obtain ⟨⟨c1, c2, c3⟩, c4, c5, c6, c7, c8⟩ := C
        refine ⟨⟨fun b q q2 q3 => by rw [upr q]; exact c1 b q q2 q3, fun j q => by rw [am_up_ne (by omega)]; exact c2 j q, fun q hq => by rw [upr (by omega)]; exact c3 q hq⟩, rL_congr c4 (fun j q => am_up_ne (by omega)) (upr (by omega)), ?_, ?_, ?_, am_up_at _ _ _ _⟩
        · rw [am_up_ne (by omega)]; exact c5
        · rw [am_up_ne (by omega)]; exact c6
        · rw [am_up_ne (by omega)]; exact c7
      refine ⟨by omega, by omega, c_nextC H (rC_up (a := x + 1) (v := (f : Int)) C1 (by omega)) i1 (fun h2 C2 R2 => c_w2 (by omega) (by omega) (r := wdv 9) (by decide) ?_)⟩
      have R2' : ∀ q : Int, q ≠ x + 1 → h2 297 q = h 297 q := fun q hq => by rw [R2, am_up_ne (by omega), upr (by omega)]
      have ef : h2 297 (x + 1) = f := by rw [R2, am_up_at]
      refine c_furtherSum (D := D) (s := 0) (u := 9) H C2 (by omega) i1 w0 (by omega) hx (by omega) (by omega) rfl post (fun f4 h4 n0 q => ⟨fun _ => B_X7_fieldClause_89 ⟨fun y => absurd y n0, fun _ => q⟩, fun y => absurd y n0⟩) (fun a j h4 j0 j1 wa la lla post4 C4 R4 a1 a2 F4 => ⟨fun y => absurd rfl y, fun _ => ?_⟩)
      · have ra : rsp h4 t (x + 3) a (w + ly a) := by
          refine rsp_new R4 ?_ ?_ w0 (by omega) (by omega)
          · rw [show x + 3 = x + 3 + 2 * 0 by omega]; exact a1
          · rw [show x + 3 + 1 = x + 4 + 2 * 0 by omega]; exact a2
        have fr4 : rfr h h4 t x w := fun q hq z1 => by rw [F4 q hq (by omega) (by omega)]; exact R2' q (by omega)
        have ef4 : h4 297 (x + 1) = f := by rw [F4 _ (by omega) (by omega) (by omega)]; exact ef
        refine ⟨fun k1 => ?_, fun k1 => ?_⟩
        · rw [if_neg k1] at post4
          exact last h4 j _ _ f a (xN 0) C4 f8 (by rw [htd]) (by omega) j1 (by omega) (by omega) wa ⟨rfl, by omega, by omega⟩ ef4 ra (fun z => absurd z k1) fr4 post4
        · rw [if_pos k1] at post4
          refine c_w2 (by omega) (by omega) (r := wdv 10) (by decide) ?_
          refine c_furtherSum (D := D) (s := 2) (u := 10) H C4 (by omega) j1 (by omega) (by omega) hx (by omega) (by omega) rfl post4 (fun f5 h5 n0 q => B_X7_fieldClause_89 ⟨fun y => absurd y n0, fun _ => q⟩) (fun o j2 h5 k0 k1 wo lo llo post5 C5 R5 b1 b2 F5 => ?_)
          · refine last h5 j2 _ _ f a o C5 f8 (by rw [htd]) (by omega) k1 (by omega) (by omega) wa wo (by rw [F5 _ (by omega) (by omega) (by omega)]; exact ef4) ?_ (fun _ => ?_) (fun q hq z1 => by rw [F5 q (by omega) (by omega) (by omega)]; exact fr4 q hq z1) post5
            · exact rsp_congr wa ra (by omega) (by omega) (F5 _ (by omega) (by omega) (by omega)) (F5 _ (by omega) (by omega) (by omega)) (fun q q0 q1 => F5 q q1 (by omega) (by omega))
            · refine rsp_new R5 ?_ ?_ (by omega) (by omega) (by omega)
              · rw [show x + 7 = x + 3 + 2 * 2 by omega]; exact b1
              · rw [show x + 7 + 1 = x + 4 + 2 * 2 by omega]; exact b2
  · rw [if_pos (by omega)] at post
    exact post h (rC_X C)
theorem c_body (H : rG g K V P E N t) {tx : List Cl} (C : rC g h K V P E t i w kd hr td) (hk : 0 ≤ kd ∧ kd ≤ 8) (htd : td = told tx) (hi : i ≤ N) (w0 : 0 ≤ w) (w1 : w + 1 ≤ i) (hx : 825 * t + 1 ≤ x ∧ x + 9 ≤ 825 * t + 217) (post : rRc g t P Q (gB g K V P E N t kd hr td Q h w x) (bdc K V tx kd i)) : cf (D + 11) M_X7_body [.inr (.inr 294), .inl kd, .inl x] h Q := by
  have n300 := H.1.1
  have t3 := H.2.1
  unfold bdc at post
  refine cf_of pX7 (Nat.le_of_ble_eq_true rfl) rfl (fun _ => B_X7_body_0 ⟨fun y => ?_, fun y => ?_, fun y => ?_, fun y => ?_, fun y => ?_, fun y => ?_, fun y => ?_⟩)
  · rw [if_neg (by omega), if_neg (by omega), if_neg (by omega), if_neg (by omega), if_neg (by omega), if_neg (by omega)] at post
    exact c_fieldClause (D := D) H C (by omega) htd hi w0 w1 hx post
  · rw [if_pos y] at post
    refine cf_of pX7 (Nat.le_of_ble_eq_true rfl) rfl (fun _ => B_X7_mustClause_0 ?_)
    rw [w32e (z := x + 3) (by omega) (by omega), w32e (z := x + 4) (by omega) (by omega), C.2.2.1]
    have C1 := rC_up (a := x + 3) (v := w) C (by omega)
    refine ⟨by omega, by omega, c_allE (D := D + 3) (l := false) (rC_E H C1 (by simp; omega)) C1.2.1 C1.2.2.1 hi w0 (by omega) ?_⟩
    have ok := pE_ok (l := false) (V := V) H.1 hi
    cases hr2 : pE K V false i with
    | inl y2 =>
      rw [hr2] at post
      intro h2 o2 e2
      exact ⟨by omega, by omega, post _ (rX_up (rO_X C1.1 o2 e2) (by omega))⟩
    | inr y2 =>
      rw [hr2] at post ok
      have ok2 : (i ≤ y2.2 ∧ y2.2 ≤ N) ∧ ws false y2.1 true ∧ lx y2.1 + i ≤ 0 + y2.2 ∧ sx y2.1 ≤ 46 := ok
      have ll := ly_lx _ _ ok2.2.1
      intro h2 o2 L2 e13 R2 S2
      refine ⟨by omega, by omega, ?_⟩
      rw [e13]
      have C2 := rC_up (a := x + 4) (v := w + ly y2.1) (rO_C C1 o2 L2 e13) (by omega)
      refine post _ _ _ C2 (by omega) (by omega) ok2.1.2 (fun q hq z1 => by rw [am_up_ne (by omega), S2 q (by omega), am_up_ne (by omega)]) ⟨fun z => by simp only at z; omega, fun _ => ?_, fun z => by simp only at z; omega, fun z => by simp only at z; omega, fun z => by simp only at z; omega⟩ (fun z => by simp only at z; omega) (fun _ => rfl)
      refine rsp_new (rat_congr _ _ ok2.2.1 _ R2 (fun q q0 q1 => am_up_ne (by omega))) ?_ ?_ w0 (by simp only; omega) (by simp only; omega)
      · rw [am_up_ne (by omega), S2 _ (by omega), am_up_at]
      · rw [show x + 3 + 1 = x + 4 by omega, am_up_at]
  · rw [if_neg (by omega), if_pos y] at post
    refine c_sumClause (D := D + 2) (l := true) H C (by simp; omega) hi w0 (by omega) hx (by omega) post (fun f h2 _ q => q) (fun e j h2 j0 j1 we le ll post2 C2 R2 a1 a2 F2 => ?_)
    refine post2 _ _ _ C2 (by omega) (by omega) j1 (fun q hq z1 => F2 q hq (by omega) (by omega)) ⟨fun z => by simp only at z; omega, fun _ => ?_, fun z => by simp only at z; omega, fun z => by simp only at z; omega, fun z => by simp only at z; omega⟩ (fun z => by simp only at z; omega) (fun _ => rfl)
    refine rsp_new R2 ?_ ?_ w0 (by simp only; omega) (by simp only; omega)
    · rw [show x + 3 = x + 3 + 2 * 0 by omega]; exact a1
    · rw [show x + 3 + 1 = x + 4 + 2 * 0 by omega]; exact a2
  · rw [if_neg (by omega), if_neg (by omega), if_pos y] at post
    refine cf_of pX7 (Nat.le_of_ble_eq_true rfl) rfl (fun _ => B_X7_setClause_0 ?_)
    rw [w32e (z := x + 1) (by omega) (by omega), w32e (z := x + 2) (by omega) (by omega)]
    refine c_figure H C hi (by omega) (by omega) post (fun f h2 n0 q => ⟨fun z => absurd z n0, fun _ => q⟩) (fun k64 i1 post2 v1 v2 h2 C2 e2 F2 => ⟨fun _ => c_w2 (by omega) (by omega) (r := wdv 11) (by decide) ?_, fun z => absurd rfl z⟩)
    refine c_isW C2.2.1 11 (by omega) rfl (fun z => ⟨fun _ => ?_, fun y => absurd y (by omega)⟩) (fun z => ⟨fun y => absurd rfl y, fun _ => rRc_t0 post2 z h2 (rC_X C2)⟩)
    have i2 := tk_lt H.1 i1 (by omega)
    refine c_nextC H C2 i2 (fun h3 C3 R3 => ?_)
    refine c_figure H C3 i2 (by omega) (by omega) (rRc_t1 post2 z) (fun f h2 n0 q => q) (fun k642 i3 post3 v3 v4 h4 C4 e4 F4 => ?_)
    refine post3 h4 w td C4 (by omega) (by omega) i3 (fun q hq z1 => by rw [F4 q (by omega), R3, F2 q (by omega)]) ⟨fun z => by simp only at z; omega, fun z => by simp only at z; omega, fun z => by simp only at z; omega, fun _ => ?_, fun _ => e4⟩ (fun z => by simp only at z; omega) (fun _ => rfl)
    rw [F4 _ (by omega), R3, e2]
  · rw [if_neg (by omega), if_neg (by omega), if_neg (by omega), if_pos y] at post
    rw [w32e (z := x + 1) (by omega) (by omega)]
    refine c_figure H C hi (by omega) (by omega) post (fun f h2 n0 q => q) (fun k64 i1 post2 v1 v2 h2 C2 e2 F2 => ?_)
    exact post2 h2 w td C2 (by omega) (by omega) i1 (fun q hq z1 => F2 q (by omega)) ⟨fun z => by simp only at z; omega, fun z => by simp only at z; omega, fun z => by simp only at z; omega, fun _ => e2, fun z => by simp only at z; omega⟩ (fun z => by simp only at z; omega) (fun _ => rfl)
  · rw [if_neg (by omega), if_neg (by omega), if_neg (by omega), if_neg (by omega), if_pos y] at post
    exact post h w td C (by omega) (by omega) hi (fun q hq z1 => rfl) ⟨fun z => by simp only at z; omega, fun z => by simp only at z; omega, fun z => by simp only at z; omega, fun z => absurd rfl z.2, fun z => by simp only at z; omega⟩ (fun z => by simp only at z; omega) (fun _ => rfl)
  · rw [if_neg (by omega), if_neg (by omega), if_neg (by omega), if_neg (by omega), if_neg (by omega), if_pos y] at post
    rw [w32e (z := x + 1) (by omega) (by omega)]
    refine c_figure H C hi (by omega) (by omega) post (fun f h2 n0 q => q) (fun k64 i1 post2 v1 v2 h2 C2 e2 F2 => ?_)
    exact post2 h2 w td C2 (by omega) (by omega) i1 (fun q hq z1 => F2 q (by omega)) ⟨fun z => by simp only at z; omega, fun z => by simp only at z; omega, fun z => by simp only at z; omega, fun _ => e2, fun z => by simp only at z; omega⟩ (fun z => by simp only at z; omega) (fun _ => rfl)
theorem c_sortOf (L : rL h K V P E i) (k1 : 0 ≤ K i → K i ≤ 8 → Q (K i) h) (k0 : K i < 0 ∨ 8 < K i → Q (-1) h) : cf (d + 3) M_X7_sortOf [.inr (.inr 294)] h Q := by
  have one : ∀ (u x : Int) (Q2 : Int → am_H → Prop), 0 ≤ u ∧ u ≤ 8 → x = wdv u → (K i = u → Q2 1 h) → (K i ≠ u → Q2 0 h) → cf (d + 2) M_X7_isWord [.inr (.inr 294), .inr (.inl x)] h Q2 := fun u x Q2 hu e a b => c_isW L u (by omega) e a b
  refine cf_of pX7 (Nat.le_of_ble_eq_true rfl) rfl (fun _ => B_X7_sortOf_0 ?_)
  refine c_w3 (by omega) (by omega) (by omega) (r := wdv 0) (by decide) (one 0 _ _ (by omega) rfl (fun z => ⟨fun y => absurd y (by omega), fun _ => by rw [← z]; exact k1 (by omega) (by omega)⟩) (fun z0 => ⟨fun _ => ?_, fun y => absurd rfl y⟩))
  refine c_w3 (by omega) (by omega) (by omega) (r := wdv 1) (by decide) (one 1 _ _ (by omega) rfl (fun z => ⟨fun y => absurd y (by omega), fun _ => by rw [← z]; exact k1 (by omega) (by omega)⟩) (fun z1 => ⟨fun _ => ?_, fun y => absurd rfl y⟩))
  refine c_w4 (by omega) (by omega) (by omega) (by omega) (r := wdv 2) (by decide) (one 2 _ _ (by omega) rfl (fun z => ⟨fun y => absurd y (by omega), fun _ => by rw [← z]; exact k1 (by omega) (by omega)⟩) (fun z2 => ⟨fun _ => ?_, fun y => absurd rfl y⟩))
  refine c_w4 (by omega) (by omega) (by omega) (by omega) (r := wdv 3) (by decide) (one 3 _ _ (by omega) rfl (fun z => ⟨fun y => absurd y (by omega), fun _ => by rw [← z]; exact k1 (by omega) (by omega)⟩) (fun z3 => ⟨fun _ => ?_, fun y => absurd rfl y⟩))
  refine c_w4 (by omega) (by omega) (by omega) (by omega) (r := wdv 4) (by decide) (one 4 _ _ (by omega) rfl (fun z => ⟨fun y => absurd y (by omega), fun _ => by rw [← z]; exact k1 (by omega) (by omega)⟩) (fun z4 => ⟨fun _ => ?_, fun y => absurd rfl y⟩))
  refine c_w3 (by omega) (by omega) (by omega) (r := wdv 5) (by decide) (one 5 _ _ (by omega) rfl (fun z => ⟨fun y => absurd y (by omega), fun _ => by rw [← z]; exact k1 (by omega) (by omega)⟩) (fun z5 => ⟨fun _ => ?_, fun y => absurd rfl y⟩))
  refine c_w4 (by omega) (by omega) (by omega) (by omega) (r := wdv 6) (by decide) (one 6 _ _ (by omega) rfl (fun z => ⟨fun y => absurd y (by omega), fun _ => by rw [← z]; exact k1 (by omega) (by omega)⟩) (fun z6 => ⟨fun _ => ?_, fun y => absurd rfl y⟩))
  refine c_w4 (by omega) (by omega) (by omega) (by omega) (r := wdv 7) (by decide) (one 7 _ _ (by omega) rfl (fun z => ⟨fun y => absurd y (by omega), fun _ => by rw [← z]; exact k1 (by omega) (by omega)⟩) (fun z7 => ⟨fun _ => ?_, fun y => absurd rfl y⟩))
  exact c_w3 (by omega) (by omega) (by omega) (r := wdv 8) (by decide) (one 8 _ _ (by omega) rfl (fun z => ⟨fun y => absurd y (by omega), fun _ => by rw [← z]; exact k1 (by omega) (by omega)⟩) (fun z8 => ⟨fun _ => k0 (by omega), fun y => absurd rfl y⟩))
end RCLAUSE
