/-! LEVEL 3, the reference reads SUMS and EITHERS by the TOKENS: all of it *at once* -/
def rPo (g : am_H) (P : Nat → Int) (c : Int) (Q : Int → am_H → Prop) (G : Ex → Nat → Prop) (r : Rs) : Prop := match r with
  | .inl x => ∀ h2, rO g h2 c → h2 294 8 = P x.2 → Q x.1 h2
  | .inr x => G x.1 x.2
def rG1 (g : am_H) (K V P E : Nat → Int) (c : Int) (D : Nat) (v1 : Int) (Q : Int → am_H → Prop) (us : List Int) (h : am_H) (w : Int) (ob : Nat) (σ : List Int) (e : Ex) (j : Nat) : Prop := ∀ h2, rS g h2 K V P E c j (w + ly e + us.length) ob σ true → rat (h2 297) c w (wrU us e) → (∀ q : Int, q < c + 2 * w → h2 297 q = h 297 q) → wLp D Q v1 h2
def rGm (g : am_H) (K V P E : Nat → Int) (c : Int) (D : Nat) (v1 : Int) (Q : Int → am_H → Prop) (m : Int) (h : am_H) (w : Int) (o : Nat) (σ : List Int) (e : Ex) (j : Nat) : Prop := ∀ h2 w2 pend, pnd g h2 K V P E c m w w2 j o σ pend e → (∀ q : Int, q < c + 2 * w → h2 297 q = h 297 q) → stopK m (K j) → wLp D Q v1 h2
section RPRS
variable {g : am_H} {K V P E : Nat → Int} {N : Nat} {c t : Int} {l : Bool}
theorem rPo_call {Q : Int → am_H → Prop} {G G2 : Ex → Nat → Prop} {r : Rs} {k : Ex → Nat → Rs} {j0 b : Nat} {s : Bool} (ok : okR N l j0 0 s b r) (post : rPo g P c Q G (bnd r k)) (good : ∀ e j, j0 < j → j ≤ N → ws l e s → lx e + j0 ≤ j → ly e ≤ lx e → sx e ≤ b → rPo g P c Q G (k e j) → G2 e j) : rPo g P c Q G2 r := by
  cases r with
  | inl x => exact post
  | inr x =>
    have h2 : (j0 ≤ x.2 ∧ x.2 ≤ N) ∧ ws l x.1 s ∧ lx x.1 + j0 ≤ 0 + x.2 ∧ sx x.1 ≤ b := ok
    have p := lx_pos _ _ h2.2.1
    exact good x.1 x.2 (by omega) h2.1.2 h2.2.1 (by omega) (ly_lx _ _ h2.2.1) h2.2.2.2 post
theorem rPo_m {Q : Int → am_H → Prop} {G G2 : Ex → Nat → Prop} {r : Rs} (post : rPo g P c Q G r) (f : ∀ e j, G e j → G2 e j) : rPo g P c Q G2 r := by
  cases r with
  | inl x => exact post
  | inr x => exact f _ _ post
theorem rPo_o1 {Q : Int → am_H → Prop} {G : Ex → Nat → Prop} {r : Rs} {o i : Nat} (post : rPo g P c Q G (opn o i r)) (q : o < 8) : rPo g P c Q G r := by
  rw [opn, if_pos q] at post
  exact post
theorem rPo_o0 {Q : Int → am_H → Prop} {G : Ex → Nat → Prop} {r : Rs} {o i : Nat} (post : rPo g P c Q G (opn o i r)) (q : ¬ o < 8) : ∀ h2, rO g h2 c → h2 294 8 = P i → Q 3 h2 := by
  rw [opn, if_neg q] at post
  exact post
theorem rPo_t1 {Q : Int → am_H → Prop} {G : Ex → Nat → Prop} {r : Rs} {t1 : Int} {i : Nat} (post : rPo g P c Q G (tkE K t1 i r)) (q : K i = t1) : rPo g P c Q G r := by
  rw [tkE, if_pos q] at post
  exact post
theorem rPo_t0 {Q : Int → am_H → Prop} {G : Ex → Nat → Prop} {r : Rs} {t1 : Int} {i : Nat} (post : rPo g P c Q G (tkE K t1 i r)) (q : K i ≠ t1) : ∀ h2, rO g h2 c → h2 294 8 = P i → Q 1 h2 := by
  rw [tkE, if_neg q] at post
  exact post
theorem pnd_S {h : am_H} {m w w2 : Int} {i o : Nat} {σ pend : List Int} {a : Ex} (p : pnd g h K V P E c m w w2 i o σ pend a) : rO g h c ∧ h 294 8 = P i := ⟨p.1.1, p.1.2.1.2.1⟩
theorem rk52 {us : List Int} (hu : ∀ u, u ∈ us → u = 5 ∨ u = 2) : ∀ u, u ∈ us → rkO u = 7 := fun u q => by rcases hu u q with rfl | rfl <;> decide
theorem pnd_r {m w w2 : Int} {h : am_H} {i o : Nat} {σ pend : List Int} {a : Ex} (p : pnd g h K V P E c m w w2 i o σ pend a) (m1 : 1 ≤ m) : ∀ y, y ∈ pend → 1 ≤ rkO y := fun y hy => by have := (p.2.1 y hy).1; omega
theorem nask {x : Int} {σ : List Int} (h : 40 ≤ x) (h1 : x ≠ 41) (h2 : x ≠ 44) : ¬ aska (x :: σ) := fun q => by
  have q1 : isA (opw (x :: σ)) := q.1
  simp only [opw] at q1
  rw [if_pos h] at q1
  rcases q1 with q1 | q1
  · exact h1 q1
  · exact h2 q1
theorem nask2 {x : Int} {σ : List Int} (h : x < 40) (h1 : 4 ≤ rkO x) : ¬ aska (x :: σ) := fun q => by
  have q2 : 40 ≤ x ∨ (1 ≤ rkO x ∧ rkO x ≤ 3) := q.2
  omega
theorem btw_no {k : Int} {σ : List Int} (h : stopK 5 k) (hA : ¬ isA (opw σ)) : ∀ r, btw k σ r → r < 0 := fun r q => by
  have h1 := h.1
  have h2 := h.2.1 (by omega)
  rcases q with q | q | q | q | ⟨_, q | q | q⟩
  · omega
  · omega
  · omega
  · omega
  · omega
  · exact absurd q.1 hA
  · exact absurd q.1 hA
theorem btw_no2 {k : Int} {σ : List Int} (h : stopK 1 k) (hc : cpd σ = true) : ∀ r, btw k σ r → r < 0 := fun r q => by
  have h1 := h.1
  have h2 := h.2.1 (by omega)
  have h3 := h.2.2.1 (by omega)
  have h4 := h.2.2.2 (by omega)
  rcases q with q | q | q | q | ⟨_, q | q | q⟩
  · omega
  · omega
  · omega
  · omega
  · omega
  · rw [hc] at q; simp at q
  · omega
def rGo (g : am_H) (K V P E : Nat → Int) (N : Nat) (c : Int) (l : Bool) (n : Nat) : Prop := ∀ (D i : Nat) (a : Ex) (h : am_H) (w v1 : Int) (σ : List Int) (Q : Int → am_H → Prop), i ≤ N → 0 ≤ w → (v1 = -1 ∨ v1 = 44) →
    (∀ (us : List Int) (ob : Nat), ob + us.length ≤ 8 → 16 * (N - i) + 1 ≤ n → (∀ u, u ∈ us → u = 5 ∨ u = 2) → us.length + σ.length ≤ 7 + 6 * (ob + us.length) → w + us.length ≤ i → top σ (fun x => rkO x < 7) → (K i = 19 → ¬ aska (us ++ σ)) → rS g h K V P E c i w (ob + us.length) (us ++ σ) false → rPo g P c Q (rG1 g K V P E c D v1 Q us h w ob σ) (prs K V l n 0 (ob + us.length) i a) → wLp D Q v1 h) ∧
    (∀ o : Nat, o ≤ 8 → 16 * (N - i) + 2 ≤ n → σ.length ≤ 6 + 6 * o → w ≤ i → top σ (fun x => rkO x < 6) → (K i = 19 → ¬ aska σ) → rS g h K V P E c i w o σ false → rPo g P c Q (rGm g K V P E c D v1 Q 6 h w o σ) (prs K V l n 1 o i a) → wLp D Q v1 h) ∧
    (∀ (o : Nat) (w2 : Int) (pend : List Int), o ≤ 8 → 16 * (N - i) + 1 ≤ n → σ.length ≤ 6 + 6 * o → w + lx a ≤ i → ws l a false → sx a ≤ 2 + 5 * (8 - o) → top σ (fun x => rkO x < 6) → pnd g h K V P E c 6 w w2 i o σ pend a → rPo g P c Q (rGm g K V P E c D v1 Q 6 h w o σ) (prs K V l n 2 o i a) → wLp D Q v1 h) ∧
    (∀ o : Nat, o ≤ 8 → 16 * (N - i) + 3 ≤ n → σ.length ≤ 5 + 6 * o → w ≤ i → top σ (fun x => rkO x < 5) → (K i = 19 → ¬ aska σ) → rS g h K V P E c i w o σ false → rPo g P c Q (rGm g K V P E c D v1 Q 5 h w o σ) (prs K V l n 3 o i a) → wLp D Q v1 h) ∧
    (∀ (o : Nat) (w2 : Int) (pend : List Int), o ≤ 8 → 16 * (N - i) + 1 ≤ n → σ.length ≤ 5 + 6 * o → w + lx a ≤ i → ws l a false → sx a ≤ 3 + 5 * (8 - o) → top σ (fun x => rkO x < 5) → stopK 6 (K i) → pnd g h K V P E c 5 w w2 i o σ pend a → rPo g P c Q (rGm g K V P E c D v1 Q 5 h w o σ) (prs K V l n 4 o i a) → wLp D Q v1 h) ∧
    (∀ o : Nat, o ≤ 8 → 16 * (N - i) + 4 ≤ n → σ.length ≤ 4 + 6 * o → w ≤ i → top σ (fun x => rkO x ≤ 3) → aska σ → rS g h K V P E c i w o σ false → rPo g P c Q (rGm g K V P E c D v1 Q 3 h w o σ) (prs K V l n 5 o i a) → wLp D Q v1 h) ∧
    (∀ o : Nat, o ≤ 8 → 16 * (N - i) + 5 ≤ n → σ.length ≤ 3 + 6 * o → w ≤ i → top σ (fun x => rkO x < 2) → aska σ → rS g h K V P E c i w o σ false → rPo g P c Q (rGm g K V P E c D v1 Q 2 h w o σ) (prs K V l n 6 o i a) → wLp D Q v1 h) ∧
    (∀ (o : Nat) (w2 : Int) (pend : List Int), o ≤ 8 → 16 * (N - i) + 1 ≤ n → σ.length ≤ 3 + 6 * o → w + lx a ≤ i → ws l a true → sx a ≤ 5 + 5 * (8 - o) → top σ (fun x => rkO x < 2) → aska σ → stopK 3 (K i) → pnd g h K V P E c 2 w w2 i o σ pend a → rPo g P c Q (rGm g K V P E c D v1 Q 2 h w o σ) (prs K V l n 7 o i a) → wLp D Q v1 h) ∧
    (∀ o : Nat, o ≤ 8 → 16 * (N - i) + 6 ≤ n → σ.length ≤ 2 + 6 * o → w ≤ i → top σ (fun x => rkO x < 1) → aska σ → rS g h K V P E c i w o σ false → rPo g P c Q (rGm g K V P E c D v1 Q 1 h w o σ) (prs K V l n 8 o i a) → wLp D Q v1 h) ∧
    (∀ (o : Nat) (w2 : Int) (pend : List Int), o ≤ 8 → 16 * (N - i) + 1 ≤ n → σ.length ≤ 2 + 6 * o → w + lx a ≤ i → ws l a true → sx a ≤ 6 + 5 * (8 - o) → top σ (fun x => rkO x < 1) → aska σ → stopK 2 (K i) → pnd g h K V P E c 1 w w2 i o σ pend a → rPo g P c Q (rGm g K V P E c D v1 Q 1 h w o σ) (prs K V l n 9 o i a) → wLp D Q v1 h)
theorem rprs_one (H : rE g K V P E N c t l) {n : Nat} (ih : rGo g K V P E N c l n) (D i : Nat) (a : Ex) (h : am_H) (w v1 : Int) (σ : List Int) (Q : Int → am_H → Prop) (hi : i ≤ N) (w0 : 0 ≤ w) (hv : v1 = -1 ∨ v1 = 44) :
    (∀ (us : List Int) (ob : Nat), ob + us.length ≤ 8 → 16 * (N - i) + 1 ≤ n + 1 → (∀ u, u ∈ us → u = 5 ∨ u = 2) → us.length + σ.length ≤ 7 + 6 * (ob + us.length) → w + us.length ≤ i → top σ (fun x => rkO x < 7) → (K i = 19 → ¬ aska (us ++ σ)) → rS g h K V P E c i w (ob + us.length) (us ++ σ) false → rPo g P c Q (rG1 g K V P E c D v1 Q us h w ob σ) (prs K V l (n + 1) 0 (ob + us.length) i a) → wLp D Q v1 h) := by
  intro us ob ho hf hu hl hw ht hk S post
  have tk := H.1
  have n300 := tk.1
  have hu7 := rk52 hu
  simp only [prs] at post
  have len : (us ++ σ).length ≤ 60 := by rw [List.length_append]; omega
  by_cases c1 : K i = 12
  · rw [if_pos c1] at post
    have i1 := tk_lt tk hi (by omega)
    refine wLp_open H S i1 (Or.inr (Or.inr (Or.inl ⟨c1, rfl⟩))) (by omega) ho (fun o8 h2 S2 R2 => ?_) (fun o8 => rPo_o0 post o8 h S.1 S.2.1.2.1)
    have ok := (prs_ok (l := l) tk n (ob + us.length + 1) (i + 1) a (by omega) i1).1 (by omega)
    refine (ih D (i + 1) a h2 w v1 σ Q i1 w0 hv).1 (2 :: us) ob (by simp only [List.length_cons]; omega) (by omega) (fun u q => by rcases List.mem_cons.mp q with rfl | q; exact Or.inr rfl; exact hu u q) (by simp only [List.length_cons]; omega) (by simp only [List.length_cons]; omega) ht (fun _ => nask2 (by omega) (by decide)) S2 (rPo_call ok (rPo_o1 post o8) (fun e j j0 j1 we le ll se post2 h3 S3 C3 R3 => ?_))
    refine post2 h3 ?_ C3 (fun q hq => by rw [R3 q hq, R2])
    rw [show w + (ly (xU 9 e) : Int) + us.length = w + ly e + ((2 :: us).length : Nat) by simp only [ly, List.length_cons]; omega]
    exact S3
  · rw [if_neg c1] at post
    by_cases c2 : K i = 13
    · rw [if_pos c2] at post
      have i1 := tk_lt tk hi (by omega)
      refine wLp_open H S i1 (Or.inr (Or.inr (Or.inr (Or.inl ⟨c2, rfl⟩)))) (by omega) ho (fun o8 h2 S2 R2 => ?_) (fun o8 => rPo_o0 post o8 h S.1 S.2.1.2.1)
      have ok := (prs_ok (l := l) tk n (ob + us.length + 1) (i + 1) a (by omega) i1).2.2.2.2.2.2.2.2.1 (by omega)
      refine (ih D (i + 1) a h2 w v1 (41 :: (us ++ σ)) Q i1 w0 hv).2.2.2.2.2.2.2.2.1 (ob + us.length + 1) (by omega) (by omega) (by simp only [List.length_cons, List.length_append]; omega) (by omega) (by show rkO 41 < 1; decide) ⟨by simp only [opw]; rw [if_pos (by omega)]; exact Or.inl rfl, Or.inl (by omega)⟩ S2 (rPo_call ok (rPo_o1 post o8) (fun C j j0 j1 wC lC llC sC post5 h5 w5 pend5 p5 R5 st5 => ?_))
      have cc5 := p5.2.2.2.2.1 (by omega)
      have o5 : opw (pend5 ++ 41 :: (us ++ σ)) = 41 := by rw [opw_app _ (pnd_r p5 (by omega))]; simp only [opw]; rw [if_pos (by omega)]
      have pC := lx_pos _ _ wC
      by_cases t1 : K j = 14
      · have j11 := tk_lt tk j1 (by omega)
        refine pnd_part (r := 42) H p5 j11 (by omega) (btw_no2 st5 cc5) (fun r2 q => by rcases q with q | q | q | q | q; omega; exact q.2.2.2; omega; omega; exact absurd ⟨rfl, t1, cc5⟩ q.2.1) (by omega) (by omega) w0 (by omega) (by omega) (fun h8 S8 C8 R8 => ?_)
        have ok2 := (prs_ok (l := l) tk n (ob + us.length + 1) (j + 1) a (by omega) j11).2.2.2.1 (by omega)
        refine (ih D (j + 1) a h8 (w + ly C) v1 (42 :: (us ++ σ)) Q j11 (by omega) hv).2.2.2.1 (ob + us.length + 1) (by omega) (by omega) (by simp only [List.length_cons, List.length_append]; omega) (by omega) (by show rkO 42 < 5; decide) (fun _ => nask (by omega) (by omega) (by omega)) S8 (rPo_call ok2 (rPo_t1 post5 t1) (fun X j2 k0 k1 wX lX llX sX post13 h13 w13 pend13 p13 R13 st13 => ?_))
        have o13 : opw (pend13 ++ 42 :: (us ++ σ)) = 42 := by rw [opw_app _ (pnd_r p13 (by omega))]; simp only [opw]; rw [if_pos (by omega)]
        have b13 := btw_no (σ := pend13 ++ 42 :: (us ++ σ)) st13 (by rw [o13]; intro q; rcases q with q | q <;> omega)
        by_cases t2 : K j2 = 15
        · have k11 := tk_lt tk k1 (by omega)
          refine pnd_part (r := 43) H p13 k11 (by omega) b13 (fun r2 q => by rcases q with q | q | q | q | q; omega; omega; exact q.2.2; omega; exact absurd ⟨rfl, t2⟩ q.2.2.1) (by omega) (by omega) (by omega) (by omega) (by omega) (fun h16 S16 C16 R16 => ?_)
          have ok3 := (prs_ok (l := l) tk n (ob + us.length + 1) (j2 + 1) a (by omega) k11).2.2.2.1 (by omega)
          refine (ih D (j2 + 1) a h16 (w + ly C + ly X) v1 (43 :: (us ++ σ)) Q k11 (by omega) hv).2.2.2.1 (ob + us.length + 1) (by omega) (by omega) (by simp only [List.length_cons, List.length_append]; omega) (by omega) (by show rkO 43 < 5; decide) (fun _ => nask (by omega) (by omega) (by omega)) S16 (rPo_call ok3 (rPo_t1 post13 t2) (fun Y j3 m0 m1 wY lY llY sY post23 h23 w23 pend23 p23 R23 st23 => ?_))
          have o23 : opw (pend23 ++ 43 :: (us ++ σ)) = 43 := by rw [opw_app _ (pnd_r p23 (by omega))]; simp only [opw]; rw [if_pos (by omega)]
          have b23 := btw_no (σ := pend23 ++ 43 :: (us ++ σ)) st23 (by rw [o23]; intro q; rcases q with q | q <;> omega)
          by_cases t3 : K j3 = 16
          · have m11 := tk_lt tk m1 (by omega)
            refine pnd_close (s1 := 1) H p23 m11 (Or.inr ⟨rfl, rfl⟩) b23 (fun r2 q => by rcases q with q | q | q | q | q; omega; omega; omega; exact q.2.2; exact absurd ⟨rfl, t3⟩ q.2.2.2.1) (by omega) (by omega) (by omega) (by omega) hu7 ht (fun h26 S26 C26 e26 U26 R26 => ?_)
            refine rPo_t1 post23 t3 h26 ?_ (rat_wr us _ hu ?_ ?_) (fun q hq => ?_)
            · rw [show w + (ly (xI C X Y) : Int) + us.length = w + ly C + ly X + ly Y + ((1 : Nat) : Int) + us.length by simp only [ly]; omega]
              exact S26
            · simp only [rat]
              refine ⟨rat_congr _ _ wC _ C8 (fun q q0 q1 => ?_), rat_congr _ _ wX _ C16 (fun q q0 q1 => ?_), C26, e26 rfl⟩
              · rw [R26 q (by omega), R23 q (by omega), R16 q (by omega), R13 q (by omega)]
              · rw [R26 q (by omega), R23 q (by omega)]
            · rw [show w + (ly (xI C X Y) : Int) = w + ly C + ly X + ly Y + ((1 : Nat) : Int) by simp only [ly]; omega]
              exact U26
            · rw [R26 q (by omega), R23 q (by omega), R16 q (by omega), R13 q (by omega), R8 q (by omega), R5 q (by omega), R2]
          · exact pnd_fail p23 (by omega) (by simp only [List.length_cons]; omega) b23 (fun r q => by rw [o23] at q; rcases q with q | q | q | q | q; omega; omega; omega; exact absurd q.2.1 t3; omega) (Or.inl (by rw [o23]; omega)) (rPo_t0 post23 t3 h23 (pnd_S p23).1 (pnd_S p23).2)
        · exact pnd_fail p13 (by omega) (by simp only [List.length_cons]; omega) b13 (fun r q => by rw [o13] at q; rcases q with q | q | q | q | q; omega; omega; exact absurd q.2.1 t2; omega; omega) (Or.inl (by rw [o13]; omega)) (rPo_t0 post13 t2 h13 (pnd_S p13).1 (pnd_S p13).2)
      · exact pnd_fail p5 (by omega) (by simp only [List.length_cons]; omega) (btw_no2 st5 cc5) (fun r q => by rw [o5] at q; rcases q with q | q | q | q | q; omega; exact absurd q.2.1 t1; omega; omega; omega) (Or.inl (by rw [o5]; omega)) (rPo_t0 post5 t1 h5 (pnd_S p5).1 (pnd_S p5).2)
    · rw [if_neg c2] at post
      by_cases c3 : K i = 168
      · rw [if_pos c3] at post
        have i1 := tk_lt tk hi (by omega)
        refine wLp_open H S i1 (Or.inl ⟨c3, rfl⟩) (by omega) ho (fun o8 h2 S2 R2 => ?_) (fun o8 => rPo_o0 post o8 h S.1 S.2.1.2.1)
        have ok := (prs_ok (l := l) tk n (ob + us.length + 1) (i + 1) a (by omega) i1).2.2.2.1 (by omega)
        refine (ih D (i + 1) a h2 w v1 (40 :: (us ++ σ)) Q i1 w0 hv).2.2.2.1 (ob + us.length + 1) (by omega) (by omega) (by simp only [List.length_cons, List.length_append]; omega) (by omega) (by show rkO 40 < 5; decide) (fun _ => nask (by omega) (by omega) (by omega)) S2 (rPo_call ok (rPo_o1 post o8) (fun C j j0 j1 wC lC llC sC post5 h5 w5 pend5 p5 R5 st5 => ?_))
        have o5 : opw (pend5 ++ 40 :: (us ++ σ)) = 40 := by rw [opw_app _ (pnd_r p5 (by omega))]; simp only [opw]; rw [if_pos (by omega)]
        have b5 := btw_no (σ := pend5 ++ 40 :: (us ++ σ)) st5 (by rw [o5]; intro q; rcases q with q | q <;> omega)
        by_cases t1 : K j = 169
        · have j11 := tk_lt tk j1 (by omega)
          refine pnd_close (s1 := 0) H p5 j11 (Or.inl ⟨rfl, rfl⟩) b5 (fun r2 q => by rcases q with q | q | q | q | q; exact q.2.2; omega; omega; omega; exact absurd ⟨rfl, t1⟩ q.1) (by omega) (by omega) (by omega) (by omega) hu7 ht (fun h26 S26 C26 e26 U26 R26 => ?_)
          refine rPo_t1 post5 t1 h26 ?_ (rat_wr us _ hu C26 ?_) (fun q hq => ?_)
          · simpa using S26
          · simpa using U26
          · rw [R26 q (by omega), R5 q (by omega), R2]
        · exact pnd_fail p5 (by omega) (by simp only [List.length_cons]; omega) b5 (fun r q => by rw [o5] at q; rcases q with q | q | q | q | q; exact absurd q.2.1 t1; omega; omega; omega; omega) (Or.inl (by rw [o5]; omega)) (rPo_t0 post5 t1 h5 (pnd_S p5).1 (pnd_S p5).2)
      · rw [if_neg c3] at post
        by_cases c4 : K i = 173
        · rw [if_pos c4] at post
          have i1 := tk_lt tk hi (by omega)
          refine wLp_open H S i1 (Or.inr (Or.inl ⟨c4, rfl⟩)) (by omega) ho (fun o8 h2 S2 R2 => ?_) (fun o8 => rPo_o0 post o8 h S.1 S.2.1.2.1)
          have ok := (prs_ok (l := l) tk n (ob + us.length + 1) (i + 1) a (by omega) i1).1 (by omega)
          refine (ih D (i + 1) a h2 w v1 σ Q i1 w0 hv).1 (5 :: us) ob (by simp only [List.length_cons]; omega) (by omega) (fun u q => by rcases List.mem_cons.mp q with rfl | q; exact Or.inl rfl; exact hu u q) (by simp only [List.length_cons]; omega) (by simp only [List.length_cons]; omega) ht (fun _ => nask2 (by omega) (by decide)) S2 (rPo_call ok (rPo_o1 post o8) (fun e j j0 j1 we le ll se post2 h3 S3 C3 R3 => ?_))
          refine post2 h3 ?_ C3 (fun q hq => by rw [R3 q hq, R2])
          rw [show w + (ly (xU 7 e) : Int) + us.length = w + ly e + ((5 :: us).length : Nat) by simp only [ly, List.length_cons]; omega]
          exact S3
        · rw [if_neg c4] at post
          unfold nmR1 at post
          by_cases c5 : K i = 64
          · have i1 := tk_lt tk hi (by omega)
            rw [if_pos c5] at post
            by_cases c6 : 9999 < V i
            · rw [if_pos c6] at post
              exact wLp_bad H S (by omega) (Or.inl ⟨c5, c6, rfl⟩) (post h S.1 S.2.1.2.1)
            · rw [if_neg c6] at post
              refine wLp_leaf H S i1 (Or.inl ⟨c5, by omega, rfl, rfl⟩) w0 (by omega) (by omega) (by omega) hu7 ht (fun h2 S2 e2 e2b U2 R2 => ?_)
              refine post h2 S2 (rat_wr us _ hu ?_ U2) R2
              simp only [rat]
              exact ⟨e2, e2b⟩
          · rw [if_neg c5] at post
            by_cases c6 : nmK (K i) < 0
            · rw [if_pos c6] at post
              exact wLp_bad H S (by omega) (Or.inr (Or.inr ⟨c5, c6, c3, c4, c1, c2, hk, rfl⟩)) (post h S.1 S.2.1.2.1)
            · rw [if_neg c6] at post
              have i1 := tk_lt tk hi (nmK_ne c6)
              by_cases c7 : (l = true ∧ (nmK (K i) = 8 ∨ 10 ≤ nmK (K i))) ∨ (l = false ∧ nmK (K i) ≤ 9)
              · rw [if_pos c7] at post
                refine wLp_leaf H S i1 (Or.inr ⟨by omega, c7, rfl, rfl⟩) w0 (by omega) (by omega) (by omega) hu7 ht (fun h2 S2 e2 e2b U2 R2 => ?_)
                refine post h2 S2 (rat_wr us _ hu ?_ U2) R2
                simp only [rat]
                exact ⟨e2, by rw [e2b]; omega⟩
              · rw [if_neg c7] at post
                exact wLp_bad H S (by omega) (Or.inr (Or.inl ⟨by omega, c7, rfl⟩)) (post h S.1 S.2.1.2.1)

theorem rprs_product (H : rE g K V P E N c t l) {n : Nat} (ih : rGo g K V P E N c l n) (D i : Nat) (a : Ex) (h : am_H) (w v1 : Int) (σ : List Int) (Q : Int → am_H → Prop) (hi : i ≤ N) (w0 : 0 ≤ w) (hv : v1 = -1 ∨ v1 = 44) :
    (∀ o : Nat, o ≤ 8 → 16 * (N - i) + 2 ≤ n + 1 → σ.length ≤ 6 + 6 * o → w ≤ i → top σ (fun x => rkO x < 6) → (K i = 19 → ¬ aska σ) → rS g h K V P E c i w o σ false → rPo g P c Q (rGm g K V P E c D v1 Q 6 h w o σ) (prs K V l (n + 1) 1 o i a) → wLp D Q v1 h) := by
  intro o ho hf hl hw ht hk S post
  have tk := H.1
  simp only [prs] at post
  have ok := (prs_ok (l := l) tk n o i a ho hi).1 (by omega)
  refine (ih D i a h w v1 σ Q hi w0 hv).1 [] o ho (by omega) (fun u q => by simp at q) (by simp; omega) (by simpa using hw) (by cases σ with | nil => trivial | cons x r => exact Int.lt_trans ht (by omega)) hk S (rPo_call ok post (fun e j j0 j1 we le ll se post2 h2 S2 C2 R2 => ?_))
  have S3 : rS g h2 K V P E c j (w + ly e) o σ true := by simpa using S2
  exact (ih D j e h2 w v1 σ Q j1 w0 hv).2.2.1 o (w + ly e) [] ho (by omega) hl (by omega) we (by omega) ht (pnd_w (pnd_nil we S3 C2 ho) (by omega) (fun y => by omega) (fun _ => rfl)) (rPo_m post2 (fun e2 j2 G h3 w3 pend3 p3 R3 st3 => G h3 w3 pend3 p3 (fun q hq => by rw [R3 q hq, R2 q hq]) st3))
theorem rprs_sum (H : rE g K V P E N c t l) {n : Nat} (ih : rGo g K V P E N c l n) (D i : Nat) (a : Ex) (h : am_H) (w v1 : Int) (σ : List Int) (Q : Int → am_H → Prop) (hi : i ≤ N) (w0 : 0 ≤ w) (hv : v1 = -1 ∨ v1 = 44) :
    (∀ o : Nat, o ≤ 8 → 16 * (N - i) + 3 ≤ n + 1 → σ.length ≤ 5 + 6 * o → w ≤ i → top σ (fun x => rkO x < 5) → (K i = 19 → ¬ aska σ) → rS g h K V P E c i w o σ false → rPo g P c Q (rGm g K V P E c D v1 Q 5 h w o σ) (prs K V l (n + 1) 3 o i a) → wLp D Q v1 h) := by
  intro o ho hf hl hw ht hk S post
  have tk := H.1
  simp only [prs] at post
  have ok := (prs_ok (l := l) tk n o i a ho hi).2.1 (by omega)
  refine (ih D i a h w v1 σ Q hi w0 hv).2.1 o ho (by omega) (by omega) hw (by cases σ with | nil => trivial | cons x r => exact Int.lt_trans ht (by omega)) hk S (rPo_call ok post (fun e j j0 j1 we le ll se post2 h2 w2 pend2 p2 R2 st2 => ?_))
  exact (ih D j e h2 w v1 σ Q j1 w0 hv).2.2.2.2.1 o w2 pend2 ho (by omega) hl (by omega) we (by omega) ht st2 (pnd_w p2 (by omega) (fun _ => by omega) (fun _ => p2.2.2.2.2.2.1 (by omega))) (rPo_m post2 (fun e2 j2 G h3 w3 pend3 p3 R3 st3 => G h3 w3 pend3 p3 (fun q hq => by rw [R3 q hq, R2 q hq]) st3))
theorem rprs_both (H : rE g K V P E N c t l) {n : Nat} (ih : rGo g K V P E N c l n) (D i : Nat) (a : Ex) (h : am_H) (w v1 : Int) (σ : List Int) (Q : Int → am_H → Prop) (hi : i ≤ N) (w0 : 0 ≤ w) (hv : v1 = -1 ∨ v1 = 44) :
    (∀ o : Nat, o ≤ 8 → 16 * (N - i) + 5 ≤ n + 1 → σ.length ≤ 3 + 6 * o → w ≤ i → top σ (fun x => rkO x < 2) → aska σ → rS g h K V P E c i w o σ false → rPo g P c Q (rGm g K V P E c D v1 Q 2 h w o σ) (prs K V l (n + 1) 6 o i a) → wLp D Q v1 h) := by
  intro o ho hf hl hw ht hk S post
  have tk := H.1
  simp only [prs] at post
  have ok := (prs_ok (l := l) tk n o i a ho hi).2.2.2.2.2.1 (by omega)
  refine (ih D i a h w v1 σ Q hi w0 hv).2.2.2.2.2.1 o ho (by omega) (by omega) hw (by cases σ with | nil => trivial | cons x r => have q : rkO x < 2 := ht; show rkO x ≤ 3; omega) hk S (rPo_call ok post (fun e j j0 j1 we le ll se post2 h2 w2 pend2 p2 R2 st2 => ?_))
  exact (ih D j e h2 w v1 σ Q j1 w0 hv).2.2.2.2.2.2.2.1 o w2 pend2 ho (by omega) hl (by omega) we (by omega) ht hk st2 (pnd_w p2 (by omega) (fun _ => p2.2.2.2.2.1 (by omega)) (fun _ => by omega)) (rPo_m post2 (fun e2 j2 G h3 w3 pend3 p3 R3 st3 => G h3 w3 pend3 p3 (fun q hq => by rw [R3 q hq, R2 q hq]) st3))
theorem rprs_either (H : rE g K V P E N c t l) {n : Nat} (ih : rGo g K V P E N c l n) (D i : Nat) (a : Ex) (h : am_H) (w v1 : Int) (σ : List Int) (Q : Int → am_H → Prop) (hi : i ≤ N) (w0 : 0 ≤ w) (hv : v1 = -1 ∨ v1 = 44) :
    (∀ o : Nat, o ≤ 8 → 16 * (N - i) + 6 ≤ n + 1 → σ.length ≤ 2 + 6 * o → w ≤ i → top σ (fun x => rkO x < 1) → aska σ → rS g h K V P E c i w o σ false → rPo g P c Q (rGm g K V P E c D v1 Q 1 h w o σ) (prs K V l (n + 1) 8 o i a) → wLp D Q v1 h) := by
  intro o ho hf hl hw ht hk S post
  have tk := H.1
  simp only [prs] at post
  have ok := (prs_ok (l := l) tk n o i a ho hi).2.2.2.2.2.2.1 (by omega)
  refine (ih D i a h w v1 σ Q hi w0 hv).2.2.2.2.2.2.1 o ho (by omega) (by omega) hw (by cases σ with | nil => trivial | cons x r => exact Int.lt_trans ht (by omega)) hk S (rPo_call ok post (fun e j j0 j1 we le ll se post2 h2 w2 pend2 p2 R2 st2 => ?_))
  exact (ih D j e h2 w v1 σ Q j1 w0 hv).2.2.2.2.2.2.2.2.2 o w2 pend2 ho (by omega) hl (by omega) we (by omega) ht hk st2 (pnd_w p2 (by omega) (fun _ => p2.2.2.2.2.1 (by omega)) (fun _ => by omega)) (rPo_m post2 (fun e2 j2 G h3 w3 pend3 p3 R3 st3 => G h3 w3 pend3 p3 (fun q hq => by rw [R3 q hq, R2 q hq]) st3))
theorem rprs_t2 (H : rE g K V P E N c t l) {n : Nat} (ih : rGo g K V P E N c l n) (D i : Nat) (a : Ex) (h : am_H) (w v1 : Int) (σ : List Int) (Q : Int → am_H → Prop) (hi : i ≤ N) (w0 : 0 ≤ w) (hv : v1 = -1 ∨ v1 = 44) :
    (∀ (o : Nat) (w2 : Int) (pend : List Int), o ≤ 8 → 16 * (N - i) + 1 ≤ n + 1 → σ.length ≤ 6 + 6 * o → w + lx a ≤ i → ws l a false → sx a ≤ 2 + 5 * (8 - o) → top σ (fun x => rkO x < 6) → pnd g h K V P E c 6 w w2 i o σ pend a → rPo g P c Q (rGm g K V P E c D v1 Q 6 h w o σ) (prs K V l (n + 1) 2 o i a) → wLp D Q v1 h) := by
  intro o w2 pend ho hf hl hw wa xa ht p post
  have tk := H.1
  have n300 := tk.1
  have ll := ly_lx _ _ wa
  simp only [prs] at post
  by_cases ct : K i = 170 ∨ K i = 175
  · rw [if_pos ct] at post
    have i1 := tk_lt tk hi (by omega)
    have ops : ∃ op r : Int, op = (if K i = 170 then 12 else 13) ∧ o2r op = r ∧ ((K i = 170 ∧ op = 12 ∧ r = 8) ∨ (K i = 175 ∧ op = 13 ∧ r = 9)) := by
      rcases ct with q | q
      · exact ⟨12, 8, by rw [if_pos q], by decide, Or.inl ⟨q, rfl, rfl⟩⟩
      · exact ⟨13, 9, by rw [if_neg (by omega)], by decide, Or.inr ⟨q, rfl, rfl⟩⟩
    obtain ⟨op, r, eop, eor, oc⟩ := ops
    rw [← eop] at post
    have rkr : rkO r = 6 := by rcases oc with ⟨_, _, q⟩ | ⟨_, _, q⟩ <;> rw [q] <;> decide
    have hop : 10 ≤ op ∧ op ≤ 13 := by omega
    have hb : ∀ r2, btw (K i) (pend ++ σ) r2 → r2 = r := fun r2 q => by
      rcases q with q | q | q | q | ⟨q, _⟩ <;> omega
    refine pnd_op H p i1 hb (by omega) (by rw [rkr]; rfl) (by omega) (by omega) w0 (by omega) (by omega) ht (fun h3 S3 C3 R3 => ?_)
    have ok := (prs_ok (l := l) tk n o (i + 1) a ho i1).1 (by omega)
    refine (ih D (i + 1) a h3 (w + ly a) v1 (r :: σ) Q i1 (by omega) hv).1 [] o ho (by omega) (fun u q => by simp at q) (by simp; omega) (by simp; omega) (by show rkO r < 7; omega) (fun _ => nask2 (by omega) (by omega)) S3 (rPo_call ok post (fun e j j0 j1 we le lle se post2 h5 S5 C5 R5 => ?_))
    have S6 : rS g h5 K V P E c j (w + ly a + ly e) o (r :: σ) true := by simpa using S5
    have p6 := pnd_join (m := 6) (t2 := op) (pnd_nil we S6 C5 ho) wa C3 R5 eor (by omega) (by omega) (fun y => by omega)
    exact (ih D j (xB op a e) h5 w v1 σ Q j1 w0 hv).2.2.1 o _ _ ho (by omega) hl (by simp only [lx]; omega) (Or.inl ⟨rfl, hop, wa, we⟩) (by simp only [sx]; omega) ht p6 (rPo_m post2 (fun e2 j2 G h7 w7 pend7 p7 R7 st7 => G h7 w7 pend7 p7 (fun q hq => by rw [R7 q hq, R5 q (by omega), R3 q hq]) st7))
  · rw [if_neg ct] at post
    exact post h w2 pend p (fun _ _ => rfl) ⟨⟨fun y => ct (Or.inl y), fun y => ct (Or.inr y)⟩, fun y => by omega, fun y => by omega, fun y => by omega⟩
theorem rprs_t4 (H : rE g K V P E N c t l) {n : Nat} (ih : rGo g K V P E N c l n) (D i : Nat) (a : Ex) (h : am_H) (w v1 : Int) (σ : List Int) (Q : Int → am_H → Prop) (hi : i ≤ N) (w0 : 0 ≤ w) (hv : v1 = -1 ∨ v1 = 44) :
    (∀ (o : Nat) (w2 : Int) (pend : List Int), o ≤ 8 → 16 * (N - i) + 1 ≤ n + 1 → σ.length ≤ 5 + 6 * o → w + lx a ≤ i → ws l a false → sx a ≤ 3 + 5 * (8 - o) → top σ (fun x => rkO x < 5) → stopK 6 (K i) → pnd g h K V P E c 5 w w2 i o σ pend a → rPo g P c Q (rGm g K V P E c D v1 Q 5 h w o σ) (prs K V l (n + 1) 4 o i a) → wLp D Q v1 h) := by
  intro o w2 pend ho hf hl hw wa xa ht st p post
  have tk := H.1
  have n300 := tk.1
  have ll := ly_lx _ _ wa
  simp only [prs] at post
  by_cases ct : K i = 171 ∨ K i = 173
  · rw [if_pos ct] at post
    have i1 := tk_lt tk hi (by omega)
    have ops : ∃ op r : Int, op = (if K i = 171 then 10 else 11) ∧ o2r op = r ∧ ((K i = 171 ∧ op = 10 ∧ r = 6) ∨ (K i = 173 ∧ op = 11 ∧ r = 7)) := by
      rcases ct with q | q
      · exact ⟨10, 6, by rw [if_pos q], by decide, Or.inl ⟨q, rfl, rfl⟩⟩
      · exact ⟨11, 7, by rw [if_neg (by omega)], by decide, Or.inr ⟨q, rfl, rfl⟩⟩
    obtain ⟨op, r, eop, eor, oc⟩ := ops
    rw [← eop] at post
    have rkr : rkO r = 5 := by rcases oc with ⟨_, _, q⟩ | ⟨_, _, q⟩ <;> rw [q] <;> decide
    have hop : 10 ≤ op ∧ op ≤ 13 := by omega
    have hb : ∀ r2, btw (K i) (pend ++ σ) r2 → r2 = r := fun r2 q => by
      rcases q with q | q | q | q | ⟨q, _⟩ <;> omega
    refine pnd_op H p i1 hb (by omega) (by rw [rkr]; rfl) (by omega) (by omega) w0 (by omega) (by omega) ht (fun h3 S3 C3 R3 => ?_)
    have ok := (prs_ok (l := l) tk n o (i + 1) a ho i1).2.1 (by omega)
    refine (ih D (i + 1) a h3 (w + ly a) v1 (r :: σ) Q i1 (by omega) hv).2.1 o ho (by omega) (by simp only [List.length_cons]; omega) (by omega) (by show rkO r < 6; omega) (fun _ => nask2 (by omega) (by omega)) S3 (rPo_call ok post (fun e j j0 j1 we le lle se post2 h5 w5 pend5 p5 R5 st5 => ?_))
    have p6 := pnd_join (m := 5) (t2 := op) p5 wa C3 R5 eor (by omega) (by omega) (fun y => by omega)
    exact (ih D j (xB op a e) h5 w v1 σ Q j1 w0 hv).2.2.2.2.1 o _ _ ho (by omega) hl (by simp only [lx]; omega) (Or.inl ⟨rfl, hop, wa, we⟩) (by simp only [sx]; omega) ht st5 p6 (rPo_m post2 (fun e2 j2 G h7 w7 pend7 p7 R7 st7 => G h7 w7 pend7 p7 (fun q hq => by rw [R7 q hq, R5 q (by omega), R3 q hq]) st7))
  · rw [if_neg ct] at post
    exact post h w2 pend p (fun _ _ => rfl) ⟨st.1, fun _ => ⟨fun y => ct (Or.inl y), fun y => ct (Or.inr y)⟩, fun y => by omega, fun y => by omega⟩
theorem rprs_t7 (H : rE g K V P E N c t l) {n : Nat} (ih : rGo g K V P E N c l n) (D i : Nat) (a : Ex) (h : am_H) (w v1 : Int) (σ : List Int) (Q : Int → am_H → Prop) (hi : i ≤ N) (w0 : 0 ≤ w) (hv : v1 = -1 ∨ v1 = 44) :
    (∀ (o : Nat) (w2 : Int) (pend : List Int), o ≤ 8 → 16 * (N - i) + 1 ≤ n + 1 → σ.length ≤ 3 + 6 * o → w + lx a ≤ i → ws l a true → sx a ≤ 5 + 5 * (8 - o) → top σ (fun x => rkO x < 2) → aska σ → stopK 3 (K i) → pnd g h K V P E c 2 w w2 i o σ pend a → rPo g P c Q (rGm g K V P E c D v1 Q 2 h w o σ) (prs K V l (n + 1) 7 o i a) → wLp D Q v1 h) := by
  intro o w2 pend ho hf hl hw wa xa ht hk st p post
  have tk := H.1
  have n300 := tk.1
  have ll := ly_lx _ _ wa
  simp only [prs] at post
  by_cases ct : K i = 18
  · rw [if_pos ct] at post
    have i1 := tk_lt tk hi (by omega)
    have hA : isA (opw (pend ++ σ)) := by rw [opw_app _ (pnd_r p (by omega))]; exact hk.1
    have cc := p.2.2.2.2.1 (by omega)
    have hb : ∀ r2, btw (K i) (pend ++ σ) r2 → r2 = 21 := fun r2 q => by
      rcases q with q | q | q | q | ⟨_, q | q | q⟩
      · omega
      · omega
      · omega
      · omega
      · exact absurd hA q.1
      · rw [cc] at q; simp at q
      · omega
    refine pnd_op (r := 21) H p i1 hb (by omega) (by decide) (m2 := 2) (by omega) (by omega) w0 (by omega) (by omega) ht (fun h3 S3 C3 R3 => ?_)
    have ok := (prs_ok (l := l) tk n o (i + 1) a ho i1).2.2.2.2.2.1 (by omega)
    refine (ih D (i + 1) a h3 (w + ly a) v1 (21 :: σ) Q i1 (by omega) hv).2.2.2.2.2.1 o ho (by omega) (by simp only [List.length_cons]; omega) (by omega) (by show rkO 21 ≤ 3; decide) ⟨by have := hk.1; simpa [opw] using this, Or.inr (by decide)⟩ S3 (rPo_call ok post (fun e j j0 j1 we le lle se post2 h5 w5 pend5 p5 R5 st5 => ?_))
    have p6 := pnd_join (m := 2) (t2 := 20) p5 wa C3 R5 (by decide) (by omega) (by decide) (fun y => p5.2.2.2.2.1 (by omega))
    exact (ih D j (xB 20 a e) h5 w v1 σ Q j1 w0 hv).2.2.2.2.2.2.2.1 o _ _ ho (by omega) hl (by simp only [lx]; omega) (Or.inr (Or.inr ⟨rfl, by omega, wa, we⟩)) (by simp only [sx]; omega) ht hk st5 p6 (rPo_m post2 (fun e2 j2 G h7 w7 pend7 p7 R7 st7 => G h7 w7 pend7 p7 (fun q hq => by rw [R7 q hq, R5 q (by omega), R3 q hq]) st7))
  · rw [if_neg ct] at post
    exact post h w2 pend p (fun _ _ => rfl) ⟨st.1, fun _ => st.2.1 (by omega), fun _ => ct, fun y => by omega⟩
theorem rprs_t9 (H : rE g K V P E N c t l) {n : Nat} (ih : rGo g K V P E N c l n) (D i : Nat) (a : Ex) (h : am_H) (w v1 : Int) (σ : List Int) (Q : Int → am_H → Prop) (hi : i ≤ N) (w0 : 0 ≤ w) (hv : v1 = -1 ∨ v1 = 44) :
    (∀ (o : Nat) (w2 : Int) (pend : List Int), o ≤ 8 → 16 * (N - i) + 1 ≤ n + 1 → σ.length ≤ 2 + 6 * o → w + lx a ≤ i → ws l a true → sx a ≤ 6 + 5 * (8 - o) → top σ (fun x => rkO x < 1) → aska σ → stopK 2 (K i) → pnd g h K V P E c 1 w w2 i o σ pend a → rPo g P c Q (rGm g K V P E c D v1 Q 1 h w o σ) (prs K V l (n + 1) 9 o i a) → wLp D Q v1 h) := by
  intro o w2 pend ho hf hl hw wa xa ht hk st p post
  have tk := H.1
  have n300 := tk.1
  have ll := ly_lx _ _ wa
  simp only [prs] at post
  by_cases ct : K i = 17
  · rw [if_pos ct] at post
    have i1 := tk_lt tk hi (by omega)
    have hA : isA (opw (pend ++ σ)) := by rw [opw_app _ (pnd_r p (by omega))]; exact hk.1
    have cc := p.2.2.2.2.1 (by omega)
    have hb : ∀ r2, btw (K i) (pend ++ σ) r2 → r2 = 22 := fun r2 q => by
      rcases q with q | q | q | q | ⟨_, q | q | q⟩
      · omega
      · omega
      · omega
      · omega
      · exact absurd hA q.1
      · rw [cc] at q; simp at q
      · omega
    refine pnd_op (r := 22) H p i1 hb (by omega) (by decide) (m2 := 1) (by omega) (by omega) w0 (by omega) (by omega) ht (fun h3 S3 C3 R3 => ?_)
    have ok := (prs_ok (l := l) tk n o (i + 1) a ho i1).2.2.2.2.2.2.1 (by omega)
    refine (ih D (i + 1) a h3 (w + ly a) v1 (22 :: σ) Q i1 (by omega) hv).2.2.2.2.2.2.1 o ho (by omega) (by simp only [List.length_cons]; omega) (by omega) (by show rkO 22 < 2; decide) ⟨by have := hk.1; simpa [opw] using this, Or.inr (by decide)⟩ S3 (rPo_call ok post (fun e j j0 j1 we le lle se post2 h5 w5 pend5 p5 R5 st5 => ?_))
    have p6 := pnd_join (m := 1) (t2 := 21) p5 wa C3 R5 (by decide) (by omega) (by decide) (fun y => p5.2.2.2.2.1 (by omega))
    exact (ih D j (xB 21 a e) h5 w v1 σ Q j1 w0 hv).2.2.2.2.2.2.2.2.2 o _ _ ho (by omega) hl (by simp only [lx]; omega) (Or.inr (Or.inr ⟨rfl, by omega, wa, we⟩)) (by simp only [sx]; omega) ht hk st5 p6 (rPo_m post2 (fun e2 j2 G h7 w7 pend7 p7 R7 st7 => G h7 w7 pend7 p7 (fun q hq => by rw [R7 q hq, R5 q (by omega), R3 q hq]) st7))
  · rw [if_neg ct] at post
    exact post h w2 pend p (fun _ _ => rfl) ⟨st.1, fun _ => st.2.1 (by omega), fun _ => st.2.2.1 (by omega), fun _ => ct⟩
theorem rprs_ask (H : rE g K V P E N c t l) {n : Nat} (ih : rGo g K V P E N c l n) (D i : Nat) (a : Ex) (h : am_H) (w v1 : Int) (σ : List Int) (Q : Int → am_H → Prop) (hi : i ≤ N) (w0 : 0 ≤ w) (hv : v1 = -1 ∨ v1 = 44) :
    (∀ o : Nat, o ≤ 8 → 16 * (N - i) + 4 ≤ n + 1 → σ.length ≤ 4 + 6 * o → w ≤ i → top σ (fun x => rkO x ≤ 3) → aska σ → rS g h K V P E c i w o σ false → rPo g P c Q (rGm g K V P E c D v1 Q 3 h w o σ) (prs K V l (n + 1) 5 o i a) → wLp D Q v1 h) := by
  intro o ho hf hl hw ht hk S post
  have tk := H.1
  have n300 := tk.1
  simp only [prs] at post
  by_cases c : K i = 19
  · rw [if_pos c] at post
    have i1 := tk_lt tk hi (by omega)
    refine wLp_open H S i1 (Or.inr (Or.inr (Or.inr (Or.inr ⟨c, hk, rfl⟩)))) (by omega) ho (fun o8 h2 S2 R2 => ?_) (fun o8 => rPo_o0 post o8 h S.1 S.2.1.2.1)
    have ok := (prs_ok (l := l) tk n (o + 1) (i + 1) a (by omega) i1).2.2.2.2.2.1 (by omega)
    refine (ih D (i + 1) a h2 w v1 (20 :: σ) Q i1 w0 hv).2.2.2.2.2.1 (o + 1) (by omega) (by omega) (by simp only [List.length_cons]; omega) (by omega) (by show rkO 20 ≤ 3; decide) ⟨by have := hk.1; simpa [opw] using this, Or.inr (by decide)⟩ S2 (rPo_call ok (rPo_o1 post o8) (fun e j j0 j1 we le ll se post2 h3 w3 pend3 p3 R3 st3 => ?_))
    exact post2 h3 w3 _ (pnd_not p3) (fun q hq => by rw [R3 q hq, R2]) st3
  · rw [if_neg c] at post
    have ok := (prs_ok (l := l) tk n o i a ho hi).2.2.2.1 (by omega)
    refine (ih D i a h w v1 σ Q hi w0 hv).2.2.2.1 o ho (by omega) (by omega) hw (by cases σ with | nil => trivial | cons x r => have q : rkO x ≤ 3 := ht; show rkO x < 5; omega) (fun y => absurd y c) S (rPo_call ok post (fun e j j0 j1 we le ll se post2 h2 w2 pend2 p2 R2 st2 => ?_))
    have pe := lx_pos _ _ we
    have o2 : opw (pend2 ++ σ) = opw σ := opw_app _ (pnd_r p2 (by omega))
    have hA : isA (opw (pend2 ++ σ)) := by rw [o2]; exact hk.1
    have cc : cpd (pend2 ++ σ) = false := by
      rw [cpd_app _ (fun y hy => (p2.2.1 y hy).1)]
      cases σ with
      | nil => rfl
      | cons x r =>
        have q : rkO x ≤ 3 := ht
        simp only [cpd]
        rw [if_neg (by omega)]
        simp
        omega
    have hb : ∀ r2, btw (K j) (pend2 ++ σ) r2 → r2 = if cmpK (K j) < 0 then -1 else cmpK (K j) - 4 := fun r2 q => by
      have s1 := st2.1
      have s2 := st2.2.1 (by omega)
      rcases q with q | q | q | q | ⟨_, q | q | q⟩
      · omega
      · omega
      · omega
      · omega
      · exact absurd hA q.1
      · exact q.2.2
      · rw [cc] at q; simp at q
    by_cases c2 : cmpK (K j) < 0
    · rw [if_pos c2] at post2
      have h44 : opw (pend2 ++ σ) = 41 ∨ opw (pend2 ++ σ) = 44 := hA
      refine pnd_fail p2 (by omega) (by omega) (fun r q => by have := hb r q; rw [if_pos c2] at this; omega) (fun r q => ?_) (by rcases hv with q | q; left; omega; rcases h44 with z | z; left; omega; right; exact ⟨q, cc⟩) (post2 h2 (pnd_S p2).1 (pnd_S p2).2)
      rcases q with q | q | q | q | q
      · omega
      · rw [cc] at q; simp at q
      · omega
      · omega
      · omega
    · rw [if_neg c2] at post2
      have r19 := cmpK_rng (t := K j)
      have j11 := tk_lt tk j1 (cmpK_ne c2)
      have rk4 : rkO (cmpK (K j) - 4) = 4 := by
        unfold rkO
        rw [if_neg (by omega), if_neg (by omega), if_neg (by omega), if_neg (by omega), if_pos (by omega)]
      refine pnd_op (r := cmpK (K j) - 4) H p2 j11 (fun r q => by have := hb r q; rw [if_neg c2] at this; exact this) (by omega) (by rw [rk4, if_pos rfl]) (by omega) (by omega) w0 (by omega) (by omega) (by cases σ with | nil => trivial | cons x r => have q : rkO x ≤ 3 := ht; show rkO x < 5; omega) (fun h3 S3 C3 R3 => ?_)
      have ok2 := (prs_ok (l := l) tk n o (j + 1) a ho j11).2.2.2.1 (by omega)
      refine (ih D (j + 1) a h3 (w + ly e) v1 ((cmpK (K j) - 4) :: σ) Q j11 (by omega) hv).2.2.2.1 o ho (by omega) (by simp only [List.length_cons]; omega) (by omega) (by show rkO (cmpK (K j) - 4) < 5; omega) (fun _ => nask2 (by omega) (by omega)) S3 (rPo_call ok2 post2 (fun e2 k k0 k1 we2 le2 lle2 se2 post3 h5 w5 pend5 p5 R5 st5 => ?_))
      have p6 := pnd_join (m := 3) (t2 := cmpK (K j)) p5 we C3 R5 (by unfold o2r; rw [if_pos (by omega)]) (by omega) (by omega) (fun _ => by
        rw [cpd_app _ (fun y hy => (p5.2.1 y hy).1)]
        simp only [cpd]
        rw [if_neg (by omega)]
        simp [rk4])
      exact post3 h5 w5 _ p6 (fun q hq => by rw [R5 q (by omega), R3 q hq, R2 q hq]) ⟨st5.1, fun _ => st5.2.1 (by omega), fun y => by omega, fun y => by omega⟩
theorem rprs (H : rE g K V P E N c t l) : ∀ n, rGo g K V P E N c l n := by
  intro n
  induction n with
  | zero => intro D i a h w v1 σ Q _ _ _; exact ⟨fun us ob _ q => by omega, fun o _ q => by omega, fun o _ _ _ q => by omega, fun o _ q => by omega, fun o _ _ _ q => by omega, fun o _ q => by omega, fun o _ q => by omega, fun o _ _ _ q => by omega, fun o _ q => by omega, fun o _ _ _ q => by omega⟩
  | succ n ih =>
    intro D i a h w v1 σ Q hi w0 hv
    exact ⟨rprs_one H ih D i a h w v1 σ Q hi w0 hv, rprs_product H ih D i a h w v1 σ Q hi w0 hv, rprs_t2 H ih D i a h w v1 σ Q hi w0 hv, rprs_sum H ih D i a h w v1 σ Q hi w0 hv, rprs_t4 H ih D i a h w v1 σ Q hi w0 hv, rprs_ask H ih D i a h w v1 σ Q hi w0 hv, rprs_both H ih D i a h w v1 σ Q hi w0 hv, rprs_t7 H ih D i a h w v1 σ Q hi w0 hv, rprs_either H ih D i a h w v1 σ Q hi w0 hv, rprs_t9 H ih D i a h w v1 σ Q hi w0 hv⟩
end RPRS