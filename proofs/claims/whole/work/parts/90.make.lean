section MAKE3
variable {d D : Nat} {h : am_H} {Q : Int → am_H → Prop} {tx : Nat → List Cl} {tt : List Cl} {β : Int → Int} {vo : Bool} {deep base size : Int} {ρ : Rd}
theorem c_X7_hasValue {t v : Int} {f : Nat} (r : rtx h t tt) (ok : okx tt) (y : rlay h tt) (h6 : h 295 6 = size) (hs : 0 ≤ size ∧ size ≤ 40) (hB : ∀ j : Int, 0 ≤ j → j < 40 → h 295 (8 + j) = β j) (hb : ∀ j : Int, 0 ≤ j → j < 40 → 0 ≤ β j ∧ β j ≤ 255) (hf : f < 8) (hc : 0 ≤ co tt f) (k : ∀ g, fV h g → Q (bi (hvb tt f v size β)) g) : cf (D + 7) M_X7_hasValue [.inr (.inr 294), .inl t, .inl (f : Int), .inl v] h Q := by
  subst h6
  refine cf_of pX7 (Nat.le_of_ble_eq_true rfl) rfl (fun _ => B_X7_hasValue_0 (c_X7_readBy (D := D) r ok y hs hB hb (fun g fv rv e44 e45 e46 e47 => ?_)))
  have rd : rdone g t tt (h 295 6) (rdX tt β (h 295 6)) := ⟨rtx_fV r fv, rlay_fV y fv, rv, e44, e45, e46, e47⟩
  have o := (rdX_ok ok hb hs).1
  have of := o.1 f hf
  have kk := k g fv
  have rf := (rv.2.2 f hf).2.1
  rw [show 8 * (0 : Int) + (f : Int) = f by omega] at rf
  unfold hvb at kk
  refine c_X7_isHeld rd hf (fun u => ⟨fun q => by omega, fun _ => ⟨by omega, by omega, ?_⟩⟩) (fun u => ⟨fun _ => ?_, fun q => absurd rfl q⟩)
  · rw [rf]
    have a1 : ¬ rdX tt β (h 295 6) f 3 = 1 := by omega
    refine ⟨fun q => ?_, fun q => ?_⟩
    · simp [q, bi] at kk; exact kk
    · rw [q] at kk; simp [a1, bi] at kk; exact kk
  · have a1 : rdX tt β (h 295 6) f 3 = 1 := by
      have := of.1
      have := of.2.1
      omega
    simp [a1, bi] at kk; exact kk
/-- the reference tries bytes of one place -/
def fU (h g : am_H) (p : Int) : Prop := (∀ b : Int, b < 294 ∨ (296 ≤ b ∧ b ≤ 298) → g b = h b) ∧ (∀ j : Int, j ≠ 8 + p → g 295 j = h 295 j) ∧ ∀ j : Int, j = 4 ∨ j = 5 ∨ j = 6 ∨ j = 50 → g 294 j = h 294 j
theorem l_X7_byteFor {t v : Int} {f p : Nat} (r : rtx h t tt) (ok : okx tt) (hs : 0 ≤ size ∧ size ≤ 40) (hb : ∀ j : Int, 0 ≤ j → j < 40 → 0 ≤ β j ∧ β j ≤ 255) (hf : f < 8) (hc : 0 ≤ co tt f) (hp : p < 40) (h6 : h 295 6 = size) (hB : ∀ j : Int, 0 ≤ j → j < 40 → h 295 (8 + j) = β j)
    (k : ∀ (g : am_H) (m : Int), fU h g p → rlay g tt → m = cnd tt f v size β p → wf (D + 8) M_X7_byteFor Q 71 [some (.inr (.inr 294)), none, none, none, some (.inl (p : Int)), some (.inl (β p)), some (.inl m), none] [] g) :
    ∀ (n b : Nat) (g : am_H), b + n = 256 → fU h g p → rlay g tt → cnd tt f v size β p = ff (cndP tt f v size β p) b n → wf (D + 8) M_X7_byteFor Q 18 [some (.inr (.inr 294)), some (.inl t), some (.inl (f : Int)), some (.inl v), some (.inl (p : Int)), some (.inl (β p)), some (.inl (-1)), some (.inl (b : Int))] [] g
  | 0, b, g, hn, fg, y, e => by
    refine B_X7_byteFor_18 ⟨fun _ => k g (-1) fg y (by rw [e]; rfl), fun q => by omega⟩
  | n + 1, b, g, hn, fg, y, e => by
    have b8 : b < 256 := by omega
    simp only [ff] at e
    have next : ∀ g2 : am_H, fU h g2 p → rlay g2 tt → cndP tt f v size β p b = false → wf (D + 8) M_X7_byteFor Q 65 [some (.inr (.inr 294)), some (.inl t), some (.inl (f : Int)), some (.inl v), some (.inl (p : Int)), some (.inl (β p)), some (.inl (-1)), some (.inl (b : Int))] [] g2 := by
      intro g2 f2 y2 q
      rw [if_neg (by rw [q]; decide)] at e
      refine B_X7_byteFor_65 ?_
      rw [w32e (by omega) (by omega), show (b : Int) + 1 = ((b + 1 : Nat) : Int) by omega]
      exact l_X7_byteFor r ok hs hb hf hc hp h6 hB k n (b + 1) g2 (by omega) f2 y2 e
    refine B_X7_byteFor_18 ⟨fun q => by omega, fun _ => ⟨fun q => absurd rfl q, fun _ => ?_⟩⟩
    rw [w32e (z := 8 + (p : Int)) (by omega) (by omega)]
    generalize hu : am_up g 295 (8 + (p : Int)) (b : Int) = u
    have u0 : ∀ x : Int, x ≠ 295 → u x = g x := fun x qx => by rw [← hu]; funext j; exact am_up_ne (by omega)
    have u1 : ∀ j : Int, j ≠ 8 + (p : Int) → u 295 j = h 295 j := fun j qj => by rw [← hu, am_up_ne (by omega)]; exact fg.2.1 j qj
    have fu : fU h u p := ⟨fun x qx => by rw [u0 x (by omega)]; exact fg.1 x qx, u1, fun j qj => by rw [u0 294 (by omega)]; exact fg.2.2 j qj⟩
    have yu : rlay u tt := rlay_congr y (fun x q1 q2 => u0 x (by omega)) (fun j _ _ => by rw [u0 294 (by omega)])
    have uB : ∀ j : Int, 0 ≤ j → j < 40 → u 295 (8 + j) = up1 β p b j := fun j j0 j1 => by
      by_cases z : j = p
      · rw [z, ← hu, am_up_at, up1_at]
      · rw [u1 _ (by omega), up1_ne z]; exact hB j j0 j1
    have ubb := up_b (p := p) (b := b) hb b8
    refine ⟨by omega, by omega, fun q => next u fu yu (by unfold cndP; simp [q]), fun q => ?_⟩
    refine c_X7_hasValue (D := D) (β := up1 β p b) (size := size) (rtx_congr r (fu.1 297 (by omega))) ok yu (by rw [u1 6 (by omega)]; exact h6) hs uB ubb hf hc (fun g2 f2 => ?_)
    have fu2 : fU h g2 p := ⟨fun x qx => by rw [f2.1 x (by omega) (by omega)]; exact fu.1 x qx, fun j qj => by rw [f2.1 295 (by omega) (by omega)]; exact u1 j qj, fun j qj => by rw [f2.2 j (by omega)]; exact fu.2.2 j qj⟩
    have y2 := rlay_fV yu f2
    have ne : decide ((b : Int) = β p) = false := decide_eq_false q
    have ec : cndP tt f v size β p b = hvb tt f v size (up1 β p b) := by unfold cndP; rw [ne]; rfl
    cases z : hvb tt f v size (up1 β p b) with
    | false => exact ⟨fun _ => next g2 fu2 y2 (by rw [ec, z]), fun y => absurd rfl y⟩
    | true =>
      rw [if_pos (by rw [ec, z])] at e
      refine ⟨fun y => absurd y (by decide), fun _ => B_X7_byteFor_65 ?_⟩
      rw [w32e (by omega) (by omega)]
      exact B_X7_byteFor_18 ⟨fun _ => k g2 b fu2 y2 e.symm, fun _ => ⟨fun _ => k g2 b fu2 y2 e.symm, fun y => by omega⟩⟩
theorem c_X7_byteFor {t v : Int} {f p : Nat} (r : rtx h t tt) (ok : okx tt) (hs : 0 ≤ size ∧ size ≤ 40) (hb : ∀ j : Int, 0 ≤ j → j < 40 → 0 ≤ β j ∧ β j ≤ 255) (hf : f < 8) (hc : 0 ≤ co tt f) (hp : p < 40) (h6 : h 295 6 = size) (hB : ∀ j : Int, 0 ≤ j → j < 40 → h 295 (8 + j) = β j) (y : rlay h tt)
    (k : ∀ g : am_H, fZ h g → rlay g tt → Q (cnd tt f v size β p) g) : cf (D + 8) M_X7_byteFor [.inr (.inr 294), .inl t, .inl (f : Int), .inl v, .inl (p : Int)] h Q := by
  refine cf_of pX7 (Nat.le_of_ble_eq_true rfl) rfl (fun _ => B_X7_byteFor_0 ?_)
  rw [w32e (z := 8 + (p : Int)) (by omega) (by omega), hB p (by omega) (by omega)]
  refine ⟨by omega, by omega, l_X7_byteFor r ok hs hb hf hc hp h6 hB (fun g m fg yg e => B_X7_byteFor_71 ?_) 256 0 h (by omega) ⟨fun _ _ => rfl, fun _ _ => rfl, fun _ _ => rfl⟩ y rfl⟩
  rw [w32e (z := 8 + (p : Int)) (by omega) (by omega), e]
  generalize hu : am_up g 295 (8 + (p : Int)) (β p) = u
  have u0 : ∀ x : Int, x ≠ 295 → u x = g x := fun x qx => by rw [← hu]; funext j; exact am_up_ne (by omega)
  have e295 : u 295 = h 295 := by
    funext j
    by_cases z : j = 8 + (p : Int)
    · rw [z, ← hu, am_up_at]; exact (hB p (by omega) (by omega)).symm
    · rw [← hu, am_up_ne (by omega)]; exact fg.2.1 j z
  refine ⟨by omega, by omega, k u ⟨fun x qx => ?_, fun j qj => by rw [u0 294 (by omega)]; exact fg.2.2 j qj⟩ (rlay_congr yg (fun x q1 q2 => u0 x (by omega)) (fun j _ _ => by rw [u0 294 (by omega)]))⟩
  by_cases z : x = 295
  · rw [z]; exact e295
  · rw [u0 x z]; exact fg.1 x (by omega)
theorem l_X7_make {t : Int} {f : Nat} {v : Int} {L : Nat} (r : rtx h t tt) (ok : okx tt) (hs : 0 ≤ size ∧ size ≤ 40) (hb : ∀ j : Int, 0 ≤ j → j < 40 → 0 ≤ β j ∧ β j ≤ 255) (hf : f < 8) (hc : 0 ≤ co tt f) (L40 : L < 2 ^ 40) (h6 : h 295 6 = size) (hB : ∀ j : Int, 0 ≤ j → j < 40 → h 295 (8 + j) = β j)
    (hL : ∀ p : Nat, p < 40 → L.testBit p = false → cnd tt f v size β p = cso (hvb tt f v size β) (β p))
    (k : ∀ g : am_H, fZ h g → Q (mkL (cnd tt f v size β) 0 size.toNat) g) :
    ∀ (n i : Nat) (g : am_H), i + n = size.toNat → fZ h g → rlay g tt → mkL (cnd tt f v size β) 0 size.toNat = mkL (cnd tt f v size β) i n → wf (D + 9) M_X7_make Q 75 [some (.inr (.inr 294)), some (.inl t), some (.inl (f : Int)), some (.inl v), some (.inr (.inl (L : Int))), none, some (.inl (bi (hvb tt f v size β))), some (.inl (i : Int)), none] [] g
  | 0, i, g, hn, fg, y, e => by
    have e295 : g 295 = h 295 := fg.1 295 (by omega)
    have kk := k g fg
    rw [e] at kk
    refine B_X7_make_75 ?_
    rw [e295, h6]
    exact ⟨fun _ => kk, fun q => by omega⟩
  | n + 1, i, g, hn, fg, y, e => by
    have e295 : g 295 = h 295 := fg.1 295 (by omega)
    have bb := bi01 (hvb tt f v size β)
    have rg := cnd_rng (t := tt) (f := f) (p := i) (v := v) (size := size) (β := β)
    simp only [mkL] at e
    have next : ∀ (g2 : am_H) (c : Int), fZ h g2 → rlay g2 tt → cnd tt f v size β i = c → wf (D + 9) M_X7_make Q 138 [some (.inr (.inr 294)), some (.inl t), some (.inl (f : Int)), some (.inl v), some (.inr (.inl (L : Int))), none, some (.inl (bi (hvb tt f v size β))), some (.inl (i : Int)), none] [.inl c] g2 := by
      intro g2 c f2 y2 q
      subst q
      refine B_X7_make_138 ⟨fun q => ?_, fun q => ?_⟩
      · rw [if_pos q] at e
        rw [w32e (by omega) (by omega), show (i : Int) + 1 = ((i + 1 : Nat) : Int) by omega]
        exact l_X7_make r ok hs hb hf hc L40 h6 hB hL k n (i + 1) g2 (by omega) f2 y2 e
      · have k2 := k g2 f2
        rw [e, if_neg q] at k2
        rw [w32e (z := 256 * (i : Int)) (by omega) (by omega), w32e (by omega) (by omega)]
        exact k2
    refine B_X7_make_75 ?_
    rw [e295, h6]
    refine ⟨fun q => by omega, fun _ => ?_⟩
    rw [lbit_n (by omega) (by omega)]
    refine ⟨fun z => ?_, fun z => ?_⟩
    · have zb : L.testBit i = false := by
        cases y : L.testBit i with
        | false => rfl
        | true => rw [y] at z; exact absurd rfl (lcmp_nz z)
      have hc2 := hL i (by omega) zb
      unfold cso at hc2
      rw [w32e (z := 8 + (i : Int)) (by omega) (by omega), hB i (by omega) (by omega)]
      refine ⟨fun q => ⟨by omega, by omega, fun q2 => ?_, fun q2 => ?_⟩, fun q => ?_⟩
      · have yy : hvb tt f v size β = true := by
          cases y : hvb tt f v size β with
          | true => rfl
          | false => rw [y] at q; exact absurd rfl q
        rw [yy, if_pos rfl, if_neg q2] at hc2
        exact next g 0 fg y hc2
      · have yy : hvb tt f v size β = true := by
          cases y : hvb tt f v size β with
          | true => rfl
          | false => rw [y] at q; exact absurd rfl q
        rw [yy, if_pos rfl, if_pos q2] at hc2
        exact next g 1 fg y hc2
      · have yy : hvb tt f v size β = false := by
          cases y : hvb tt f v size β with
          | false => rfl
          | true => rw [y] at q; exact absurd q (by decide)
        rw [yy, if_neg (by decide)] at hc2
        exact next g (-1) fg y hc2
    · refine c_X7_byteFor (D := D) (β := β) (size := size) (rtx_congr r (fg.1 297 (by omega))) ok hs hb hf hc (by omega) (by rw [e295]; exact h6) (fun j j0 j1 => by rw [e295]; exact hB j j0 j1) y (fun g2 f2 y2 => next g2 _ (fZ_trans fg f2) y2 rfl)
theorem c_X7_make {t f v : Int} (I : INV h tx) (k : ∀ g, fZ h g → Q (r_make (h 295) tx t f v) g) : cf (D + 9) M_X7_make [.inr (.inr 294), .inl t, .inl f, .inl v] h Q := by
  have s6 := INV_6 I
  have hb := INV_b I
  have no : ∀ g, fZ h g → ¬ (((isT (h 295) t ∧ (0 ≤ f ∧ f ≤ 7)) ∧ (0 ≤ v ∧ v ≤ 16777215)) ∧ 0 ≤ co (tx t.toNat) f) → Q (-1) g := by
    intro g fg y
    have kk := k g fg
    unfold r_make at kk
    rw [if_neg y] at kk
    exact kk
  refine cf_of pX7 (Nat.le_of_ble_eq_true rfl) rfl (fun _ => B_X7_make_0 (c7_isText I (fun q => ⟨fun c => by omega, fun _ => c_X7_isField (fun a b => ⟨fun c => by omega, fun _ => c_X7_isIn (fun a2 b2 => ⟨fun _ => ?_, fun c => by omega⟩) (fun a2 => ⟨fun c => absurd rfl c, fun _ => ?_⟩)⟩) (fun a => ⟨fun _ => ?_, fun c => absurd rfl c⟩)⟩) (fun q => ⟨fun _ => ?_, fun c => absurd rfl c⟩)))
  · obtain ⟨z1, z2, z3, z4, z5⟩ := INV_t I q.1 q.2
    refine c_X7_needs (D := D) I (fun g fg rdf => ?_)
    have rd := rdf ⟨q, a, b⟩
    obtain ⟨f0, hf0⟩ : ∃ f0 : Nat, f = (f0 : Int) := ⟨f.toNat, by omega⟩
    subst hf0
    have f8 : f0 < 8 := by omega
    rw [(rd.2.1.1 f0 f8).1]
    refine ⟨by omega, by omega, fun hc => ?_, fun hc => no g fg (fun y => by omega)⟩
    have o := (rdX_ok z3 hb s6).1
    have of := o.1 f0 f8
    have iv : r_needs (h 295) tx t (f0 : Int) = ((lkS (rdX (tx t.toNat) (fB8 (h 295)) (h 295 6)) (needF (tx t.toNat) f0) : Nat) : Int) := by
      unfold r_needs
      rw [if_pos ⟨⟨q, a, b⟩, hc⟩, Int.toNat_natCast]
    have e295 : g 295 = h 295 := fg.1 295 (by omega)
    rw [iv]
    have L40 := lkS_lt (s := needF (tx t.toNat) f0) o
    have main : wf (D + 9) M_X7_make Q 75 [some (.inr (.inr 294)), some (.inl t), some (.inl (f0 : Int)), some (.inl v), some (.inr (.inl ((lkS (rdX (tx t.toNat) (fB8 (h 295)) (h 295 6)) (needF (tx t.toNat) f0) : Nat) : Int))), none, some (.inl (bi (hvb (tx t.toNat) f0 v (h 295 6) (fB8 (h 295))))), some (.inl 0), none] [] g := by
      refine l_X7_make (h := g) (D := D) rd.1 z3 s6 hb f8 hc L40 (by rw [e295]) (fun j j0 j1 => by rw [e295]; rfl) (fun p p40 zb => ?_) (fun g2 f2 => ?_) (h 295 6).toNat 0 g (by omega) fZ_refl rd.2.1 rfl
      · refine cnd_so (hb p (by omega) (by omega)).1 (fun b b8 => hv_look (vo := false) z3 hb (up_b hb b8) s6 f8 ?_)
        rw [lkS_congr (ρ2 := rdX (tx t.toNat) (fB8 (h 295)) (h 295 6)) (fun g hg qg => rdC_part z3 (need_cl f0) hg (Or.inl qg) 4)]
        exact zb
      · have kk := k g2 (fZ_trans fg f2)
        unfold r_make at kk
        rw [if_pos ⟨⟨⟨q, a, b⟩, a2, b2⟩, hc⟩, Int.toNat_natCast] at kk
        exact kk
    have rf := (rd.2.2.1.2.2 f0 f8).2.1
    rw [show 8 * (0 : Int) + (f0 : Int) = f0 by omega] at rf
    unfold hvb at main
    refine c_X7_isHeld rd f8 (fun u => ⟨fun q => by omega, fun _ => ⟨by omega, ?_⟩⟩) (fun u => ⟨fun _ => ?_, fun q => absurd rfl q⟩)
    · rw [rf]
      have a1 : ¬ rdX (tx t.toNat) (fB8 (h 295)) (h 295 6) f0 3 = 1 := by omega
      refine ⟨fun z => ?_, fun z => ?_⟩
      · simp [z, bi] at main; exact B_X7_make_69 (B_X7_make_70 main)
      · rw [z] at main; simp [a1, bi] at main; exact B_X7_make_70 main
    · have a1 : rdX (tx t.toNat) (fB8 (h 295)) (h 295 6) f0 3 = 1 := by
        have := of.1
        have := of.2.1
        omega
      simp [a1, bi] at main; exact B_X7_make_69 (B_X7_make_70 main)
  · exact no h fZ_refl (fun y => by omega)
  · exact no h fZ_refl (fun y => by omega)
  · exact no h fZ_refl (fun y => q y.1.1.1)
end MAKE3
