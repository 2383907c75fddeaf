section MAKE2
variable {d D : Nat} {h : am_H} {Q : Int → am_H → Prop} {tx : Nat → List Cl} {t : List Cl} {β : Int → Int} {vo : Bool} {deep base size : Int} {ρ : Rd}
theorem c_X6_madeAt {T : Int} {f p : Nat} {v : Int} (tT : am_kd 321 T = 15) (hT : 242 ≤ T) (ok : okx t) (hs2 : 0 ≤ size ∧ size ≤ 40) (hb : ∀ j : Int, 0 ≤ j → j < 40 → 0 ≤ β j ∧ β j ≤ 255) (hf : f < 8) (hc : 0 ≤ co t f) (hp : p < 40) (cx : ctx h T t) (h9 : h 218 9 = 0) (h3 : h 198 3 = size) (oP : okP h) (hB : ∀ j : Int, 0 ≤ j → j < 40 → h 199 j = β j)
    (k : ∀ g : am_H, fT h g → okP g → (∀ j : Int, 0 ≤ j → j < 40 → g 199 j = β j) → Q (cnd t f v size β p) g) : cf (D + 13) M_X6_madeAt [.inr (.inr 1), .inr (.inr T), .inl (f : Int), .inl v, .inl (p : Int)] h Q := by
  have bp := hb p (by omega) (by omega)
  refine cf_of pX6 (Nat.le_of_ble_eq_true rfl) rfl (fun _ => B_X6_madeAt_0 ⟨fun q => by omega, fun _ => ⟨fun _ => ?_, fun q => by omega⟩⟩)
  rw [hB p (by omega) (by omega)]
  refine l_X6_madeAt tT hT ok hs2 hb hf hc hp (fun g m fg og gb e => ?_) 256 0 h (by omega) cx h9 h3 ⟨fun _ _ => rfl, rfl⟩ oP (fun j j0 j1 _ => hB j j0 j1) rfl
  refine B_X6_madeAt_101 ⟨by omega, by omega, ?_⟩
  rw [e]
  have u0 : ∀ x : Int, x ≠ 199 → am_up g 199 p (β p) x = g x := fun x qx => by funext j; exact am_up_ne (by omega)
  refine k _ ⟨fun x qx => by rw [u0 x (by omega)]; exact fg.1 x qx, by rw [u0 218 (by omega)]; exact fg.2⟩ (okP_199 (p := p) (b := (β p).toNat) og (by rw [show (((β p).toNat : Nat) : Int) = β p by omega]) (by omega)) (fun j j0 j1 => ?_)
  by_cases z : j = p
  · rw [z, am_up_at]
  · rw [am_up_ne (by omega)]; exact gb j j0 j1 z
theorem cnd_rng {f p : Nat} {v : Int} : cnd t f v size β p = -1 ∨ (0 ≤ cnd t f v size β p ∧ cnd t f v size β p < 256) := by
  unfold cnd
  rcases ff_rng (p := cndP t f v size β p) 256 0 with h | h
  · exact Or.inl h
  · exact Or.inr (by omega)
/-- what is made when nothing looks there -/
def cso (y : Bool) (b : Int) : Int := if y = true then (if b = 0 then 1 else 0) else -1
theorem l_X6_make {T : Int} {f : Nat} {v : Int} {L : Nat} (tT : am_kd 321 T = 15) (hT : 242 ≤ T) (ok : okx t) (hs2 : 0 ≤ size ∧ size ≤ 40) (hb : ∀ j : Int, 0 ≤ j → j < 40 → 0 ≤ β j ∧ β j ≤ 255) (hf : f < 8) (hc : 0 ≤ co t f) (L40 : L < 2 ^ 40)
    (hL : ∀ p : Nat, p < 40 → L.testBit p = false → cnd t f v size β p = cso (hvb t f v size β) (β p))
    (k : ∀ g : am_H, fT h g → okP g → Q (mkL (cnd t f v size β) 0 size.toNat) g) :
    ∀ (n i : Nat) (g : am_H), i + n = size.toNat → ctx h T t → h 218 9 = 0 → h 198 3 = size → fT h g → okP g → (∀ j : Int, 0 ≤ j → j < 40 → g 199 j = β j) → mkL (cnd t f v size β) 0 size.toNat = mkL (cnd t f v size β) i n → wf (D + 14) M_X6_make Q 99 [some (.inr (.inr 1)), none, some (.inl (f : Int)), some (.inl v), some (.inr (.inr T)), none, none, some (.inl (bi (hvb t f v size β))), some (.inr (.inl (L : Int))), none, some (.inl (i : Int)), none] [] g
  | 0, i, g, hn, cx, h9, h3, fg, og, gb, e => by
    have e3 : g 198 3 = size := by rw [fg.1 198 (by omega)]; exact h3
    have kk := k g fg og
    rw [e] at kk
    refine B_X6_make_99 ?_
    rw [e3]
    exact ⟨fun _ => kk, fun q => by omega⟩
  | n + 1, i, g, hn, cx, h9, h3, fg, og, gb, e => by
    have e3 : g 198 3 = size := by rw [fg.1 198 (by omega)]; exact h3
    have kk := k g fg og
    have bb := bi01 (hvb t f v size β)
    have rg := cnd_rng (t := t) (f := f) (p := i) (v := v) (size := size) (β := β)
    simp only [mkL] at e
    have next : ∀ g2 : am_H, fT h g2 → okP g2 → (∀ j : Int, 0 ≤ j → j < 40 → g2 199 j = β j) → cnd t f v size β i = -1 → wf (D + 14) M_X6_make Q 192 [some (.inr (.inr 1)), none, some (.inl (f : Int)), some (.inl v), some (.inr (.inr T)), none, none, some (.inl (bi (hvb t f v size β))), some (.inr (.inl (L : Int))), none, some (.inl (i : Int)), none] [] g2 := by
      intro g2 f2 o2 b2 q
      rw [if_pos q] at e
      refine B_X6_make_192 ?_
      rw [w32e (by omega) (by omega), show (i : Int) + 1 = ((i + 1 : Nat) : Int) by omega]
      exact l_X6_make tT hT ok hs2 hb hf hc L40 hL k n (i + 1) g2 (by omega) cx h9 h3 f2 o2 b2 e
    have fin : ∀ (g2 : am_H) (c : Int), fT h g2 → okP g2 → cnd t f v size β i = c → ¬ c = -1 → Q (am_w32 (am_w32 ((i : Int) * 256) + c)) g2 := by
      intro g2 c f2 o2 q q2
      have k2 := k g2 f2 o2
      rw [e, if_neg (by omega), q] at k2
      rw [w32e (z := (i : Int) * 256) (by omega) (by omega), w32e (by omega) (by omega), show (i : Int) * 256 = 256 * (i : Int) by omega]
      exact k2
    refine B_X6_make_99 ?_
    rw [e3]
    refine ⟨fun q => by omega, fun _ => ⟨fun q => by omega, fun _ => ?_⟩⟩
    rw [lbit_n (by omega) (by omega)]
    refine ⟨fun z => ?_, fun z => ?_⟩
    · have zb : L.testBit i = false := by
        cases y : L.testBit i with
        | false => rfl
        | true => rw [y] at z; exact absurd (lcmp_z z) (by decide)
      have hc2 := hL i (by omega) zb
      refine ⟨fun q => next g fg og gb ?_, fun q => ⟨by omega, ?_⟩⟩
      · rw [hc2]
        cases y : hvb t f v size β with
        | false => rfl
        | true => rw [y] at q; exact absurd q (by decide)
      · have y : hvb t f v size β = true := by
          cases y : hvb t f v size β with
          | true => rfl
          | false => rw [y] at q; exact absurd rfl q
        rw [y] at hc2
        unfold cso at hc2
        rw [if_pos rfl] at hc2
        rw [gb i (by omega) (by omega)]
        refine ⟨fun q2 => ?_, fun q2 => ?_⟩
        · rw [if_neg q2] at hc2
          exact fin g 0 fg og hc2 (by omega)
        · rw [if_pos q2] at hc2
          exact fin g 1 fg og hc2 (by omega)
    · refine c_X6_madeAt (D := D) tT hT ok hs2 hb hf hc (by omega) (ctx_congr cx (fun x q1 q2 => fg.1 x (by omega))) (by rw [fg.2]; exact h9) e3 og gb (fun g2 f2 o2 b2 => ?_)
      have ft : fT h g2 := ⟨fun x qx => (f2.1 x qx).trans (fg.1 x qx), f2.2.trans fg.2⟩
      exact ⟨fun q => next g2 ft o2 b2 q, fun q => fin g2 _ ft o2 rfl q⟩
theorem r_make_none {t f v : Int} {α : Int → Int} {tx : Nat → List Cl} (h : (isT α t ∧ (0 ≤ f ∧ f ≤ 7)) ∧ (0 ≤ v ∧ v ≤ 16777215) → 0 ≤ co (tx t.toNat) f.toNat → ∀ p, cnd (tx t.toNat) f.toNat v (α 6) (fB8 α) p = -1) : r_make α tx t f v = -1 := by
  unfold r_make
  split
  · rename_i q
    have e : ((f.toNat : Nat) : Int) = f := by omega
    exact mkL_none _ _ (h q.1 (by rw [e]; exact q.2))
  · rfl
theorem c_X6_make {t f v : Int} (I : INV h tx) (k : ∀ g, fX h g → Q (r_make (h 295) tx t f v) g) : cf (D + 14) M_X6_make [.inr (.inr 1), .inl t, .inl f, .inl v] h Q := by
  have s6 := INV_6 I
  have hb := INV_b I
  have no : ∀ g, fX h g → ((isT (h 295) t ∧ (0 ≤ f ∧ f ≤ 7)) ∧ (0 ≤ v ∧ v ≤ 16777215) → 0 ≤ co (tx t.toNat) f.toNat → ∀ p, cnd (tx t.toNat) f.toNat v (h 295 6) (fB8 (h 295)) p = -1) → Q (-1) g := by
    intro g fg y
    have kk := k g fg
    rw [r_make_none y] at kk
    exact kk
  refine cf_of pX6 (Nat.le_of_ble_eq_true rfl) rfl (fun _ => B_X6_make_0 (c6_textAt I (fun q => ⟨by have := q.1; omega, fun c => by have := q.1; omega, fun _ => c_X6_isField (fun a b => ⟨fun c => by omega, fun _ => ⟨fun c => ?_, fun c => ?_⟩⟩) (fun a => ⟨fun _ => ?_, fun c => absurd rfl c⟩)⟩) (fun q => ⟨by omega, fun _ => ?_, fun c => by omega⟩)))
  · exact no h fX_refl (fun y => by omega)
  · obtain ⟨z1, z2, z3, z4, z5⟩ := INV_t I q.1 q.2
    obtain ⟨f0, hf0⟩ : ∃ f0 : Nat, f = (f0 : Int) := ⟨f.toNat, by omega⟩
    subst hf0
    rw [Int.toNat_natCast] at no
    have f8 : f0 < 8 := by omega
    have tb := q.1
    have e12 := (z1.2.2.2.1 f0 f8).2.2.1
    have nl := needF_lt (tx := tx t.toNat) (f := f0)
    refine ⟨z5, c_X5_mostOf (d := D + 12) z5 z1 z3 f8 ⟨fun mo => ⟨a, by omega, ?_⟩, fun mo => ?_⟩⟩
    · have hc : 0 ≤ co (tx t.toNat) f0 := by
        by_cases y : 0 ≤ co (tx t.toNat) f0
        · exact y
        · unfold most kdf at mo
          rw [if_pos (show co (tx t.toNat) f0 < 0 by omega)] at mo
          rw [if_neg (by omega), if_neg (by omega), if_neg (by omega)] at mo
          omega
      have v16 : v ≤ 16777215 := by
        unfold most at mo
        split at mo
        · omega
        · split at mo
          · omega
          · split at mo <;> omega
      rw [e12]
      refine c_X2_readValues (D := D + 1) (β := fB8 (h 295)) (Or.inl rfl) z5 (by omega) z1 z3 I.2.2.2.2.2.2.1.1 I.2.2.2.2.2.2.1.2 (s_6 I.1) s6 (fun j j0 j1 => sbyte I.1 j0 j1) hb nl (fun h2 f2 c2 o2 => ⟨k_220, ?_⟩)
      have x2 := fX_fW f2
      have I2 := INV_fX I x2
      have m5 := I2.1.1
      have e295 : h2 295 = h 295 := x2.1 295 (by omega)
      rw [e295] at m5
      have va := rdC_va (β := fB8 (h 295)) (size := h 295 6) z3 hb s6 f8
      have L40 := lkS_lt (s := needF (tx t.toNat) f0) o2
      have L0 : (((lkS (rdC (tx t.toNat) (fB8 (h 295)) true (needF (tx t.toNat) f0) 0 (h 295 6)) (needF (tx t.toNat) f0)) : Nat) : Int) = (((lkS (rdC (tx t.toNat) (fB8 (h 295)) true (needF (tx t.toNat) f0) 0 (h 295 6)) (needF (tx t.toNat) f0)) : Nat) : Int) := rfl
      have go : ∀ s7 : Int, s7 = bi (hvb (tx t.toNat) f0 v (h 295 6) (fB8 (h 295))) → cf (D + 13) M_X3_looksOf [.inr (.inr 220), .inl ((needF (tx t.toNat) f0 : Nat) : Int)] h2 (fun r20 h21 => cf (D + 13) M_X0_copy [.inr (.inr 198), .inr (.inr 5)] h21 (fun _ h23 => wf (D + 14) M_X6_make Q 99 [some (.inr (.inr 1)), none, some (.inl (f0 : Int)), some (.inl v), some (.inr (.inr (242 + 13 * t))), none, none, some (.inl s7), some (.inr (.inl r20)), none, some (.inl 0), none] [] h23)) := by
        intro s7 es
        subst es
        refine c_X3_looksOf (d := D + 12) k_220 nl c2 o2 ?_
        refine c_X0_copy k_198 k_5 (by omega) m5 I.2.1.2.2.2.2.1.2.2.2.1 (fun h4 f4 m4 => ?_)
        have b199 : ∀ j : Int, 0 ≤ j → j < 40 → h4 199 j = fB8 (h 295) j := fun j j0 j1 => by
          have := m4.2.2.2.2.1 j j0 j1
          rw [show (198 : Int) + 1 = 199 from rfl] at this
          rw [this, cur_lo (by omega), show 4 + (4 + j) = 8 + j by omega]
          rfl
        have x4 : fX h2 h4 := ⟨fun b qb => f4 b (by omega) (by omega) (by omega), by rw [f4 218 (by omega) (by omega) (by omega)], fun qq => ⟨by rw [f4 218 (by omega) (by omega) (by omega)]; exact qq.1, by rw [f4 218 (by omega) (by omega) (by omega)]; exact qq.2.1, fun j j0 j1 => by rw [b199 j j0 j1, f4 240 (by omega) (by omega) (by omega)]; exact ⟨hb j j0 j1, (qq.2.2 j j0 j1).2⟩⟩⟩
        have s198 : h4 198 3 = h 295 6 := by
          have := m4.2.2.1
          rw [this, cur_lo (by omega)]
          rfl
        have x24 := fX_trans x2 x4
        have I4 := INV_fX I x24
        refine l_X6_make (h := h4) (size := h 295 6) (β := fB8 (h 295)) (D := D) z5 (by omega) z3 s6 hb f8 hc L40 (fun p p40 zb => ?_) (fun g fg og => ?_) (h 295 6).toNat 0 h4 (by omega) (ctx_congr z1 (fun b q1 q2 => x24.1 b (by omega))) I4.2.2.2.2.2.2.1.1 s198 ⟨fun _ _ => rfl, rfl⟩ (x24.2.2 I.2.2.2.2.2.2.1.2) b199 rfl
        · exact cnd_so (hb p (by omega) (by omega)).1 (fun b b8 => hv_look (vo := true) z3 hb (up_b hb b8) s6 f8 zb)
        · have kk := k g (fX_trans x24 (fX_fT fg (fun _ => og)))
          unfold r_make at kk
          rw [if_pos ⟨⟨⟨q, a, b⟩, by omega, v16⟩, hc⟩, Int.toNat_natCast] at kk
          exact kk
      refine c_X3_has (d := D + 11) k_220 f8 c2 o2 (fun q1 q2 q3 => ?_) (fun q1 => ?_)
      · refine go 1 ?_
        have a1 : ¬ rdX (tx t.toNat) (fB8 (h 295)) (h 295 6) f0 3 = 1 := fun y => q2 (va.2.mpr y)
        have a2 : rdX (tx t.toNat) (fB8 (h 295)) (h 295 6) f0 0 = v := by rw [← va.1]; exact q3
        unfold hvb
        simp [a1, a2, bi]
      · refine go 0 ?_
        unfold hvb
        by_cases a1 : rdX (tx t.toNat) (fB8 (h 295)) (h 295 6) f0 3 = 1
        · simp [a1, bi]
        · have a2 : ¬ rdX (tx t.toNat) (fB8 (h 295)) (h 295 6) f0 0 = v := fun y => q1 ⟨hc, fun z => a1 (va.2.mp z), va.1.trans y⟩
          simp [a2, bi]
    · refine no h fX_refl (fun _ hc p => ?_)
      refine ff_none 256 0 (fun b _ b8 => ?_)
      unfold cndP
      rw [hv_most z3 (up_b hb (by omega)) s6 f8 hc mo, Bool.and_false]
  · exact no h fX_refl (fun y => by omega)
  · exact no h fX_refl (fun y => absurd y.1.1 q)
end MAKE2
