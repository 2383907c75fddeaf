section MAKE
variable {d D : Nat} {h : am_H} {Q : Int → am_H → Prop} {tx : Nat → List Cl} {t : List Cl} {β : Int → Int} {vo : Bool} {deep base size : Int} {ρ : Rd}
/-- the first from a place on -/
def ff (p : Nat → Bool) : Nat → Nat → Int
  | _, 0 => -1
  | i, n + 1 => if p i = true then (i : Int) else ff p (i + 1) n
theorem ff_s {p : Nat → Bool} {i n : Nat} : ff p i (n + 1) = if p i = true then (i : Int) else ff p (i + 1) n := rfl
theorem ff_none {p : Nat → Bool} : ∀ (n i : Nat), (∀ j, i ≤ j → j < i + n → p j = false) → ff p i n = -1
  | 0, _, _ => rfl
  | n + 1, i, h => by
    simp only [ff]
    rw [if_neg (by rw [h i (Nat.le_refl _) (by omega)]; decide)]
    exact ff_none n (i + 1) (fun j h1 h2 => h j (by omega) (by omega))
theorem ff_rng {p : Nat → Bool} : ∀ (n i : Nat), ff p i n = -1 ∨ ((i : Int) ≤ ff p i n ∧ ff p i n < (i : Int) + n)
  | 0, _ => Or.inl rfl
  | n + 1, i => by
    simp only [ff]
    split
    · right; omega
    · rcases ff_rng (p := p) n (i + 1) with h | h
      · exact Or.inl h
      · right; omega
def cndP (t : List Cl) (f : Nat) (v size : Int) (β : Int → Int) (p : Nat) (b : Nat) : Bool := !decide ((b : Int) = β p) && hvb t f v size (up1 β p b)
/-- the lowest other byte of a place by which it is so -/
def cnd (t : List Cl) (f : Nat) (v size : Int) (β : Int → Int) (p : Nat) : Int := ff (cndP t f v size β p) 0 256
def mkL (c : Nat → Int) : Nat → Nat → Int
  | _, 0 => -1
  | i, n + 1 => if c i = -1 then mkL c (i + 1) n else 256 * (i : Int) + c i
theorem mkL_none {c : Nat → Int} : ∀ (n i : Nat), (∀ j, c j = -1) → mkL c i n = -1
  | 0, _, _ => rfl
  | n + 1, i, h => by
    simp only [mkL]
    rw [if_pos (h i)]
    exact mkL_none n (i + 1) h
theorem cnd_so {f p : Nat} {v : Int} (hb : 0 ≤ β p) (e : ∀ b : Nat, b < 256 → hvb t f v size (up1 β p b) = hvb t f v size β) : cnd t f v size β p = if hvb t f v size β = true then (if β p = 0 then 1 else 0) else -1 := by
  unfold cnd
  by_cases s : hvb t f v size β = true
  · rw [if_pos s]
    by_cases z : β p = 0
    · rw [if_pos z]
      have e0 : cndP t f v size β p 0 = false := by unfold cndP; rw [z]; rfl
      have e1 : cndP t f v size β p 1 = true := by unfold cndP; rw [z, e 1 (by omega), s]; rfl
      exact (ff_s (n := 255)).trans ((if_neg (by rw [e0]; decide)).trans ((ff_s (n := 254)).trans ((if_pos e1).trans rfl)))
    · rw [if_neg z]
      have e0 : cndP t f v size β p 0 = true := by
        unfold cndP
        rw [e 0 (by omega), s]
        have z2 : decide (((0 : Nat) : Int) = β p) = false := decide_eq_false (fun y => z y.symm)
        rw [z2]
        rfl
      exact (ff_s (n := 255)).trans ((if_pos e0).trans rfl)
  · rw [if_neg s]
    refine ff_none 256 0 (fun j _ hj => ?_)
    unfold cndP
    rw [e j (by omega)]
    cases q : hvb t f v size β with
    | true => exact absurd q s
    | false => rw [Bool.and_false]
/-- a sum is a byte -/
def okB (t : List Cl) (ρ : Rd) : Prop := ∀ f, f < 8 → kdf t f = 1 → ¬ ρ f 3 = 1 → ρ f 0 ≤ 255
theorem okB_put {f c : Nat} {v : Int} (i : okB t ρ) (q : c = 4 ∨ 8 ≤ f) : okB t (putR ρ f c v) := by
  intro g hg
  rw [putR_ne (by omega), putR_ne (by omega)]
  exact i g hg
theorem okB_step {inn : Int → Int → Option Rd} {f : Nat} (i : okB t ρ) : okB t (stepF t β vo deep base size inn ρ f) := by
  have set : ∀ (v a z w : Int) (l : Nat), (kdf t f = 1 → v ≤ 255) → okB t (setR ρ f v a z w l) := fun v a z w l hv g hg k1 k3 => by
    by_cases e : g = f
    · subst e
      rw [setR_at.1]; exact hv k1
    · rw [setR_ne e] at k3 ⊢; exact i g hg k1 k3
  unfold stepF
  split
  · exact i
  · unfold stepV
    split
    · split
      · split
        · exact set _ _ _ _ _ (fun k => by omega)
        · exact okB_put i (Or.inl rfl)
      · split
        · split
          · exact set _ _ _ _ _ (fun k => by unfold sval; omega)
          · exact okB_put i (Or.inl rfl)
        · split
          · split
            · exact okB_put (set _ _ _ _ _ (fun k => by omega)) (Or.inr (Nat.le_refl _))
            · exact okB_put i (Or.inl rfl)
          · exact okB_put i (Or.inl rfl)
    · exact okB_put i (Or.inl rfl)
theorem okB_flds {inn : Int → Int → Option Rd} {W : Nat} : ∀ (l : List Nat) (ρ : Rd), okB t ρ → okB t (flds t β vo deep base size inn W l ρ)
  | [], ρ, i => i
  | f :: l, ρ, i => by
    simp only [flds]
    refine okB_flds l _ ?_
    split
    · exact okB_step i
    · exact i
theorem rdX_B : okB t (rdX t β size) := by
  have i0 : okB t (rd0 t 0) := by
    intro f hf k1 k3
    have v := rd0_v (tx := t) (deep := 0) hf
    by_cases c : 0 ≤ co t f
    · exact absurd (v.1 c).2.2.2 k3
    · unfold kdf at k1
      rw [if_pos (by omega)] at k1
      omega
  have i := okB_flds (β := β) (vo := false) (deep := 0) (base := 0) (size := size) (inn := fun b s => some (rdB t β false (wI t false 0) b s)) (W := 255) (ord t) (rd0 t 0) i0
  unfold rdX rdC lvl
  rw [if_pos rfl]
  intro f hf
  rw [msts_row hf, msts_row hf]
  exact i f hf
def most (t : List Cl) (f : Nat) : Int := if kdf t f = 0 then 16777215 else if kdf t f = 1 then 255 else if kdf t f = 2 then 9 else -1
theorem hv_most {f : Nat} {v : Int} (ok : okx t) (hb : ∀ j : Int, 0 ≤ j → j < 40 → 0 ≤ β j ∧ β j ≤ 255) (hs : 0 ≤ size ∧ size ≤ 40) (hf : f < 8) (hc : 0 ≤ co t f) (hv : most t f < v) : hvb t f v size β = false := by
  have o := rdX_ok ok hb hs
  have k8 := kdf_or ok hc
  unfold hvb
  by_cases c : rdX t β size f 3 = 1
  · simp [c]
  · have bd := (o.1.1 f hf).2.2.1
    have n : ¬ rdX t β size f 0 = v := by
      unfold most at hv
      rcases k8 with k | k | k
      · rw [if_pos k] at hv; omega
      · rw [if_neg (by omega), if_pos k] at hv
        have := rdX_B (β := β) (size := size) f hf k c
        omega
      · rw [if_neg (by omega), if_neg (by omega), if_pos k] at hv
        have := o.2.1 f hf k c
        omega
    simp [n]
def r_make (α : Int → Int) (tx : Nat → List Cl) (t f v : Int) : Int := if ((isT α t ∧ (0 ≤ f ∧ f ≤ 7)) ∧ (0 ≤ v ∧ v ≤ 16777215)) ∧ 0 ≤ co (tx t.toNat) f then mkL (cnd (tx t.toNat) f.toNat v (α 6) (fB8 α)) 0 (α 6).toNat else -1
theorem up_b {p : Nat} {b : Nat} (hb : ∀ j : Int, 0 ≤ j → j < 40 → 0 ≤ β j ∧ β j ≤ 255) (b8 : b < 256) : ∀ j : Int, 0 ≤ j → j < 40 → 0 ≤ up1 β p b j ∧ up1 β p b j ≤ 255 := by
  intro j j0 j1
  by_cases e : j = p
  · rw [e, up1_at]; omega
  · rw [up1_ne e]; exact hb j j0 j1
theorem c_X3_has {A : Int} {f : Nat} {v : Int} (tA : am_kd 321 A = 13) (hf : f < 8) (c : crd h A t base size deep ρ) (o : okr t ρ) (k1 : 0 ≤ co t f → ¬ ρ f 3 = 1 → ρ f 0 = v → Q 1 h) (k0 : ¬ (0 ≤ co t f ∧ ¬ ρ f 3 = 1 ∧ ρ f 0 = v) → Q 0 h) : cf (d + 2) M_X3_has [.inr (.inr A), .inl (f : Int), .inl v] h Q := by
  have c4 := c.2.2.2.1 f hf
  refine cf_of pX3 (Nat.le_of_ble_eq_true rfl) rfl (fun _ => B_X3_has_0 tA (c_X6_isField (fun _ _ => ⟨fun q => by omega, fun _ => c_X3_isKnown tA hf c o (fun q q2 => ⟨fun y => by omega, fun _ => ⟨by omega, by omega, ?_⟩⟩) (fun q => ⟨fun _ => k0 (fun y => ?_), fun y => absurd rfl y⟩)⟩) (fun q => by omega)))
  · rw [c4.1]
    exact ⟨fun y => k0 (fun z => y z.2.2), fun y => k1 q q2 y⟩
  · rcases q with q | q
    · omega
    · exact y.2.1 q
/-- the class reads values alone -/
theorem c_X2_readValues {m T : Int} {W : Nat} (hm : m = 5 ∨ m = 198) (tT : am_kd 321 T = 15) (hT : 242 ≤ T) (c : ctx h T t) (ok : okx t) (h9 : h 218 9 = 0) (oP : okP h) (hs : h m 3 = size) (hs2 : 0 ≤ size ∧ size ≤ 40) (hB : ∀ j : Int, 0 ≤ j → j < 40 → h (m + 1) j = β j) (hb : ∀ j : Int, 0 ≤ j → j < 40 → 0 ≤ β j ∧ β j ≤ 255) (hW : W < 256)
    (k : ∀ h2, fW h h2 → crd h2 220 t 0 size 0 (rdC t β true W 0 size) → okr t (rdC t β true W 0 size) → Q 220 h2) : cf (D + 12) M_X2_readValues [.inr (.inr 218), .inr (.inr T), .inr (.inr m), .inl (W : Int)] h Q := by
  have km : am_kd 321 m = 10 := by
    rcases hm with rfl | rfl
    · exact k_5
    · exact k_198
  have km1 := kX0_0 km
  refine cf_of pX2 (Nat.le_of_ble_eq_true rfl) rfl (fun _ => B_X2_readValues_0 ⟨km, ?_⟩)
  generalize hg : am_up (am_up h 218 7 (m + 1)) 218 9 1 = g
  have g0 : ∀ b : Int, b ≠ 218 → g b = h b := fun b q => by rw [← hg]; funext j; rw [am_up_ne (by omega), am_up_ne (by omega)]
  have g7 : g 218 7 = m + 1 := by rw [← hg, am_up_ne (by omega), am_up_at]
  have g9 : g 218 9 = 1 := by rw [← hg, am_up_at]
  have g8 : g 218 8 = h 218 8 := by rw [← hg, am_up_ne (by omega), am_up_ne (by omega)]
  have o8 := oP.1
  rw [g0 m (by omega), hs]
  have p : rpre g T t β true 0 0 size := ⟨⟨tT, hT, ctx_congr c (fun b q q2 => g0 b (by omega)), ok⟩, by rw [g9]; rfl, ⟨by rw [g7]; exact km1.1, by rw [g7]; exact km1.2, by rw [g7]; omega, fun j j0 j1 => by rw [g7, g0 _ (by omega)]; exact hB j j0 j1⟩, hb, by omega, by omega, by omega, by omega⟩
  refine rfOK_0 (D := D) _ g W 0 size p hW (fun h2 f2 c2 o2 n2 d2 e8 => ?_)
  have u0 : ∀ b : Int, b ≠ 218 → am_up h2 218 9 0 b = h2 b := fun b q => by funext j; exact am_up_ne (by omega)
  refine k (am_up h2 218 9 0) ⟨fun b q => by rw [u0 b (by omega), f2.1 b (by omega)]; exact g0 b (by omega), by rw [am_up_at, h9], fun o => ⟨by rw [am_up_ne (by omega), e8, g8]; omega, by rw [am_up_ne (by omega), f2.2 7 (by omega) (by omega), g7]; omega, fun j j0 j1 => by rw [u0 199 (by omega), u0 240 (by omega), f2.1 199 (by omega), f2.1 240 (by omega), g0 199 (by omega), g0 240 (by omega)]; exact o.2.2 j j0 j1⟩⟩ (crd_congr c2 (fun b q q2 => u0 b (by omega))) o2
theorem c_X5_mostOf {T : Int} {f : Nat} (tT : am_kd 321 T = 15) (c : ctx h T t) (ok : okx t) (hf : f < 8) (k : Q (most t f) h) : cf (d + 1) M_X5_mostOf [.inr (.inr T), .inl (f : Int)] h Q := by
  have e := (c.2.2.2.1 f hf).1
  have k8 : kdf t f = -1 ∨ kdf t f = 0 ∨ kdf t f = 1 ∨ kdf t f = 2 := by
    by_cases q : 0 ≤ co t f
    · exact Or.inr (kdf_or ok q)
    · left; unfold kdf; rw [if_pos (by omega)]
  unfold most at k
  refine cf_of pX5 (Nat.le_of_ble_eq_true rfl) rfl (fun _ => B_X5_mostOf_0 tT (c_X6_isField (fun _ _ => ⟨fun q => by omega, fun _ => ⟨by omega, by omega, ?_⟩⟩) (fun q => by omega)))
  rw [e]
  refine B_X5_mostOf_17 ⟨fun q => ?_, fun q => ?_, fun q => ?_, fun q => ?_⟩
  · rw [if_neg (by omega), if_neg (by omega), if_neg (by omega)] at k; exact k
  · rw [if_pos q] at k; exact k
  · rw [if_neg (by omega), if_pos q] at k; exact k
  · rw [if_neg (by omega), if_neg (by omega), if_pos q] at k; exact k
/-- the trial stays, but for its bytes -/
def fT (h h2 : am_H) : Prop := (∀ b : Int, b < 199 ∨ b = 200 ∨ 242 ≤ b → h2 b = h b) ∧ h2 218 9 = h 218 9
theorem fX_fT {h2 : am_H} (f : fT h h2) (o : okP h → okP h2) : fX h h2 := ⟨fun b q => f.1 b (by omega), f.2, o⟩
theorem okP_199 {h2 : am_H} {p : Int} {b : Nat} (o : okP h) (e : h2 = am_up h 199 p b) (b8 : b < 256) : okP h2 := by
  subst e
  refine ⟨by rw [am_up_ne (by omega)]; exact o.1, by rw [am_up_ne (by omega)]; exact o.2.1, fun j j0 j1 => ⟨?_, by rw [am_up_ne (by omega)]; exact (o.2.2 j j0 j1).2⟩⟩
  by_cases z : j = p
  · rw [z, am_up_at]; omega
  · rw [am_up_ne (by omega)]; exact (o.2.2 j j0 j1).1
theorem l_X6_madeAt {T : Int} {f p : Nat} {v : Int} (tT : am_kd 321 T = 15) (hT : 242 ≤ T) (ok : okx t) (hs2 : 0 ≤ size ∧ size ≤ 40) (hb : ∀ j : Int, 0 ≤ j → j < 40 → 0 ≤ β j ∧ β j ≤ 255) (hf : f < 8) (hc : 0 ≤ co t f) (hp : p < 40)
    (k : ∀ (g : am_H) (m : Int), fT h g → okP g → (∀ j : Int, 0 ≤ j → j < 40 → ¬ j = p → g 199 j = β j) → m = cnd t f v size β p → wf (D + 13) M_X6_madeAt Q 101 [some (.inr (.inr 1)), none, none, none, some (.inl (p : Int)), some (.inl (β p)), some (.inl m), none] [] g) :
    ∀ (n b : Nat) (g : am_H), b + n = 256 → ctx h T t → h 218 9 = 0 → h 198 3 = size → fT h g → okP g → (∀ j : Int, 0 ≤ j → j < 40 → ¬ j = p → g 199 j = β j) → cnd t f v size β p = ff (cndP t f v size β p) b n → wf (D + 13) M_X6_madeAt Q 32 [some (.inr (.inr 1)), some (.inr (.inr T)), some (.inl (f : Int)), some (.inl v), some (.inl (p : Int)), some (.inl (β p)), some (.inl (-1)), some (.inl (b : Int))] [] g
  | 0, b, g, hn, cx, h9, h3, fg, og, gb, e => by
    refine B_X6_madeAt_32 ⟨fun _ => k g (-1) fg og gb (by rw [e]; rfl), fun q => by omega⟩
  | n + 1, b, g, hn, cx, h9, h3, fg, og, gb, e => by
    have b8 : b < 256 := by omega
    simp only [ff] at e
    have next : ∀ g2 : am_H, fT h g2 → okP g2 → (∀ j : Int, 0 ≤ j → j < 40 → ¬ j = p → g2 199 j = β j) → cndP t f v size β p b = false → wf (D + 13) M_X6_madeAt Q 95 [some (.inr (.inr 1)), some (.inr (.inr T)), some (.inl (f : Int)), some (.inl v), some (.inl (p : Int)), some (.inl (β p)), some (.inl (-1)), some (.inl (b : Int))] [] g2 := by
      intro g2 f2 o2 b2 q
      rw [if_neg (by rw [q]; decide)] at e
      refine B_X6_madeAt_95 ?_
      rw [w32e (by omega) (by omega), show (b : Int) + 1 = ((b + 1 : Nat) : Int) by omega]
      exact l_X6_madeAt tT hT ok hs2 hb hf hc hp k n (b + 1) g2 (by omega) cx h9 h3 f2 o2 b2 e
    refine B_X6_madeAt_32 ⟨fun q => by omega, fun _ => ⟨fun q => absurd rfl q, fun _ => ⟨fun q => next g fg og gb (by unfold cndP; simp [q]), fun q => ⟨by omega, by omega, tT, by omega, by omega, ?_⟩⟩⟩⟩
    generalize hu : am_up g 199 p (b : Int) = u
    have u0 : ∀ x : Int, x ≠ 199 → u x = g x := fun x qx => by rw [← hu]; funext j; exact am_up_ne (by omega)
    have fu : fT h u := ⟨fun x qx => by rw [u0 x (by omega)]; exact fg.1 x qx, by rw [u0 218 (by omega)]; exact fg.2⟩
    have ou : okP u := okP_199 og hu.symm b8
    have uB : ∀ j : Int, 0 ≤ j → j < 40 → u (198 + 1) j = up1 β p b j := fun j j0 j1 => by
      rw [show (198 : Int) + 1 = 199 from rfl, ← hu]
      by_cases z : j = p
      · rw [z, am_up_at, up1_at]
      · rw [am_up_ne (by omega), up1_ne z]; exact gb j j0 j1 z
    have ubb := up_b (p := p) (b := b) hb b8
    have cu : ctx u T t := ctx_congr cx (fun x q1 q2 => fu.1 x (by omega))
    have e12 := (cu.2.2.2.1 f hf).2.2.1
    rw [e12]
    refine c_X2_readValues (D := D) (Or.inr rfl) tT hT cu ok (by rw [fu.2]; exact h9) ou (by rw [fu.1 198 (by omega)]; exact h3) hs2 uB ubb needF_lt (fun h2 f2 c2 o2 => ⟨k_220, ?_⟩)
    have ft2 : fT h h2 := ⟨fun x qx => by rw [f2.1 x (by omega)]; exact fu.1 x qx, f2.2.1.trans fu.2⟩
    have op2 : okP h2 := f2.2.2 ou
    have b2 : ∀ j : Int, 0 ≤ j → j < 40 → ¬ j = p → h2 199 j = β j := fun j j0 j1 z => by
      rw [f2.1 199 (by omega)]
      have := uB j j0 j1
      rw [show (198 : Int) + 1 = 199 from rfl, up1_ne z] at this
      exact this
    have va := rdC_va (β := up1 β p b) (size := size) ok ubb hs2 hf
    have ne : decide ((b : Int) = β p) = false := decide_eq_false q
    refine c_X3_has (d := D + 10) k_220 hf c2 o2 (fun q1 q2 q3 => ⟨fun y => by omega, fun _ => ?_⟩) (fun q1 => ⟨fun _ => next h2 ft2 op2 b2 ?_, fun y => absurd rfl y⟩)
    · have yes : cndP t f v size (β) p b = true := by
        unfold cndP hvb
        rw [ne]
        have a1 : ¬ rdX t (up1 β p b) size f 3 = 1 := fun y => q2 (va.2.mpr y)
        have a2 : rdX t (up1 β p b) size f 0 = v := by rw [← va.1]; exact q3
        simp [a1, a2]
      rw [if_pos yes] at e
      refine B_X6_madeAt_95 ?_
      rw [w32e (by omega) (by omega)]
      refine B_X6_madeAt_32 ⟨fun _ => k h2 b ft2 op2 b2 e.symm, fun _ => ⟨fun _ => k h2 b ft2 op2 b2 e.symm, fun y => by omega⟩⟩
    · unfold cndP hvb
      rw [ne]
      by_cases a1 : rdX t (up1 β p b) size f 3 = 1
      · simp [a1]
      · have a2 : ¬ rdX t (up1 β p b) size f 0 = v := fun y => q1 ⟨hc, fun z => a1 (va.2.mp z), by rw [va.1]; exact y⟩
        simp [a2]
end MAKE
