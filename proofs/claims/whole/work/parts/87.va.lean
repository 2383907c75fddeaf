/-! LEVEL 3, pure: values alone, of some FIELDS, are the values of all that is read -/
section VA
variable {t : List Cl} {β : Int → Int} {deep base size : Int} {ρ ρ2 : Rd}
def rv (ρ ρ2 : Rd) (g : Nat) : Prop := ρ g 0 = ρ2 g 0 ∧ (ρ g 3 = 1 ↔ ρ2 g 3 = 1)
def innv (t : List Cl) (inn inn2 : Int → Int → Option Rd) : Prop := ∀ b s : Int, 0 ≤ b → 0 ≤ s → b + s ≤ 40 → (inn b s = none ∧ inn2 b s = none) ∨ ∃ ι ι2, inn b s = some ι ∧ inn2 b s = some ι2 ∧ nval t ι = nval t ι2
theorem bkn_rv {s : Nat} (h : ∀ g, g < 8 → s.testBit g = true → rv ρ ρ2 g) : bkn ρ s = bkn ρ2 s := by
  have iff : bkn ρ s = true ↔ bkn ρ2 s = true := by
    rw [bkn_iff, bkn_iff]
    constructor
    · rintro ⟨f, hf, q1, q2⟩; exact ⟨f, hf, q1, (h f hf q1).2.mp q2⟩
    · rintro ⟨f, hf, q1, q2⟩; exact ⟨f, hf, q1, (h f hf q1).2.mpr q2⟩
  cases a : bkn ρ s with
  | true => exact (iff.mp a).symm
  | false =>
    cases b : bkn ρ2 s with
    | false => rfl
    | true => rw [iff.mpr b] at a; cases a
theorem rv_set {f l l2 : Nat} {v a z w w2 : Int} (hw : w = 1 ↔ w2 = 1) : rv (setR ρ f v a z w l) (setR ρ2 f v a z w2 l2) f := by
  unfold rv
  rw [setR_at.1, setR_at.1, setR_at.2.2.2.1, setR_at.2.2.2.1]
  exact ⟨rfl, hw⟩
theorem rv_put4 {f : Nat} {x y : Int} (h : rv ρ ρ2 f) : rv (putR ρ f 4 x) (putR ρ2 f 4 y) f := by
  unfold rv
  rw [putR_ne (by omega), putR_ne (by omega), putR_ne (by omega), putR_ne (by omega)]
  exact h
theorem stepV_va {inn inn2 : Int → Int → Option Rd} {f L L2 : Nat} {a z o : Int} (v : 0 ≤ base ∧ 0 ≤ size ∧ base + size ≤ 40) (hi : innv t inn inn2) (hf : f < 8) (h : rv ρ ρ2 f) (ho : ¬ kdf t f = 1 → o = a) : rv (stepV t β true base size inn ρ f a z o L) (stepV t β false base size inn2 ρ2 f a z o L2) f := by
  have bad := rv_put4 (f := f) (x := (L : Int)) (y := (L2 : Int)) h
  unfold stepV
  by_cases w : 0 ≤ o ∧ o ≤ z ∧ z ≤ size ∧ 0 ≤ a ∧ a ≤ size
  · rw [if_pos w, if_pos w]
    by_cases k0 : kdf t f = 0
    · rw [if_pos k0, if_pos k0]
      by_cases q : z - a ≤ 3
      · rw [if_pos q, if_pos q]; exact rv_set Iff.rfl
      · rw [if_neg q, if_neg q]; exact bad
    · rw [if_neg k0, if_neg k0]
      by_cases k1 : kdf t f = 1
      · rw [if_pos k1, if_pos k1]
        by_cases q : a < size
        · rw [if_pos q, if_pos q]; exact rv_set Iff.rfl
        · rw [if_neg q, if_neg q]; exact bad
      · rw [if_neg k1, if_neg k1]
        have oa := ho k1
        by_cases q : z - a < size
        · rw [if_pos q, if_pos q]
          rcases hi (base + a) (z - a) (by omega) (by omega) (by omega) with ⟨n1, n2⟩ | ⟨ι, ι2, n1, n2, hn⟩
          · rw [n1, n2]; exact bad
          · rw [n1, n2]
            dsimp only
            rw [hn]
            have z := rv_set (ρ := ρ) (ρ2 := ρ2) (f := f) (l := L ||| nlk ι) (l2 := L2 ||| nlk ι2) (v := nval t ι2) (a := a) (z := z) (w := if sndR ι = true then 0 else 2) (w2 := if sndR ι2 = true then 0 else 2) (by constructor <;> (intro y; split at y <;> omega))
            unfold rv at z ⊢
            rw [putR_ne (by omega), putR_ne (by omega), putR_ne (by omega), putR_ne (by omega)]
            exact z
        · rw [if_neg q, if_neg q]; exact bad
  · rw [if_neg w, if_neg w]; exact bad
theorem stepF_va {inn inn2 : Int → Int → Option Rd} {f : Nat} (ok : okx t) (v : 0 ≤ base ∧ 0 ≤ size ∧ base + size ≤ 40) (hi : innv t inn inn2) (hf : f < 8) (hc : 0 ≤ co t f) (hself : rv ρ ρ2 f) (h : ∀ g, g < 8 → (hgu t f).testBit g = true → rv ρ ρ2 g) : rv (stepF t β true deep base size inn ρ f) (stepF t β false deep base size inn2 ρ2 f) f := by
  have p := parts_congr (β := β) (deep := deep) (base := base) (size := size) ok hc (fun g hg q => (h g hg q).1)
  have b := bkn_rv (s := hgu t f) h
  unfold stepF
  rw [← b]
  split
  · exact hself
  · rw [← p.1, ← p.2.1, ← p.2.2.1, ← p.2.2.2]
    exact stepV_va v hi hf hself (fun k => by unfold fo; rw [if_neg k])
theorem rv_other {inn inn2 : Int → Int → Option Rd} {vo vo2 : Bool} {β2 : Int → Int} {f g : Nat} (hg : g < 8) (gf : g ≠ f) (h : rv ρ ρ2 g) : rv (stepF t β vo deep base size inn ρ f) (stepF t β2 vo2 deep base size inn2 ρ2 f) g := by
  unfold rv
  rw [stepF_other hg gf, stepF_other hg gf, stepF_other hg gf, stepF_other hg gf]
  exact h
theorem flds_va {inn inn2 : Int → Int → Option Rd} {W : Nat} (ok : okx t) (v : 0 ≤ base ∧ 0 ≤ size ∧ base + size ≤ 40) (hi : innv t inn inn2) (cl : ∀ f, f ∈ ord t → W.testBit f = true → ∀ g, g < 8 → (hgu t f).testBit g = true → g ∈ ord t → W.testBit g = true) : ∀ (l : List Nat) (ρ ρ2 : Rd), (∀ f, f ∈ l → f ∈ ord t) → (∀ g, g < 8 → (W.testBit g = true ∨ g ∉ ord t) → rv ρ ρ2 g) → ∀ g, g < 8 → (W.testBit g = true ∨ g ∉ ord t) → rv (flds t β true deep base size inn W l ρ) (flds t β false deep base size inn2 255 l ρ2) g
  | [], ρ, ρ2, _, h, g, hg, q => h g hg q
  | f :: l, ρ, ρ2, hl, h, g, hg, q => by
    have hf := hl f List.mem_cons_self
    have om := ord_mem hf
    have f255 : (255 : Nat).testBit f = true := by
      rw [show (255 : Nat) = 2 ^ 8 - 1 from rfl, Nat.testBit_two_pow_sub_one]
      exact decide_eq_true om.1
    simp only [flds]
    rw [if_pos f255]
    refine flds_va ok v hi cl l _ _ (fun x hx => hl x (List.mem_cons_of_mem _ hx)) (fun x hx qx => ?_) g hg q
    by_cases w : W.testBit f = true
    · rw [if_pos w]
      by_cases e : x = f
      · subst e
        refine stepF_va ok v hi hx om.2 (h x hx (Or.inl w)) (fun y hy qy => h y hy ?_)
        by_cases m : y ∈ ord t
        · exact Or.inl (cl x hf w y hy qy m)
        · exact Or.inr m
      · exact rv_other hx e (h x hx qx)
    · rw [if_neg w]
      have e : x ≠ f := fun e => by
        subst e
        rcases qx with qx | qx
        · exact w qx
        · exact qx hf
      have r := h x hx qx
      unfold rv
      rw [stepF_other hx e, stepF_other hx e]
      exact r
theorem lvl_va {inn inn2 : Int → Int → Option Rd} {W : Nat} (ok : okx t) (v : 0 ≤ base ∧ 0 ≤ size ∧ base + size ≤ 40) (hi : innv t inn inn2) (cl : ∀ f, f ∈ ord t → W.testBit f = true → ∀ g, g < 8 → (hgu t f).testBit g = true → g ∈ ord t → W.testBit g = true) {g : Nat} (hg : g < 8) (q : W.testBit g = true ∨ g ∉ ord t) : rv (lvl t β true deep inn W base size) (lvl t β false deep inn2 255 base size) g := by
  have z := flds_va (β := β) (deep := deep) ok v hi cl (ord t) (rd0 t deep) (rd0 t deep) (fun f hf => hf) (fun _ _ _ => ⟨rfl, Iff.rfl⟩) g hg q
  have e : ∀ (vo : Bool) (i : Int → Int → Option Rd) (w c : Nat), lvl t β vo deep i w base size g c = flds t β vo deep base size i w (ord t) (rd0 t deep) g c := fun vo i w c => by
    unfold lvl
    split
    · exact msts_row hg c _ _ _
    · rfl
  unfold rv at z ⊢
  rw [e, e, e, e]
  exact z
theorem nval_1 {ι : Rd} (o : okn 0 t ι) : nval t ι = 1 := by
  have z := nval_bd (tx := t) (ι := ι) (B := 0) (Int.le_refl _) o 8 (Nat.le_refl _)
  unfold nval
  omega
theorem nval_rv {ι ι2 : Rd} (h : ∀ g, g < 8 → kdf t g = 2 → rv ι ι2 g) : nval t ι = nval t ι2 := by
  unfold nval
  congr 1
  refine sumN_congr 8 (fun g hg => ?_)
  by_cases k : kdf t g = 2
  · have r := h g hg k
    rw [r.1]
    by_cases c : ι g 3 = 1
    · have c2 := r.2.mp c
      rw [if_neg (fun z => z.2 c), if_neg (fun z => z.2 c2)]
    · have c2 : ¬ ι2 g 3 = 1 := fun z => c (r.2.mpr z)
      rw [if_pos ⟨k, c⟩, if_pos ⟨k, c2⟩]
  · rw [if_neg (fun z => k z.1), if_neg (fun z => k z.1)]
theorem innv_2 : innv t (fun _ _ => none) (fun _ _ => none) := fun _ _ _ _ _ => Or.inl ⟨rfl, rfl⟩
theorem innv_1 (ok : okx t) (hb : ∀ j : Int, 0 ≤ j → j < 40 → 0 ≤ β j ∧ β j ≤ 255) : innv t (fun b s => some (rdA t β true (wI t true 1) b s)) (fun b s => some (rdA t β false (wI t false 1) b s)) := fun b s b0 s0 bs => by
  have a := (lvl_ok (vo := true) (wanted := wI t true 1) ok ⟨hb, b0, s0, bs⟩ (Or.inr (Or.inr rfl)) (inP_2 (tx := t))).2.1
  have c := (lvl_ok (vo := false) (wanted := wI t false 1) ok ⟨hb, b0, s0, bs⟩ (Or.inr (Or.inr rfl)) (inP_2 (tx := t))).2.1
  exact Or.inr ⟨_, _, rfl, rfl, (nval_1 a).trans (nval_1 c).symm⟩
theorem kdf2_need {g : Nat} (hg : g < 8) (k : kdf t g = 2) : (needK t 2).testBit g = true ∨ g ∉ ord t := by
  by_cases m : g ∈ ord t
  · exact Or.inl (needK_bit.mpr ⟨g, hg, m, k, need_ok.2.1 g m⟩)
  · exact Or.inr m
theorem innv_0 (ok : okx t) (hb : ∀ j : Int, 0 ≤ j → j < 40 → 0 ≤ β j ∧ β j ≤ 255) : innv t (fun b s => some (rdB t β true (wI t true 0) b s)) (fun b s => some (rdB t β false (wI t false 0) b s)) := fun b s b0 s0 bs => by
  have e : wI t true 0 = needK t 2 := by
    unfold wI
    rw [if_pos rfl, if_pos (by decide)]
  refine Or.inr ⟨_, _, rfl, rfl, nval_rv (fun g hg k => ?_)⟩
  rw [e]
  exact lvl_va ok ⟨b0, s0, bs⟩ (innv_1 ok hb) (needK_cl 2) hg (kdf2_need hg k)
/-- a FIELD's value, values alone being asked -/
theorem rdC_va (ok : okx t) (hb : ∀ j : Int, 0 ≤ j → j < 40 → 0 ≤ β j ∧ β j ≤ 255) (hs : 0 ≤ size ∧ size ≤ 40) {f : Nat} (hf : f < 8) : rv (rdC t β true (needF t f) 0 size) (rdX t β size) f := by
  refine lvl_va ok ⟨Int.le_refl _, by omega, by omega⟩ (innv_0 ok hb) (need_cl f) hf ?_
  by_cases m : f ∈ ord t
  · exact Or.inl (need_ok.2.1 f m)
  · exact Or.inr m
/-! to make it so -/
/-- whether a FIELD has a value -/
def hvb (t : List Cl) (f : Nat) (v size : Int) (β : Int → Int) : Bool := !decide (rdX t β size f 3 = 1) && decide (rdX t β size f 0 = v)
/-- a FIELD that looks not at a place has its value whatever is there -/
theorem hv_look {vo : Bool} {f : Nat} {v : Int} {p : Nat} {b : Int} (ok : okx t) (hb : ∀ j : Int, 0 ≤ j → j < 40 → 0 ≤ β j ∧ β j ≤ 255) (hb2 : ∀ j : Int, 0 ≤ j → j < 40 → 0 ≤ up1 β p b j ∧ up1 β p b j ≤ 255) (hs : 0 ≤ size ∧ size ≤ 40) (hf : f < 8) (hl : (lkS (rdC t β vo (needF t f) 0 size) (needF t f)).testBit p = false) : hvb t f v size (up1 β p b) = hvb t f v size β := by
  have key : rv (rdC t β vo (needF t f) 0 size) (rdC t (up1 β p b) vo (needF t f) 0 size) f := by
    have hS : agr (fun x => x ≠ p) β (up1 β p b) := fun x q => by rw [up1_ne (by omega)]
    have v0 : ivl β 0 size := ⟨hb, Int.le_refl _, by omega, by omega⟩
    have iP := inP_0 (vo := vo) (w := wI t vo 0) ok hb
    have mem : ∀ f, f ∈ ord t → f < 8 ∧ 0 ≤ co t f ∧ rd0 t 0 f 3 = 1 := fun f hf => by
      have m := ord_mem hf
      exact ⟨m.1, m.2, ((rd0_v (deep := 0) m.1).1 m.2).2.2.2⟩
    have row : ∀ (b2 : Int → Int) (g c : Nat), g < 8 → rdC t b2 vo (needF t f) 0 size g c = flds t b2 vo 0 0 size (fun b s => some (rdB t b2 vo (wI t vo 0) b s)) (needF t f) (ord t) (rd0 t 0) g c := fun b2 g c hg => by
      unfold rdC lvl
      split
      · exact msts_row hg c _ _ _
      · rfl
    have F := flds_ni (W := needF t f) ok v0 (Or.inl rfl) iP hS (inni_0 (w := wI t vo 0) ok hb hS) (ord t) (rd0 t 0) (rd0 t 0) ord_nodup mem okr_0 okn_0 (by rw [rd0_8.1]; omega) (fun _ _ => rl8_refl) (fun g hg qg x qx e => by
      have m := ord_mem hg
      rw [← row β g 4 m.1] at qx
      have : (lkS (rdC t β vo (needF t f) 0 size) (needF t f)).testBit p = true := (orN_bit 8).mpr ⟨g, m.1, by rw [if_pos qg, ← e]; exact qx⟩
      rw [hl] at this
      cases this) f hf
    unfold rv
    rw [row β f 0 hf, row β f 3 hf, row (up1 β p b) f 0 hf, row (up1 β p b) f 3 hf]
    exact ⟨F.1, F.2.2.2.2.1⟩
  have toX : ∀ b2 : Int → Int, (∀ j : Int, 0 ≤ j → j < 40 → 0 ≤ b2 j ∧ b2 j ≤ 255) → rv (rdC t b2 vo (needF t f) 0 size) (rdX t b2 size) f := fun b2 h2 => by
    cases vo with
    | true => exact rdC_va ok h2 hs hf
    | false =>
      unfold rv
      rw [rdC_need ok hf, rdC_need ok hf]
      exact ⟨rfl, Iff.rfl⟩
  have x1 := toX β hb
  have x2 := toX _ hb2
  have e0 : rdX t (up1 β p b) size f 0 = rdX t β size f 0 := by rw [← x2.1, ← x1.1]; exact key.1.symm
  have e3 : rdX t (up1 β p b) size f 3 = 1 ↔ rdX t β size f 3 = 1 := by
    rw [← x2.2, ← x1.2]
    exact key.2.symm
  unfold hvb
  rw [e0]
  congr 2
  exact decide_eq_decide.mpr e3
end VA
