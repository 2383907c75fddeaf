section NI3
variable {t : List Cl} {β β2 : Int → Int} {vo : Bool} {deep base size : Int} {ρ ρ2 : Rd}
/-- places of an interval -/
def inI (b s : Int) (x : Nat) : Prop := b ≤ (x : Int) ∧ (x : Int) < b + s
theorem insd_0 {S : Nat → Prop} : insd S 0 := fun x q => by rw [Nat.zero_testBit] at q; cases q
theorem lk_in {l : Bool} {η : Int → Int} {b : Int} (he : eok l η β b) : ∀ e s, ws l e s → insd (inI b (η 8)) (lk η β b e) := by
  have one : ∀ (t v : Int), insd (inI b (η 8)) (pl1 η b t v) := by
    intro t v
    unfold pl1
    split
    · rename_i c
      intro x q
      rw [pow_bit] at q
      have : (b + v).toNat = x := by simpa using q
      have e0 := he.1
      unfold inI
      omega
    · exact insd_0
  refine ex_ind (fun v h0 h1 => insd_0) (fun k q => insd_0) (fun t a ht wa ih => ?_) (fun a wa ih => ?_) (fun t a c _ _ wa wc i1 i2 => ?_) (fun t a c _ _ wa wc i1 i2 => ?_) (fun t a c _ wa wc i1 i2 => ?_) (fun g a e wg wa we i1 i2 i3 => ?_)
  · simp only [lk]; exact insd_mk ih (one _ _)
  · simp only [lk]; exact insd_mk ih (one _ _)
  · simp only [lk]; exact insd_mk i1 i2
  · simp only [lk]; exact insd_mk i1 i2
  · simp only [lk]; exact insd_mk i1 i2
  · simp only [lk]
    refine insd_mk i1 ?_
    split
    · exact i3
    · exact i2
theorem spn_in {a z : Int} (h0 : 0 ≤ base) (ha : 0 ≤ a) (az : a ≤ z) (zs : z ≤ size) : insd (inI base size) (spn (base + a).toNat (base + z).toNat) := by
  intro x q
  rw [spn_bit (by omega)] at q
  have := of_decide_eq_true q
  unfold inI
  omega
/-- what is nested looks at its interval alone -/
def innI (inn : Int → Int → Option Rd) : Prop := ∀ (b s : Int) (ι : Rd), 0 ≤ b → 0 ≤ s → b + s ≤ 40 → inn b s = some ι → insd (inI b s) (nlk ι)
theorem stepF_in {inn : Int → Int → Option Rd} {f : Nat} (ok : okx t) (v : ivl β base size) (hd : 0 ≤ deep ∧ deep ≤ 2) (o : okr t ρ) (hi : innI inn) (hc : 0 ≤ co t f) (h : ∀ g, g < 8 → insd (inI base size) (ρ g 4).toNat) : ∀ g, g < 8 → insd (inI base size) (stepF t β vo deep base size inn ρ f g 4).toNat := by
  intro g hg
  have w := fcl_ws ok hc
  have he := ivl_eok v hd o
  have v2 := v.2
  have hL : insd (inI base size) (fL t β deep base size ρ f) := by
    have e8 : nmR ρ deep size 8 = size := nmR_8
    have a := lk_in he _ _ w.1
    have z := lk_in he _ _ w.2.1
    have o3 := lk_in he _ _ w.2.2.1
    rw [e8] at a z o3
    unfold fL
    refine insd_mk (insd_mk a ?_) z
    split
    · exact o3
    · exact insd_0
  by_cases e : g = f
  · subst e
    have p : insd (inI base size) (putR ρ g 4 ((fL t β deep base size ρ g : Nat) : Int) g 4).toNat := by rw [putR_at, Int.toNat_natCast]; exact hL
    have s : ∀ (v a z w : Int) (m : Nat), insd (inI base size) m → insd (inI base size) (setR ρ g v a z w (fL t β deep base size ρ g ||| m) g 4).toNat := fun v a z w m hm => by rw [setR_at.2.2.2.2, Int.toNat_natCast]; exact insd_mk hL hm
    have ho : ¬ kdf t g = 1 → fo t β deep base size ρ g = fa t β deep base size ρ g := fun q => by unfold fo; rw [if_neg q]
    unfold stepF
    split
    · exact h g hg
    · unfold stepV
      split
      · rename_i w
        split
        · rename_i k0
          have := ho (by omega)
          split
          · exact s _ _ _ _ _ (spn_in v2.1 (by omega) (by omega) (by omega))
          · exact p
        · split
          · split
            · refine s _ _ _ _ _ ?_
              unfold slk
              refine insd_mk (fun x q => ?_) ?_
              · rw [bset_bit, Bool.and_eq_true, Bool.and_eq_true] at q
                exact spn_in (size := size) v2.1 w.1 w.2.1 w.2.2.1 x q.2.1
              · split
                · exact insd_0
                · rw [Int.add_assoc]
                  exact spn_in v2.1 (by omega) (by omega) (by omega)
            · exact p
          · rename_i k1
            have := ho k1
            split
            · rename_i q
              cases e : inn (base + fa t β deep base size ρ g) (fz t β deep base size ρ g - fa t β deep base size ρ g) with
              | none => exact p
              | some ι =>
                dsimp only
                rw [putR_ne (by omega)]
                refine s _ _ _ _ _ (fun x qx => ?_)
                have := hi _ _ ι (by omega) (by omega) (by omega) e x qx
                unfold inI at this ⊢
                omega
            · exact p
      · exact p
  · rw [stepF_other hg e]; exact h g hg
theorem flds_in {inn : Int → Int → Option Rd} {W : Nat} (ok : okx t) (v : ivl β base size) (hd : deep = 0 ∨ deep = 1 ∨ deep = 2) (hin : inP t deep inn) (hi : innI inn) : ∀ (l : List Nat) (ρ : Rd), l.Nodup → (∀ f, f ∈ l → f < 8 ∧ 0 ≤ co t f ∧ ρ f 3 = 1) → okr t ρ → okn (bD deep) t ρ → (deep ≤ ρ 8 0 ∧ ρ 8 0 ≤ 2) → (∀ g, g < 8 → insd (inI base size) (ρ g 4).toNat) → ∀ g, g < 8 → insd (inI base size) (flds t β vo deep base size inn W l ρ g 4).toNat
  | [], ρ, _, _, _, _, _, h, g, hg => h g hg
  | f :: l, ρ, nd, hl, o, n, d0, h, g, hg => by
    have nd2 := List.nodup_cons.mp nd
    have hf := hl f List.mem_cons_self
    simp only [flds]
    by_cases w : W.testBit f = true
    · rw [if_pos w]
      obtain ⟨s1, s2, s3, s4, s5, s6⟩ := stepF_ok (vo := vo) ok v hd hin o n hf.1 hf.2.2 hf.2.1 d0
      exact flds_in ok v hd hin hi l _ nd2.2 (fun x hx => by
        have q := hl x (List.mem_cons_of_mem _ hx)
        exact ⟨q.1, q.2.1, by rw [s4 x q.1 (fun e => nd2.1 (e ▸ hx))]; exact q.2.2⟩) s1 s2 s3 (stepF_in ok v (by omega) o hi hf.2.1 h) g hg
    · rw [if_neg w]
      exact flds_in ok v hd hin hi l ρ nd2.2 (fun x hx => hl x (List.mem_cons_of_mem _ hx)) o n d0 h g hg
theorem msts_in (v : ivl β base size) (hd : 0 ≤ deep ∧ deep ≤ 2) {ρ0 : Rd} : ∀ (l : List Cl) (k : Nat) (ρ : Rd), (∀ c, c ∈ l → c.1 = 3 → ws false c.2.2.2.1 true) → k + l.length ≤ 24 → okM t ρ0 ρ → insd (inI base size) (ρ 8 4).toNat → insd (inI base size) (msts β deep base size l k ρ 8 4).toNat
  | [], k, ρ, _, _, _, h => h
  | c :: l, k, ρ, hw, hk, om, h => by
    have hk2 : k + (l.length + 1) ≤ 24 := by simpa using hk
    have oM := msts_ok (tx := t) (ρ := ρ0) v hd [c] k ρ (fun c2 h2 => hw c2 (by rw [List.mem_singleton] at h2; rw [h2]; exact List.mem_cons_self)) (by simp; omega) om
    simp only [msts] at oM ⊢
    rw [show (k : Int) + 1 = ((k + 1 : Nat) : Int) by omega]
    refine msts_in v hd (ρ0 := ρ0) l (k + 1) _ (fun c2 h2 => hw c2 (List.mem_cons_of_mem _ h2)) (by omega) oM ?_
    by_cases q : c.1 = 3
    · rw [if_pos q, mst1_84]
      split
      · exact h
      · rw [Int.toNat_natCast]
        have z := lk_in (ivl_eok v hd om.1) _ _ (hw c List.mem_cons_self q)
        have e8 : nmR ρ deep size 8 = size := nmR_8
        rw [e8] at z
        exact insd_mk h z
    · rw [if_neg q]; exact h
theorem orN_in {S : Nat → Prop} {g : Nat → Nat} : ∀ n, (∀ i, i < n → insd S (g i)) → insd S (orN g n)
  | 0, _ => insd_0
  | n + 1, h => insd_mk (orN_in n (fun i hi => h i (by omega))) (h n (by omega))
theorem rd0_4 {g : Nat} (hg : g < 8) : rd0 t deep g 4 = 0 := (rd0_v hg).2.2
theorem lvl_in {inn : Int → Int → Option Rd} {W : Nat} (ok : okx t) (v : ivl β base size) (hd : deep = 0 ∨ deep = 1 ∨ deep = 2) (hin : inP t deep inn) (hi : innI inn) : insd (inI base size) (nlk (lvl t β vo deep inn W base size)) := by
  have mem : ∀ f, f ∈ ord t → f < 8 ∧ 0 ≤ co t f ∧ rd0 t deep f 3 = 1 := fun f hf => by
    have m := ord_mem hf
    exact ⟨m.1, m.2, ((rd0_v (deep := deep) m.1).1 m.2).2.2.2⟩
  have fo1 := flds_ok (vo := vo) (wanted := W) ok v hd hin (ord t) (rd0 t deep) ord_nodup mem okr_0 okn_0 (by rw [rd0_8.1]; omega)
  have F := flds_in (vo := vo) (W := W) ok v hd hin hi (ord t) (rd0 t deep) ord_nodup mem okr_0 okn_0 (by rw [rd0_8.1]; omega) (fun g hg => by rw [rd0_4 hg]; exact insd_0)
  have e4 : flds t β vo deep base size inn W (ord t) (rd0 t deep) 8 4 = 0 := fo1.2.2.2.2.2.trans rd0_8.2.2
  unfold nlk lvl
  by_cases w : W = 255
  · rw [if_pos w]
    refine insd_mk (orN_in 8 (fun g hg => by rw [msts_row hg]; exact F g hg)) ?_
    exact msts_in (t := t) (ρ0 := flds t β vo deep base size inn W (ord t) (rd0 t deep)) v (by omega) t 0 _ (fun c hc q => (ok.2.1 c hc).2.2.1 q) (by have := ok.1; omega) (okM_refl fo1.1) (by rw [e4]; exact insd_0)
  · rw [if_neg w]
    exact insd_mk (orN_in 8 (fun g hg => F g hg)) (by rw [e4]; exact insd_0)
/-! the three levels -/
theorem innI_2 : innI (fun _ _ => none) := fun _ _ _ _ _ _ q => by cases q
theorem innI_1 {w : Nat} (ok : okx t) (hb : ∀ j : Int, 0 ≤ j → j < 40 → 0 ≤ β j ∧ β j ≤ 255) : innI (fun b s => some (rdA t β vo w b s)) := fun b s ι b0 s0 bs q => by
  cases q
  exact lvl_in ok ⟨hb, b0, s0, bs⟩ (Or.inr (Or.inr rfl)) (inP_2 (tx := t)) innI_2
theorem innI_0 {w : Nat} (ok : okx t) (hb : ∀ j : Int, 0 ≤ j → j < 40 → 0 ≤ β j ∧ β j ≤ 255) : innI (fun b s => some (rdB t β vo w b s)) := fun b s ι b0 s0 bs q => by
  cases q
  exact lvl_in ok ⟨hb, b0, s0, bs⟩ (Or.inr (Or.inl rfl)) (inP_1 (vo := vo) ok hb) (innI_1 ok hb)
theorem inni_2 {S : Nat → Prop} : inni S vo (fun _ _ => none) (fun _ _ => none) := fun _ _ _ _ _ => Or.inl ⟨rfl, rfl⟩
theorem inni_1 {S : Nat → Prop} {w : Nat} (ok : okx t) (hb : ∀ j : Int, 0 ≤ j → j < 40 → 0 ≤ β j ∧ β j ≤ 255) (hS : agr S β β2) : inni S vo (fun b s => some (rdA t β vo w b s)) (fun b s => some (rdA t β2 vo w b s)) := fun b s b0 s0 bs =>
  Or.inr ⟨_, _, rfl, rfl, fun hl => lvl_ni ok ⟨hb, b0, s0, bs⟩ (Or.inr (Or.inr rfl)) (inP_2 (tx := t)) hS inni_2 hl⟩
theorem inni_0 {S : Nat → Prop} {w : Nat} (ok : okx t) (hb : ∀ j : Int, 0 ≤ j → j < 40 → 0 ≤ β j ∧ β j ≤ 255) (hS : agr S β β2) : inni S vo (fun b s => some (rdB t β vo w b s)) (fun b s => some (rdB t β2 vo w b s)) := fun b s b0 s0 bs =>
  Or.inr ⟨_, _, rfl, rfl, fun hl => lvl_ni ok ⟨hb, b0, s0, bs⟩ (Or.inr (Or.inl rfl)) (inP_1 (vo := vo) ok hb) hS (inni_1 ok hb hS) hl⟩
/-- bytes beyond the interval change nothing -/
theorem rdX_size (ok : okx t) (hb : ∀ j : Int, 0 ≤ j → j < 40 → 0 ≤ β j ∧ β j ≤ 255) (hs : 0 ≤ size ∧ size ≤ 40) (e : ∀ j : Int, 0 ≤ j → j < size → β j = β2 j) : sndR (rdX t β size) = sndR (rdX t β2 size) := by
  have hS : agr (inI 0 size) β β2 := fun x q => e x (by unfold inI at q; omega) (by unfold inI at q; omega)
  have v : ivl β 0 size := ⟨hb, by omega⟩
  have iP := inP_0 (vo := false) (w := wI t false 0) ok hb
  have hl := lvl_in (vo := false) (W := 255) ok v (Or.inl rfl) iP (innI_0 (w := wI t false 0) ok hb)
  have z := lvl_ni (W := 255) ok v (Or.inl rfl) iP hS (inni_0 (w := wI t false 0) ok hb hS) hl
  exact snd_rl z.1 z.2.1
end NI3
