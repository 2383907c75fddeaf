section NI2
variable {t : List Cl} {β β2 : Int → Int} {vo : Bool} {deep base size : Int} {ρ ρ2 : Rd} {S : Nat → Prop}
theorem stepV_look {inn : Int → Int → Option Rd} {f L : Nat} {a z o : Int} : sub8 L (stepV t β vo base size inn ρ f a z o L f 4).toNat := by
  have p : sub8 L (putR ρ f 4 (L : Int) f 4).toNat := by rw [putR_at, Int.toNat_natCast]; exact fun _ q => q
  have s : ∀ (v a z w : Int) (m : Nat), sub8 L (setR ρ f v a z w (L ||| m) f 4).toNat := fun v a z w m => by rw [setR_at.2.2.2.2, Int.toNat_natCast]; exact fun _ q => bit_or_l q
  unfold stepV
  repeat' split
  all_goals first | exact p | exact s _ _ _ _ _ | (cases inn (base + a) (z - a) with
    | none => exact p
    | some ι => (dsimp only; rw [putR_ne (by omega)]; exact s _ _ _ _ _))
theorem insd_sub {a b : Nat} (h : insd S b) (s : sub8 a b) : insd S a := fun x q => h x (s x q)
theorem stepF_ni {inn inn2 : Int → Int → Option Rd} {f : Nat} (ok : okx t) (v : ivl β base size) (hd : 0 ≤ deep ∧ deep ≤ 2) (o : okr t ρ) (hS : agr S β β2) (hi : inni S vo inn inn2) (h : ∀ g, g < 8 → rl8 vo ρ ρ2 g) (hf : f < 8) (hc : 0 ≤ co t f) (hl : insd S (stepF t β vo deep base size inn ρ f f 4).toNat) : ∀ g, g < 8 → rl8 vo (stepF t β vo deep base size inn ρ f) (stepF t β2 vo deep base size inn2 ρ2 f) g := by
  intro g hg
  have eb := bkn_rl (s := hgu t f) h
  have en := nmR_rl (deep := deep) (size := size) h
  have w := fcl_ws ok hc
  have he := ivl_eok v hd o
  unfold stepF at hl ⊢
  rw [← eb]
  by_cases q : bkn ρ (hgu t f) = true
  · rw [if_pos q, if_pos q]; exact h g hg
  · rw [if_neg q] at hl ⊢
    rw [if_neg q]
    have hL := insd_sub hl stepV_look
    have hL2 := hL
    unfold fL at hL2
    have h0 := insd_or hL2
    have h1 := insd_or h0.1
    have a := ev_ni he hS _ _ w.1 h1.1
    have z := ev_ni he hS _ _ w.2.1 h0.2
    have ea : fa t β deep base size ρ f = fa t β2 deep base size ρ2 f := by unfold fa; rw [← en]; exact a.1
    have ez : fz t β deep base size ρ f = fz t β2 deep base size ρ2 f := by unfold fz; rw [← en]; exact z.1
    have eo : fo t β deep base size ρ f = fo t β2 deep base size ρ2 f := by
      unfold fo
      by_cases k : kdf t f = 1
      · rw [if_pos k, if_pos k, ← en]
        rw [if_pos k] at h1
        exact (ev_ni he hS _ _ w.2.2.1 h1.2).1
      · rw [if_neg k, if_neg k]; exact ea
    have eL : fL t β deep base size ρ f = fL t β2 deep base size ρ2 f := by
      unfold fL
      rw [← en, ← a.2, ← z.2]
      by_cases k : kdf t f = 1
      · rw [if_pos k] at h1
        rw [if_pos k, if_pos k, ← (ev_ni he hS _ _ w.2.2.1 h1.2).2]
      · rw [if_neg k, if_neg k]
    rw [← ea, ← ez, ← eo, ← eL]
    exact stepV_ni v.2 hS hi h hf (fun k => by unfold fo; rw [if_neg k]) hl g hg
theorem flds_ni {inn inn2 : Int → Int → Option Rd} {W : Nat} (ok : okx t) (v : ivl β base size) (hd : deep = 0 ∨ deep = 1 ∨ deep = 2) (hin : inP t deep inn) (hS : agr S β β2) (hi : inni S vo inn inn2) : ∀ (l : List Nat) (ρ ρ2 : Rd), l.Nodup → (∀ f, f ∈ l → f < 8 ∧ 0 ≤ co t f ∧ ρ f 3 = 1) → okr t ρ → okn (bD deep) t ρ → (deep ≤ ρ 8 0 ∧ ρ 8 0 ≤ 2) → (∀ g, g < 8 → rl8 vo ρ ρ2 g) → (∀ f, f ∈ l → W.testBit f = true → insd S (flds t β vo deep base size inn W l ρ f 4).toNat) → ∀ g, g < 8 → rl8 vo (flds t β vo deep base size inn W l ρ) (flds t β2 vo deep base size inn2 W l ρ2) g
  | [], ρ, ρ2, _, _, _, _, _, h, _, g, hg => h g hg
  | f :: l, ρ, ρ2, nd, hl, o, n, d0, h, hb, g, hg => by
    have nd2 := List.nodup_cons.mp nd
    have hf := hl f List.mem_cons_self
    simp only [flds] at hb ⊢
    by_cases w : W.testBit f = true
    · rw [if_pos w] at hb ⊢
      rw [if_pos w]
      obtain ⟨s1, s2, s3, s4, s5, s6⟩ := stepF_ok (vo := vo) ok v hd hin o n hf.1 hf.2.2 hf.2.1 d0
      have hlf := hb f List.mem_cons_self w
      rw [flds_out hf.1 4 l _ nd2.1] at hlf
      exact flds_ni ok v hd hin hS hi l _ _ nd2.2 (fun x hx => by
        have q := hl x (List.mem_cons_of_mem _ hx)
        exact ⟨q.1, q.2.1, by rw [s4 x q.1 (fun e => nd2.1 (e ▸ hx))]; exact q.2.2⟩) s1 s2 s3 (stepF_ni ok v (by omega) o hS hi h hf.1 hf.2.1 hlf) (fun x hx qx => hb x (List.mem_cons_of_mem _ hx) qx) g hg
    · rw [if_neg w] at hb ⊢
      rw [if_neg w]
      exact flds_ni ok v hd hin hS hi l _ _ nd2.2 (fun x hx => hl x (List.mem_cons_of_mem _ hx)) o n d0 h (fun x hx qx => hb x (List.mem_cons_of_mem _ hx) qx) g hg
theorem mst1_84 {k : Int} {c : Cl} : (mst1 β deep base size ρ k c 8 4) = (if bkn ρ (ncl c) = true then ρ 8 4 else (((ρ 8 4).toNat ||| lk (nmR ρ deep size) β base c.2.2.2.1 : Nat) : Int)) := by
  unfold mst1
  by_cases b : bkn ρ (ncl c) = true
  · simp only [b, if_true]
    split
    · exact putR_ne (by omega)
    · rfl
  · simp only [b]
    split
    · rw [putR_ne (by omega)]
      simp [putR]
    · simp [putR]
theorem mst1_81 {k : Int} {c : Cl} : (mst1 β deep base size ρ k c 8 1) = (if (bkn ρ (ncl c) = true ∨ ev (nmR ρ deep size) β base c.2.2.2.1 = 0) ∧ ρ 8 1 = -1 then k else ρ 8 1) := by
  unfold mst1
  try dsimp only
  by_cases q : (bkn ρ (ncl c) = true ∨ ev (nmR ρ deep size) β base c.2.2.2.1 = 0) ∧ ρ 8 1 = -1
  · rw [if_pos q, if_pos q]
    exact putR_at
  · rw [if_neg q, if_neg q]
    split
    · rfl
    · exact putR_ne (by omega)
theorem msts_mono : ∀ (l : List Cl) (k : Int) (ρ : Rd), sub8 (ρ 8 4).toNat (msts β deep base size l k ρ 8 4).toNat
  | [], _, _ => fun _ q => q
  | c :: l, k, ρ => by
    simp only [msts]
    intro x q
    refine msts_mono l _ _ x ?_
    split
    · rw [mst1_84]
      split
      · exact q
      · rw [Int.toNat_natCast]; exact bit_or_l q
    · exact q
theorem msts_ni (v : ivl β base size) (hd : 0 ≤ deep ∧ deep ≤ 2) (hS : agr S β β2) {ρ0 : Rd} : ∀ (l : List Cl) (k : Nat) (ρ ρ2 : Rd), (∀ c, c ∈ l → c.1 = 3 → ws false c.2.2.2.1 true) → k + l.length ≤ 24 → okM t ρ0 ρ → (∀ g, g < 8 → rl8 vo ρ ρ2 g) → ρ 8 1 = ρ2 8 1 → ρ 8 4 = ρ2 8 4 → insd S (msts β deep base size l k ρ 8 4).toNat → (∀ g, g < 8 → rl8 vo (msts β deep base size l k ρ) (msts β2 deep base size l k ρ2) g) ∧ msts β deep base size l k ρ 8 1 = msts β2 deep base size l k ρ2 8 1 ∧ msts β deep base size l k ρ 8 4 = msts β2 deep base size l k ρ2 8 4
  | [], k, ρ, ρ2, _, _, _, h, h1, h4, _ => ⟨h, h1, h4⟩
  | c :: l, k, ρ, ρ2, hw, hk, om, h, h1, h4, hl => by
    have hk2 : k + (l.length + 1) ≤ 24 := by simpa using hk
    have oM := msts_ok (tx := t) (ρ := ρ0) v hd [c] k ρ (fun c2 h2 => hw c2 (by rw [List.mem_singleton] at h2; rw [h2]; exact List.mem_cons_self)) (by simp; omega) om
    simp only [msts] at hl ⊢ oM
    rw [show (k : Int) + 1 = ((k + 1 : Nat) : Int) by omega] at hl ⊢
    have eb := bkn_rl (s := ncl c) h
    have en := nmR_rl (deep := deep) (size := size) h
    have hm := insd_sub hl (msts_mono l _ _)
    by_cases q : c.1 = 3
    · rw [if_pos q] at hl hm ⊢ oM
      rw [if_pos q]
      rw [mst1_84] at hm
      have he := ivl_eok v hd om.1
      have both : (bkn ρ (ncl c) = true ∨ (ev (nmR ρ deep size) β base c.2.2.2.1 = ev (nmR ρ deep size) β2 base c.2.2.2.1 ∧ lk (nmR ρ deep size) β base c.2.2.2.1 = lk (nmR ρ deep size) β2 base c.2.2.2.1)) := by
        by_cases b : bkn ρ (ncl c) = true
        · exact Or.inl b
        · rw [if_neg b, Int.toNat_natCast] at hm
          exact Or.inr (ev_ni he hS _ _ (hw c List.mem_cons_self q) (insd_or hm).2)
      refine msts_ni v hd hS (ρ0 := ρ0) l (k + 1) _ _ (fun c2 h2 => hw c2 (List.mem_cons_of_mem _ h2)) (by omega) oM (fun g hg => ?_) ?_ ?_ hl
      · have r := h g hg
        unfold rl8 at r ⊢
        rw [mst1_row hg, mst1_row hg, mst1_row hg, mst1_row hg, mst1_row hg, mst1_row hg, mst1_row hg, mst1_row hg, mst1_row hg, mst1_row hg]
        exact r
      · rw [mst1_81, mst1_81, ← eb, ← en, ← h1]
        rcases both with b | b
        · simp [b]
        · rw [b.1]
      · rw [mst1_84, mst1_84, ← eb, ← en, ← h4]
        rcases both with b | b
        · rw [if_pos b, if_pos b]
        · rw [b.2]
    · rw [if_neg q] at hl ⊢ oM
      rw [if_neg q]
      exact msts_ni v hd hS (ρ0 := ρ0) l (k + 1) _ _ (fun c2 h2 => hw c2 (List.mem_cons_of_mem _ h2)) (by omega) oM h h1 h4 hl
theorem nlk_sub {R : Rd} {f : Nat} (hf : f < 8) : sub8 (R f 4).toNat (nlk R) := fun x q => bit_or_l (orN_bit 8 |>.mpr ⟨f, hf, q⟩)
theorem nlk_sub8 {R : Rd} : sub8 (R 8 4).toNat (nlk R) := fun x q => bit_or_r q
theorem lvl_ni {inn inn2 : Int → Int → Option Rd} {W : Nat} (ok : okx t) (v : ivl β base size) (hd : deep = 0 ∨ deep = 1 ∨ deep = 2) (hin : inP t deep inn) (hS : agr S β β2) (hi : inni S vo inn inn2) (hl : insd S (nlk (lvl t β vo deep inn W base size))) : (∀ g, g < 8 → rl8 vo (lvl t β vo deep inn W base size) (lvl t β2 vo deep inn2 W base size) g) ∧ lvl t β vo deep inn W base size 8 1 = lvl t β2 vo deep inn2 W base size 8 1 ∧ lvl t β vo deep inn W base size 8 4 = lvl t β2 vo deep inn2 W base size 8 4 := by
  have mem : ∀ f, f ∈ ord t → f < 8 ∧ 0 ≤ co t f ∧ rd0 t deep f 3 = 1 := fun f hf => by
    have m := ord_mem hf
    exact ⟨m.1, m.2, ((rd0_v (deep := deep) m.1).1 m.2).2.2.2⟩
  have fo1 := flds_ok (vo := vo) (wanted := W) ok v hd hin (ord t) (rd0 t deep) ord_nodup mem okr_0 okn_0 (by rw [rd0_8.1]; omega)
  have row : ∀ f, f < 8 → lvl t β vo deep inn W base size f 4 = flds t β vo deep base size inn W (ord t) (rd0 t deep) f 4 := fun f hf => by
    unfold lvl
    split
    · exact msts_row hf 4 _ _ _
    · rfl
  have hF := flds_ni (W := W) ok v hd hin hS hi (ord t) (rd0 t deep) (rd0 t deep) ord_nodup mem okr_0 okn_0 (by rw [rd0_8.1]; omega) (fun _ _ => rl8_refl) (fun f hf _ => by
    have m := ord_mem hf
    rw [← row f m.1]
    exact insd_sub hl (nlk_sub m.1))
  have e1 : flds t β vo deep base size inn W (ord t) (rd0 t deep) 8 1 = -1 ∧ flds t β vo deep base size inn W (ord t) (rd0 t deep) 8 4 = 0 := ⟨fo1.2.2.2.2.1.trans rd0_8.2.1, fo1.2.2.2.2.2.trans rd0_8.2.2⟩
  have r8 : ∀ (b : Int → Int) (i2 : Int → Int → Option Rd) (c : Nat), c = 1 ∨ c = 4 → ∀ (l : List Nat) (ρ : Rd), (∀ f, f ∈ l → f < 8) → flds t b vo deep base size i2 W l ρ 8 c = ρ 8 c := by
    intro b i2 c hc l
    induction l with
    | nil => intro ρ _; rfl
    | cons f l ih =>
      intro ρ hl2
      simp only [flds]
      rw [ih _ (fun x hx => hl2 x (List.mem_cons_of_mem _ hx))]
      have f8 := hl2 f List.mem_cons_self
      split
      · unfold stepF
        split
        · rfl
        · unfold stepV
          repeat' split
          all_goals first | exact putR_ne (by omega) | exact setR_ne (by omega) | (cases i2 (base + fa t b deep base size ρ f) (fz t b deep base size ρ f - fa t b deep base size ρ f) with
            | none => exact putR_ne (by omega)
            | some ι => (dsimp only; rw [putR_ne (by omega)]; exact setR_ne (by omega)))
      · rfl
  have e2 : flds t β2 vo deep base size inn2 W (ord t) (rd0 t deep) 8 1 = -1 ∧ flds t β2 vo deep base size inn2 W (ord t) (rd0 t deep) 8 4 = 0 := ⟨(r8 β2 inn2 1 (Or.inl rfl) _ _ (fun f hf => (ord_mem hf).1)).trans rd0_8.2.1, (r8 β2 inn2 4 (Or.inr rfl) _ _ (fun f hf => (ord_mem hf).1)).trans rd0_8.2.2⟩
  unfold lvl at hl ⊢
  by_cases w : W = 255
  · rw [if_pos w] at hl
    rw [if_pos w, if_pos w]
    have m := msts_ni (t := t) (ρ0 := flds t β vo deep base size inn W (ord t) (rd0 t deep)) v (by omega) hS t 0 _ _ (fun c hc q => (ok.2.1 c hc).2.2.1 q) (by have := ok.1; omega) (okM_refl fo1.1) hF (by rw [e1.1, e2.1]) (by rw [e1.2, e2.2]) (insd_sub hl nlk_sub8)
    exact m
  · rw [if_neg w, if_neg w]
    exact ⟨hF, by rw [e1.1, e2.1], by rw [e1.2, e2.2]⟩
end NI2
