section READ3
variable {d : Nat} {h : am_H} {Q : Int → am_H → Prop} {A T : Int} {tx : List Cl} {base size deep : Int} {ρ : Rd} {β : Int → Int} {vo : Bool}
theorem c_X6_spanI {a b : Int} (h0 : 0 ≤ a) (hab : a ≤ b) (hb : b ≤ 40) (k : Q ((spn a.toNat b.toNat : Nat) : Int) h) : cf d M_X6_span [.inl a, .inl b] h Q := by
  have z := c_X6_span (d := d) (h := h) (Q := Q) (a := a.toNat) (b := b.toNat) (by omega) (by omega) k
  rw [show ((a.toNat : Nat) : Int) = a by omega, show ((b.toNat : Nat) : Int) = b by omega] at z
  exact z
/-- bytes together, one counted as 0 -/
theorem sm_but {β : Int → Int} {b p : Int} : ∀ (n : Nat) (o : Int), sm (fun x => if x = p then 0 else β (b + x)) o n = sm β (b + o) n - (if o ≤ p ∧ p < o + n then β (b + p) else 0)
  | 0, o => by
    simp only [sm]
    rw [if_neg (by omega)]
    rfl
  | n + 1, o => by
    simp only [sm]
    rw [sm_but n (o + 1), show b + (o + 1) = b + o + 1 by omega]
    by_cases e : o = p
    · subst e
      rw [if_pos rfl, if_neg (by omega), if_pos (by omega)]
      omega
    · rw [if_neg e]
      by_cases c : o ≤ p ∧ p < o + ((n + 1 : Nat) : Int)
      · rw [if_pos c, if_pos (by omega)]
        omega
      · rw [if_neg c, if_neg (by omega)]
        omega
theorem sm_snoc {f : Int → Int} : ∀ (n : Nat) (p : Int), sm f p (n + 1) = sm f p n + f (p + n)
  | 0, p => by simp [sm]
  | n + 1, p => by
    have i := sm_snoc (f := f) n (p + 1)
    rw [show sm f p (n + 1 + 1) = f p + sm f (p + 1) (n + 1) from rfl, i, show sm f p (n + 1) = f p + sm f (p + 1) n from rfl, show p + 1 + (n : Int) = p + ((n + 1 : Nat) : Int) by omega]
    omega
theorem l_X2_readSummed {f : Nat} {a o z : Int} (hA : A = 220 ∨ A = 225 ∨ A = 230) (p : rpre h T tx β vo deep base size) (r : okr tx ρ) (c : crd h A tx base size deep ρ) (ho : 0 ≤ o ∧ o ≤ z ∧ z ≤ size) (k : wf (d + 1) M_X2_readSummed Q 7 [some (.inr (.inr 218)), some (.inr (.inr A)), some (.inl (f : Int)), some (.inl a), some (.inl o), some (.inl z), some (.inl (sm (fun x => if x = a then 0 else β (base + x)) o (z - o).toNat)), some (.inl z), none, none, none, none] [] h) :
    ∀ (n m : Nat), o + m + n = z → wf (d + 1) M_X2_readSummed Q 7 [some (.inr (.inr 218)), some (.inr (.inr A)), some (.inl (f : Int)), some (.inl a), some (.inl o), some (.inl z), some (.inl (sm (fun x => if x = a then 0 else β (base + x)) o m)), some (.inl (o + m)), none, none, none, none] [] h
  | 0, m, hm => by
    rw [show (z - o).toNat = m by omega] at k
    rw [show o + (m : Int) = z by omega]
    exact k
  | n + 1, m, hm => by
    have ih := l_X2_readSummed hA p r c ho k n (m + 1) (by omega)
    have eo := rpre_eok p r
    have ec := rpre_ce p c
    obtain ⟨_, _, _, p10, p11, p12, _⟩ := p
    have bd := sm_bd (f := fun x => if x = a then 0 else β (base + x)) (b := 255) m o (fun j j0 j1 => by
      split
      · omega
      · exact p10 _ (by omega) (by omega))
    have b1 : 0 ≤ β (base + (o + m)) ∧ β (base + (o + m)) ≤ 255 := p10 _ (by omega) (by omega)
    rw [sm_snoc] at ih
    refine B_X2_readSummed_7 ⟨fun q => by omega, fun q => ⟨fun q2 => ?_, fun q2 => ?_⟩⟩
    · refine c_X2_byteIn (kd_A hA) eo ec (by omega) (B_X2_readSummed_33 ?_)
      have e : pk (nmR ρ deep size) β base (o + m) = β (base + (o + m)) := by
        unfold pk
        rw [nmR_8, if_pos (by omega)]
      rw [if_neg q2] at ih
      rw [e, w32e (by omega) (by omega), w32e (by omega) (by omega), show o + (m : Int) + 1 = o + ((m + 1 : Nat) : Int) by omega]
      exact ih
    · rw [if_pos q2] at ih
      refine B_X2_readSummed_33 ?_
      rw [w32e (by omega) (by omega), w32e (z := o + (m : Int) + 1) (by omega) (by omega), show o + (m : Int) + 1 = o + ((m + 1 : Nat) : Int) by omega]
      exact ih
theorem c_X2_readSummed {f : Nat} {a o z : Int} (hA : A = 220 ∨ A = 225 ∨ A = 230) (p : rpre h T tx β vo deep base size) (r : okr tx ρ) (c : crd h A tx base size deep ρ) (hf : f < 8) (b3 : ρ f 3 = 1) (hc : 0 ≤ co tx f) (ho : 0 ≤ o ∧ o ≤ z ∧ z ≤ size) (ha : 0 ≤ a ∧ a < size)
    (k : ∀ h2, fR h h2 A → h2 218 8 = h 218 8 → crd h2 A tx base size deep (setR ρ f (sval β (base + a) (base + o) (base + z)) a (a + 1) (if β (base + a) = sval β (base + a) (base + o) (base + z) then 0 else 2) ((ρ f 4).toNat ||| slk vo (base + a) (base + o) (base + z))) → Q 0 h2) :
    cf (d + 2) M_X2_readSummed [.inr (.inr 218), .inr (.inr A), .inl (f : Int), .inl a, .inl o, .inl z] h Q := by
  refine cf_of pX2 (Nat.le_of_ble_eq_true rfl) rfl (fun _ => B_X2_readSummed_0 ?_)
  have go := l_X2_readSummed (d := d + 1) (Q := Q) (f := f) (a := a) hA p r c ho ?_ (z - o).toNat 0 (by omega)
  · rw [show o + ((0 : Nat) : Int) = o by omega] at go
    exact go
  have eo := rpre_eok p r
  have ec := rpre_ce p c
  have p9 := p.2.1
  obtain ⟨_, _, _, p10, p11, p12, _⟩ := p
  have bd := sm_bd (f := fun x => if x = a then 0 else β (base + x)) (b := 255) (z - o).toNat o (fun j j0 j1 => by
    split
    · omega
    · exact p10 _ (by omega) (by omega))
  have ev : sm (fun x => if x = a then 0 else β (base + x)) o (z - o).toNat % 256 = sval β (base + a) (base + o) (base + z) := by
    rw [sm_but, sval, show (base + z - (base + o)).toNat = (z - o).toNat by omega]
    congr 2
    by_cases q : o ≤ a ∧ a < o + ((z - o).toNat : Int)
    · rw [if_pos q, if_pos (by omega)]
    · rw [if_neg q, if_neg (by omega)]
  have vb : 0 ≤ sval β (base + a) (base + o) (base + z) ∧ sval β (base + a) (base + o) (base + z) ≤ 255 := by
    rw [← ev]; omega
  have l4 := (r.1 f hf).2.2.2.1
  refine B_X2_readSummed_7 ⟨fun _ => ?_, fun q => by omega⟩
  rw [Int.tmod_eq_emod_of_nonneg bd.1, ev, w32e (by omega) (by omega), w32e (by omega) (by omega)]
  refine c_X2_know hA hf c b3 (fun h2 f2 o2 c2 => ?_) l4.1
  have eb : h2 A 0 = base := c2.1.1
  refine c_X6_isField (fun _ _ => ⟨fun q => by omega, fun _ => ⟨kd_A hA, ?_⟩⟩) (fun q => by omega)
  rw [eb, w32e (z := base + a) (by omega) (by omega), w32e (z := base + a + 1) (by omega) (by omega)]
  have s1 : spn (base + a).toNat (base + a + 1).toNat < 2 ^ 40 := Nat.lt_of_lt_of_le (spn_lt (by omega)) (Nat.pow_le_pow_right (by decide) (by omega))
  have s2 : spn (base + o).toNat (base + z).toNat < 2 ^ 40 := Nat.lt_of_lt_of_le (spn_lt (by omega)) (Nat.pow_le_pow_right (by decide) (by omega))
  have fin : ∀ s3 : Nat, s3 < 2 ^ 40 → slk vo (base + a) (base + o) (base + z) = s3 → wf (d + 2) M_X2_readSummed Q 137 [some (.inr (.inr 218)), some (.inr (.inr A)), some (.inl (f : Int)), some (.inl a), none, none, none, some (.inl (sval β (base + a) (base + o) (base + z))), none, none, none, none] [.inr (.inl (s3 : Int)), .inr (.inl (h2 (A + 4) f)), .inl (f : Int), .inr (.inr (A + 4))] h2 := by
    intro s3 s3l es
    have kA := kX3_9 (kd_A hA)
    have e4 : h2 (A + 4) f = ((ρ f 4).toNat : Nat) := by
      have := (c2.2.2.2.1 f hf).2.2.2
      rw [this, setR_at.2.2.2.2]
    refine B_X2_readSummed_137 ⟨kA.1, by omega, by rw [kA.2]; omega, kd_A hA, ?_⟩
    rw [e4, lor_n (by omega) (by omega)]
    have c3 := crd_look (l := (ρ f 4).toNat ||| s3) hf c2
    rw [putset] at c3
    have ec3 : ce false (am_up h2 (A + 4) f (((ρ f 4).toNat ||| s3 : Nat) : Int)) A (nmR (setR ρ f (sval β (base + a) (base + o) (base + z)) a (a + 1) 0 ((ρ f 4).toNat ||| s3)) deep size) β base := by
      obtain ⟨z0, z1, z2, z3, z4, z5, z6, z7⟩ := ec
      have e7 : am_up h2 (A + 4) f (((ρ f 4).toNat ||| s3 : Nat) : Int) 218 = h 218 := by
        funext j
        rw [am_up_ne (by omega), o2 218 (by omega)]
      have n7 : ¬ (A ≤ h 218 7 ∧ h 218 7 ≤ A + 4) := by omega
      have eB : am_up h2 (A + 4) f (((ρ f 4).toNat ||| s3 : Nat) : Int) (h 218 7) = h (h 218 7) := by
        funext j
        rw [am_up_ne (by omega), o2 _ n7]
      refine ⟨c3.1.1, by rw [nmR_8]; exact c3.1.2.1, fun _ => ⟨fun k k0 => by rw [nmR_k k0]; exact (c3.2.2.2.1 k k0).1, by rw [nmR_9]; exact c3.1.2.2.1⟩, (fun q => by cases q), by rw [e7]; exact z4, by rw [e7]; exact z5, by rw [e7]; exact z6, fun j j0 j1 => ?_⟩
      rw [e7, eB]
      exact z7 j j0 j1
    have eo3 : eok false (nmR (setR ρ f (sval β (base + a) (base + o) (base + z)) a (a + 1) 0 ((ρ f 4).toNat ||| s3)) deep size) β base := by
      refine ⟨p11.1, by rw [nmR_8]; omega, p10, fun k ak => ?_⟩
      have o3 := okr_set (tx := tx) (ρ := ρ) (f := f) (v := sval β (base + a) (base + o) (base + z)) (a := a) (z := a + 1) (w := 0) (l := (ρ f 4).toNat ||| s3) (by omega) (Or.inl rfl) hc (Nat.or_lt_two_pow (by omega) s3l) hf r
      unfold al at ak
      simp at ak
      by_cases c : k < 8
      · rw [nmR_k c]
        have := (o3.1 k c).2.2.1
        omega
      · by_cases c8 : k = 8
        · subst c8
          rw [show ((8 : Nat) : Int) = 8 from rfl, nmR_8]; omega
        · have : k = 9 := by omega
          subst this
          rw [show ((9 : Nat) : Int) = 9 from rfl, nmR_9]; omega
    refine c_X2_byteIn (kd_A hA) eo3 ec3 (by omega) ?_
    have e : pk (nmR (setR ρ f (sval β (base + a) (base + o) (base + z)) a (a + 1) 0 ((ρ f 4).toNat ||| s3)) deep size) β base a = β (base + a) := by
      unfold pk
      rw [nmR_8, if_pos (by omega)]
    rw [e, ← am_up_ne (h := h2) (a := A + 4) (i := f) (v := (((ρ f 4).toNat ||| s3 : Nat) : Int)) (b := A) (j := 5) (by omega)]
    have p8 : 2 ^ f < 256 := Nat.pow_lt_pow_right (n := 8) (by decide) hf
    refine ⟨fun q => B_X2_readSummed_162 ⟨kd_A hA, ?_⟩, fun q => B_X2_readSummed_162 ⟨kd_A hA, ?_⟩⟩
    · rw [ishl1 (by omega)]
      have c4 := crd_wrong (w := 2) (s2 := ((2 ^ f : Nat) : Int)) hf c3 (Or.inr ⟨rfl, rfl⟩)
      refine k _ ?_ ?_ ?_
      · exact fR_trans f2 (fR_trans (fR_up (by omega)) (fR_up (by omega)) (Int.le_refl _)) (Int.le_refl _)
      · rw [am_up_ne (by omega), am_up_ne (by omega), o2 218 (by omega)]
      · rw [if_neg q, es]; exact c4
    · have c4 := crd_wrong (w := 0) (s2 := 0) hf c3 (Or.inl ⟨rfl, rfl⟩)
      refine k _ ?_ ?_ ?_
      · exact fR_trans f2 (fR_trans (fR_up (by omega)) (fR_up (by omega)) (Int.le_refl _)) (Int.le_refl _)
      · rw [am_up_ne (by omega), am_up_ne (by omega), o2 218 (by omega)]
      · rw [if_pos q, es]; exact c4
  have e9 : h2 218 9 = h 218 9 := f2.2 9 (by omega) (by omega)
  have bl := bset_lt (p := fun i => (spn (base + o).toNat (base + z).toNat).testBit i && !(spn (base + a).toNat (base + a + 1).toNat).testBit i) 40
  refine c_X6_spanI (by omega) (by omega) (by omega) ?_
  rw [eb, w32e (z := base + o) (by omega) (by omega), w32e (z := base + z) (by omega) (by omega)]
  refine c_X6_spanI (by omega) (by omega) (by omega) ⟨by omega, by omega, fun q => ?_, fun q => ?_⟩
  · rw [e9, p9] at q
    have vf : ¬ vo = true := fun z => by rw [if_pos z] at q; omega
    rw [landn_n (by omega), landn_span s2, lor_n (by omega) (by omega)]
    refine fin _ (Nat.or_lt_two_pow bl s1) ?_
    unfold slk
    rw [if_neg vf]
  · rw [e9, p9] at q
    have vt : vo = true := by
      cases vo
      · simp at q
      · rfl
    rw [landn_n (by omega), landn_span s2]
    refine fin _ bl ?_
    unfold slk
    rw [if_pos vt, Nat.or_zero]
end READ3
