/-! LEVEL 3, the class reads by a FORMAT: what a Text holds, what a Reading holds -/
def cod (κ : Int → Int) (p : Int) (e : Ex) : Prop := cat κ p e ∧ κ (p + lx e) = 24 ∧ 0 ≤ p ∧ p + lx e < 300
/-- a CLAUSE as it can be -/
def okc (c : Cl) : Prop := (0 ≤ c.1 ∧ c.1 ≤ 8) ∧ (c.1 ≤ 2 → (0 ≤ c.2.1 ∧ c.2.1 ≤ 7) ∧ ws false c.2.2.2.1 false ∧ ws false c.2.2.2.2.1 false ∧ ws false c.2.2.2.2.2 false) ∧ (c.1 = 3 → ws false c.2.2.2.1 true) ∧ (c.1 = 4 → ws true c.2.2.2.1 false) ∧ (sx c.2.2.2.1 ≤ 64 ∧ sx c.2.2.2.2.1 ≤ 64 ∧ sx c.2.2.2.2.2 ≤ 64) ∧ (¬ c.1 = 1 → c.2.2.2.2.2 = xN 0) ∧ (3 ≤ c.1 → c.2.2.2.2.1 = xN 0) ∧ (c.1 = 5 → (0 ≤ c.2.1 ∧ c.2.1 ≤ 39) ∧ 0 ≤ c.2.2.1 ∧ c.2.2.1 ≤ 255) ∧ (c.1 = 6 → 0 ≤ c.2.1 ∧ c.2.1 ≤ 40) ∧ (c.1 = 8 → 1 ≤ c.2.1 ∧ c.2.1 ≤ 60)
/-- a TEXT as it can be: 24 CLAUSES at most, each FIELD once, rots once -/
def okx (tx : List Cl) : Prop := tx.length ≤ 24 ∧ (∀ c ∈ tx, okc c) ∧ (∀ i j : Nat, i < tx.length → j < tx.length → (cl tx i).1 ≤ 2 → (cl tx j).1 ≤ 2 → (cl tx i).2.1 = (cl tx j).2.1 → i = j) ∧ ∀ i j : Nat, i < tx.length → j < tx.length → (cl tx i).1 = 4 → (cl tx j).1 = 4 → i = j
/-- the Text at T holds it -/
def ctx (h : am_H) (T : Int) (tx : List Cl) : Prop :=
  (h T 0 = tx.length ∧ h T 6 = (told tx : Nat) ∧ h T 14 = (ord tx).length ∧ h T 15 = ((bset (fun f => (told tx).testBit f && !(ord tx).contains f) 8 : Nat) : Int) ∧ h T 17 = (if ∃ f : Nat, f < 8 ∧ kdf tx f = 1 then 1 else 0) ∧ h T 18 = ((needK tx 1 : Nat) : Int) ∧ h T 19 = ((needK tx 2 : Nat) : Int)) ∧
  (∀ k : Int, 0 ≤ k → k < tx.length → h (T + 1) k = (cl tx k).1 ∧ ((cl tx k).1 = 3 → cod (h (T + 4)) (h (T + 2) k) (cl tx k).2.2.2.1 ∧ h (T + 3) k = (ncl (cl tx k) : Nat)) ∧ (5 ≤ (cl tx k).1 → h (T + 2) k = (cl tx k).2.1) ∧ ((cl tx k).1 = 5 → h (T + 3) k = (cl tx k).2.2.1) ∧ ((cl tx k).1 = 4 → cod (h (T + 4)) (h T 5) (cl tx k).2.2.2.1)) ∧
  ((∀ k : Int, 0 ≤ k → k < tx.length → ¬ (cl tx k).1 = 4) → h T 5 = -1) ∧
  (∀ f : Nat, f < 8 → h (T + 5) f = kdf tx f ∧ h (T + 9) f = (hgu tx f : Nat) ∧ h (T + 12) f = (needF tx f : Nat) ∧ (0 ≤ co tx f → h (T + 10) f = (if (px (fcl tx f).2.2.2.1 || px (fcl tx f).2.2.2.2.1 || px (fcl tx f).2.2.2.2.2) = true then 1 else 0) ∧ cod (h (T + 4)) (h (T + 6) f) (fcl tx f).2.2.2.1 ∧ cod (h (T + 4)) (h (T + 8) f) (fcl tx f).2.2.2.2.1 ∧ (kdf tx f = 1 → cod (h (T + 4)) (h (T + 7) f) (fcl tx f).2.2.2.2.2))) ∧
  ∀ i : Nat, i < (ord tx).length → h (T + 11) i = ((ord tx).getD i 0 : Nat)
theorem ctx_congr {h h2 : am_H} {T : Int} {tx : List Cl} (c : ctx h T tx) (e : ∀ b : Int, T ≤ b → b ≤ T + 12 → h2 b = h b) : ctx h2 T tx := by
  unfold ctx at c ⊢
  rw [e T (by omega) (by omega), e (T + 1) (by omega) (by omega), e (T + 2) (by omega) (by omega), e (T + 3) (by omega) (by omega), e (T + 4) (by omega) (by omega), e (T + 5) (by omega) (by omega), e (T + 6) (by omega) (by omega), e (T + 7) (by omega) (by omega), e (T + 8) (by omega) (by omega), e (T + 9) (by omega) (by omega), e (T + 10) (by omega) (by omega), e (T + 11) (by omega) (by omega), e (T + 12) (by omega) (by omega)]
  exact c
/-- by which CLAUSE -/
theorem coA_spec : ∀ (r : List Cl) (k : Int) (γ : Int → Int) (f : Int), coA r k γ f = γ f ∨ ∃ i : Nat, i < r.length ∧ coA r k γ f = k + i ∧ (r.getD i cl0).1 ≤ 2 ∧ (r.getD i cl0).2.1 = f
  | [], k, γ, f => Or.inl rfl
  | c :: r, k, γ, f => by
    simp only [coA]
    rcases coA_spec r (k + 1) (if c.1 ≤ 2 then up1 γ c.2.1 k else γ) f with q | ⟨i, i0, q, q2, q3⟩
    · rw [q]
      by_cases c1 : c.1 ≤ 2
      · rw [if_pos c1]
        by_cases c2 : f = c.2.1
        · refine Or.inr ⟨0, by simp, ?_, c1, c2.symm⟩
          rw [c2, up1_at]
          simp
        · rw [up1_ne c2]; exact Or.inl rfl
      · rw [if_neg c1]; exact Or.inl rfl
    · refine Or.inr ⟨i + 1, by simp; omega, ?_, ?_, ?_⟩
      · rw [q]; omega
      · rw [List.getD_cons_succ]; exact q2
      · rw [List.getD_cons_succ]; exact q3
theorem co_spec {tx : List Cl} {f : Int} (h : 0 ≤ co tx f) : ∃ i : Nat, i < tx.length ∧ co tx f = i ∧ (cl tx i).1 ≤ 2 ∧ (cl tx i).2.1 = f := by
  unfold co at h ⊢
  rcases coA_spec tx 0 (fun _ => -1) f with q | ⟨i, i0, q, q2, q3⟩
  · rw [q] at h; omega
  · exact ⟨i, i0, by rw [q]; omega, q2, q3⟩
theorem cl_mem {tx : List Cl} {i : Nat} (h : i < tx.length) : cl tx i ∈ tx := by
  unfold cl
  rw [show ((i : Int)).toNat = i by omega, List.getD_eq_getElem?_getD, List.getElem?_eq_getElem h]
  exact List.getElem_mem h
theorem fcl_ok {tx : List Cl} {f : Nat} (ok : okx tx) (h : 0 ≤ co tx f) : okc (fcl tx f) ∧ (fcl tx f).1 ≤ 2 ∧ kdf tx f = (fcl tx f).1 := by
  obtain ⟨i, i0, q, q2, q3⟩ := co_spec h
  unfold fcl kdf
  rw [if_neg (by omega)]
  unfold fcl
  rw [q]
  exact ⟨ok.2.1 _ (cl_mem i0), q2, rfl⟩
theorem fcl_ws {tx : List Cl} {f : Nat} (ok : okx tx) (h : 0 ≤ co tx f) : ws false (fcl tx f).2.2.2.1 false ∧ ws false (fcl tx f).2.2.2.2.1 false ∧ ws false (fcl tx f).2.2.2.2.2 false ∧ sx (fcl tx f).2.2.2.1 ≤ 64 ∧ sx (fcl tx f).2.2.2.2.1 ≤ 64 ∧ sx (fcl tx f).2.2.2.2.2 ≤ 64 := by
  have o := fcl_ok ok h
  have w := (o.1.2.1 o.2.1).2
  have s := o.1.2.2.2.2.1
  exact ⟨w.1, w.2.1, w.2.2, s.1, s.2.1, s.2.2⟩
theorem hgu_lt {tx : List Cl} {f : Nat} (ok : okx tx) : hgu tx f < 256 := by
  unfold hgu
  by_cases c : co tx f < 0
  · rw [if_pos c]; decide
  · rw [if_neg c]
    have w := fcl_ws ok (f := f) (by omega)
    exact Nat.or_lt_two_pow (n := 8) (Nat.or_lt_two_pow (n := 8) (nx_lt _ _ w.1) (nx_lt _ _ w.2.1)) (nx_lt _ _ w.2.2.1)
/-- a reading as it can be -/
def okr (tx : List Cl) (ρ : Rd) : Prop := (∀ f : Nat, f < 8 → (ρ f 3 = 0 ∨ ρ f 3 = 1 ∨ ρ f 3 = 2 ∨ ρ f 3 = 3) ∧ (ρ f 3 = 3 ↔ co tx f < 0) ∧ (-1 ≤ ρ f 0 ∧ ρ f 0 ≤ 16777215) ∧ (0 ≤ ρ f 4 ∧ ρ f 4 < 1099511627776) ∧ (ρ f 3 = 1 → ρ f 0 = -1 ∧ ρ f 1 = -1 ∧ ρ f 2 = -1) ∧ (co tx f < 0 → ρ f 4 = 0)) ∧ (0 ≤ ρ 8 4 ∧ ρ 8 4 < 1099511627776) ∧ (-1 ≤ ρ 8 1 ∧ ρ 8 1 ≤ 24)
/-- the Reading at A holds it -/
def crd (h : am_H) (A : Int) (tx : List Cl) (base size deep : Int) (ρ : Rd) : Prop :=
  (h A 0 = base ∧ h A 1 = size ∧ h A 2 = deep ∧ h A 3 = (told tx : Nat)) ∧ (∃ bk : Nat, bk < 256 ∧ h A 4 = bk ∧ ∀ f, f < 8 → bk.testBit f = decide (ρ f 3 = 1)) ∧ (∃ wr : Nat, wr < 256 ∧ h A 5 = wr ∧ ∀ f, f < 8 → wr.testBit f = decide (ρ f 3 = 2)) ∧ (∀ f : Nat, f < 8 → h (A + 1) f = ρ f 0 ∧ h (A + 2) f = ρ f 1 ∧ h (A + 3) f = ρ f 2 ∧ h (A + 4) f = ρ f 4) ∧ h A 10 = ρ 8 1 ∧ h A 11 = ρ 8 4
theorem crd_congr {h h2 : am_H} {A : Int} {tx : List Cl} {base size deep : Int} {ρ : Rd} (c : crd h A tx base size deep ρ) (e : ∀ b : Int, A ≤ b → b ≤ A + 4 → h2 b = h b) : crd h2 A tx base size deep ρ := by
  unfold crd at c ⊢
  rw [e A (by omega) (by omega), e (A + 1) (by omega) (by omega), e (A + 2) (by omega) (by omega), e (A + 3) (by omega) (by omega), e (A + 4) (by omega) (by omega)]
  exact c
/-- only what is read from A on, the stack, what was peeked at and the deepest are other -/
def fR (h h2 : am_H) (A : Int) : Prop := (∀ b : Int, b < 218 ∨ (220 ≤ b ∧ b < A) ∨ 235 ≤ b → h2 b = h b) ∧ ∀ j : Int, j ≠ 10 → j ≠ 8 → h2 218 j = h 218 j
theorem fR_refl {h : am_H} {A : Int} : fR h h A := ⟨fun _ _ => rfl, fun _ _ _ => rfl⟩
theorem fR_trans {h h2 h3 : am_H} {A B : Int} (a : fR h h2 A) (b : fR h2 h3 B) (q : A ≤ B) : fR h h3 A :=
  ⟨fun c q1 => (b.1 c (by omega)).trans (a.1 c q1), fun j q1 q2 => (b.2 j q1 q2).trans (a.2 j q1 q2)⟩
theorem fR_fA {h h2 : am_H} {A top : Int} (f : fA h h2 top) : fR h h2 A := ⟨fun c q => f.1 c (by omega) (by omega), fun j q1 q2 => f.2.1 j q1⟩
theorem fR_up {h : am_H} {A r i v : Int} (q : (A ≤ r ∧ r < 235 ∧ 220 ≤ r) ∨ r = 218 ∧ (i = 10 ∨ i = 8)) : fR h (am_up h r i v) A := by
  refine ⟨fun b q1 => ?_, fun j q1 q2 => am_up_ne (by omega)⟩
  funext j
  exact am_up_ne (by omega)
/-- what reading rests on -/
def rpre (h : am_H) (T : Int) (tx : List Cl) (β : Int → Int) (vo : Bool) (deep base size : Int) : Prop :=
  (am_kd 321 T = 15 ∧ 242 ≤ T ∧ ctx h T tx ∧ okx tx) ∧ h 218 9 = (if vo = true then 1 else 0) ∧ (am_kd 321 (h 218 7) = 0 ∧ am_ln (h 218 7) = 40 ∧ (h 218 7 < 218 ∨ 235 ≤ h 218 7) ∧ ∀ j : Int, 0 ≤ j → j < 40 → h (h 218 7) j = β j) ∧ (∀ j : Int, 0 ≤ j → j < 40 → 0 ≤ β j ∧ β j ≤ 255) ∧ (0 ≤ base ∧ 0 ≤ size ∧ base + size ≤ 40) ∧ (0 ≤ deep ∧ deep ≤ 2) ∧ deep ≤ h 218 8 ∧ h 218 8 ≤ 2
theorem rpre_fR {h h2 : am_H} {T : Int} {tx : List Cl} {β : Int → Int} {vo : Bool} {deep base size A : Int} (p : rpre h T tx β vo deep base size) (f : fR h h2 A) (e8 : deep ≤ h2 218 8 ∧ h2 218 8 ≤ 2) : rpre h2 T tx β vo deep base size := by
  obtain ⟨⟨p1, p2, p3, p4⟩, p5, ⟨p6, p7, p8, p9⟩, p10, p11, p12, p13⟩ := p
  have e7 : h2 218 7 = h 218 7 := f.2 7 (by omega) (by omega)
  have eb : h2 (h 218 7) = h (h 218 7) := f.1 _ (by omega)
  refine ⟨⟨p1, p2, ctx_congr p3 (fun b q _ => f.1 b (by omega)), p4⟩, by rw [f.2 9 (by omega) (by omega)]; exact p5, ?_, p10, p11, p12, e8⟩
  rw [e7, eb]
  exact ⟨p6, p7, p8, p9⟩
theorem kd_A {A : Int} (h : A = 220 ∨ A = 225 ∨ A = 230) : am_kd 321 A = 13 := by
  rcases h with rfl | rfl | rfl
  · exact k_220
  · exact k_225
  · exact k_230
theorem nmR_k {ρ : Rd} {deep size : Int} {k : Nat} (h : k < 8) : nmR ρ deep size k = ρ k 0 := by
  unfold nmR
  rw [if_pos (by omega)]
  rfl
theorem nmR_8 {ρ : Rd} {deep size : Int} : nmR ρ deep size 8 = size := by
  unfold nmR
  rw [if_neg (by omega), if_pos rfl]
theorem nmR_9 {ρ : Rd} {deep size : Int} : nmR ρ deep size 9 = deep := by
  unfold nmR
  rw [if_neg (by omega), if_neg (by omega), if_pos rfl]
theorem rpre_eok {h : am_H} {T : Int} {tx : List Cl} {β : Int → Int} {vo : Bool} {deep base size : Int} {ρ : Rd} (p : rpre h T tx β vo deep base size) (o : okr tx ρ) : eok false (nmR ρ deep size) β base := by
  obtain ⟨_, _, _, p10, p11, p12, _⟩ := p
  refine ⟨p11.1, by rw [nmR_8]; omega, p10, fun k a => ?_⟩
  unfold al at a
  simp at a
  by_cases c : k < 8
  · rw [nmR_k c]
    have := (o.1 k c).2.2.1
    omega
  · by_cases c8 : k = 8
    · subst c8
      rw [show ((8 : Nat) : Int) = 8 from rfl, nmR_8]; omega
    · have : k = 9 := by omega
      subst this
      rw [show ((9 : Nat) : Int) = 9 from rfl, nmR_9]; omega
theorem rpre_ce {h : am_H} {T : Int} {tx : List Cl} {β : Int → Int} {vo : Bool} {deep base size A : Int} {ρ : Rd} (p : rpre h T tx β vo deep base size) (c : crd h A tx base size deep ρ) : ce false h A (nmR ρ deep size) β base := by
  obtain ⟨_, _, ⟨p6, p7, p8, p9⟩, _⟩ := p
  refine ⟨c.1.1, by rw [nmR_8]; exact c.1.2.1, fun _ => ⟨fun k k0 => by rw [nmR_k k0]; exact (c.2.2.2.1 k k0).1, by rw [nmR_9]; exact c.1.2.2.1⟩, (fun q => by cases q), p6, p7, by omega, p9⟩
