/-! LEVEL 3, SUMS and EITHERS out of TOKENS: pure. K, V: of each TOKEN what it is (as the class numbers them), the number; N: how many; l: of rots -/
abbrev Rs : Type := (Int × Nat) ⊕ (Ex × Nat)
def bnd (r : Rs) (k : Ex → Nat → Rs) : Rs := match r with
  | .inl x => .inl x
  | .inr x => k x.1 x.2
def nmK (t : Int) : Int := if 32 ≤ t ∧ t ≤ 39 then t - 32 else if t = 6 then 8 else if t = 20 then 9 else if t = 8 then 10 else if t = 21 then 11 else if t = 22 then 12 else -1
def cmpK (t : Int) : Int := if t = 163 then 19 else if t = 188 then 14 else if t = 189 then 18 else if t = 190 then 16 else if t = 316 then 15 else if t = 318 then 17 else -1
def opn (o i : Nat) (r : Rs) : Rs := if o < 8 then r else .inl (3, i)
def tkE (K : Nat → Int) (t : Int) (j : Nat) (r : Rs) : Rs := if K j = t then r else .inl (1, j)
def nmR1 (K V : Nat → Int) (l : Bool) (i : Nat) : Rs :=
  if K i = 64 then (if 9999 < V i then .inl (2, i) else .inr (xN (V i), i + 1))
  else if nmK (K i) < 0 then .inl (1, i)
  else if (l = true ∧ (nmK (K i) = 8 ∨ 10 ≤ nmK (K i))) ∨ (l = false ∧ nmK (K i) ≤ 9) then .inr (xV (nmK (K i)).toNat, i + 1) else .inl (5, i)
def prs (K V : Nat → Int) (l : Bool) : Nat → Nat → Nat → Nat → Ex → Rs
  | 0, _, _, _, _ => .inl (1, 0)
  | n + 1, 0, o, i, a =>
    if K i = 12 then opn o i (bnd (prs K V l n 0 (o + 1) (i + 1) a) fun e j => .inr (xU 9 e, j))
    else if K i = 13 then opn o i (bnd (prs K V l n 8 (o + 1) (i + 1) a) fun c j => tkE K 14 j (bnd (prs K V l n 3 (o + 1) (j + 1) a) fun x j2 => tkE K 15 j2 (bnd (prs K V l n 3 (o + 1) (j2 + 1) a) fun y j3 => tkE K 16 j3 (.inr (xI c x y, j3 + 1)))))
    else if K i = 168 then opn o i (bnd (prs K V l n 3 (o + 1) (i + 1) a) fun e j => tkE K 169 j (.inr (e, j + 1)))
    else if K i = 173 then opn o i (bnd (prs K V l n 0 (o + 1) (i + 1) a) fun e j => .inr (xU 7 e, j))
    else nmR1 K V l i
  | n + 1, 1, o, i, a => bnd (prs K V l n 0 o i a) fun e j => prs K V l n 2 o j e
  | n + 1, 2, o, i, a => if K i = 170 ∨ K i = 175 then bnd (prs K V l n 0 o (i + 1) a) fun e j => prs K V l n 2 o j (xB (if K i = 170 then 12 else 13) a e) else .inr (a, i)
  | n + 1, 3, o, i, a => bnd (prs K V l n 1 o i a) fun e j => prs K V l n 4 o j e
  | n + 1, 4, o, i, a => if K i = 171 ∨ K i = 173 then bnd (prs K V l n 1 o (i + 1) a) fun e j => prs K V l n 4 o j (xB (if K i = 171 then 10 else 11) a e) else .inr (a, i)
  | n + 1, 5, o, i, a =>
    if K i = 19 then opn o i (bnd (prs K V l n 5 (o + 1) (i + 1) a) fun e j => .inr (xU 8 e, j))
    else bnd (prs K V l n 3 o i a) fun e j => if cmpK (K j) < 0 then .inl (1, j) else bnd (prs K V l n 3 o (j + 1) a) fun e2 j2 => .inr (xB (cmpK (K j)) e e2, j2)
  | n + 1, 6, o, i, a => bnd (prs K V l n 5 o i a) fun e j => prs K V l n 7 o j e
  | n + 1, 7, o, i, a => if K i = 18 then bnd (prs K V l n 5 o (i + 1) a) fun e j => prs K V l n 7 o j (xB 20 a e) else .inr (a, i)
  | n + 1, 8, o, i, a => bnd (prs K V l n 6 o i a) fun e j => prs K V l n 9 o j e
  | n + 1, _, o, i, a => if K i = 17 then bnd (prs K V l n 6 o (i + 1) a) fun e j => prs K V l n 9 o j (xB 21 a e) else .inr (a, i)
/-- TOKENS as they can be: behind the last stands the end (66) -/
def tkok (K V : Nat → Int) (N : Nat) : Prop := N ≤ 300 ∧ K N = 66 ∧ (∀ j, j < N → K j ≠ 66 ∧ K j < 400 ∧ 0 ≤ K j) ∧ ∀ j, 0 ≤ V j ∧ V j ≤ 10000
def okR (N : Nat) (l : Bool) (i c : Nat) (s : Bool) (b : Nat) (r : Rs) : Prop := match r with
  | .inl x => (1 ≤ x.1 ∧ x.1 ≤ 5) ∧ i ≤ x.2 ∧ x.2 ≤ N
  | .inr x => (i ≤ x.2 ∧ x.2 ≤ N) ∧ ws l x.1 s ∧ lx x.1 + i ≤ c + x.2 ∧ sx x.1 ≤ b
theorem ly_lx {l : Bool} : ∀ e s, ws l e s → ly e ≤ lx e := by
  refine ex_ind (fun v h0 h1 => by simp [lx, ly]) (fun k q => by simp [lx, ly]) (fun t a ht _ ih => ?_) (fun a _ ih => ?_) (fun t a c _ _ _ _ i1 i2 => ?_) (fun t a c h0 h1 _ _ i1 i2 => ?_) (fun t a c ht _ _ i1 i2 => ?_) (fun c a e _ _ _ i1 i2 i3 => ?_) <;> (simp only [lx, ly]; omega)
section PRS
variable {K V : Nat → Int} {l : Bool} {N : Nat}
theorem okR_w {i j c c2 b b2 : Nat} {s : Bool} {r : Rs} (h : okR N l j c2 s b2 r) (q : i ≤ j) (q2 : c2 + i ≤ c + j) (q3 : b2 ≤ b) : okR N l i c s b r := by
  unfold okR at h ⊢
  cases r with
  | inl x => exact ⟨h.1, by omega, h.2.2⟩
  | inr x => exact ⟨⟨by omega, h.1.2⟩, h.2.1, by have := h.2.2.1; omega, by have := h.2.2.2; omega⟩
theorem okR_b {i j c b b2 : Nat} {s s2 : Bool} {r : Rs} {k : Ex → Nat → Rs} (h : okR N l j 0 s2 b2 r) (q : i ≤ j) (hk : ∀ e j2, j < j2 → j2 ≤ N → ws l e s2 → lx e + j ≤ j2 → sx e ≤ b2 → okR N l i c s b (k e j2)) : okR N l i c s b (bnd r k) := by
  cases r with
  | inl x =>
    have h2 : (1 ≤ x.1 ∧ x.1 ≤ 5) ∧ j ≤ x.2 ∧ x.2 ≤ N := h
    exact ⟨h2.1, by omega, h2.2.2⟩
  | inr x =>
    have h2 : (j ≤ x.2 ∧ x.2 ≤ N) ∧ ws l x.1 s2 ∧ lx x.1 + j ≤ 0 + x.2 ∧ sx x.1 ≤ b2 := h
    have p := lx_pos _ _ h2.2.1
    exact hk x.1 x.2 (by omega) h2.1.2 h2.2.1 (by omega) h2.2.2.2
theorem okR_o {i o c b : Nat} {s : Bool} {r : Rs} (q : i ≤ N) (h : o < 8 → okR N l i c s b r) : okR N l i c s b (opn o i r) := by
  unfold opn
  split
  · exact h (by assumption)
  · exact ⟨by omega, by omega, q⟩
theorem okR_t {i j c b : Nat} {t : Int} {s : Bool} {r : Rs} (q : i ≤ j) (q2 : j ≤ N) (h : K j = t → okR N l i c s b r) : okR N l i c s b (tkE K t j r) := by
  unfold tkE
  split
  · exact h (by assumption)
  · exact ⟨by omega, q, q2⟩
theorem tk_lt (tk : tkok K V N) {i : Nat} (q : i ≤ N) (q2 : K i ≠ 66) : i + 1 ≤ N := by
  have := tk.2.1
  by_cases c : i = N
  · subst c; exact absurd this q2
  · omega
theorem nmK_rng {t : Int} : -1 ≤ nmK t ∧ nmK t ≤ 12 := by
  unfold nmK
  repeat' split
  all_goals omega
theorem cmpK_rng {t : Int} : cmpK t = -1 ∨ (14 ≤ cmpK t ∧ cmpK t ≤ 19) := by
  unfold cmpK
  repeat' split
  all_goals omega
theorem cmpK_ne {t : Int} (h : ¬ cmpK t < 0) : t ≠ 66 := fun q => h (by rw [q]; decide)
theorem nmK_ne {t : Int} (h : ¬ nmK t < 0) : t ≠ 66 := fun q => h (by rw [q]; decide)
/-- what comes of it is as it can be -/
theorem prs_ok (tk : tkok K V N) : ∀ n o i a, o ≤ 8 → i ≤ N →
    (16 * (N - i) + 1 ≤ n → okR N l i 0 false (1 + 5 * (8 - o)) (prs K V l n 0 o i a)) ∧
    (16 * (N - i) + 2 ≤ n → okR N l i 0 false (2 + 5 * (8 - o)) (prs K V l n 1 o i a)) ∧
    (16 * (N - i) + 1 ≤ n → ws l a false → sx a ≤ 2 + 5 * (8 - o) → okR N l i (lx a) false (2 + 5 * (8 - o)) (prs K V l n 2 o i a)) ∧
    (16 * (N - i) + 3 ≤ n → okR N l i 0 false (3 + 5 * (8 - o)) (prs K V l n 3 o i a)) ∧
    (16 * (N - i) + 1 ≤ n → ws l a false → sx a ≤ 3 + 5 * (8 - o) → okR N l i (lx a) false (3 + 5 * (8 - o)) (prs K V l n 4 o i a)) ∧
    (16 * (N - i) + 4 ≤ n → okR N l i 0 true (4 + 5 * (8 - o)) (prs K V l n 5 o i a)) ∧
    (16 * (N - i) + 5 ≤ n → okR N l i 0 true (5 + 5 * (8 - o)) (prs K V l n 6 o i a)) ∧
    (16 * (N - i) + 1 ≤ n → ws l a true → sx a ≤ 5 + 5 * (8 - o) → okR N l i (lx a) true (5 + 5 * (8 - o)) (prs K V l n 7 o i a)) ∧
    (16 * (N - i) + 6 ≤ n → okR N l i 0 true (6 + 5 * (8 - o)) (prs K V l n 8 o i a)) ∧
    (16 * (N - i) + 1 ≤ n → ws l a true → sx a ≤ 6 + 5 * (8 - o) → okR N l i (lx a) true (6 + 5 * (8 - o)) (prs K V l n 9 o i a)) := by
  intro n
  induction n with
  | zero => intro o i a _ _; refine ⟨?_, ?_, ?_, ?_, ?_, ?_, ?_, ?_, ?_, ?_⟩ <;> (intro q; omega)
  | succ n ih =>
    intro o i a ho hi
    refine ⟨fun q => ?_, fun q => ?_, fun q wa xa => ?_, fun q => ?_, fun q wa xa => ?_, fun q => ?_, fun q => ?_, fun q wa xa => ?_, fun q => ?_, fun q wa xa => ?_⟩
    · simp only [prs]
      by_cases c1 : K i = 12
      · rw [if_pos c1]
        have i1 := tk_lt tk hi (by omega)
        refine okR_o hi (fun o8 => okR_b ((ih (o + 1) (i + 1) a (by omega) i1).1 (by omega)) (by omega) (fun e j j0 j1 we le se => ⟨⟨by omega, j1⟩, Or.inl ⟨rfl, Or.inr rfl, we⟩, by simp only [lx]; omega, by simp only [sx]; omega⟩))
      · rw [if_neg c1]
        by_cases c2 : K i = 13
        · rw [if_pos c2]
          have i1 := tk_lt tk hi (by omega)
          refine okR_o hi (fun o8 => okR_b ((ih (o + 1) (i + 1) a (by omega) i1).2.2.2.2.2.2.2.2.1 (by omega)) (by omega) (fun e j j0 j1 we le se => okR_t (by omega) j1 (fun t1 => ?_)))
          have j2 := tk_lt tk j1 (by omega)
          refine okR_b ((ih (o + 1) (j + 1) a (by omega) j2).2.2.2.1 (by omega)) (by omega) (fun e2 k k0 k1 we2 le2 se2 => okR_t (by omega) k1 (fun t2 => ?_))
          have k2 := tk_lt tk k1 (by omega)
          refine okR_b ((ih (o + 1) (k + 1) a (by omega) k2).2.2.2.1 (by omega)) (by omega) (fun e3 m m0 m1 we3 le3 se3 => okR_t (by omega) m1 (fun t3 => ?_))
          have m2 := tk_lt tk m1 (by omega)
          exact ⟨⟨by omega, m2⟩, ⟨rfl, we, we2, we3⟩, by simp only [lx]; omega, by simp only [sx]; omega⟩
        · rw [if_neg c2]
          by_cases c3 : K i = 168
          · rw [if_pos c3]
            have i1 := tk_lt tk hi (by omega)
            refine okR_o hi (fun o8 => okR_b ((ih (o + 1) (i + 1) a (by omega) i1).2.2.2.1 (by omega)) (by omega) (fun e j j0 j1 we le se => okR_t (by omega) j1 (fun t1 => ?_)))
            have j2 := tk_lt tk j1 (by omega)
            exact ⟨⟨by omega, j2⟩, we, by simp only; omega, by simp only; omega⟩
          · rw [if_neg c3]
            by_cases c4 : K i = 173
            · rw [if_pos c4]
              have i1 := tk_lt tk hi (by omega)
              refine okR_o hi (fun o8 => okR_b ((ih (o + 1) (i + 1) a (by omega) i1).1 (by omega)) (by omega) (fun e j j0 j1 we le se => ⟨⟨by omega, j1⟩, Or.inl ⟨rfl, Or.inl rfl, we⟩, by simp only [lx]; omega, by simp only [sx]; omega⟩))
            · rw [if_neg c4]
              unfold nmR1
              have v := tk.2.2.2 i
              by_cases c5 : K i = 64
              · have i1 := tk_lt tk hi (by omega)
                rw [if_pos c5]
                split
                · exact ⟨by omega, by omega, hi⟩
                · exact ⟨⟨by omega, i1⟩, ⟨rfl, by omega, by omega⟩, by simp only [lx]; omega, by simp only [sx]; omega⟩
              · rw [if_neg c5]
                by_cases c6 : nmK (K i) < 0
                · rw [if_pos c6]; exact ⟨by omega, by omega, hi⟩
                · rw [if_neg c6]
                  have i1 := tk_lt tk hi (nmK_ne c6)
                  have r12 := nmK_rng (t := K i)
                  split
                  · rename_i c7
                    refine ⟨⟨by omega, i1⟩, ⟨rfl, ?_⟩, by simp only [lx]; omega, by simp only [sx]; omega⟩
                    unfold al
                    refine ⟨by omega, ?_⟩
                    rcases c7 with ⟨c7, c8⟩ | ⟨c7, c8⟩
                    · rw [if_pos c7]; omega
                    · rw [if_neg (by simp [c7])]; omega
                  · exact ⟨by omega, by omega, hi⟩
    · simp only [prs]
      refine okR_b ((ih o i a ho hi).1 (by omega)) (by omega) (fun e j j0 j1 we le se => okR_w ((ih o j e ho j1).2.2.1 (by omega) we (by omega)) (by omega) (by omega) (by omega))
    · simp only [prs]
      by_cases c : K i = 170 ∨ K i = 175
      · rw [if_pos c]
        have i1 := tk_lt tk hi (by omega)
        refine okR_b ((ih o (i + 1) a ho i1).1 (by omega)) (by omega) (fun e j j0 j1 we le se => okR_w ((ih o j _ ho j1).2.2.1 (by omega) (Or.inl ⟨rfl, by split <;> omega, wa, we⟩) (by simp only [sx]; omega)) (by omega) (by simp only [lx]; omega) (by omega))
      · rw [if_neg c]; exact ⟨⟨by omega, hi⟩, wa, by simp only; omega, xa⟩
    · simp only [prs]
      refine okR_b ((ih o i a ho hi).2.1 (by omega)) (by omega) (fun e j j0 j1 we le se => okR_w ((ih o j e ho j1).2.2.2.2.1 (by omega) we (by omega)) (by omega) (by omega) (by omega))
    · simp only [prs]
      by_cases c : K i = 171 ∨ K i = 173
      · rw [if_pos c]
        have i1 := tk_lt tk hi (by omega)
        refine okR_b ((ih o (i + 1) a ho i1).2.1 (by omega)) (by omega) (fun e j j0 j1 we le se => okR_w ((ih o j _ ho j1).2.2.2.2.1 (by omega) (Or.inl ⟨rfl, by split <;> omega, wa, we⟩) (by simp only [sx]; omega)) (by omega) (by simp only [lx]; omega) (by omega))
      · rw [if_neg c]; exact ⟨⟨by omega, hi⟩, wa, by simp only; omega, xa⟩
    · simp only [prs]
      by_cases c : K i = 19
      · rw [if_pos c]
        have i1 := tk_lt tk hi (by omega)
        refine okR_o hi (fun o8 => okR_b ((ih (o + 1) (i + 1) a (by omega) i1).2.2.2.2.2.1 (by omega)) (by omega) (fun e j j0 j1 we le se => ⟨⟨by omega, j1⟩, Or.inr ⟨rfl, rfl, we⟩, by simp only [lx]; omega, by simp only [sx]; omega⟩))
      · rw [if_neg c]
        refine okR_b ((ih o i a ho hi).2.2.2.1 (by omega)) (by omega) (fun e j j0 j1 we le se => ?_)
        by_cases c2 : cmpK (K j) < 0
        · rw [if_pos c2]; exact ⟨by omega, by simp only; omega, j1⟩
        · rw [if_neg c2]
          have j2 := tk_lt tk j1 (cmpK_ne c2)
          have r19 := cmpK_rng (t := K j)
          refine okR_b ((ih o (j + 1) a ho j2).2.2.2.1 (by omega)) (by omega) (fun e2 k k0 k1 we2 le2 se2 => ⟨⟨by omega, k1⟩, Or.inr (Or.inl ⟨rfl, by omega, we, we2⟩), by simp only [lx]; omega, by simp only [sx]; omega⟩)
    · simp only [prs]
      refine okR_b ((ih o i a ho hi).2.2.2.2.2.1 (by omega)) (by omega) (fun e j j0 j1 we le se => okR_w ((ih o j e ho j1).2.2.2.2.2.2.2.1 (by omega) we (by omega)) (by omega) (by omega) (by omega))
    · simp only [prs]
      by_cases c : K i = 18
      · rw [if_pos c]
        have i1 := tk_lt tk hi (by omega)
        refine okR_b ((ih o (i + 1) a ho i1).2.2.2.2.2.1 (by omega)) (by omega) (fun e j j0 j1 we le se => okR_w ((ih o j _ ho j1).2.2.2.2.2.2.2.1 (by omega) (Or.inr (Or.inr ⟨rfl, Or.inl rfl, wa, we⟩)) (by simp only [sx]; omega)) (by omega) (by simp only [lx]; omega) (by omega))
      · rw [if_neg c]; exact ⟨⟨by omega, hi⟩, wa, by simp only; omega, xa⟩
    · simp only [prs]
      refine okR_b ((ih o i a ho hi).2.2.2.2.2.2.1 (by omega)) (by omega) (fun e j j0 j1 we le se => okR_w ((ih o j e ho j1).2.2.2.2.2.2.2.2.2 (by omega) we (by omega)) (by omega) (by omega) (by omega))
    · simp only [prs]
      by_cases c : K i = 17
      · rw [if_pos c]
        have i1 := tk_lt tk hi (by omega)
        refine okR_b ((ih o (i + 1) a ho i1).2.2.2.2.2.2.1 (by omega)) (by omega) (fun e j j0 j1 we le se => okR_w ((ih o j _ ho j1).2.2.2.2.2.2.2.2.2 (by omega) (Or.inr (Or.inr ⟨rfl, Or.inr rfl, wa, we⟩)) (by simp only [sx]; omega)) (by omega) (by simp only [lx]; omega) (by omega))
      · rw [if_neg c]; exact ⟨⟨by omega, hi⟩, wa, by simp only; omega, xa⟩
end PRS
