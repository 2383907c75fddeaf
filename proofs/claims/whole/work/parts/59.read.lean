section READ2
variable {d : Nat} {h : am_H} {Q : Int → am_H → Prop} {A T : Int} {tx : List Cl} {base size deep : Int} {ρ : Rd} {β : Int → Int} {vo : Bool}
theorem setR_ne {f g c : Nat} {v a z w : Int} {l : Nat} (q : g ≠ f) : setR ρ f v a z w l g c = ρ g c := by
  unfold setR
  rw [if_neg q]
theorem setR_at {f : Nat} {v a z w : Int} {l : Nat} : setR ρ f v a z w l f 0 = v ∧ setR ρ f v a z w l f 1 = a ∧ setR ρ f v a z w l f 2 = z ∧ setR ρ f v a z w l f 3 = w ∧ setR ρ f v a z w l f 4 = (l : Int) := by
  unfold setR
  simp
theorem putR_ne {f g c e : Nat} {v : Int} (q : ¬ (g = f ∧ e = c)) : putR ρ f c v g e = ρ g e := by
  unfold putR
  rw [if_neg q]
theorem putR_at {f c : Nat} {v : Int} : putR ρ f c v f c = v := by
  unfold putR
  rw [if_pos ⟨rfl, rfl⟩]
/-- what a FIELD looks at is more -/
theorem crd_look {f : Nat} {l : Nat} (hf : f < 8) (c : crd h A tx base size deep ρ) : crd (am_up h (A + 4) f (l : Int)) A tx base size deep (putR ρ f 4 (l : Int)) := by
  obtain ⟨⟨c0, c1, c2, c3⟩, ⟨bk, b1, b2, b3⟩, ⟨wr, w1, w2, w3⟩, c4, c5, c6⟩ := c
  have eA : ∀ j, am_up h (A + 4) f (l : Int) A j = h A j := fun j => am_up_ne (by omega)
  refine ⟨⟨by rw [eA]; exact c0, by rw [eA]; exact c1, by rw [eA]; exact c2, by rw [eA]; exact c3⟩, ⟨bk, b1, by rw [eA]; exact b2, fun g hg => ?_⟩, ⟨wr, w1, by rw [eA]; exact w2, fun g hg => ?_⟩, fun g hg => ?_, ?_, ?_⟩
  · rw [putR_ne (by omega)]; exact b3 g hg
  · rw [putR_ne (by omega)]; exact w3 g hg
  · have cg := c4 g hg
    rw [am_up_ne (by omega), am_up_ne (by omega), am_up_ne (by omega), putR_ne (by omega), putR_ne (by omega), putR_ne (by omega)]
    refine ⟨cg.1, cg.2.1, cg.2.2.1, ?_⟩
    by_cases e : g = f
    · subst e
      rw [am_up_at, putR_at]
    · rw [am_up_ne (by omega), putR_ne (by omega)]; exact cg.2.2.2
  · rw [eA, putR_ne (by omega)]; exact c5
  · rw [eA, putR_ne (by omega)]; exact c6
theorem okr_look {f : Nat} {l : Nat} (hc : 0 ≤ co tx f) (hl : l < 2 ^ 40) (o : okr tx ρ) : okr tx (putR ρ f 4 (l : Int)) := by
  refine ⟨fun g hg => ?_, ?_, ?_⟩
  · have og := o.1 g hg
    have ne : ∀ c, c ≠ 4 → putR ρ f 4 (l : Int) g c = ρ g c := fun c hc => putR_ne (by omega)
    rw [ne 3 (by omega), ne 0 (by omega), ne 1 (by omega), ne 2 (by omega)]
    refine ⟨og.1, og.2.1, og.2.2.1, ?_, og.2.2.2.2.1, fun q => ?_⟩
    · by_cases e : g = f
      · subst e
        rw [putR_at]; omega
      · rw [putR_ne (by omega)]; exact og.2.2.2.1
    · by_cases e : g = f
      · subst e
        omega
      · rw [putR_ne (by omega)]; exact og.2.2.2.2.2 q
  · by_cases e : 8 = f
    · subst e
      rw [putR_at]; omega
    · rw [putR_ne (by omega)]; exact o.2.1
  · rw [putR_ne (by omega)]; exact o.2.2
/-- a FIELD is known -/
theorem c_X2_know {f : Nat} {v a z : Int} (hA : A = 220 ∨ A = 225 ∨ A = 230) (hf : f < 8) (c : crd h A tx base size deep ρ) (b3 : ρ f 3 = 1) (k : ∀ h2, fR h h2 A → (∀ b : Int, ¬ (A ≤ b ∧ b ≤ A + 4) → h2 b = h b) → crd h2 A tx base size deep (setR ρ f v a z 0 (ρ f 4).toNat) → Q 0 h2) (l0 : 0 ≤ ρ f 4) : cf (d + 1) M_X2_know [.inr (.inr A), .inl (f : Int), .inl a, .inl z, .inl v] h Q := by
  obtain ⟨⟨c0, c1, c2, c3⟩, ⟨bk, b1, b2, bb⟩, ⟨wr, w1, w2, w3⟩, c4, c5, c6⟩ := c
  have tA := kd_A hA
  refine cf_of pX2 (Nat.le_of_ble_eq_true rfl) rfl (fun _ => B_X2_know_0 (c_X6_isField (fun _ _ => ⟨fun q => by omega, fun _ => ⟨tA, by omega, by omega, ?_⟩⟩) (fun q => by omega)))
  have p := p40 (k := f) (by omega)
  have p8 : 2 ^ f < 256 := Nat.pow_lt_pow_right (n := 8) (by decide) hf
  rw [b2, ishl1 (by omega), andn_n (by omega)]
  have o1 : ∀ b : Int, ¬ (A ≤ b ∧ b ≤ A + 4) → am_up (am_up (am_up (am_up h A 4 ((bk &&& (2 ^ f ^^^ 4294967295) : Nat) : Int)) (A + 2) f a) (A + 3) f z) (A + 1) f v b = h b := by
    intro b q
    funext j
    rw [am_up_ne (by omega), am_up_ne (by omega), am_up_ne (by omega), am_up_ne (by omega)]
  have eA : ∀ j : Int, j ≠ 4 → am_up (am_up (am_up (am_up h A 4 ((bk &&& (2 ^ f ^^^ 4294967295) : Nat) : Int)) (A + 2) f a) (A + 3) f z) (A + 1) f v A j = h A j := by
    intro j q
    rw [am_up_ne (by omega), am_up_ne (by omega), am_up_ne (by omega), am_up_ne (by omega)]
  refine k _ ⟨fun b q => o1 b (by omega), fun j q1 q2 => by rw [o1 218 (by omega)]⟩ o1 ⟨⟨by rw [eA 0 (by omega)]; exact c0, by rw [eA 1 (by omega)]; exact c1, by rw [eA 2 (by omega)]; exact c2, by rw [eA 3 (by omega)]; exact c3⟩, ⟨bk &&& (2 ^ f ^^^ 4294967295), Nat.lt_of_le_of_lt Nat.and_le_left b1, ?_, fun g hg => ?_⟩, ⟨wr, w1, by rw [eA 5 (by omega)]; exact w2, fun g hg => ?_⟩, fun g hg => ?_, by rw [eA 10 (by omega), setR_ne (by omega)]; exact c5, by rw [eA 11 (by omega), setR_ne (by omega)]; exact c6⟩
  · rw [am_up_ne (by omega), am_up_ne (by omega), am_up_ne (by omega), am_up_at]
  · rw [andn_bit (by omega), bb g hg, pow_bit]
    by_cases e : g = f
    · subst e
      rw [setR_at.2.2.2.1]
      simp
    · rw [setR_ne e]
      have : ¬ f = g := fun q => e q.symm
      simp [this]
  · rw [w3 g hg]
    by_cases e : g = f
    · subst e
      rw [setR_at.2.2.2.1, b3]
      rfl
    · rw [setR_ne e]
  · have cg := c4 g hg
    by_cases e : g = f
    · subst e
      obtain ⟨s0, s1, s2, s3, s4⟩ := setR_at (ρ := ρ) (f := g) (v := v) (a := a) (z := z) (w := 0) (l := (ρ g 4).toNat)
      rw [s0, s1, s2, s4]
      refine ⟨am_up_at _ _ _ _, ?_, ?_, ?_⟩
      · rw [am_up_ne (by omega), am_up_ne (by omega), am_up_at]
      · rw [am_up_ne (by omega), am_up_at]
      · rw [am_up_ne (by omega), am_up_ne (by omega), am_up_ne (by omega), am_up_ne (by omega), cg.2.2.2]
        omega
    · rw [setR_ne e, setR_ne e, setR_ne e, setR_ne e]
      refine ⟨?_, ?_, ?_, ?_⟩
      · rw [am_up_ne (by omega), am_up_ne (by omega), am_up_ne (by omega), am_up_ne (by omega)]; exact cg.1
      · rw [am_up_ne (by omega), am_up_ne (by omega), am_up_ne (by omega), am_up_ne (by omega)]; exact cg.2.1
      · rw [am_up_ne (by omega), am_up_ne (by omega), am_up_ne (by omega), am_up_ne (by omega)]; exact cg.2.2.1
      · rw [am_up_ne (by omega), am_up_ne (by omega), am_up_ne (by omega), am_up_ne (by omega)]; exact cg.2.2.2
/-- a FIELD is WRONG, or it isn't -/
theorem crd_wrong {f : Nat} {w v a z : Int} {l : Nat} {s2 : Int} (hf : f < 8) (c : crd h A tx base size deep (setR ρ f v a z 0 l)) (hw : (w = 0 ∧ s2 = 0) ∨ (w = 2 ∧ s2 = ((2 ^ f : Nat) : Int))) : crd (am_up h A 5 (am_ior (h A 5) s2)) A tx base size deep (setR ρ f v a z w l) := by
  obtain ⟨⟨c0, c1, c2, c3⟩, ⟨bk, b1, b2, bb⟩, ⟨wr, w1, w2, w3⟩, c4, c5, c6⟩ := c
  have p8 : 2 ^ f < 256 := Nat.pow_lt_pow_right (n := 8) (by decide) hf
  have eA : ∀ j x : Int, j ≠ 5 → am_up h A 5 x A j = h A j := fun j x q => am_up_ne (by omega)
  have e3 := (setR_at (ρ := ρ) (f := f) (v := v) (a := a) (z := z) (w := 0) (l := l)).2.2.2.1
  have e3w := (setR_at (ρ := ρ) (f := f) (v := v) (a := a) (z := z) (w := w) (l := l)).2.2.2.1
  have bits : ∀ g, g < 8 → g ≠ f → setR ρ f v a z w l g 3 = setR ρ f v a z 0 l g 3 := fun g _ q => by rw [setR_ne q, setR_ne q]
  refine ⟨⟨by rw [eA _ _ (by omega)]; exact c0, by rw [eA _ _ (by omega)]; exact c1, by rw [eA _ _ (by omega)]; exact c2, by rw [eA _ _ (by omega)]; exact c3⟩, ⟨bk, b1, by rw [eA _ _ (by omega)]; exact b2, fun g hg => ?_⟩, ?_, fun g hg => ?_, ?_, ?_⟩
  · by_cases e : g = f
    · subst e
      rw [bb g hg, e3, e3w]
      rcases hw with ⟨rfl, _⟩ | ⟨rfl, _⟩ <;> rfl
    · rw [bits g hg e]; exact bb g hg
  · rw [w2]
    rcases hw with ⟨rfl, rfl⟩ | ⟨rfl, rfl⟩
    · refine ⟨wr, w1, ?_, w3⟩
      rw [am_up_at, show (0 : Int) = ((0 : Nat) : Int) from rfl, ior_n (by omega) (by omega), Nat.or_zero]
    · refine ⟨wr ||| 2 ^ f, Nat.or_lt_two_pow (n := 8) w1 p8, by rw [am_up_at, ior_n (by omega) (by omega)], fun g hg => ?_⟩
      rw [Nat.testBit_or, w3 g hg, pow_bit]
      by_cases e : g = f
      · subst e
        rw [e3w]
        simp
      · rw [bits g hg e]
        have : ¬ f = g := fun q => e q.symm
        simp [this]
  · have cg := c4 g hg
    rw [am_up_ne (by omega), am_up_ne (by omega), am_up_ne (by omega), am_up_ne (by omega), cg.1, cg.2.1, cg.2.2.1, cg.2.2.2]
    by_cases e : g = f
    · subst e
      obtain ⟨s0, s1, s2, _, s4⟩ := setR_at (ρ := ρ) (f := g) (v := v) (a := a) (z := z) (w := 0) (l := l)
      obtain ⟨t0, t1, t2, _, t4⟩ := setR_at (ρ := ρ) (f := g) (v := v) (a := a) (z := z) (w := w) (l := l)
      rw [s0, s1, s2, s4, t0, t1, t2, t4]
      exact ⟨rfl, rfl, rfl, rfl⟩
    · rw [setR_ne e, setR_ne e, setR_ne e, setR_ne e, setR_ne e, setR_ne e, setR_ne e, setR_ne e]
      exact ⟨rfl, rfl, rfl, rfl⟩
  · rw [eA _ _ (by omega), setR_ne (by omega)]
    rw [setR_ne (by omega)] at c5
    exact c5
  · rw [eA _ _ (by omega), setR_ne (by omega)]
    rw [setR_ne (by omega)] at c6
    exact c6
theorem putset {f : Nat} {v a z w : Int} {l m : Nat} : putR (setR ρ f v a z w l) f 4 (m : Int) = setR ρ f v a z w m := by
  funext g c
  unfold putR setR
  by_cases e : g = f
  · subst e
    by_cases e2 : c = 4
    · subst e2; simp
    · simp [e2]
  · simp [e]
theorem setput {f : Nat} {v a z w : Int} {l m : Nat} : setR (putR ρ f 4 (m : Int)) f v a z w l = setR ρ f v a z w l := by
  funext g c
  unfold putR setR
  by_cases e : g = f
  · subst e
    by_cases e2 : c = 4
    · subst e2; simp
    · simp [e2]
  · simp [e]
theorem okr_set {f : Nat} {v a z w : Int} {l : Nat} (hv : 0 ≤ v ∧ v ≤ 16777215) (hw : w = 0 ∨ w = 2) (hc : 0 ≤ co tx f) (hl : l < 2 ^ 40) (hf : f < 8) (o : okr tx ρ) : okr tx (setR ρ f v a z w l) := by
  refine ⟨fun g hg => ?_, by rw [setR_ne (by omega)]; exact o.2.1, by rw [setR_ne (by omega)]; exact o.2.2⟩
  by_cases e : g = f
  · subst e
    obtain ⟨s0, s1, s2, s3, s4⟩ := setR_at (ρ := ρ) (f := g) (v := v) (a := a) (z := z) (w := w) (l := l)
    rw [s0, s1, s2, s3, s4]
    exact ⟨by omega, by omega, by omega, by omega, fun q => by omega, fun q => by omega⟩
  · rw [setR_ne e, setR_ne e, setR_ne e, setR_ne e, setR_ne e]
    exact o.1 g hg
end READ2
