section RREAD4
variable {d : Nat} {h : am_H} {Q : Int → am_H → Prop} {t l : Int} {tx : List Cl} {base size : Int} {ρ : Rd} {β : Int → Int}
/-- the FIELDS that steps name -/
abbrev wN (d : Nat) (Q : Int → am_H → Prop) (x c : Int) (acc : Nat) (i : Int) (h : am_H) : Prop := wf d M_X7_namesIn Q 21 [some (.inr (.inr 294)), none, some (.inl x), some (.inl (acc : Int)), some (.inl c), some (.inl i)] [] h
theorem wN_skip {x c i z o : Int} {acc : Nat} (hz : okz z c) (x0 : 0 ≤ x ∧ x + 1 < 3300) (ez : h 297 (x + 1) = z) (i0 : 0 ≤ i ∧ i < z) (ho : h 297 (c + 2 * i) = o) (n1 : ¬ o = 1 ∨ 8 ≤ h 297 (c + 2 * i + 1)) (k : wN d Q x c acc (i + 1) h) : wN d Q x c acc i h := by
  unfold okz at hz
  have go : wf d M_X7_namesIn Q 88 [some (.inr (.inr 294)), none, some (.inl x), some (.inl (acc : Int)), some (.inl c), some (.inl i)] [] h := by
    refine B_X7_namesIn_88 ?_
    rw [w32e (by omega) (by omega)]
    exact k
  refine B_X7_namesIn_21 ?_
  rw [w32e (z := x + 1) (by omega) (by omega), ez, w32e (z := 2 * i) (by omega) (by omega), w32e (z := c + 2 * i) (by omega) (by omega), w32e (z := c + 2 * i + 1) (by omega) (by omega), ho]
  refine ⟨by omega, by omega, fun q => by omega, fun _ => ⟨by omega, by omega, fun _ => go, fun q => ⟨by omega, by omega, fun _ => go, fun q2 => by omega⟩⟩⟩
theorem wN_name {x c i z : Int} {acc k0 : Nat} (hz : okz z c) (x0 : 0 ≤ x ∧ x + 1 < 3300) (ez : h 297 (x + 1) = z) (i0 : 0 ≤ i ∧ i < z) (ho : h 297 (c + 2 * i) = 1) (hv : h 297 (c + 2 * i + 1) = k0) (k8 : k0 < 8) (ha : acc < 256) (k : wN d Q x c (acc ||| 2 ^ k0) (i + 1) h) : wN d Q x c acc i h := by
  unfold okz at hz
  have p8 : 2 ^ k0 < 256 := Nat.pow_lt_pow_right (n := 8) (by decide) k8
  refine B_X7_namesIn_21 ?_
  rw [w32e (z := x + 1) (by omega) (by omega), ez, w32e (z := 2 * i) (by omega) (by omega), w32e (z := c + 2 * i) (by omega) (by omega), w32e (z := c + 2 * i + 1) (by omega) (by omega), ho, hv, ishl1 (by omega), ior_n (by omega) (by omega)]
  refine ⟨by omega, by omega, fun q => by omega, fun _ => ⟨by omega, by omega, fun q => absurd rfl q, fun _ => ⟨by omega, by omega, fun q => by omega, fun _ => B_X7_namesIn_88 ?_⟩⟩⟩
  rw [w32e (by omega) (by omega)]
  exact k
def nscan (d : Nat) (Q : Int → am_H → Prop) (h : am_H) (x c z : Int) (e : Ex) (_ : Bool) : Prop := ∀ (i : Int) (acc : Nat), rat (h 297) c i e → 0 ≤ i → i + ly e ≤ z → acc < 256 → (acc ||| nx e < 256 → wN d Q x c (acc ||| nx e) (i + ly e) h) → wN d Q x c acc i h
theorem nscan_all {l : Bool} {x c z : Int} (hz : okz z c) (x0 : 0 ≤ x ∧ x + 1 < 3300) (ez : h 297 (x + 1) = z) : ∀ e s, ws l e s → nscan d Q h x c z e s := by
  refine ex_ind (fun v h0 h1 => ?_) (fun k q => ?_) (fun t a ht wa ih => ?_) (fun a wa ih => ?_) (fun t a e t0 t1 wa we i1 i2 => ?_) (fun t a e t0 t1 wa we i1 i2 => ?_) (fun t a e ht wa we i1 i2 => ?_) (fun g a e wg wa we i1 i2 i3 => ?_)
  · intro i acc r i0 i1 ha k
    simp only [rat, ly, nx, Nat.or_zero] at r i1 k
    exact wN_skip hz x0 ez (by omega) r.1 (Or.inl (by omega)) (k ha)
  · intro i acc r i0 i1 ha kk
    simp only [rat, ly, nx] at r i1 kk
    by_cases c8 : k < 8
    · rw [if_pos c8] at kk
      exact wN_name hz x0 ez (by omega) r.1 r.2 c8 ha (kk (Nat.or_lt_two_pow (n := 8) ha (Nat.pow_lt_pow_right (n := 8) (by decide) c8)))
    · rw [if_neg c8, Nat.or_zero] at kk
      exact wN_skip hz x0 ez (by omega) r.1 (Or.inr (by rw [r.2]; omega)) (kk ha)
  · intro i acc r i0 i1 ha k
    simp only [rat, ly, nx] at r i1 k
    have p := lx_pos a _ wa
    refine ih i acc r.1 i0 (by omega) ha (fun q => wN_skip hz x0 ez (by omega) r.2 (Or.inl ?_) ?_)
    · rcases ht with rfl | rfl <;> decide
    · rw [show i + (ly a : Int) + 1 = i + ((ly a + 1 : Nat) : Int) by omega]; exact k q
  · intro i acc r i0 i1 ha k
    simp only [rat, ly, nx] at r i1 k
    have p := lx_pos a _ wa
    refine ih i acc r.1 i0 (by omega) ha (fun q => wN_skip hz x0 ez (by omega) r.2 (Or.inl (by decide)) ?_)
    rw [show i + (ly a : Int) + 1 = i + ((ly a + 1 : Nat) : Int) by omega]; exact k q
  all_goals first
    | (intro i acc r i0 i1' ha k
       simp only [rat, ly, nx] at r i1' k
       have p := lx_pos a _ wa
       have p2 := lx_pos e _ we
       refine i1 i acc r.1 i0 (by omega) ha (fun q => i2 (i + ly a) _ r.2.1 (by omega) (by omega) q (fun q2 => wN_skip hz x0 ez (by omega) r.2.2 (Or.inl ?_) ?_))
       · unfold o2r; split <;> omega
       · rw [Nat.or_assoc] at q2 ⊢
         rw [show i + (ly a : Int) + ly e + 1 = i + ((ly a + ly e + 1 : Nat) : Int) by omega]; exact k q2)
    | (intro i acc r i0 i1' ha k
       simp only [rat, ly, nx] at r i1' k
       have p := lx_pos g _ wg
       have p2 := lx_pos a _ wa
       have p3 := lx_pos e _ we
       refine i1 i acc r.1 i0 (by omega) ha (fun q => i2 (i + ly g) _ r.2.1 (by omega) (by omega) q (fun q2 => i3 (i + ly g + ly a) _ r.2.2.1 (by omega) (by omega) q2 (fun q3 => wN_skip hz x0 ez (by omega) r.2.2.2 (Or.inl (by decide)) ?_)))
       rw [Nat.or_assoc, Nat.or_assoc, ← Nat.or_assoc (nx g)] at q3 ⊢
       rw [show i + (ly g : Int) + ly a + ly e + 1 = i + ((ly g + ly a + ly e + 1 : Nat) : Int) by omega]; exact k q3)
theorem c_X7_namesIn {b s : Bool} {x : Int} {e : Ex} (t0 : 0 ≤ t ∧ t ≤ 3) (x0 : 0 ≤ x ∧ x + 1 < 3300) (r : rsum h t x e) (hw : ws b e s) (k : Q ((nx e : Nat) : Int) h) : cf d M_X7_namesIn [.inr (.inr 294), .inl t, .inl x] h Q := by
  obtain ⟨r1, r2, r3, r4⟩ := r
  refine cf_of pX7 (Nat.le_of_ble_eq_true rfl) rfl (fun _ => B_X7_namesIn_0 ?_)
  rw [w32e (z := 825 * t) (by omega) (by omega), w32e (z := 825 * t + 217) (by omega) (by omega)]
  refine ⟨by omega, by omega, nscan_all (z := h 297 x + ly e) (by unfold okz; omega) x0 r2 e s hw (h 297 x) 0 r1 r3 (Int.le_refl _) (by decide) (fun q => ?_)⟩
  rw [Nat.zero_or]
  refine B_X7_namesIn_21 ?_
  rw [w32e (z := x + 1) (by omega) (by omega)]
  exact ⟨by omega, by omega, fun _ => k, fun q => by omega⟩
theorem c_X7_sumsOf {k0 : Int} (k : Q (if k0 = 1 then 3 else if k0 = 3 then 1 else 2) h) : cf d M_X7_sumsOf [.inl k0] h Q := by
  refine cf_of pX7 (Nat.le_of_ble_eq_true rfl) rfl (fun _ => B_X7_sumsOf_0 ⟨fun c => ⟨fun c2 => ?_, fun c2 => ?_⟩, fun c => ?_⟩)
  · rw [if_neg c, if_neg c2] at k; exact k
  · rw [if_neg c, if_pos c2] at k; exact k
  · rw [if_pos c] at k; exact k
/-- the FIELDS that a CLAUSE of a FIELD or a must names -/
theorem c_X7_namesOf {c : Int} (r : rtx h t tx) (ok : okx tx) (c0 : 0 ≤ c ∧ c < tx.length) (hk : (cl tx c).1 ≤ 3) (k : Q ((ncl (cl tx c) : Nat) : Int) h) : cf (d + 1) M_X7_namesOf [.inr (.inr 294), .inl t, .inl c] h Q := by
  have t0 := r.1
  have l24 := ok.1
  have rc := r.2.2 c c0.1 c0.2
  have oc : okc (cl tx c) := by
    have := ok.2.1 _ (cl_mem (tx := tx) (i := c.toNat) (by omega))
    rw [show ((c.toNat : Nat) : Int) = c by omega] at this
    exact this
  have w0 : ∃ s, ws false (cl tx c).2.2.2.1 s := by
    by_cases q : (cl tx c).1 = 3
    · exact ⟨true, oc.2.2.1 q⟩
    · exact ⟨false, (oc.2.1 (by omega)).2.1⟩
  obtain ⟨s0, w0⟩ := w0
  have n0 := nx_lt _ _ w0
  have base0 : 0 ≤ 825 * t + 1 + 9 * c ∧ 825 * t + 1 + 9 * c + 9 < 3300 := by omega
  have z2 : ¬ (cl tx c).1 = 1 → nx (cl tx c).2.2.2.2.2 = 0 := fun q => by rw [oc.2.2.2.2.2.1 q]; rfl
  have z1 : (cl tx c).1 = 3 → nx (cl tx c).2.2.2.2.1 = 0 := fun q => by rw [oc.2.2.2.2.2.2.1 (by omega)]; rfl
  unfold ncl at k
  refine cf_of pX7 (Nat.le_of_ble_eq_true rfl) rfl (fun _ => B_X7_namesOf_0 (c_X7_clauseAt t0 (by omega) ?_))
  refine B_X7_namesOf_12 ⟨by omega, by omega, ?_⟩
  rw [rc.1]
  refine c_X7_sumsOf ⟨fun q => by exfalso; revert q; repeat' split
                                  all_goals omega, fun _ => ?_⟩
  rw [w32e (z := 825 * t + 1 + 9 * c + 3) (by omega) (by omega), show am_w32 (2 * 0) = 0 from w32e (by omega) (by omega), Int.add_zero, w32e (z := 825 * t + 1 + 9 * c + 3) (by omega) (by omega)]
  refine c_X7_namesIn t0 (by omega) (rc.2.2.1 (by omega)) w0 ?_
  rw [show (0 : Int) = ((0 : Nat) : Int) from rfl, ior_n (by omega) (by omega), Nat.zero_or, show am_w32 (((0 : Nat) : Int) + 1) = 1 from w32e (by omega) (by omega)]
  refine B_X7_namesOf_12 ⟨by omega, by omega, ?_⟩
  rw [rc.1]
  by_cases q3 : (cl tx c).1 = 3
  · refine c_X7_sumsOf ⟨fun _ => ?_, fun q => by rw [if_neg (by omega), if_pos q3] at q; omega⟩
    rw [z1 q3, z2 (by omega), Nat.or_zero, Nat.or_zero] at k
    exact k
  · have w1 := (oc.2.1 (by omega)).2.2
    have n1 := nx_lt _ _ w1.1
    have n01 := Nat.or_lt_two_pow (n := 8) n0 n1
    refine c_X7_sumsOf ⟨fun q => by exfalso; revert q; repeat' split
                                    all_goals omega, fun _ => ?_⟩
    rw [w32e (z := 825 * t + 1 + 9 * c + 3) (by omega) (by omega), show am_w32 (2 * 1) = 2 from w32e (by omega) (by omega), show 825 * t + 1 + 9 * c + 3 + 2 = 825 * t + 1 + 9 * c + 5 by omega, w32e (z := 825 * t + 1 + 9 * c + 5) (by omega) (by omega)]
    refine c_X7_namesIn t0 (by omega) (rc.2.1 (by omega)).2 w1.1 ?_
    rw [ior_n (by omega) (by omega), show am_w32 (1 + 1) = 2 from w32e (by omega) (by omega)]
    refine B_X7_namesOf_12 ⟨by omega, by omega, ?_⟩
    rw [rc.1]
    by_cases q1 : (cl tx c).1 = 1
    · have n2 := nx_lt _ _ w1.2
      refine c_X7_sumsOf ⟨fun q => by rw [if_pos q1] at q; omega, fun _ => ?_⟩
      rw [w32e (z := 825 * t + 1 + 9 * c + 3) (by omega) (by omega), show am_w32 (2 * 2) = 4 from w32e (by omega) (by omega), show 825 * t + 1 + 9 * c + 3 + 4 = 825 * t + 1 + 9 * c + 7 by omega, w32e (z := 825 * t + 1 + 9 * c + 7) (by omega) (by omega)]
      refine c_X7_namesIn t0 (by omega) (rc.2.2.2.1 q1) w1.2 ?_
      rw [ior_n (by omega) (by omega), show am_w32 (2 + 1) = 3 from w32e (by omega) (by omega)]
      refine B_X7_namesOf_12 ⟨by omega, by omega, ?_⟩
      rw [rc.1]
      refine c_X7_sumsOf ⟨fun _ => k, fun q => by rw [if_pos q1] at q; omega⟩
    · rw [z2 q1, Nat.or_zero] at k
      refine c_X7_sumsOf ⟨fun _ => k, fun q => by rw [if_neg q1, if_neg q3] at q; omega⟩
theorem bkn_told {s : Nat} (o : okr tx ρ) : bkn ρ (s &&& told tx) = bkn ρ s := by
  have iff : bkn ρ (s &&& told tx) = true ↔ bkn ρ s = true := by
    rw [bkn_iff, bkn_iff]
    constructor
    · rintro ⟨f, hf, q1, q2⟩
      rw [Nat.testBit_and, Bool.and_eq_true] at q1
      exact ⟨f, hf, q1.1, q2⟩
    · rintro ⟨f, hf, q1, q2⟩
      refine ⟨f, hf, ?_, q2⟩
      rw [Nat.testBit_and, q1, told_bit hf]
      have := (o.1 f hf).2.1
      have : 0 ≤ co tx f := by omega
      simp [this]
  cases a : bkn ρ (s &&& told tx) <;> cases b : bkn ρ s <;> simp [a, b] at iff ⊢
end RREAD4
