section READ
variable {d : Nat} {h : am_H} {Q : Int → am_H → Prop} {A T : Int} {tx : List Cl} {base size deep : Int} {ρ : Rd}
theorem told_bit2 {f : Nat} (hf : f < 8) : ((told tx).testBit f = true → 0 ≤ co tx f) ∧ ((told tx).testBit f = false → co tx f < 0) := by
  rw [told_bit hf]
  exact ⟨fun q => by simpa using q, fun q => by simpa using q⟩
theorem rd0_v {f : Nat} (hf : f < 8) : (0 ≤ co tx f → rd0 tx deep f 0 = -1 ∧ rd0 tx deep f 1 = -1 ∧ rd0 tx deep f 2 = -1 ∧ rd0 tx deep f 3 = 1) ∧ (co tx f < 0 → rd0 tx deep f 0 = 0 ∧ rd0 tx deep f 1 = 0 ∧ rd0 tx deep f 2 = 0 ∧ rd0 tx deep f 3 = 3) ∧ rd0 tx deep f 4 = 0 := by
  unfold rd0
  refine ⟨fun q => ?_, fun q => ?_, ?_⟩
  · simp [hf, q]
  · have : ¬ 0 ≤ co tx f := by omega
    simp [hf, this]
  · simp [hf]
theorem rd0_8 : rd0 tx deep 8 0 = deep ∧ rd0 tx deep 8 1 = -1 ∧ rd0 tx deep 8 4 = 0 := by
  unfold rd0
  simp
theorem okr_0 : okr tx (rd0 tx deep) := by
  refine ⟨fun f hf => ?_, by rw [rd0_8.2.2]; decide, by rw [rd0_8.2.1]; decide⟩
  have v := rd0_v (tx := tx) (deep := deep) hf
  by_cases c : 0 ≤ co tx f
  · obtain ⟨v0, v1, v2, v3⟩ := v.1 c
    rw [v0, v1, v2, v3, v.2.2]
    exact ⟨by omega, by omega, by omega, by omega, fun _ => ⟨rfl, rfl, rfl⟩, fun _ => rfl⟩
  · obtain ⟨v0, v1, v2, v3⟩ := v.2.1 (by omega)
    rw [v0, v1, v2, v3, v.2.2]
    exact ⟨by omega, by omega, by omega, by omega, fun q => by omega, fun _ => rfl⟩
theorem l_X3_begin (tA : am_kd 321 A = 13) : ∀ (n : Nat) (v : Nat) (g : am_H), v + n = 8 → g A 3 = (told tx : Nat) →
    (∀ g2, (∀ b : Int, ¬ (A + 1 ≤ b ∧ b ≤ A + 4) → g2 b = g b) → (∀ f : Nat, f < v → g2 (A + 1) f = g (A + 1) f ∧ g2 (A + 2) f = g (A + 2) f ∧ g2 (A + 3) f = g (A + 3) f ∧ g2 (A + 4) f = g (A + 4) f) → (∀ f : Nat, v ≤ f → f < 8 → g2 (A + 1) f = rd0 tx deep f 0 ∧ g2 (A + 2) f = rd0 tx deep f 1 ∧ g2 (A + 3) f = rd0 tx deep f 2 ∧ g2 (A + 4) f = rd0 tx deep f 4) → Q 0 g2) →
    wf (d + 1) M_X3_begin Q 44 [some (.inr (.inr A)), none, none, none, none, some (.inl (v : Int)), none] [] g
  | 0, v, g, hv, g3, k => B_X3_begin_44 tA ⟨fun _ => k g (fun _ _ => rfl) (fun _ _ => ⟨rfl, rfl, rfl, rfl⟩) (fun f _ _ => by omega), fun c => by omega⟩
  | n + 1, v, g, hv, g3, k => by
    have hv8 : v < 8 := by omega
    have vv := rd0_v (tx := tx) (deep := deep) hv8
    have go : ∀ z : Int, z = rd0 tx deep v 0 → z = rd0 tx deep v 1 → z = rd0 tx deep v 2 → wf (d + 1) M_X3_begin Q 68 [some (.inr (.inr A)), none, none, none, none, some (.inl (v : Int)), none] [.inl z] g := by
      intro z z0 z1 z2
      refine B_X3_begin_68 tA ⟨by omega, by omega, ?_⟩
      rw [w32e (by omega) (by omega), show (v : Int) + 1 = ((v + 1 : Nat) : Int) by omega]
      refine l_X3_begin tA n (v + 1) _ (by omega) ?_ (fun g2 f2 lo hi => k g2 (fun b q => ?_) (fun f q => ?_) (fun f q q2 => ?_))
      · rw [am_up_ne (by omega), am_up_ne (by omega), am_up_ne (by omega), am_up_ne (by omega)]
        exact g3
      · rw [f2 b q]
        funext j
        rw [am_up_ne (by omega), am_up_ne (by omega), am_up_ne (by omega), am_up_ne (by omega)]
      · obtain ⟨a1, a2, a3, a4⟩ := lo f (by omega)
        refine ⟨a1.trans ?_, a2.trans ?_, a3.trans ?_, a4.trans ?_⟩ <;> rw [am_up_ne (by omega), am_up_ne (by omega), am_up_ne (by omega), am_up_ne (by omega)]
      · by_cases e : f = v
        · subst e
          obtain ⟨a1, a2, a3, a4⟩ := lo f (by omega)
          refine ⟨a1.trans ?_, a2.trans ?_, a3.trans ?_, a4.trans ?_⟩
          · rw [am_up_ne (by omega), am_up_ne (by omega), am_up_ne (by omega), am_up_at]; exact z0
          · rw [am_up_ne (by omega), am_up_ne (by omega), am_up_at]; exact z1
          · rw [am_up_ne (by omega), am_up_at]; exact z2
          · rw [am_up_at]; exact vv.2.2.symm
        · exact hi f (by omega) q2
    refine B_X3_begin_44 tA ⟨fun c => by omega, fun _ => ?_⟩
    rw [g3]
    refine c_X6_hasBit (by have := told_lt (tx := tx); omega) (by omega) (fun q => ⟨fun c => by omega, fun _ => ?_⟩) (fun q => ⟨fun _ => ?_, fun c => absurd rfl c⟩)
    · have r := vv.1 ((told_bit2 hv8).1 q)
      exact go (-1) r.1.symm r.2.1.symm r.2.2.1.symm
    · have r := vv.2.1 ((told_bit2 hv8).2 q)
      exact go 0 r.1.symm r.2.1.symm r.2.2.1.symm
theorem c_X3_begin (hA : A = 220 ∨ A = 225 ∨ A = 230) (k : ∀ h2, fR h h2 A → (∀ b : Int, ¬ (A ≤ b ∧ b ≤ A + 4) → h2 b = h b) → crd h2 A tx base size deep (rd0 tx deep) → Q 0 h2) : cf (d + 1) M_X3_begin [.inr (.inr A), .inl ((told tx : Nat) : Int), .inl deep, .inl base, .inl size] h Q := by
  have tA := kd_A hA
  refine cf_of pX3 (Nat.le_of_ble_eq_true rfl) rfl (fun _ => B_X3_begin_0 tA ?_)
  refine l_X3_begin (tx := tx) (deep := deep) tA 8 0 _ (by omega) ?_ (fun g2 f2 _ hi => ?_)
  · rw [am_up_ne (by omega), am_up_ne (by omega), am_up_ne (by omega), am_up_ne (by omega), am_up_at]
  · have eA := f2 A (by omega)
    have eo : ∀ b : Int, ¬ (A ≤ b ∧ b ≤ A + 4) → g2 b = h b := by
      intro b q
      rw [f2 b (by omega)]
      funext j
      rw [am_up_ne (by omega), am_up_ne (by omega), am_up_ne (by omega), am_up_ne (by omega), am_up_ne (by omega), am_up_ne (by omega), am_up_ne (by omega), am_up_ne (by omega)]
    refine k g2 ⟨fun b q => eo b (by omega), fun j q1 q2 => by rw [eo 218 (by omega)]⟩ eo ⟨⟨?_, ?_, ?_, ?_⟩, ⟨told tx, told_lt, ?_, fun f hf => ?_⟩, ⟨0, by omega, ?_, fun f hf => ?_⟩, fun f hf => hi f (by omega) hf, ?_, ?_⟩
    · rw [eA, am_up_ne (by omega), am_up_ne (by omega), am_up_ne (by omega), am_up_ne (by omega), am_up_ne (by omega), am_up_ne (by omega), am_up_ne (by omega), am_up_at]
    · rw [eA, am_up_ne (by omega), am_up_ne (by omega), am_up_ne (by omega), am_up_ne (by omega), am_up_ne (by omega), am_up_ne (by omega), am_up_at]
    · rw [eA, am_up_ne (by omega), am_up_ne (by omega), am_up_ne (by omega), am_up_ne (by omega), am_up_ne (by omega), am_up_at]
    · rw [eA, am_up_ne (by omega), am_up_ne (by omega), am_up_ne (by omega), am_up_ne (by omega), am_up_at]
    · rw [eA, am_up_ne (by omega), am_up_ne (by omega), am_up_ne (by omega), am_up_at]
    · rw [told_bit hf]
      have vv := rd0_v (tx := tx) (deep := deep) hf
      by_cases c : 0 ≤ co tx f
      · rw [(vv.1 c).2.2.2]; simp [c]
      · rw [(vv.2.1 (by omega)).2.2.2]; simp [c]
    · rw [eA, am_up_ne (by omega), am_up_ne (by omega), am_up_at]; rfl
    · have vv := rd0_v (tx := tx) (deep := deep) hf
      by_cases c : 0 ≤ co tx f
      · rw [(vv.1 c).2.2.2]; simp
      · rw [(vv.2.1 (by omega)).2.2.2]; simp
    · rw [eA, am_up_ne (by omega), am_up_at, rd0_8.2.1]
    · rw [eA, am_up_at, rd0_8.2.2]
theorem c_X2_readingAt (hd : deep = 0 ∨ deep = 1 ∨ deep = 2) (k : Q (220 + 5 * deep) h) : cf d M_X2_readingAt [.inr (.inr 218), .inl deep] h Q := by
  refine cf_of pX2 (Nat.le_of_ble_eq_true rfl) rfl (fun _ => B_X2_readingAt_0 ⟨fun c => ⟨fun c2 => ?_, fun c2 => ?_⟩, fun c => ?_⟩)
  · rw [show deep = 2 by omega] at k; exact k
  · rw [c2] at k; exact k
  · rw [show deep = 0 by omega] at k; exact k
/-- what is known of a FIELD -/
theorem c_X3_isKnown {f : Nat} (tA : am_kd 321 A = 13) (hf : f < 8) (c : crd h A tx base size deep ρ) (o : okr tx ρ) (k1 : 0 ≤ co tx f → ¬ ρ f 3 = 1 → Q 1 h) (k0 : co tx f < 0 ∨ ρ f 3 = 1 → Q 0 h) : cf (d + 1) M_X3_isKnown [.inr (.inr A), .inl (f : Int)] h Q := by
  obtain ⟨⟨_, _, _, c3⟩, ⟨bk, b1, b2, b3⟩, _⟩ := c
  refine cf_of pX3 (Nat.le_of_ble_eq_true rfl) rfl (fun _ => B_X3_isKnown_0 tA ?_)
  have tl := told_lt (tx := tx)
  rw [c3, b2, andn_n (by omega)]
  refine c_X6_hasBit (Nat.lt_of_le_of_lt Nat.and_le_left (by omega)) (by omega) (fun q => ⟨Or.inr rfl, ?_⟩) (fun q => ⟨Or.inl rfl, ?_⟩)
  · rw [andn_bit (by omega), told_bit hf, b3 f hf, Bool.and_eq_true] at q
    exact k1 (by simpa using q.1) (by simpa using q.2)
  · rw [andn_bit (by omega), told_bit hf, b3 f hf] at q
    refine k0 ?_
    by_cases c : co tx f < 0
    · exact Or.inl c
    · have c' : 0 ≤ co tx f := by omega
      simp [c'] at q
      exact Or.inr q
theorem c_X3_how {f : Nat} (tA : am_kd 321 A = 13) (hf : f < 8) (c : crd h A tx base size deep ρ) (o : okr tx ρ) (k : Q (ρ f 3) h) : cf (d + 1) M_X3_how [.inr (.inr A), .inl (f : Int)] h Q := by
  obtain ⟨⟨_, _, _, c3⟩, ⟨bk, b1, b2, b3⟩, ⟨wr, w1, w2, w3⟩, _⟩ := c
  have tl := told_lt (tx := tx)
  have of := o.1 f hf
  refine cf_of pX3 (Nat.le_of_ble_eq_true rfl) rfl (fun _ => B_X3_how_0 tA ?_)
  rw [c3]
  refine c_X6_hasBit (by omega) (by omega) (fun q => ⟨fun _ => ?_, fun z => by omega⟩) (fun q => ⟨fun z => absurd rfl z, fun _ => ?_⟩)
  · have t := (told_bit2 hf).1 q
    rw [b2]
    refine c_X6_hasBit (by omega) (by omega) (fun q2 => ⟨fun z => by omega, fun _ => ?_⟩) (fun q2 => ⟨fun _ => ?_, fun z => absurd rfl z⟩)
    · rw [b3 f hf] at q2
      rw [show ρ f 3 = 1 by simpa using q2] at k
      exact k
    · rw [b3 f hf] at q2
      have q3 : ¬ ρ f 3 = 1 := by simpa using q2
      rw [w2]
      refine c_X6_hasBit (by omega) (by omega) (fun q4 => ⟨fun z => by omega, fun _ => ?_⟩) (fun q4 => ⟨fun _ => ?_, fun z => absurd rfl z⟩)
      · rw [w3 f hf] at q4
        rw [show ρ f 3 = 2 by simpa using q4] at k
        exact k
      · rw [w3 f hf] at q4
        have q5 : ¬ ρ f 3 = 2 := by simpa using q4
        rw [show ρ f 3 = 0 by omega] at k
        exact k
  · have t := (told_bit2 hf).2 q
    rw [show ρ f 3 = 3 by omega] at k
    exact k
theorem bits_none {s : Nat} {w : Int} (h1 : s < 256) (h2 : ∀ f, f < 8 → s.testBit f = decide (ρ f 3 = w)) : s = 0 ↔ ∀ f, f < 8 → ¬ ρ f 3 = w := by
  constructor
  · rintro rfl f hf q
    have := h2 f hf
    rw [Nat.zero_testBit] at this
    simp [q] at this
  · intro q
    refine bits_ext (n := 8) h1 (by decide) (fun f hf => ?_)
    rw [h2 f hf, Nat.zero_testBit]
    simp [q f hf]
theorem snd_iff : sndR ρ = true ↔ (∀ f, f < 8 → ρ f 3 = 0 ∨ ρ f 3 = 3) ∧ ρ 8 1 = -1 := by
  unfold sndR
  rw [Bool.and_eq_true, List.all_eq_true]
  constructor
  · rintro ⟨a, b⟩
    exact ⟨fun f hf => by simpa using a f (List.mem_range.mpr hf), by simpa using b⟩
  · rintro ⟨a, b⟩
    exact ⟨fun f hf => by simpa using a f (List.mem_range.mp hf), by simpa using b⟩
theorem c_X3_isSound (tA : am_kd 321 A = 13) (c : crd h A tx base size deep ρ) (o : okr tx ρ) (k1 : sndR ρ = true → Q 1 h) (k0 : ¬ sndR ρ = true → Q 0 h) : cf d M_X3_isSound [.inr (.inr A)] h Q := by
  obtain ⟨_, ⟨bk, b1, b2, b3⟩, ⟨wr, w1, w2, w3⟩, _, c10, _⟩ := c
  have eb := bits_none b1 b3
  have ew := bits_none w1 w3
  rw [snd_iff] at k1 k0
  refine cf_of pX3 (Nat.le_of_ble_eq_true rfl) rfl (fun _ => B_X3_isSound_0 tA ?_)
  rw [b2, w2, c10]
  refine ⟨fun z => k0 (fun q => z ?_), fun z => ⟨fun z2 => k0 (fun q => z2 ?_), fun z2 => ⟨fun z3 => k0 (fun q => z3 q.2), fun z3 => k1 ⟨fun f hf => ?_, z3⟩⟩⟩⟩
  · rw [eb.mpr (fun f hf e => by have := q.1 f hf; omega)]; rfl
  · rw [ew.mpr (fun f hf e => by have := q.1 f hf; omega)]; rfl
  · have a := eb.mp (by omega) f hf
    have b := ew.mp (by omega) f hf
    have := (o.1 f hf).1
    omega
theorem orN_lt {g : Nat → Nat} {m : Nat} : ∀ n, (∀ i, i < n → g i < 2 ^ m) → orN g n < 2 ^ m
  | 0, _ => Nat.pow_pos (by decide)
  | n + 1, q => Nat.or_lt_two_pow (orN_lt n (fun i hi => q i (by omega))) (q n (by omega))
theorem orN_congr {g g2 : Nat → Nat} : ∀ n, (∀ i, i < n → g i = g2 i) → orN g n = orN g2 n
  | 0, _ => rfl
  | n + 1, q => by simp only [orN]; rw [orN_congr n (fun i hi => q i (by omega)), q n (by omega)]
theorem sumN_congr {g g2 : Nat → Int} : ∀ n, (∀ i, i < n → g i = g2 i) → sumN g n = sumN g2 n
  | 0, _ => rfl
  | n + 1, q => by simp only [sumN]; rw [sumN_congr n (fun i hi => q i (by omega)), q n (by omega)]
/-- what some FIELDS look at -/
def lkS (ρ : Rd) (s : Nat) : Nat := orN (fun f => if s.testBit f = true then (ρ f 4).toNat else 0) 8
theorem l_X3_looksOf {s : Nat} (tA : am_kd 321 A = 13) (hs : s < 256) (c : crd h A tx base size deep ρ) (o : okr tx ρ) : ∀ (n v : Nat), v + n = 8 → Q ((lkS ρ s : Nat) : Int) h → wf (d + 1) M_X3_looksOf Q 5 [some (.inr (.inr A)), some (.inl (s : Int)), some (.inr (.inl ((orN (fun f => if s.testBit f = true then (ρ f 4).toNat else 0) v : Nat) : Int))), none, some (.inl (v : Int))] [] h
  | 0, v, hv, k => by
    have : v = 8 := by omega
    subst this
    exact B_X3_looksOf_5 tA ⟨fun _ => k, fun z => by omega⟩
  | n + 1, v, hv, k => by
    have ih := l_X3_looksOf (s := s) tA hs c o n (v + 1) (by omega) k
    have hv8 : v < 8 := by omega
    have e4 := (c.2.2.2.1 v hv8).2.2.2
    have o4 := (o.1 v hv8).2.2.2.1
    have lo : orN (fun f => if s.testBit f = true then (ρ f 4).toNat else 0) v < 2 ^ 40 := orN_lt v (fun i hi => by
      have := (o.1 i (by omega)).2.2.2.1
      split <;> omega)
    simp only [orN] at ih
    refine B_X3_looksOf_5 tA ⟨fun z => by omega, fun _ => c_X6_hasBit (by omega) (by omega) (fun q => ⟨fun z => by omega, fun _ => ⟨by omega, B_X3_looksOf_33 tA ?_⟩⟩) (fun q => ⟨fun _ => B_X3_looksOf_33 tA ?_, fun z => absurd rfl z⟩)⟩
    · rw [if_pos q] at ih
      rw [e4, show ρ v 4 = (((ρ v 4).toNat : Nat) : Int) by omega, lor_n (by omega) (by omega), w32e (by omega) (by omega)]
      exact ih
    · rw [if_neg (by rw [q]; decide), Nat.or_zero] at ih
      rw [show (0 : Int) = ((0 : Nat) : Int) from rfl, lor_n (by omega) (by omega), Nat.or_zero, w32e (by omega) (by omega)]
      exact ih
theorem c_X3_looksOf {s : Nat} (tA : am_kd 321 A = 13) (hs : s < 256) (c : crd h A tx base size deep ρ) (o : okr tx ρ) (k : Q ((lkS ρ s : Nat) : Int) h) : cf (d + 1) M_X3_looksOf [.inr (.inr A), .inl (s : Int)] h Q :=
  cf_of pX3 (Nat.le_of_ble_eq_true rfl) rfl (fun _ => B_X3_looksOf_0 tA (l_X3_looksOf (s := s) tA hs c o 8 0 (by omega) k))
theorem lkS_lt {s : Nat} (o : okr tx ρ) : lkS ρ s < 2 ^ 40 := orN_lt 8 (fun i hi => by
  have := (o.1 i (by omega)).2.2.2.1
  split <;> omega)
theorem lkS_all : lkS ρ 255 = orN (fun f => (ρ f 4).toNat) 8 := by
  refine orN_congr 8 (fun i hi => ?_)
  have : (255 : Nat).testBit i = true := by
    rw [show (255 : Nat) = 2 ^ 8 - 1 from rfl, Nat.testBit_two_pow_sub_one]
    simp [hi]
  rw [if_pos this]
end READ
