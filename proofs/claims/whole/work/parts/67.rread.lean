section RREAD3
variable {d : Nat} {h : am_H} {Q : Int → am_H → Prop} {t l : Int} {tx : List Cl} {base size : Int} {ρ : Rd} {β : Int → Int}
theorem slk_f {p o z : Int} (h0 : 0 ≤ p) (h1 : p < 40) (ho : 0 ≤ o ∧ o ≤ z ∧ z ≤ 40) : slk false p o z = spn o.toNat z.toNat ||| 2 ^ p.toNat := by
  unfold slk
  rw [if_neg (by decide), show (p + 1).toNat = p.toNat + 1 by omega, spn_one]
  have p2 : 2 ^ p.toNat < 2 ^ 40 := Nat.pow_lt_pow_right (by decide) (by omega)
  have s2 : spn o.toNat z.toNat < 2 ^ 40 := Nat.lt_of_lt_of_le (spn_lt (by omega)) (Nat.pow_le_pow_right (by decide) (by omega))
  refine bits_ext (n := 40) (Nat.or_lt_two_pow (bset_lt 40) p2) (Nat.or_lt_two_pow s2 p2) (fun i hi => ?_)
  rw [Nat.testBit_or, Nat.testBit_or, bset_bit, pow_bit]
  cases a : (spn o.toNat z.toNat).testBit i <;> cases b : decide (p.toNat = i) <;> simp [hi]
theorem c_X7_readSum {f : Nat} {inn : Int → Int → Option Rd} (s : rst h t tx β) (e43 : h 294 43 = l) (l0 : 0 ≤ l ∧ l ≤ 2) (r : rlv h l tx base size ρ) (o : okr tx ρ) (hb : 0 ≤ base ∧ 0 ≤ size ∧ base + size ≤ 40) (c : rce false h (nmR ρ l size) β base) (he : eok false (nmR ρ l size) β base) (hf : f < 8) (hc : 0 ≤ co tx f) (hk : kdf tx f = 1)
    (k : ∀ h2, fE h h2 (8 * l + f) → rlv h2 l tx base size (stepV tx β false base size inn ρ f (fa tx β l base size ρ f) (fz tx β l base size ρ f) (fo tx β l base size ρ f) (fL tx β l base size ρ f)) → Q 0 h2) : cf (d + 4) M_X7_readSum [.inr (.inr 294), .inl t, .inl (f : Int)] h Q := by
  have rf := rtx_f s hf hc
  have w := fcl_ws s.2.1 hc
  have e5 := (s.2.2.1.1 f hf).1
  have eo : fo tx β l base size ρ f = ev (nmR ρ l size) β base (fcl tx f).2.2.2.2.2 := by unfold fo; rw [if_pos hk]
  have eL : fL tx β l base size ρ f = (lk (nmR ρ l size) β base (fcl tx f).2.2.2.1 ||| lk (nmR ρ l size) β base (fcl tx f).2.2.2.2.2) ||| lk (nmR ρ l size) β base (fcl tx f).2.2.2.2.1 := by unfold fL; rw [if_pos hk]
  have ba : -16777215 ≤ fa tx β l base size ρ f ∧ fa tx β l base size ρ f ≤ 16777215 := (ev_bd he _ _ w.1).1
  have bz : -16777215 ≤ fz tx β l base size ρ f ∧ fz tx β l base size ρ f ≤ 16777215 := (ev_bd he _ _ w.2.1).1
  have bo : -16777215 ≤ fo tx β l base size ρ f ∧ fo tx β l base size ρ f ≤ 16777215 := by rw [eo]; exact (ev_bd he _ _ w.2.2.1).1
  have ll0 := lk_lt he _ _ w.1
  have ll1 := lk_lt he _ _ w.2.1
  have ll2 := lk_lt he _ _ w.2.2.1
  have l02 := Nat.or_lt_two_pow ll0 ll2
  have lL : fL tx β l base size ρ f < 2 ^ 40 := by rw [eL]; exact Nat.or_lt_two_pow l02 ll1
  refine cf_of pX7 (Nat.le_of_ble_eq_true rfl) rfl (fun _ => B_X7_readSum_0 ⟨by omega, by omega, ?_⟩)
  rw [e43, w32e (z := 8 * l) (by omega) (by omega), w32e (z := 8 * l + f) (by omega) (by omega), e5]
  refine c_X7_sumOf (d := d) rf.1 rf.2.1 (by omega) rf.2.2.2.1 w.1 he c (fun h4 f4 q4 _ => ⟨by omega, by omega, ?_⟩)
  rw [f4.1 305 (by omega), e5, q4]
  have r1 := rlv_look (L := lk (nmR ρ l size) β base (fcl tx f).2.2.2.1) hf (rlv_fB r f4)
  have g1 : fE h (am_up h4 316 (8 * l + f) ((lk (nmR ρ l size) β base (fcl tx f).2.2.2.1 : Nat) : Int)) (8 * l + f) := fE_trans (fE_fB f4) (fE_up (by omega))
  have s1 := rst_fE s g1
  have c1 := rce_fE c g1
  generalize hg1 : am_up h4 316 (8 * l + f) ((lk (nmR ρ l size) β base (fcl tx f).2.2.2.1 : Nat) : Int) = u1 at g1 s1 c1 r1
  refine c_X7_sumOf (d := d) rf.1 rf.2.1 (by omega) ((rtx_f s1 hf hc).2.2.2.2.2 hk) w.2.2.1 he c1 (fun h8 f8 q8 _ => ?_)
  have r8 := rlv_fB r1 f8
  have e316 : h8 316 (8 * l + f) = ((lk (nmR ρ l size) β base (fcl tx f).2.2.2.1 : Nat) : Int) := by
    have := (r8.2.2 f hf).2.2.1
    rw [putR_at] at this
    exact this
  have e305 : h8 305 f = co tx f := by rw [f8.1 305 (by omega), g1.1 305 (by omega)]; exact e5
  rw [e305, e316, q8, lor_n (by omega) (by omega)]
  have r2 := rlv_look (L := lk (nmR ρ l size) β base (fcl tx f).2.2.2.1 ||| lk (nmR ρ l size) β base (fcl tx f).2.2.2.2.2) hf r8
  rw [putput] at r2
  have g2 : fE h (am_up h8 316 (8 * l + f) ((lk (nmR ρ l size) β base (fcl tx f).2.2.2.1 ||| lk (nmR ρ l size) β base (fcl tx f).2.2.2.2.2 : Nat) : Int)) (8 * l + f) := fE_trans g1 (fE_trans (fE_fB f8) (fE_up (by omega)))
  generalize hg2 : am_up h8 316 (8 * l + f) ((lk (nmR ρ l size) β base (fcl tx f).2.2.2.1 ||| lk (nmR ρ l size) β base (fcl tx f).2.2.2.2.2 : Nat) : Int) = u2 at g2 r2
  refine c_X7_sumOf (d := d) rf.1 rf.2.1 (by omega) (rtx_f (rst_fE s g2) hf hc).2.2.2.2.1 w.2.1 he (rce_fE c g2) (fun h10 f10 q10 _ => ?_)
  have e1043 : h10 294 43 = l := by rw [f10.1 294 (by omega), g2.1 294 (by omega)]; exact e43
  have r10 := rlv_fB r2 f10
  have e317 : h10 316 (8 * l + f) = ((lk (nmR ρ l size) β base (fcl tx f).2.2.2.1 ||| lk (nmR ρ l size) β base (fcl tx f).2.2.2.2.2 : Nat) : Int) := by
    have := (r10.2.2 f hf).2.2.1
    rw [putR_at] at this
    exact this
  rw [e1043, r10.2.1, e317, q10, lor_n (by omega) (by omega), ← eL]
  have r3 := rlv_look (L := fL tx β l base size ρ f) hf r10
  rw [putput] at r3
  have g3 : fE h (am_up h10 316 (8 * l + f) ((fL tx β l base size ρ f : Nat) : Int)) (8 * l + f) := fE_trans g2 (fE_trans (fE_fB f10) (fE_up (by omega)))
  generalize hg3 : am_up h10 316 (8 * l + f) ((fL tx β l base size ρ f : Nat) : Int) = u3 at g3 r3
  have e2 : ∀ j, u3 294 j = h 294 j := fun j => by rw [g3.1 294 (by omega)]
  rw [show ev (nmR ρ l size) β base (fcl tx f).2.2.2.1 = fa tx β l base size ρ f from rfl, show ev (nmR ρ l size) β base (fcl tx f).2.2.2.2.1 = fz tx β l base size ρ f from rfl, ← eo]
  have b295 : ∀ i : Int, 0 ≤ i → i < 40 → u3 295 (8 + i) = β i := fun i i0 i1 => by rw [g3.1 295 (by omega)]; exact s.2.2.2.1 i i0 i1
  have b255 := s.2.2.2.2.1
  generalize fa tx β l base size ρ f = a at ba k ⊢
  generalize fz tx β l base size ρ f = z at bz k ⊢
  generalize fo tx β l base size ρ f = o1 at bo k ⊢
  generalize fL tx β l base size ρ f = L at lL k r3
  have bad : ¬ (0 ≤ o1 ∧ o1 ≤ z ∧ z ≤ size ∧ 0 ≤ a ∧ a < size) → Q 0 u3 := by
    intro y
    refine k u3 g3 ?_
    unfold stepV
    by_cases q : 0 ≤ o1 ∧ o1 ≤ z ∧ z ≤ size ∧ 0 ≤ a ∧ a ≤ size
    · rw [if_pos q, if_neg (by omega), if_pos hk, if_neg (by omega)]; exact r3
    · rw [if_neg q]; exact r3
  refine ⟨by omega, by omega, c_X7_isWithin (fun w1 w2 w3 => ⟨fun y => by omega, fun _ => ?_⟩) (fun y => ⟨fun _ => bad (by omega), fun y => absurd rfl y⟩)⟩
  rw [e2, e43, r3.2.1, w64e (z := a + 1) (by omega) (by omega)]
  refine ⟨by omega, by omega, c_X7_isWithin (fun w4 w5 w6 => ⟨fun _ => ?_, fun y => by omega⟩) (fun y => ⟨fun q => absurd rfl q, fun _ => bad (by omega)⟩)⟩
  rw [e2, e43, r3.1, l2i_id (by omega) (by omega), l2i_id (by omega) (by omega), l2i_id (by omega) (by omega), w32e (z := base + a) (by omega) (by omega), w32e (z := base + z) (by omega) (by omega), w32e (z := base + o1) (by omega) (by omega), w32e (z := base + z - 1) (by omega) (by omega), w32e (z := 8 + (base + a)) (by omega) (by omega)]
  refine ⟨by omega, by omega, c_X7_bytesFrom (by omega) (by omega) (by omega) (fun i i0 i1 => by rw [b295 i i0 i1]; exact b255 i i0 i1) ?_⟩
  have es : sm (u3 295) (8 + (base + o1)) (base + z - (base + o1)).toNat = sm β (base + o1) (base + z - (base + o1)).toNat := sm_congr _ _ _ (fun j j0 j1 => by rw [show 8 + (base + o1) + j = 8 + (base + o1 + j) by omega]; exact b295 _ (by omega) (by omega))
  have sb := sm_bd (f := β) (b := 255) (base + z - (base + o1)).toNat (base + o1) (fun j j0 j1 => b255 j (by omega) (by omega))
  have bpa : 0 ≤ β (base + a) ∧ β (base + a) ≤ 255 := b255 _ (by omega) (by omega)
  have sbut := sm_but (β := β) (b := base) (p := a) (base + z - (base + o1)).toNat o1
  have sbb := sm_bd (f := fun x => if x = a then 0 else β (base + x)) (b := 255) (base + z - (base + o1)).toNat o1 (fun j j0 j1 => by
    split
    · omega
    · exact b255 _ (by omega) (by omega))
  rw [sbut] at sbb
  rw [es]
  have fin : ∀ s1 : Int, s1 = (if base + o1 ≤ base + a ∧ base + a < base + z then β (base + a) else 0) → wf (d + 4) M_X7_readSum Q 216 [some (.inr (.inr 294)), none, none, some (.inl (8 * l + f)), some (.inr (.inl a)), none, none, none, none, none, some (.inl (base + a)), some (.inl (base + o1)), some (.inl (base + z)), none] [.inl s1, .inl (sm β (base + o1) (base + z - (base + o1)).toNat)] u3 := by
    intro s1 h1
    have ev1 : (sm β (base + o1) (base + z - (base + o1)).toNat - s1) % 256 = sval β (base + a) (base + o1) (base + z) := by rw [h1]; rfl
    have nn : 0 ≤ sm β (base + o1) (base + z - (base + o1)).toNat - s1 ∧ sm β (base + o1) (base + z - (base + o1)).toNat - s1 ≤ 20000 := by
      rw [h1]
      by_cases q : o1 ≤ a ∧ a < o1 + ((base + z - (base + o1)).toNat : Int)
      · rw [if_pos q] at sbb
        rw [if_pos (by omega)]
        omega
      · rw [if_neg (by omega)]; omega
    have vb : 0 ≤ sval β (base + a) (base + o1) (base + z) ∧ sval β (base + a) (base + o1) (base + z) < 256 := by rw [← ev1]; omega
    refine B_X7_readSum_216 ?_
    rw [w32e (z := sm β (base + o1) (base + z - (base + o1)).toNat - s1) (by omega) (by omega), Int.tmod_eq_emod_of_nonneg nn.1, ev1, w32e (z := sval β (base + a) (base + o1) (base + z)) (by omega) (by omega), w32e (z := 8 + (base + a)) (by omega) (by omega), b295 _ (by omega) (by omega), l2i_id (by omega) (by omega), w32e (z := a + 1) (by omega) (by omega)]
    have last : ∀ s5 : Int, s5 = (if β (base + a) = sval β (base + a) (base + o1) (base + z) then 0 else 2) → wf (d + 4) M_X7_readSum Q 255 [some (.inr (.inr 294)), none, none, some (.inl (8 * l + f)), none, none, none, none, none, none, some (.inl (base + a)), some (.inl (base + o1)), some (.inl (base + z)), none] [.inl s5, .inl (sval β (base + a) (base + o1) (base + z)), .inl (a + 1), .inl a, .inl (8 * l + f), .inr (.inr 294)] u3 := by
      intro s5 h5
      refine B_X7_readSum_255 (c_X7_settleField (by omega) ⟨by omega, by omega, c_X7_bitsFrom (by omega) (by omega) (by omega) ?_⟩)
      have r4 := rlv_set (v := sval β (base + a) (base + o1) (base + z)) (a := a) (z := a + 1) (w := s5) hf (by rw [putR_at]; omega) r3
      rw [putR_at, setput, show ((L : Nat) : Int).toNat = L by omega] at r4
      have g4 : fE h (am_up (am_up (am_up (am_up u3 313 (8 * l + f) a) 314 (8 * l + f) (a + 1)) 312 (8 * l + f) (sval β (base + a) (base + o1) (base + z))) 315 (8 * l + f) s5) (8 * l + f) := fE_trans g3 (fE_trans (fE_up (by omega)) (fE_trans (fE_up (by omega)) (fE_trans (fE_up (by omega)) (fE_up (by omega)))))
      have e4 := (r4.2.2 f hf).2.2.1
      rw [setR_at.2.2.2.2] at e4
      have sl : spn (base + o1).toNat (base + z).toNat < 2 ^ 40 := Nat.lt_of_lt_of_le (spn_lt (by omega)) (Nat.pow_le_pow_right (by decide) (by omega))
      have pl : 2 ^ (base + a).toNat < 2 ^ 40 := Nat.pow_lt_pow_right (by decide) (by omega)
      have esh : am_lshl 1 (base + a) = ((2 ^ (base + a).toNat : Nat) : Int) := by
        have := lshl_n (a := 1) (k := (base + a).toNat) (by omega) (by omega)
        rw [Nat.one_mul, show (((base + a).toNat : Nat) : Int) = base + a by omega] at this
        exact this
      have ek : (spn (base + o1).toNat (base + z).toNat ||| 2 ^ (base + a).toNat) = slk false (base + a) (base + o1) (base + z) := (slk_f (by omega) (by omega) (by omega)).symm
      have kl := slk_lt (vo := false) (p := base + a) (o := base + o1) (z := base + z) (by omega) (by omega)
      rw [e4, esh, lor_n (by omega) (by omega), ek, lor_n (by omega) (by omega)]
      have r5 := rlv_look (L := L ||| slk false (base + a) (base + o1) (base + z)) hf r4
      rw [putset] at r5
      refine k _ (fE_trans g4 (fE_up (by omega))) ?_
      unfold stepV
      rw [if_pos (by omega), if_neg (by omega), if_pos hk, if_pos (by omega), ← h5]
      exact r5
    exact ⟨by omega, by omega, fun y => last 2 (by rw [if_neg (fun q => y q.symm)]), fun y => last 0 (by rw [if_pos y.symm])⟩
  refine c_X7_isIn (fun q1 q2 => ⟨fun y => by omega, fun _ => ?_⟩) (fun q => ⟨fun _ => fin 0 (by rw [if_neg (by omega)]), fun y => absurd rfl y⟩)
  rw [b295 _ (by omega) (by omega)]
  exact ⟨by omega, by omega, fin _ (by rw [if_pos (by omega)])⟩
end RREAD3
