section RREAD2
variable {d : Nat} {h : am_H} {Q : Int → am_H → Prop} {t l : Int} {tx : List Cl} {base size : Int} {ρ : Rd} {β : Int → Int}
/-- a level is begun: what stays -/
def fG (h h2 : am_H) (l : Int) : Prop := (∀ b : Int, b ≠ 294 → b < 308 ∨ 316 < b → h2 b = h b) ∧ (∀ j : Int, j ≠ 43 → j ≠ 44 → h2 294 j = h 294 j) ∧ (∀ b j : Int, 308 ≤ b → b ≤ 311 → j ≠ l → h2 b j = h b j) ∧ ∀ b j : Int, 312 ≤ b → b ≤ 316 → j < 8 * l ∨ 8 * l + 8 ≤ j → h2 b j = h b j
theorem l_X7_beginLevel (l0 : 0 ≤ l ∧ l ≤ 2) (e32 : h 294 32 = (told tx : Nat)) (k : ∀ h2, fG h h2 l → h2 294 43 = h 294 43 → h2 294 44 = h 294 44 → (∀ b : Int, 308 ≤ b → b ≤ 311 → h2 b = h b) → (∀ f : Nat, f < 8 → h2 315 (8 * l + f) = rd0 tx l f 3 ∧ h2 312 (8 * l + f) = rd0 tx l f 0 ∧ h2 316 (8 * l + f) = rd0 tx l f 4 ∧ (0 ≤ co tx f → h2 313 (8 * l + f) = rd0 tx l f 1 ∧ h2 314 (8 * l + f) = rd0 tx l f 2)) → Q 0 h2) :
    ∀ (n f : Nat) (g : am_H), f + n = 8 → fG h g l → (∀ j, g 294 j = h 294 j) → (∀ b : Int, 308 ≤ b → b ≤ 311 → g b = h b) → (∀ i : Nat, i < f → g 315 (8 * l + i) = rd0 tx l i 3 ∧ g 312 (8 * l + i) = rd0 tx l i 0 ∧ g 316 (8 * l + i) = rd0 tx l i 4 ∧ (0 ≤ co tx i → g 313 (8 * l + i) = rd0 tx l i 1 ∧ g 314 (8 * l + i) = rd0 tx l i 2)) → wf (d + 1) M_X7_beginLevel Q 56 [some (.inr (.inr 294)), some (.inl l), none, none, some (.inl (f : Int))] [] g
  | 0, f, g, hf, fg, g4, gb, gi => B_X7_beginLevel_56 ⟨fun _ => k g fg (g4 43) (g4 44) gb (fun i hi => gi i (by omega)), fun c => by omega⟩
  | n + 1, f, g, hf, fg, g4, gb, gi => by
    have f8 : f < 8 := by omega
    have v := rd0_v (tx := tx) (deep := l) f8
    have tl := told_lt (tx := tx)
    have go : ∀ w z : Int, w = rd0 tx l f 3 → z = rd0 tx l f 0 → (0 ≤ co tx f → rd0 tx l f 1 = -1 ∧ rd0 tx l f 2 = -1) → wf (d + 1) M_X7_beginLevel Q 120 [some (.inr (.inr 294)), some (.inl l), none, none, some (.inl (f : Int))] [.inl z, .inl (8 * l + f), .inr (.inr 312)] (am_up g 315 (8 * l + f) w) := by
      intro w z hw hz h12
      refine B_X7_beginLevel_120 ?_
      rw [w32e (z := 8 * l) (by omega) (by omega), w32e (z := 8 * l + f) (by omega) (by omega), w32e (z := (f : Int) + 1) (by omega) (by omega), show (f : Int) + 1 = ((f + 1 : Nat) : Int) by omega]
      refine ⟨by omega, by omega, by omega, by omega, l_X7_beginLevel l0 e32 k n (f + 1) _ (by omega) ⟨fun b q q2 => ?_, fun j q q2 => ?_, fun b j q q2 q3 => ?_, fun b j q q2 q3 => ?_⟩ (fun j => ?_) (fun b q q2 => ?_) (fun i hi => ?_)⟩
      · rw [← fg.1 b q q2]; funext j
        rw [am_up_ne (by omega), am_up_ne (by omega), am_up_ne (by omega), am_up_ne (by omega), am_up_ne (by omega)]
      · rw [am_up_ne (by omega), am_up_ne (by omega), am_up_ne (by omega), am_up_ne (by omega), am_up_ne (by omega)]; exact fg.2.1 j q q2
      · rw [am_up_ne (by omega), am_up_ne (by omega), am_up_ne (by omega), am_up_ne (by omega), am_up_ne (by omega)]; exact fg.2.2.1 b j q q2 q3
      · rw [am_up_ne (by omega), am_up_ne (by omega), am_up_ne (by omega), am_up_ne (by omega), am_up_ne (by omega)]; exact fg.2.2.2 b j q q2 q3
      · rw [am_up_ne (by omega), am_up_ne (by omega), am_up_ne (by omega), am_up_ne (by omega), am_up_ne (by omega)]; exact g4 j
      · rw [← gb b q q2]; funext j
        rw [am_up_ne (by omega), am_up_ne (by omega), am_up_ne (by omega), am_up_ne (by omega), am_up_ne (by omega)]
      · by_cases e : i = f
        · subst e
          refine ⟨?_, ?_, ?_, fun q => ⟨?_, ?_⟩⟩
          · rw [am_up_ne (by omega), am_up_ne (by omega), am_up_ne (by omega), am_up_ne (by omega), am_up_at]; exact hw
          · rw [am_up_ne (by omega), am_up_ne (by omega), am_up_ne (by omega), am_up_at]; exact hz
          · rw [am_up_at]; exact v.2.2.symm
          · rw [am_up_ne (by omega), am_up_ne (by omega), am_up_at]; exact (h12 q).1.symm
          · rw [am_up_ne (by omega), am_up_at]; exact (h12 q).2.symm
        · have ii := gi i (by omega)
          refine ⟨?_, ?_, ?_, fun q => ⟨?_, ?_⟩⟩
          · rw [am_up_ne (by omega), am_up_ne (by omega), am_up_ne (by omega), am_up_ne (by omega), am_up_ne (by omega)]; exact ii.1
          · rw [am_up_ne (by omega), am_up_ne (by omega), am_up_ne (by omega), am_up_ne (by omega), am_up_ne (by omega)]; exact ii.2.1
          · rw [am_up_ne (by omega), am_up_ne (by omega), am_up_ne (by omega), am_up_ne (by omega), am_up_ne (by omega)]; exact ii.2.2.1
          · rw [am_up_ne (by omega), am_up_ne (by omega), am_up_ne (by omega), am_up_ne (by omega), am_up_ne (by omega)]; exact (ii.2.2.2 q).1
          · rw [am_up_ne (by omega), am_up_ne (by omega), am_up_ne (by omega), am_up_ne (by omega), am_up_ne (by omega)]; exact (ii.2.2.2 q).2
    refine B_X7_beginLevel_56 ⟨fun c => by omega, fun _ => ?_⟩
    rw [g4 32, e32, w32e (z := 8 * l) (by omega) (by omega), w32e (z := 8 * l + f) (by omega) (by omega)]
    refine c_X7_has (by omega) (by omega) (fun q => ⟨fun c => by omega, fun _ => B_X7_beginLevel_91 ⟨by omega, by omega, ?_⟩⟩) (fun q => ⟨fun _ => B_X7_beginLevel_91 ⟨by omega, by omega, ?_⟩, fun c => absurd rfl c⟩)
    · have c := (told_bit2 f8).1 q
      have vv := v.1 c
      rw [g4 32, e32, w32e (z := 8 * l) (by omega) (by omega), w32e (z := 8 * l + f) (by omega) (by omega)]
      refine c_X7_has (by omega) (by omega) (fun _ => ⟨fun c => by omega, fun _ => go 1 (-1) vv.2.2.2.symm vv.1.symm (fun _ => ⟨vv.2.1, vv.2.2.1⟩)⟩) (fun q2 => by rw [q] at q2; cases q2)
    · have c := (told_bit2 f8).2 q
      have vv := v.2.1 c
      rw [g4 32, e32, w32e (z := 8 * l) (by omega) (by omega), w32e (z := 8 * l + f) (by omega) (by omega)]
      refine c_X7_has (by omega) (by omega) (fun q2 => by rw [q] at q2; cases q2) (fun _ => ⟨fun _ => go 3 0 vv.2.2.2.symm vv.1.symm (fun y => by omega), fun c => absurd rfl c⟩)
theorem c_X7_beginLevel (l0 : 0 ≤ l ∧ l ≤ 2) (e32 : h 294 32 = (told tx : Nat)) (k : ∀ h2, fG h h2 l → h2 294 43 = l → h2 294 44 = max (h 294 44) l → h2 310 l = 0 → h2 311 l = 0 → rlv h2 l tx base size (rd0 tx l) → Q 0 h2) : cf (d + 1) M_X7_beginLevel [.inr (.inr 294), .inl l, .inl base, .inl size] h Q := by
  have go : ∀ s1 : Int, s1 = max (h 294 44) l → wf (d + 1) M_X7_beginLevel Q 22 [some (.inr (.inr 294)), some (.inl l), some (.inl base), some (.inl size), none] [.inl s1, .inr (.inr 294)] (am_up h 294 43 l) := by
    intro s1 hs
    refine B_X7_beginLevel_22 ⟨by omega, by omega, ?_⟩
    generalize hg : am_up (am_up (am_up (am_up (am_up (am_up h 294 43 l) 294 44 s1) 308 l base) 309 l size) 310 l 0) 311 l 0 = g
    have ga : ∀ b j : Int, ¬ (b = 294 ∧ (j = 43 ∨ j = 44)) → ¬ (308 ≤ b ∧ b ≤ 311 ∧ j = l) → g b j = h b j := fun b j q q2 => by
      rw [← hg, am_up_ne (by omega), am_up_ne (by omega), am_up_ne (by omega), am_up_ne (by omega), am_up_ne (by omega), am_up_ne (by omega)]
    have g43 : g 294 43 = l := by rw [← hg, am_up_ne (by omega), am_up_ne (by omega), am_up_ne (by omega), am_up_ne (by omega), am_up_ne (by omega), am_up_at]
    have g44 : g 294 44 = s1 := by rw [← hg, am_up_ne (by omega), am_up_ne (by omega), am_up_ne (by omega), am_up_ne (by omega), am_up_at]
    have g308 : g 308 l = base := by rw [← hg, am_up_ne (by omega), am_up_ne (by omega), am_up_ne (by omega), am_up_at]
    have g309 : g 309 l = size := by rw [← hg, am_up_ne (by omega), am_up_ne (by omega), am_up_at]
    have g310 : g 310 l = 0 := by rw [← hg, am_up_ne (by omega), am_up_at]
    have g311 : g 311 l = 0 := by rw [← hg, am_up_at]
    refine l_X7_beginLevel (h := g) (tx := tx) l0 (by rw [ga _ _ (by omega) (by omega)]; exact e32) (fun h2 f2 a43 a44 ab af => k h2 ⟨fun b q q2 => ?_, fun j q q2 => ?_, fun b j q q2 q3 => ?_, fun b j q q2 q3 => ?_⟩ (a43.trans g43) (a44.trans (g44.trans hs)) ?_ ?_ ⟨?_, ?_, af⟩) 8 0 g (by omega) ⟨fun _ _ _ => rfl, fun _ _ _ => rfl, fun _ _ _ _ _ => rfl, fun _ _ _ _ _ => rfl⟩ (fun _ => rfl) (fun _ _ _ => rfl) (fun i hi => by omega)
    · rw [f2.1 b q q2]; funext j; exact ga b j (by omega) (by omega)
    · rw [f2.2.1 j q q2]; exact ga 294 j (by omega) (by omega)
    · rw [f2.2.2.1 b j q q2 q3]; exact ga b j (by omega) (by omega)
    · rw [f2.2.2.2 b j q q2 q3]; exact ga b j (by omega) (by omega)
    · rw [ab 310 (by omega) (by omega)]; exact g310
    · rw [ab 311 (by omega) (by omega)]; exact g311
    · rw [ab 308 (by omega) (by omega)]; exact g308
    · rw [ab 309 (by omega) (by omega)]; exact g309
  exact cf_of pX7 (Nat.le_of_ble_eq_true rfl) rfl (fun _ => B_X7_beginLevel_0 ⟨fun c => go _ (by omega), fun c => go _ (by omega)⟩)
theorem putput {f : Nat} {x y : Int} {c : Nat} : putR (putR ρ f c x) f c y = putR ρ f c y := by
  funext g e
  unfold putR
  split <;> rfl
/-- what the rows of texts hold of a FIELD -/
theorem rtx_f {f : Nat} (s : rst h t tx β) (hf : f < 8) (hc : 0 ≤ co tx f) : (0 ≤ t ∧ t ≤ 3) ∧ (0 ≤ co tx f ∧ co tx f < 24) ∧ h 297 (825 * t + 1 + 9 * co tx f) = kdf tx f ∧ rsum h t (825 * t + 1 + 9 * co tx f + (3 + 2 * 0)) (fcl tx f).2.2.2.1 ∧ rsum h t (825 * t + 1 + 9 * co tx f + (3 + 2 * 1)) (fcl tx f).2.2.2.2.1 ∧ (kdf tx f = 1 → rsum h t (825 * t + 1 + 9 * co tx f + (3 + 2 * 2)) (fcl tx f).2.2.2.2.2) := by
  obtain ⟨r1, ok, _⟩ := s
  obtain ⟨i, i0, q, q2, q3⟩ := co_spec hc
  have o := fcl_ok ok hc
  have r := r1.2.2 (co tx f) hc (by omega)
  have l24 := ok.1
  have ek : (cl tx (co tx f)) = fcl tx f := rfl
  rw [ek] at r
  refine ⟨r1.1, by omega, by rw [o.2.2]; exact r.1, (r.2.2.1 (by omega)), (r.2.1 o.2.1).2, fun y => r.2.2.2.1 (by omega)⟩
theorem c_X7_readNum {f : Nat} {inn : Int → Int → Option Rd} (s : rst h t tx β) (e43 : h 294 43 = l) (l0 : 0 ≤ l ∧ l ≤ 2) (r : rlv h l tx base size ρ) (o : okr tx ρ) (hb : 0 ≤ base ∧ 0 ≤ size ∧ base + size ≤ 40) (c : rce false h (nmR ρ l size) β base) (he : eok false (nmR ρ l size) β base) (hf : f < 8) (hc : 0 ≤ co tx f) (hk : kdf tx f = 0)
    (k : ∀ h2, fE h h2 (8 * l + f) → rlv h2 l tx base size (stepV tx β false base size inn ρ f (fa tx β l base size ρ f) (fz tx β l base size ρ f) (fo tx β l base size ρ f) (fL tx β l base size ρ f)) → Q 0 h2) : cf (d + 4) M_X7_readNum [.inr (.inr 294), .inl t, .inl (f : Int)] h Q := by
  have rf := rtx_f s hf hc
  have w := fcl_ws s.2.1 hc
  have e5 := (s.2.2.1.1 f hf).1
  have eo : fo tx β l base size ρ f = fa tx β l base size ρ f := by unfold fo; rw [if_neg (by omega)]
  have eL : fL tx β l base size ρ f = lk (nmR ρ l size) β base (fcl tx f).2.2.2.1 ||| lk (nmR ρ l size) β base (fcl tx f).2.2.2.2.1 := by unfold fL; rw [if_neg (by omega), Nat.or_zero]
  have ba : -16777215 ≤ fa tx β l base size ρ f ∧ fa tx β l base size ρ f ≤ 16777215 := (ev_bd he _ _ w.1).1
  have bz : -16777215 ≤ fz tx β l base size ρ f ∧ fz tx β l base size ρ f ≤ 16777215 := (ev_bd he _ _ w.2.1).1
  have ll0 := lk_lt he _ _ w.1
  have ll1 := lk_lt he _ _ w.2.1
  rw [eo] at k
  have lL : fL tx β l base size ρ f < 2 ^ 40 := by rw [eL]; exact Nat.or_lt_two_pow ll0 ll1
  refine cf_of pX7 (Nat.le_of_ble_eq_true rfl) rfl (fun _ => B_X7_readNum_0 ⟨by omega, by omega, ?_⟩)
  rw [e43, w32e (z := 8 * l) (by omega) (by omega), w32e (z := 8 * l + f) (by omega) (by omega), e5]
  refine c_X7_sumOf (d := d) rf.1 rf.2.1 (by omega) rf.2.2.2.1 w.1 he c (fun h4 f4 q4 _ => ⟨by omega, by omega, ?_⟩)
  rw [f4.1 305 (by omega), e5, q4]
  have r1 := rlv_look (L := lk (nmR ρ l size) β base (fcl tx f).2.2.2.1) hf (rlv_fB r f4)
  have g1 : fE h (am_up h4 316 (8 * l + f) ((lk (nmR ρ l size) β base (fcl tx f).2.2.2.1 : Nat) : Int)) (8 * l + f) := fE_trans (fE_fB f4) (fE_up (by omega))
  have s1 := rst_fE s g1
  have c1 := rce_fE c g1
  generalize hg1 : am_up h4 316 (8 * l + f) ((lk (nmR ρ l size) β base (fcl tx f).2.2.2.1 : Nat) : Int) = u1 at g1 s1 c1 r1
  refine c_X7_sumOf (d := d) rf.1 rf.2.1 (by omega) (rtx_f s1 hf hc).2.2.2.2.1 w.2.1 he c1 (fun h8 f8 q8 _ => ?_)
  have e843 : h8 294 43 = l := by rw [f8.1 294 (by omega), g1.1 294 (by omega)]; exact e43
  have r8 := rlv_fB r1 f8
  have e316 : h8 316 (8 * l + f) = ((lk (nmR ρ l size) β base (fcl tx f).2.2.2.1 : Nat) : Int) := by
    have := (r8.2.2 f hf).2.2.1
    rw [putR_at] at this
    exact this
  rw [e843, r8.2.1, e316, q8, lor_n (by omega) (by omega), ← eL]
  have r2 := rlv_look (L := fL tx β l base size ρ f) hf r8
  rw [putput] at r2
  have g2 : fE h (am_up h8 316 (8 * l + f) ((fL tx β l base size ρ f : Nat) : Int)) (8 * l + f) := fE_trans g1 (fE_trans (fE_fB f8) (fE_up (by omega)))
  generalize hg2 : am_up h8 316 (8 * l + f) ((fL tx β l base size ρ f : Nat) : Int) = u2 at g2 r2
  have e2 : ∀ j, u2 294 j = h 294 j := fun j => by rw [g2.1 294 (by omega)]
  refine ⟨by omega, by omega, c_X7_isWithin (fun w1 w2 w3 => ⟨fun y => by omega, fun _ => ?_⟩) (fun y => ⟨fun _ => ?_, fun y => absurd rfl y⟩)⟩
  · have wa : 0 ≤ fa tx β l base size ρ f ∧ fa tx β l base size ρ f ≤ fz tx β l base size ρ f ∧ fz tx β l base size ρ f ≤ size := ⟨w1, w2, w3⟩
    show _ ∧ _
    have ew : ∀ x y : Rd, (if 0 ≤ fa tx β l base size ρ f ∧ fa tx β l base size ρ f ≤ fz tx β l base size ρ f ∧ fz tx β l base size ρ f ≤ size ∧ 0 ≤ fa tx β l base size ρ f ∧ fa tx β l base size ρ f ≤ size then x else y) = x := fun x y => if_pos (by omega)
    rw [show ev (nmR ρ l size) β base (fcl tx f).2.2.2.1 = fa tx β l base size ρ f from rfl, show ev (nmR ρ l size) β base (fcl tx f).2.2.2.2.1 = fz tx β l base size ρ f from rfl]
    generalize hA : fa tx β l base size ρ f = a at *
    generalize hZ : fz tx β l base size ρ f = z at *
    rw [w64e (z := z - a) (by omega) (by omega), e2, e43, r2.1, l2i_id (by omega) (by omega), l2i_id (by omega) (by omega), w32e (z := base + a) (by omega) (by omega), w32e (z := base + z) (by omega) (by omega)]
    refine ⟨fun y => ⟨by omega, by omega, ?_⟩, fun y => k u2 g2 ?_⟩
    · have y3 := lcmp_np y
      have b295 : ∀ i : Int, 0 ≤ i → i < 40 → u2 295 (8 + i) = β i := fun i i0 i1 => by rw [g2.1 295 (by omega)]; exact s.2.2.2.1 i i0 i1
      refine c_X7_numberFrom (by omega) (by omega) (by omega) (by omega) (fun i i0 i1 => by rw [b295 i i0 i1]; exact s.2.2.2.2.1 i i0 i1) (c_X7_settleField (by omega) ?_)
      have r3 := rlv_set (v := nb (u2 295) 0 (8 + (base + a)) (base + z - (base + a)).toNat) (a := a) (z := z) (w := 0) hf (by rw [putR_at]; omega) r2
      rw [putR_at, setput, show ((fL tx β l base size ρ f : Nat) : Int).toNat = fL tx β l base size ρ f by omega] at r3
      have en : nb (u2 295) 0 (8 + (base + a)) (base + z - (base + a)).toNat = nb β 0 (base + a) (z - a).toNat := by
        rw [show (base + z - (base + a)).toNat = (z - a).toNat by omega]
        exact nb_congr _ _ _ _ (fun j j0 j1 => by rw [show 8 + (base + a) + j = 8 + (base + a + j) by omega]; exact b295 _ (by omega) (by omega))
      rw [en] at r3 ⊢
      have g3 : fE h (am_up (am_up (am_up (am_up u2 313 (8 * l + f) a) 314 (8 * l + f) z) 312 (8 * l + f) (nb β 0 (base + a) (z - a).toNat)) 315 (8 * l + f) 0) (8 * l + f) := fE_trans g2 (fE_trans (fE_up (by omega)) (fE_trans (fE_up (by omega)) (fE_trans (fE_up (by omega)) (fE_up (by omega)))))
      refine c_X7_bitsFrom (by omega) (by omega) (by omega) ?_
      have e4 := (r3.2.2 f hf).2.2.1
      rw [setR_at.2.2.2.2] at e4
      have sl : spn (base + a).toNat (base + z).toNat < 2 ^ 40 := Nat.lt_of_lt_of_le (spn_lt (by omega)) (Nat.pow_le_pow_right (by decide) (by omega))
      rw [e4, lor_n (by omega) (by omega)]
      have r4 := rlv_look (L := fL tx β l base size ρ f ||| spn (base + a).toNat (base + z).toNat) hf r3
      rw [putset] at r4
      refine k _ (fE_trans g3 (fE_up (by omega))) ?_
      unfold stepV
      rw [ew, if_pos hk, if_pos (by omega)]
      exact r4
    · have y3 := lcmp_pos y
      unfold stepV
      rw [ew, if_pos hk, if_neg (by omega)]
      exact r2
  · refine k u2 g2 ?_
    have y' : ¬ (0 ≤ fa tx β l base size ρ f ∧ fa tx β l base size ρ f ≤ fz tx β l base size ρ f ∧ fz tx β l base size ρ f ≤ size) := y
    unfold stepV
    rw [if_neg (fun q => y' ⟨q.1, q.2.1, q.2.2.1⟩)]
    exact r2
end RREAD2
