section READ5
variable {d : Nat} {h : am_H} {Q : Int → am_H → Prop} {A T : Int} {tx : List Cl} {base size deep : Int} {ρ : Rd} {β : Int → Int} {vo : Bool}
/-- a reading goes on as it can be: what a step may change -/
def okS (tx : List Cl) (deep : Int) (ρ ρ2 : Rd) (f : Nat) : Prop := okr tx ρ2 ∧ okn (bD deep) tx ρ2 ∧ (deep ≤ ρ2 8 0 ∧ ρ2 8 0 ≤ 2) ∧ (∀ g, g < 8 → g ≠ f → ∀ c, ρ2 g c = ρ g c) ∧ ρ2 8 1 = ρ 8 1 ∧ ρ2 8 4 = ρ 8 4
theorem okS_look {f l : Nat} (hc : 0 ≤ co tx f) (hl : l < 2 ^ 40) (hf : f < 8) (b3 : ρ f 3 = 1) (r : okr tx ρ) (n : okn (bD deep) tx ρ) (d0 : deep ≤ ρ 8 0 ∧ ρ 8 0 ≤ 2) : okS tx deep ρ (putR ρ f 4 (l : Int)) f := by
  refine ⟨okr_look hc hl r, fun g hg k1 k2 => ?_, by rw [putR_ne (by omega)]; exact d0, fun g hg gf c => putR_ne (by omega), putR_ne (by omega), putR_ne (by omega)⟩
  rw [putR_ne (by omega)] at k2 ⊢
  exact n g hg k1 k2
theorem okS_set {f l : Nat} {v a z w : Int} (hv : 0 ≤ v ∧ v ≤ 16777215) (hv2 : kdf tx f = 2 → v ≤ bD deep) (hw : w = 0 ∨ w = 2) (hc : 0 ≤ co tx f) (hl : l < 2 ^ 40) (hf : f < 8) (r : okr tx ρ) (n : okn (bD deep) tx ρ) (d0 : deep ≤ ρ 8 0 ∧ ρ 8 0 ≤ 2) : okS tx deep ρ (setR ρ f v a z w l) f := by
  refine ⟨okr_set hv hw hc hl hf r, fun g hg k1 k2 => ?_, by rw [setR_ne (by omega)]; exact d0, fun g hg gf c => setR_ne gf, setR_ne (by omega), setR_ne (by omega)⟩
  by_cases e : g = f
  · subst e
    rw [setR_at.1]
    exact ⟨hv.1, hv2 k1⟩
  · rw [setR_ne e] at k2 ⊢
    exact n g hg k1 k2
theorem okS_put8 {f : Nat} {ρ2 : Rd} {m : Int} (o : okS tx deep ρ ρ2 f) (hm : deep ≤ m ∧ m ≤ 2) : okS tx deep ρ (putR ρ2 8 0 m) f := by
  obtain ⟨⟨o1, o2, o3⟩, on, od, og, o81, o84⟩ := o
  refine ⟨⟨fun g hg => ?_, by rw [putR_ne (by omega)]; exact o2, by rw [putR_ne (by omega)]; exact o3⟩, fun g hg k1 k2 => ?_, by rw [putR_at]; exact hm, fun g hg gf c => by rw [putR_ne (by omega)]; exact og g hg gf c, by rw [putR_ne (by omega)]; exact o81, by rw [putR_ne (by omega)]; exact o84⟩
  · rw [putR_ne (by omega), putR_ne (by omega), putR_ne (by omega), putR_ne (by omega), putR_ne (by omega)]
    exact o1 g hg
  · rw [putR_ne (by omega)] at k2 ⊢
    exact on g hg k1 k2
theorem crd_put8 {m : Int} (c : crd h A tx base size deep ρ) : crd h A tx base size deep (putR ρ 8 0 m) := by
  obtain ⟨c1, ⟨bk, b1, b2, b3⟩, ⟨wr, w1, w2, w3⟩, c4, c5, c6⟩ := c
  refine ⟨c1, ⟨bk, b1, b2, fun f hf => by rw [putR_ne (by omega)]; exact b3 f hf⟩, ⟨wr, w1, w2, fun f hf => by rw [putR_ne (by omega)]; exact w3 f hf⟩, fun f hf => ?_, by rw [putR_ne (by omega)]; exact c5, by rw [putR_ne (by omega)]; exact c6⟩
  rw [putR_ne (by omega), putR_ne (by omega), putR_ne (by omega), putR_ne (by omega)]
  exact c4 f hf
/-- what is nested, read one deeper -/
def inOK (D : Nat) (T : Int) (tx : List Cl) (β : Int → Int) (vo : Bool) (deep : Int) (inn : Int → Int → Option Rd) : Prop :=
  (deep = 2 ∧ inn = fun _ _ => none) ∨ ((deep = 0 ∨ deep = 1) ∧ ∃ F, inn = (fun b s => some (F (wI tx vo deep) b s)) ∧ rfOK D T tx β vo (deep + 1) F)
theorem nb_rng {f : Int → Int} (hf : ∀ j : Int, 0 ≤ j → j < 40 → 0 ≤ f j ∧ f j ≤ 255) : ∀ (n : Nat) (p t : Int), p + n ≤ 40 → n ≤ 3 → 0 ≤ p → 0 ≤ t → (t + 1) * 256 ^ n ≤ 16777216 → 0 ≤ nb f t p n ∧ nb f t p n ≤ 16777215
  | 0, p, t, hp, hn, h0, t0, t1 => by
    simp only [nb]
    simp at t1
    omega
  | n + 1, p, t, hp, hn, h0, t0, t1 => by
    have hb2 := hf p h0 (by omega)
    have st := nb_step (by omega) t0 t1 hb2.1 hb2.2
    simp only [nb]
    rw [Int.mul_comm 256 t]
    exact nb_rng hf n (p + 1) _ (by omega) (by omega) (by omega) (by omega) st.2
theorem slk_lt {p o z : Int} (h0 : 0 ≤ p) (h1 : p < 40) : slk vo p o z < 2 ^ 40 := by
  unfold slk
  refine Nat.or_lt_two_pow (bset_lt 40) ?_
  split
  · decide
  · exact Nat.lt_of_lt_of_le (spn_lt (by omega)) (Nat.pow_le_pow_right (by decide) (by omega))
theorem kdf_or (ok : okx tx) {f : Nat} (hc : 0 ≤ co tx f) : kdf tx f = 0 ∨ kdf tx f = 1 ∨ kdf tx f = 2 := by
  have o := fcl_ok ok hc
  have := o.1.1
  have := o.2.1
  have := o.2.2
  omega
theorem l_X2_readField {D f L : Nat} {a z o : Int} {inn : Int → Int → Option Rd} {D0 : Int} {g : am_H} (hd : deep = 0 ∨ deep = 1 ∨ deep = 2) (eA : A = 220 + 5 * deep) (hin : inOK (D + 2) T tx β vo deep inn) (p : rpre g T tx β vo deep base size) (r : okr tx ρ) (n : okn (bD deep) tx ρ) (c : crd g A tx base size deep (putR ρ f 4 (L : Int))) (hL : L < 2 ^ 40) (hf : f < 8) (b3 : ρ f 3 = 1) (hc : 0 ≤ co tx f) (d0 : deep ≤ ρ 8 0 ∧ ρ 8 0 ≤ 2) (e8 : g 218 8 = max D0 (ρ 8 0))
    (ba : -16777215 ≤ a ∧ a ≤ 16777215) (bz : -16777215 ≤ z ∧ z ≤ 16777215) (ho : ¬ kdf tx f = 1 → o = a) {s0 : Int} (hs : ¬ s0 = 0 ↔ (0 ≤ o ∧ o ≤ z ∧ z ≤ size ∧ 0 ≤ a ∧ a ≤ size))
    (k : ∀ h2, fR g h2 A → crd h2 A tx base size deep (stepV tx β vo base size inn ρ f a z o L) → okS tx deep ρ (stepV tx β vo base size inn ρ f a z o L) f → h2 218 8 = max D0 (stepV tx β vo base size inn ρ f a z o L 8 0) → Q 0 h2) :
    wf (D + 4) M_X2_readField Q 140 [some (.inr (.inr 218)), some (.inr (.inr T)), some (.inr (.inr A)), some (.inl (f : Int)), some (.inl (kdf tx f)), some (.inl a), some (.inl o), some (.inl z), none] [.inl s0] g := by
  have hA : A = 220 ∨ A = 225 ∨ A = 230 := by omega
  have tA := kd_A hA
  have ok := p.1.2.2.2
  have rL := okr_look (f := f) hc hL r
  have b3L : putR ρ f 4 (L : Int) f 3 = 1 := by rw [putR_ne (by omega)]; exact b3
  have e4 : (putR ρ f 4 (L : Int) f 4).toNat = L := by rw [putR_at]; omega
  have l4 : 0 ≤ putR ρ f 4 (L : Int) f 4 := by rw [putR_at]; omega
  have p7 := p.2.2.1
  have p10 := p.2.2.2.1
  have p11 := p.2.2.2.2.1
  have k8 := kdf_or ok hc
  have bad : stepV tx β vo base size inn ρ f a z o L = putR ρ f 4 (L : Int) → Q 0 g := fun e => by
    rw [e] at k
    exact k g fR_refl c (okS_look hc hL hf b3 r n d0) (by rw [putR_ne (by omega)]; exact e8)
  refine B_X2_readField_140 ⟨fun w => ?_, fun w => bad ?_⟩
  · have w' := hs.mp w
    obtain ⟨w1, w2, w3, w4, w5⟩ := w'
    have ew : ∀ x y : Rd, (if 0 ≤ o ∧ o ≤ z ∧ z ≤ size ∧ 0 ≤ a ∧ a ≤ size then x else y) = x := fun x y => if_pos ⟨w1, w2, w3, w4, w5⟩
    have nest : ¬ kdf tx f = 0 → (kdf tx f = 1 → ¬ a < size) → wf (D + 4) M_X2_readField Q 251 [some (.inr (.inr 218)), some (.inr (.inr T)), some (.inr (.inr A)), some (.inl (f : Int)), some (.inl (kdf tx f)), some (.inl a), none, some (.inl z), none] [] g := by
      intro n0 n1
      refine B_X2_readField_251 ⟨fun q => bad ?_, fun q => ⟨tA, ?_⟩⟩
      · have q1 : kdf tx f = 1 := by omega
        unfold stepV
        rw [ew, if_neg n0, if_pos q1, if_neg (n1 q1)]
      · have n1' : ¬ kdf tx f = 1 := by omega
        have oa := ho n1'
        rw [c.1.2.1, c.1.2.2.1, w32e (z := z - a) (by omega) (by omega)]
        refine ⟨fun q2 => bad ?_, fun q2 => ⟨fun q3 => bad ?_, fun q3 => ?_⟩⟩
        · unfold stepV
          rw [ew, if_neg n0, if_neg n1', if_neg (by omega)]
        · have : deep = 2 := by omega
          rcases hin with ⟨_, rfl⟩ | ⟨q4, _⟩
          · unfold stepV
            rw [ew, if_neg n0, if_neg n1', if_pos q2]
          · omega
        · rcases hin with ⟨q4, _⟩ | ⟨q4, F, rfl, hF⟩
          · omega
          · have es : stepV tx β vo base size (fun b s => some (F (wI tx vo deep) b s)) ρ f a z o L = putR (setR ρ f (nval tx (F (wI tx vo deep) (base + a) (z - a))) a z (if sndR (F (wI tx vo deep) (base + a) (z - a)) = true then 0 else 2) (L ||| nlk (F (wI tx vo deep) (base + a) (z - a)))) 8 0 (max (ρ 8 0) (F (wI tx vo deep) (base + a) (z - a) 8 0)) := by
              unfold stepV
              rw [ew, if_neg n0, if_neg n1', if_pos q2]
            rw [es] at k
            refine c_X2_readNest q4 eA hF p rL c hf b3L hc ⟨w4, by omega, w3⟩ (fun h2 f2 oi on di e82 c2 => ?_)
            rw [e4, setput] at c2
            have nv := nval_rng q4 on
            have nb9 : bD deep ≤ 9 := by rcases q4 with rfl | rfl <;> decide
            refine k h2 f2 (crd_put8 c2) (okS_put8 (okS_set (by omega) (fun _ => nv.2) (by split <;> omega) hc (Nat.or_lt_two_pow hL (nlk_lt oi)) hf r n d0) (by omega)) ?_
            rw [putR_at, e82, e8]
            omega
    have summed : ¬ kdf tx f = 0 → wf (D + 4) M_X2_readField Q 221 [some (.inr (.inr 218)), some (.inr (.inr T)), some (.inr (.inr A)), some (.inl (f : Int)), some (.inl (kdf tx f)), some (.inl a), some (.inl o), some (.inl z), none] [] g := by
      intro n0
      refine B_X2_readField_221 ⟨fun q => nest n0 (fun q2 => absurd q2 q), fun q => ⟨tA, ?_⟩⟩
      rw [c.1.2.1]
      refine ⟨fun q2 => nest n0 (fun _ => by omega), fun q2 => ?_⟩
      have es : stepV tx β vo base size inn ρ f a z o L = setR ρ f (sval β (base + a) (base + o) (base + z)) a (a + 1) (if β (base + a) = sval β (base + a) (base + o) (base + z) then 0 else 2) (L ||| slk vo (base + a) (base + o) (base + z)) := by
        unfold stepV
        rw [ew, if_neg n0, if_pos q, if_pos q2]
      rw [es] at k
      refine c_X2_readSummed (d := D + 1) hA p rL c hf b3L hc ⟨w1, w2, w3⟩ ⟨w4, q2⟩ (fun h2 f2 e82 c2 => ?_)
      rw [e4, setput] at c2
      have sv : 0 ≤ sval β (base + a) (base + o) (base + z) ∧ sval β (base + a) (base + o) (base + z) < 256 := by unfold sval; omega
      refine k h2 f2 c2 (okS_set (by omega) (fun y => by omega) (by split <;> omega) hc (Nat.or_lt_two_pow hL (slk_lt (by omega) (by omega))) hf r n d0) ?_
      rw [setR_ne (by omega), e82]
      exact e8
    refine ⟨fun q => summed q, fun q => ⟨fun q2 => ?_, fun q2 => ⟨tA, by omega, by omega, ?_⟩⟩⟩
    · rw [w32e (by omega) (by omega)] at q2
      refine B_X2_readField_221 ⟨fun _ => B_X2_readField_251 ⟨fun _ => bad ?_, fun y => by omega⟩, fun y => by omega⟩
      unfold stepV
      rw [ew, if_pos q, if_neg (by omega)]
    · rw [w32e (by omega) (by omega)] at q2
      have oa := ho (by omega)
      have es : stepV tx β vo base size inn ρ f a z o L = setR ρ f (nb β 0 (base + a) (z - a).toNat) a z 0 (L ||| spn (base + a).toNat (base + z).toNat) := by
        unfold stepV
        rw [ew, if_pos q, if_pos q2]
      rw [es] at k
      rw [c.1.1, w32e (z := base + a) (by omega) (by omega), w32e (z := base + z) (by omega) (by omega)]
      have sl : spn (base + a).toNat (base + z).toNat < 2 ^ 40 := Nat.lt_of_lt_of_le (spn_lt (by omega)) (Nat.pow_le_pow_right (by decide) (by omega))
      refine c_X6_spanI (by omega) (by omega) (by omega) ?_
      have eg : g (A + 4) f = (L : Int) := by rw [(c.2.2.2.1 f hf).2.2.2, putR_at]
      rw [eg, lor_n (by omega) (by omega)]
      have c1 := crd_look (l := L ||| spn (base + a).toNat (base + z).toNat) hf c
      have nB : ∀ y : Int, am_up g (A + 4) f y 218 = g 218 := fun y => by funext j; exact am_up_ne (by omega)
      have eB : ∀ y : Int, am_up g (A + 4) f y (g 218 7) = g (g 218 7) := fun y => by funext j; exact am_up_ne (by omega)
      rw [nB]
      have np := nb_rng p10 (z - a).toNat (base + a) 0 (by omega) (by omega) (by omega) (by omega) (by
        rcases (show (z - a).toNat = 0 ∨ (z - a).toNat = 1 ∨ (z - a).toNat = 2 ∨ (z - a).toNat = 3 by omega) with e | e | e | e <;> rw [e] <;> decide)
      rw [c.1.1, w32e (z := base + a) (by omega) (by omega), w32e (z := base + z) (by omega) (by omega)]
      refine c_X6_asNumber (d := D + 2) p7.1 p7.2.1 (by omega) (by omega) (by omega) (by omega) (fun i i0 i1 => by rw [eB, p7.2.2.2 i i0 i1]; exact p10 i i0 i1) ?_
      have en : nb (am_up g (A + 4) f ((L ||| spn (base + a).toNat (base + z).toNat : Nat) : Int) (g 218 7)) 0 (base + a) (base + z - (base + a)).toNat = nb β 0 (base + a) (z - a).toNat := by
        rw [eB, show (base + z - (base + a)).toNat = (z - a).toNat by omega]
        exact nb_congr _ _ _ _ (fun j j0 j1 => p7.2.2.2 _ (by omega) (by omega))
      rw [en]
      have eput : putR (putR ρ f 4 (L : Int)) f 4 ((L ||| spn (base + a).toNat (base + z).toNat : Nat) : Int) = putR ρ f 4 ((L ||| spn (base + a).toNat (base + z).toNat : Nat) : Int) := by
        funext x y
        unfold putR
        split <;> rfl
      rw [eput] at c1
      refine c_X2_know hA hf c1 (by rw [putR_ne (by omega)]; exact b3) (fun h2 f2 o2 c2 => ?_) (by rw [putR_at]; omega)
      rw [putR_at, setput, show (((L ||| spn (base + a).toNat (base + z).toNat : Nat) : Int)).toNat = L ||| spn (base + a).toNat (base + z).toNat by omega] at c2
      refine k h2 (fR_trans (fR_up (by omega)) f2 (Int.le_refl _)) c2 (okS_set np (fun y => by omega) (Or.inl rfl) hc (Nat.or_lt_two_pow hL sl) hf r n d0) ?_
      rw [setR_ne (by omega), o2 218 (by omega), am_up_ne (by omega)]
      exact e8
  · unfold stepV
    rw [if_neg (fun y => absurd w (hs.mpr y))]
end READ5
