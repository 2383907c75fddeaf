section READ6
variable {d : Nat} {h : am_H} {Q : Int → am_H → Prop} {A T : Int} {tx : List Cl} {base size deep : Int} {ρ : Rd} {β : Int → Int} {vo : Bool}
theorem fA_10 {h g : am_H} {q : Nat} (f : fA h g 0) (e : g 218 10 = (q : Int)) {r : am_H} (f2 : fA g r 0) : fA h r 0 := fA_trans f f2 (Int.le_refl _)
theorem crd_fA {g : am_H} {top : Int} (hA : A = 220 ∨ A = 225 ∨ A = 230) (c : crd h A tx base size deep ρ) (f : fA h g top) : crd g A tx base size deep ρ :=
  crd_congr c (fun b q q2 => f.1 b (by omega) (by omega))
theorem rpre_fA {g : am_H} {top : Int} (p : rpre h T tx β vo deep base size) (f : fA h g top) : rpre g T tx β vo deep base size := by
  have p13 := p.2.2.2.2.2.2
  have e8 := f.2.1 8 (by omega)
  exact rpre_fR p (fR_fA (A := 0) f) (by rw [e8]; exact p13)
theorem ctx_cod {f : Nat} (p : rpre h T tx β vo deep base size) (hf : f < 8) (hc : 0 ≤ co tx f) : cod (h (T + 4)) (h (T + 6) f) (fcl tx f).2.2.2.1 ∧ cod (h (T + 4)) (h (T + 8) f) (fcl tx f).2.2.2.2.1 ∧ (kdf tx f = 1 → cod (h (T + 4)) (h (T + 7) f) (fcl tx f).2.2.2.2.2) := by
  have c := ((p.1.2.2.1.2.2.2.1 f hf).2.2.2 hc).2
  exact c
/-- a tree of a FIELD is asked -/
theorem c_ask {D q : Nat} {pp : Int} {e : Ex} {s : Bool} (hA : A = 220 ∨ A = 225 ∨ A = 230) (p : rpre h T tx β vo deep base size) (r : okr tx ρ) (c : crd h A tx base size deep ρ) (hc : cod (h (T + 4)) pp e) (hw : ws false e s) (hs : sx e ≤ 64) (hq : h 218 10 = (q : Int)) (hq2 : q < 2 ^ 40)
    (k : ∀ h2, fA h h2 0 → h2 218 10 = ((q ||| lk (nmR ρ deep size) β base e : Nat) : Int) → (q ||| lk (nmR ρ deep size) β base e) < 2 ^ 40 → rpre h2 T tx β vo deep base size → crd h2 A tx base size deep ρ → Q (ev (nmR ρ deep size) β base e) h2) :
    cf (D + 3) M_X2_answer [.inr (.inr 218), .inr (.inr T), .inl pp, .inr (.inr A)] h Q :=
  c_X2_answer p.1.1 p.1.2.1 (kd_A hA) (by omega) (rpre_eok p r) hw hs hc.1 hc.2.1 hc.2.2.1 hc.2.2.2 (rpre_ce p c) hq hq2 (fun h2 f2 q2 => k h2 f2 q2 (Nat.or_lt_two_pow hq2 (lk_lt (rpre_eok p r) e s hw)) (rpre_fA p f2) (crd_fA hA c f2))
theorem c_X2_readField {D f : Nat} {inn : Int → Int → Option Rd} {D0 : Int} (hd : deep = 0 ∨ deep = 1 ∨ deep = 2) (eA : A = 220 + 5 * deep) (hin : inOK (D + 2) T tx β vo deep inn) (p : rpre h T tx β vo deep base size) (r : okr tx ρ) (n : okn (bD deep) tx ρ) (c : crd h A tx base size deep ρ) (hf : f < 8) (b3 : ρ f 3 = 1) (hc : 0 ≤ co tx f) (d0 : deep ≤ ρ 8 0 ∧ ρ 8 0 ≤ 2) (e8 : h 218 8 = max D0 (ρ 8 0))
    (k : ∀ h2, fR h h2 A → crd h2 A tx base size deep (stepF tx β vo deep base size inn ρ f) → okS tx deep ρ (stepF tx β vo deep base size inn ρ f) f → h2 218 8 = max D0 (stepF tx β vo deep base size inn ρ f 8 0) → Q 0 h2) :
    cf (D + 4) M_X2_readField [.inr (.inr 218), .inr (.inr T), .inr (.inr A), .inl (f : Int)] h Q := by
  have hA : A = 220 ∨ A = 225 ∨ A = 230 := by omega
  have tA := kd_A hA
  have ok := p.1.2.2.2
  have tT := p.1.1
  have hT := p.1.2.1
  have fld := p.1.2.2.1.2.2.2.1 f hf
  have w := fcl_ws ok hc
  obtain ⟨bk, b1, b2, bb⟩ := c.2.1
  have ba := bk_and (s := hgu tx f) b1 bb
  have hgl := hgu_lt (f := f) ok
  refine cf_of pX2 (Nat.le_of_ble_eq_true rfl) rfl (fun _ => B_X2_readField_0 (c_X6_isField (fun _ _ => ⟨fun q => by omega, fun _ => ⟨tT, by omega, by omega, tA, ?_⟩⟩) (fun q => by omega)))
  rw [fld.2.1, b2, iand_n (by omega), fld.1]
  refine ⟨fun q => ?_, fun q => ?_⟩
  · have nb : ¬ bkn ρ (hgu tx f) = true := fun y => ba.1 y (by omega)
    have es : stepF tx β vo deep base size inn ρ f = stepV tx β vo base size inn ρ f (fa tx β deep base size ρ f) (fz tx β deep base size ρ f) (fo tx β deep base size ρ f) (fL tx β deep base size ρ f) := by
      unfold stepF
      rw [if_neg nb]
    rw [es] at k
    have f0 : fA h (am_up h 218 10 0) 0 := fA_pk
    have p0 := rpre_fA p f0
    have c0 := crd_fA hA c f0
    have q0 : am_up h 218 10 0 218 10 = ((0 : Nat) : Int) := am_up_at _ _ _ _
    have cods := ctx_cod p0 hf hc
    have eo := rpre_eok p r
    have go : ∀ (g : am_H) (m : Nat) (o : Int), fA h g 0 → g 218 10 = (m : Int) → m < 2 ^ 40 → rpre g T tx β vo deep base size → crd g A tx base size deep ρ → o = fo tx β deep base size ρ f → m ||| lk (nmR ρ deep size) β base (fcl tx f).2.2.2.2.1 = fL tx β deep base size ρ f → wf (D + 4) M_X2_readField Q 72 [some (.inr (.inr 218)), some (.inr (.inr T)), some (.inr (.inr A)), some (.inl (f : Int)), some (.inl (kdf tx f)), some (.inl (fa tx β deep base size ρ f)), none, none, none] [.inl o] g := by
      intro g m o fg qg mg pg cg eo2 eL
      refine B_X2_readField_72 ⟨tT, by omega, by omega, c_ask (D := D) hA pg r cg (ctx_cod pg hf hc).2.1 w.2.1 w.2.2.2.2.1 qg mg (fun h5 f5 q5 l5 p5 c5 => ⟨tA, ?_⟩)⟩
      rw [eL] at q5 l5
      rw [q5, c5.1.2.1]
      have c6 := crd_look (l := fL tx β deep base size ρ f) hf c5
      have fr : fR h (am_up h5 (A + 4) f ((fL tx β deep base size ρ f : Nat) : Int)) A := fR_trans (fR_fA (fA_trans fg f5 (Int.le_refl _))) (fR_up (by omega)) (Int.le_refl _)
      have e86 : am_up h5 (A + 4) f ((fL tx β deep base size ρ f : Nat) : Int) 218 8 = max D0 (ρ 8 0) := by
        rw [am_up_ne (by omega), f5.2.1 8 (by omega), fg.2.1 8 (by omega)]
        exact e8
      have p6 : rpre (am_up h5 (A + 4) f ((fL tx β deep base size ρ f : Nat) : Int)) T tx β vo deep base size := rpre_fR p fr (by
        have := p.2.2.2.2.2.2
        rw [e86, ← e8]; exact this)
      have bz : -16777215 ≤ fz tx β deep base size ρ f ∧ fz tx β deep base size ρ f ≤ 16777215 := (ev_bd eo _ _ w.2.1).1
      have bfa : -16777215 ≤ fa tx β deep base size ρ f ∧ fa tx β deep base size ρ f ≤ 16777215 := (ev_bd eo _ _ w.1).1
      have fin : ∀ s0 : Int, (¬ s0 = 0 ↔ (0 ≤ o ∧ o ≤ fz tx β deep base size ρ f ∧ fz tx β deep base size ρ f ≤ size ∧ 0 ≤ fa tx β deep base size ρ f ∧ fa tx β deep base size ρ f ≤ size)) → wf (D + 4) M_X2_readField Q 140 [some (.inr (.inr 218)), some (.inr (.inr T)), some (.inr (.inr A)), some (.inl (f : Int)), some (.inl (kdf tx f)), some (.inl (fa tx β deep base size ρ f)), some (.inl o), some (.inl (fz tx β deep base size ρ f)), none] [.inl s0] (am_up h5 (A + 4) f ((fL tx β deep base size ρ f : Nat) : Int)) := by
        intro s0 hs
        refine l_X2_readField hd eA hin p6 r n c6 l5 hf b3 hc d0 e86 bfa bz (fun y => ?_) hs (fun h7 f7 c7 o7 e87 => ?_)
        · rw [eo2]; unfold fo; rw [if_neg y]
        · rw [eo2] at c7 o7 e87
          exact k h7 (fR_trans fr f7 (Int.le_refl _)) c7 o7 e87
      have z : ¬ (0 ≤ o ∧ o ≤ fz tx β deep base size ρ f ∧ fz tx β deep base size ρ f ≤ size ∧ 0 ≤ fa tx β deep base size ρ f ∧ fa tx β deep base size ρ f ≤ size) → wf (D + 4) M_X2_readField Q 139 [some (.inr (.inr 218)), some (.inr (.inr T)), some (.inr (.inr A)), some (.inl (f : Int)), some (.inl (kdf tx f)), some (.inl (fa tx β deep base size ρ f)), some (.inl o), some (.inl (fz tx β deep base size ρ f)), none] [] (am_up h5 (A + 4) f ((fL tx β deep base size ρ f : Nat) : Int)) := fun y => B_X2_readField_139 (fin 0 ⟨fun q => absurd rfl q, fun q => absurd q y⟩)
      exact ⟨fun y => z (fun q => by omega), fun y1 => ⟨fun y => z (fun q => by have := q.2.1; exact absurd this (by show ¬ o ≤ fz tx β deep base size ρ f; unfold fz; omega)), fun y2 => ⟨fun y => z (fun q => by have := q.2.2.1; exact absurd this (by show ¬ fz tx β deep base size ρ f ≤ size; unfold fz; omega)), fun y3 => ⟨fun y => z (fun q => by omega), fun y4 => ⟨fun y => z (fun q => by omega), fun y5 => fin 1 ⟨fun _ => ⟨y1, y2, y3, y4, y5⟩, fun _ => by decide⟩⟩⟩⟩⟩⟩
    refine c_ask (D := D) hA p0 r c0 cods.1 w.1 w.2.2.2.1 q0 (by decide) (fun h2 f2 q2 l2 p2 c2 => ⟨fun y => ?_, fun y => ?_⟩)
    · refine go h2 _ _ (fA_trans f0 f2 (Int.le_refl _)) q2 l2 p2 c2 ?_ ?_
      · unfold fo; rw [if_neg y]; rfl
      · unfold fL; rw [if_neg y, Nat.zero_or, Nat.or_zero]
    · refine c_ask (D := D) hA p2 r c2 ((ctx_cod p2 hf hc).2.2 y) w.2.2.1 w.2.2.2.2.2 q2 l2 (fun h3 f3 q3 l3 p3 c3 => ?_)
      refine go h3 _ _ (fA_trans f0 (fA_trans f2 f3 (Int.le_refl _)) (Int.le_refl _)) q3 l3 p3 c3 ?_ ?_
      · unfold fo; rw [if_pos y]
      · unfold fL; rw [if_pos y, Nat.zero_or]
  · have nb : bkn ρ (hgu tx f) = true := by
      cases y : bkn ρ (hgu tx f) with
      | true => rfl
      | false => exact absurd (ba.2 (by rw [y]; decide)) (by omega)
    have es : stepF tx β vo deep base size inn ρ f = ρ := by
      unfold stepF
      rw [if_pos nb]
    rw [es] at k
    exact k h fR_refl c ⟨r, n, d0, fun _ _ _ _ => rfl, rfl, rfl⟩ e8
/-- the musts -/
theorem drop_cl {tx : List Cl} {k : Nat} (hk : k < tx.length) : tx.drop k = cl tx k :: tx.drop (k + 1) := by
  rw [List.drop_eq_getElem_cons hk]
  unfold cl
  rw [show ((k : Int)).toNat = k by omega, List.getD_eq_getElem?_getD, List.getElem?_eq_getElem hk]
  rfl
/-- what musts change -/
def okM (tx : List Cl) (ρ ρ2 : Rd) : Prop := okr tx ρ2 ∧ (∀ g, g < 8 → ∀ c, ρ2 g c = ρ g c) ∧ ρ2 8 0 = ρ 8 0
theorem okM_refl (r : okr tx ρ) : okM tx ρ ρ := ⟨r, fun _ _ _ => rfl, rfl⟩
theorem okM_put {ρ2 : Rd} {j : Nat} {m : Int} (o : okM tx ρ ρ2) (hj : (j = 1 ∧ -1 ≤ m ∧ m ≤ 24) ∨ (j = 4 ∧ 0 ≤ m ∧ m < 1099511627776)) : okM tx ρ (putR ρ2 8 j m) := by
  obtain ⟨⟨o1, o2, o3⟩, og, o80⟩ := o
  refine ⟨⟨fun g hg => ?_, ?_, ?_⟩, fun g hg c => by rw [putR_ne (by omega)]; exact og g hg c, by rw [putR_ne (by omega)]; exact o80⟩
  · rw [putR_ne (by omega), putR_ne (by omega), putR_ne (by omega), putR_ne (by omega), putR_ne (by omega)]
    exact o1 g hg
  · rcases hj with ⟨rfl, _⟩ | ⟨rfl, hm⟩
    · rw [putR_ne (by omega)]; exact o2
    · rw [putR_at]; exact hm
  · rcases hj with ⟨rfl, hm⟩ | ⟨rfl, _⟩
    · rw [putR_at]; exact hm
    · rw [putR_ne (by omega)]; exact o3
theorem okM_trans {ρ2 ρ3 : Rd} (a : okM tx ρ ρ2) (b : okM tx ρ2 ρ3) : okM tx ρ ρ3 := ⟨b.1, fun g hg c => (b.2.1 g hg c).trans (a.2.1 g hg c), b.2.2.trans a.2.2⟩
theorem crd_put {j : Int} {i : Nat} {m : Int} (hi : (i = 1 ∧ j = 10) ∨ (i = 4 ∧ j = 11)) (c : crd h A tx base size deep ρ) : crd (am_up h A j m) A tx base size deep (putR ρ 8 i m) := by
  obtain ⟨⟨c0, c1, c2, c3⟩, ⟨bk, b1, b2, b3⟩, ⟨wr, w1, w2, w3⟩, c4, c5, c6⟩ := c
  refine ⟨⟨by rw [am_up_ne (by omega)]; exact c0, by rw [am_up_ne (by omega)]; exact c1, by rw [am_up_ne (by omega)]; exact c2, by rw [am_up_ne (by omega)]; exact c3⟩, ⟨bk, b1, by rw [am_up_ne (by omega)]; exact b2, fun f hf => by rw [putR_ne (by omega)]; exact b3 f hf⟩, ⟨wr, w1, by rw [am_up_ne (by omega)]; exact w2, fun f hf => by rw [putR_ne (by omega)]; exact w3 f hf⟩, fun f hf => ?_, ?_, ?_⟩
  · rw [am_up_ne (by omega), am_up_ne (by omega), am_up_ne (by omega), am_up_ne (by omega), putR_ne (by omega), putR_ne (by omega), putR_ne (by omega), putR_ne (by omega)]
    exact c4 f hf
  · rcases hi with ⟨rfl, rfl⟩ | ⟨rfl, rfl⟩
    · rw [am_up_at, putR_at]
    · rw [am_up_ne (by omega), putR_ne (by omega)]; exact c5
  · rcases hi with ⟨rfl, rfl⟩ | ⟨rfl, rfl⟩
    · rw [am_up_ne (by omega), putR_ne (by omega)]; exact c6
    · rw [am_up_at, putR_at]
end READ6
