section RREAD5
variable {d : Nat} {h : am_H} {Q : Int → am_H → Prop} {t l : Int} {tx : List Cl} {base size : Int} {ρ : Rd} {β : Int → Int}
/-- what is read from a level on, and what goes along, is other; of 294: the base and the length, the level, the deepest, the first must, whether each must is -/
def fI (h h2 : am_H) (l : Int) : Prop := (∀ b : Int, b ≠ 294 → b ≠ 300 → b < 301 ∨ 304 < b → b < 308 ∨ 316 < b → h2 b = h b) ∧ (∀ j : Int, j ≠ 22 → j ≠ 23 → j ≠ 43 → j ≠ 44 → j ≠ 45 → j ≠ 46 → h2 294 j = h 294 j) ∧ (∀ b j : Int, 308 ≤ b → b ≤ 311 → j < l → h2 b j = h b j) ∧ ∀ b j : Int, 312 ≤ b → b ≤ 316 → j < 8 * l → h2 b j = h b j
theorem fI_refl {h : am_H} {l : Int} : fI h h l := ⟨fun _ _ _ _ _ => rfl, fun _ _ _ _ _ _ _ => rfl, fun _ _ _ _ _ => rfl, fun _ _ _ _ _ => rfl⟩
theorem fI_trans {h h2 h3 : am_H} {l m : Int} (a : fI h h2 l) (b : fI h2 h3 m) (q : l ≤ m) : fI h h3 l :=
  ⟨fun c q1 q2 q3 q4 => (b.1 c q1 q2 q3 q4).trans (a.1 c q1 q2 q3 q4), fun j q1 q2 q3 q4 q5 q6 => (b.2.1 j q1 q2 q3 q4 q5 q6).trans (a.2.1 j q1 q2 q3 q4 q5 q6), fun c j q1 q2 q3 => (b.2.2.1 c j q1 q2 (by omega)).trans (a.2.2.1 c j q1 q2 q3), fun c j q1 q2 q3 => (b.2.2.2 c j q1 q2 (by omega)).trans (a.2.2.2 c j q1 q2 q3)⟩
theorem fI_fE {h h2 : am_H} {l x : Int} (f : fE h h2 x) (q : 8 * l ≤ x) : fI h h2 l :=
  ⟨fun b q1 q2 q3 q4 => f.1 b (by omega), fun j _ _ _ _ _ _ => by rw [f.1 294 (by omega)], fun b j q1 q2 _ => by rw [f.1 b (by omega)], fun b j q1 q2 q3 => f.2 b j q1 q2 (by omega)⟩
theorem fI_fG {h h2 : am_H} {l : Int} (f : fG h h2 l) : fI h h2 l :=
  ⟨fun b q1 q2 q3 q4 => f.1 b q1 q4, fun j q1 q2 q3 q4 q5 q6 => f.2.1 j q3 q4, fun b j q1 q2 q3 => f.2.2.1 b j q1 q2 (by omega), fun b j q1 q2 q3 => f.2.2.2 b j q1 q2 (Or.inl q3)⟩
theorem fI_fN {h h2 : am_H} {l : Int} (f : fN h h2) : fI h h2 l :=
  ⟨fun b q1 q2 q3 q4 => f.1 b q1 q2, fun j q1 q2 _ _ _ _ => f.2 j q1 q2, fun b j q1 q2 _ => by rw [f.1 b (by omega) (by omega)], fun b j q1 q2 _ => by rw [f.1 b (by omega) (by omega)]⟩
theorem fI_up {h : am_H} {l r i v : Int} (q : (r = 294 ∧ (i = 43 ∨ i = 44 ∨ i = 45 ∨ i = 46)) ∨ (308 ≤ r ∧ r ≤ 311 ∧ l ≤ i) ∨ (312 ≤ r ∧ r ≤ 316 ∧ 8 * l ≤ i)) : fI h (am_up h r i v) l := by
  refine ⟨fun b q1 q2 q3 q4 => ?_, fun j q1 q2 q3 q4 q5 q6 => am_up_ne (by omega), fun b j q1 q2 q3 => am_up_ne (by omega), fun b j q1 q2 q3 => am_up_ne (by omega)⟩
  funext j
  exact am_up_ne (by omega)
theorem rst_fI {h h2 : am_H} (s : rst h t tx β) (f : fI h h2 l) : rst h2 t tx β := by
  obtain ⟨r1, r2, r3, r4, r5, r6⟩ := s
  exact ⟨rtx_congr r1 (f.1 _ (by omega) (by omega) (by omega) (by omega)), r2, rlay_congr r3 (fun b q q2 => f.1 b (by omega) (by omega) (by omega) (by omega)) (fun j q q2 => f.2.1 j (by omega) (by omega) (by omega) (by omega) (by omega) (by omega)), fun j j0 j1 => by rw [f.1 295 (by omega) (by omega) (by omega) (by omega)]; exact r4 j j0 j1, r5, by rw [f.2.1 47 (by omega) (by omega) (by omega) (by omega) (by omega) (by omega)]; exact r6⟩
theorem rlv_fI {h h2 : am_H} {m : Int} (r : rlv h l tx base size ρ) (f : fI h h2 m) (q : l < m) : rlv h2 l tx base size ρ := by
  obtain ⟨r0, r1, r2⟩ := r
  refine ⟨by rw [f.2.2.1 308 l (by omega) (by omega) q]; exact r0, by rw [f.2.2.1 309 l (by omega) (by omega) q]; exact r1, fun g hg => ?_⟩
  rw [f.2.2.2 315 _ (by omega) (by omega) (by omega), f.2.2.2 312 _ (by omega) (by omega) (by omega), f.2.2.2 316 _ (by omega) (by omega) (by omega), f.2.2.2 313 _ (by omega) (by omega) (by omega), f.2.2.2 314 _ (by omega) (by omega) (by omega)]
  exact r2 g hg
/-- a NEST is being read: its interval and what its own SUMS look at stand -/
def rmid (h : am_H) (l : Int) (tx : List Cl) (base size : Int) (ρ : Rd) (f : Nat) (a z : Int) (L : Nat) : Prop := (h 308 l = base ∧ h 309 l = size) ∧ (h 313 (8 * l + f) = a ∧ h 314 (8 * l + f) = z ∧ h 316 (8 * l + f) = (L : Int)) ∧ ∀ g : Nat, g < 8 → g ≠ f → h 315 (8 * l + g) = ρ g 3 ∧ h 312 (8 * l + g) = ρ g 0 ∧ h 316 (8 * l + g) = ρ g 4 ∧ (0 ≤ co tx g → h 313 (8 * l + g) = ρ g 1 ∧ h 314 (8 * l + g) = ρ g 2)
theorem rmid_fI {h h2 : am_H} {m : Int} {f : Nat} {a z : Int} {L : Nat} (hf : f < 8) (r : rmid h l tx base size ρ f a z L) (fi : fI h h2 m) (q : l < m) : rmid h2 l tx base size ρ f a z L := by
  obtain ⟨⟨r0, r1⟩, ⟨r2, r3, r4⟩, r5⟩ := r
  refine ⟨⟨by rw [fi.2.2.1 308 l (by omega) (by omega) q]; exact r0, by rw [fi.2.2.1 309 l (by omega) (by omega) q]; exact r1⟩, ⟨by rw [fi.2.2.2 313 _ (by omega) (by omega) (by omega)]; exact r2, by rw [fi.2.2.2 314 _ (by omega) (by omega) (by omega)]; exact r3, by rw [fi.2.2.2 316 _ (by omega) (by omega) (by omega)]; exact r4⟩, fun g hg gf => ?_⟩
  rw [fi.2.2.2 315 _ (by omega) (by omega) (by omega), fi.2.2.2 312 _ (by omega) (by omega) (by omega), fi.2.2.2 316 _ (by omega) (by omega) (by omega), fi.2.2.2 313 _ (by omega) (by omega) (by omega), fi.2.2.2 314 _ (by omega) (by omega) (by omega)]
  exact r5 g hg gf
/-- a level is begun -/
def rbeg (h : am_H) (l : Int) (tx : List Cl) (b s : Int) : Prop := h 294 43 = l ∧ h 310 l = 0 ∧ h 311 l = 0 ∧ rlv h l tx b s (rd0 tx l)
theorem c_X7_isNestBegun {f : Nat} {inn : Int → Int → Option Rd} (s : rst h t tx β) (e43 : h 294 43 = l) (l0 : 0 ≤ l ∧ l ≤ 2) (r : rlv h l tx base size ρ) (o : okr tx ρ) (hb : 0 ≤ base ∧ 0 ≤ size ∧ base + size ≤ 40) (c : rce false h (nmR ρ l size) β base) (he : eok false (nmR ρ l size) β base) (hf : f < 8) (hc : 0 ≤ co tx f) (hk : kdf tx f = 2) (hin : l = 2 → inn = fun _ _ => none)
    (k0 : ∀ h2, fE h h2 (8 * l + f) → rlv h2 l tx base size (stepV tx β false base size inn ρ f (fa tx β l base size ρ f) (fz tx β l base size ρ f) (fo tx β l base size ρ f) (fL tx β l base size ρ f)) → stepV tx β false base size inn ρ f (fa tx β l base size ρ f) (fz tx β l base size ρ f) (fo tx β l base size ρ f) (fL tx β l base size ρ f) = putR ρ f 4 ((fL tx β l base size ρ f : Nat) : Int) → Q 0 h2)
    (k1 : l < 2 → (0 ≤ fa tx β l base size ρ f ∧ fa tx β l base size ρ f ≤ fz tx β l base size ρ f ∧ fz tx β l base size ρ f ≤ size ∧ fz tx β l base size ρ f - fa tx β l base size ρ f < size) → ∀ h2, fI h h2 l → h2 310 l = h 310 l → h2 311 l = h 311 l → rmid h2 l tx base size ρ f (fa tx β l base size ρ f) (fz tx β l base size ρ f) (fL tx β l base size ρ f) → rbeg h2 (l + 1) tx (base + fa tx β l base size ρ f) (fz tx β l base size ρ f - fa tx β l base size ρ f) → h2 294 44 = max (h 294 44) (l + 1) → h2 294 45 = h 294 45 → Q 1 h2) : cf (d + 4) M_X7_isNestBegun [.inr (.inr 294), .inl t, .inl (f : Int)] h Q := by
  have rf := rtx_f s hf hc
  have w := fcl_ws s.2.1 hc
  have e5 := (s.2.2.1.1 f hf).1
  have eo : fo tx β l base size ρ f = fa tx β l base size ρ f := by unfold fo; rw [if_neg (by omega)]
  have eL : fL tx β l base size ρ f = lk (nmR ρ l size) β base (fcl tx f).2.2.2.1 ||| lk (nmR ρ l size) β base (fcl tx f).2.2.2.2.1 := by unfold fL; rw [if_neg (by omega), Nat.or_zero]
  have ba : -16777215 ≤ fa tx β l base size ρ f ∧ fa tx β l base size ρ f ≤ 16777215 := (ev_bd he _ _ w.1).1
  have bz : -16777215 ≤ fz tx β l base size ρ f ∧ fz tx β l base size ρ f ≤ 16777215 := (ev_bd he _ _ w.2.1).1
  have ll0 := lk_lt he _ _ w.1
  have ll1 := lk_lt he _ _ w.2.1
  have lL : fL tx β l base size ρ f < 2 ^ 40 := by rw [eL]; exact Nat.or_lt_two_pow ll0 ll1
  rw [eo] at k0
  refine cf_of pX7 (Nat.le_of_ble_eq_true rfl) rfl (fun _ => B_X7_isNestBegun_0 ⟨by omega, by omega, ?_⟩)
  rw [e43, w32e (z := 8 * l) (by omega) (by omega), w32e (z := 8 * l + f) (by omega) (by omega), e5]
  refine c_X7_sumOf (d := d) rf.1 rf.2.1 (by omega) rf.2.2.2.1 w.1 he c (fun h4 f4 q4 _ => ⟨by omega, by omega, ?_⟩)
  rw [f4.1 305 (by omega), e5, q4]
  have r1 := rlv_look (L := lk (nmR ρ l size) β base (fcl tx f).2.2.2.1) hf (rlv_fB r f4)
  have g1 : fE h (am_up h4 316 (8 * l + f) ((lk (nmR ρ l size) β base (fcl tx f).2.2.2.1 : Nat) : Int)) (8 * l + f) := fE_trans (fE_fB f4) (fE_up (by omega))
  have s1 := rst_fE s g1
  have c1 := rce_fE c g1
  generalize hg1 : am_up h4 316 (8 * l + f) ((lk (nmR ρ l size) β base (fcl tx f).2.2.2.1 : Nat) : Int) = u1 at g1 s1 c1 r1
  refine c_X7_sumOf (d := d) rf.1 rf.2.1 (by omega) (rtx_f s1 hf hc).2.2.2.2.1 w.2.1 he c1 (fun h8 f8 q8 _ => ?_)
  have e843 : h8 294 43 = l := by rw [f8.1 294 (by omega), g1.1 294 (by omega)]; exact e43
  have r8 := rlv_fB r1 f8
  have e316 : h8 316 (8 * l + f) = ((lk (nmR ρ l size) β base (fcl tx f).2.2.2.1 : Nat) : Int) := by
    have := (r8.2.2 f hf).2.2.1
    rw [putR_at] at this
    exact this
  rw [e843, r8.2.1, e316, q8, lor_n (by omega) (by omega), ← eL]
  have r2 := rlv_look (L := fL tx β l base size ρ f) hf r8
  rw [putput] at r2
  have g2 : fE h (am_up h8 316 (8 * l + f) ((fL tx β l base size ρ f : Nat) : Int)) (8 * l + f) := fE_trans g1 (fE_trans (fE_fB f8) (fE_up (by omega)))
  generalize hg2 : am_up h8 316 (8 * l + f) ((fL tx β l base size ρ f : Nat) : Int) = u2 at g2 r2
  have e2 : ∀ j, u2 294 j = h 294 j := fun j => by rw [g2.1 294 (by omega)]
  have s2 := rst_fE s g2
  rw [show ev (nmR ρ l size) β base (fcl tx f).2.2.2.1 = fa tx β l base size ρ f from rfl, show ev (nmR ρ l size) β base (fcl tx f).2.2.2.2.1 = fz tx β l base size ρ f from rfl]
  generalize fa tx β l base size ρ f = a at ba k0 k1 ⊢
  generalize fz tx β l base size ρ f = z at bz k0 k1 ⊢
  generalize fL tx β l base size ρ f = L at lL k0 k1 r2
  have bad : ¬ (0 ≤ a ∧ a ≤ z ∧ z ≤ size ∧ z - a < size ∧ l < 2) → Q 0 u2 := by
    intro y
    have es : stepV tx β false base size inn ρ f a z a L = putR ρ f 4 (L : Int) := by
      unfold stepV
      by_cases q : 0 ≤ a ∧ a ≤ z ∧ z ≤ size ∧ 0 ≤ a ∧ a ≤ size
      · rw [if_pos q, if_neg (by omega), if_neg (by omega)]
        by_cases q2 : z - a < size
        · rw [if_pos q2, hin (by omega)]
        · rw [if_neg q2]
      · rw [if_neg q]
    refine k0 u2 g2 ?_ es
    rw [es]
    exact r2
  refine ⟨by omega, by omega, c_X7_isWithin (fun w1 w2 w3 => ⟨fun y => by omega, fun _ => ?_⟩) (fun y => ⟨fun _ => bad (by omega), fun y => absurd rfl y⟩)⟩
  rw [w64e (z := z - a) (by omega) (by omega), e2, e43, r2.2.1, l2i_id (x := a) (by omega) (by omega), l2i_id (x := z) (by omega) (by omega), l2i_id (x := z - a) (by omega) (by omega), w32e (z := l + 1) (by omega) (by omega), r2.1, w32e (z := base + a) (by omega) (by omega)]
  refine ⟨by omega, by omega, fun y => bad (by have := lcmp_nn y; omega), fun y => ⟨fun y2 => ?_, fun y2 => bad (by omega)⟩⟩
  have y3 := lcmp_neg y
  have e32 := s2.2.2.1.2.2.1
  refine c_X7_beginLevel (tx := tx) (by omega) (by rw [am_up_ne (by omega), am_up_ne (by omega)]; exact e32) (fun h9 f9 a43 a44 a310 a311 r9 => k1 (by omega) ⟨w1, w2, w3, y3⟩ h9 ?_ ?_ ?_ ⟨⟨?_, ?_⟩, ⟨?_, ?_, ?_⟩, fun g hg gf => ?_⟩ ⟨a43, a310, a311, r9⟩ ?_ ?_)
  · exact fI_trans (fI_fE (fE_trans g2 (fE_trans (fE_up (by omega)) (fE_up (by omega)))) (by omega)) (fI_fG f9) (by omega)
  · rw [f9.2.2.1 310 l (by omega) (by omega) (by omega), am_up_ne (by omega), am_up_ne (by omega), g2.1 310 (by omega)]
  · rw [f9.2.2.1 311 l (by omega) (by omega) (by omega), am_up_ne (by omega), am_up_ne (by omega), g2.1 311 (by omega)]
  · rw [f9.2.2.1 308 l (by omega) (by omega) (by omega), am_up_ne (by omega), am_up_ne (by omega)]; exact r2.1
  · rw [f9.2.2.1 309 l (by omega) (by omega) (by omega), am_up_ne (by omega), am_up_ne (by omega)]; exact r2.2.1
  · rw [f9.2.2.2 313 _ (by omega) (by omega) (by omega), am_up_ne (by omega), am_up_at]
  · rw [f9.2.2.2 314 _ (by omega) (by omega) (by omega), am_up_at]
  · rw [f9.2.2.2 316 _ (by omega) (by omega) (by omega), am_up_ne (by omega), am_up_ne (by omega), (r2.2.2 f hf).2.2.1, putR_at]
  · have rg := r2.2.2 g hg
    rw [putR_ne (by omega), putR_ne (by omega), putR_ne (by omega), putR_ne (by omega), putR_ne (by omega)] at rg
    rw [f9.2.2.2 315 _ (by omega) (by omega) (by omega), f9.2.2.2 312 _ (by omega) (by omega) (by omega), f9.2.2.2 316 _ (by omega) (by omega) (by omega), f9.2.2.2 313 _ (by omega) (by omega) (by omega), f9.2.2.2 314 _ (by omega) (by omega) (by omega)]
    rw [am_up_ne (by omega), am_up_ne (by omega), am_up_ne (by omega), am_up_ne (by omega), am_up_ne (by omega), am_up_ne (by omega), am_up_ne (by omega), am_up_ne (by omega), am_up_ne (by omega), am_up_ne (by omega)]
    exact rg
  · rw [a44, am_up_ne (by omega), am_up_ne (by omega), e2]
  · rw [f9.2.1 45 (by omega) (by omega), am_up_ne (by omega), am_up_ne (by omega), e2]
/-- the FIELD at hand in a level's row -/
theorem c_X7_readField {i : Nat} {inn : Int → Int → Option Rd} (s : rst h t tx β) (e43 : h 294 43 = l) (l0 : 0 ≤ l ∧ l ≤ 2) (e310 : h 310 l = (i : Int)) (hi : i < (ord tx).length) (r : rlv h l tx base size ρ) (o : okr tx ρ) (hb : 0 ≤ base ∧ 0 ≤ size ∧ base + size ≤ 40) (hin : l = 2 → inn = fun _ _ => none)
    (k0 : ∀ h2, fI h h2 l → h2 294 43 = l → h2 310 l = h 310 l → h2 311 l = h 311 l → h2 294 44 = h 294 44 → h2 294 45 = h 294 45 → rlv h2 l tx base size (stepF tx β false l base size inn ρ ((ord tx).getD i 0)) → stepF tx β false l base size inn ρ ((ord tx).getD i 0) 8 0 = ρ 8 0 → Q 0 h2)
    (k1 : ∀ f, f = (ord tx).getD i 0 → l < 2 → kdf tx f = 2 → ¬ bkn ρ (hgu tx f) = true → (0 ≤ fa tx β l base size ρ f ∧ fa tx β l base size ρ f ≤ fz tx β l base size ρ f ∧ fz tx β l base size ρ f ≤ size ∧ fz tx β l base size ρ f - fa tx β l base size ρ f < size) → fL tx β l base size ρ f < 2 ^ 40 → ∀ h2, fI h h2 l → h2 310 l = h 310 l → h2 311 l = h 311 l → rmid h2 l tx base size ρ f (fa tx β l base size ρ f) (fz tx β l base size ρ f) (fL tx β l base size ρ f) → rbeg h2 (l + 1) tx (base + fa tx β l base size ρ f) (fz tx β l base size ρ f - fa tx β l base size ρ f) → h2 294 44 = max (h 294 44) (l + 1) → h2 294 45 = h 294 45 → Q 1 h2) : cf (d + 5) M_X7_readField [.inr (.inr 294), .inl t] h Q := by
  have ok := s.2.1
  have lay := s.2.2.1
  have e307 := lay.2.2.2.1 i hi
  have l8 := ord_len (tx := tx)
  have mem : (ord tx).getD i 0 ∈ ord tx := by
    rw [List.getD_eq_getElem?_getD, List.getElem?_eq_getElem hi]
    exact List.getElem_mem hi
  generalize (ord tx).getD i 0 = f at *
  have om := ord_mem mem
  have hg := hgu_lt (f := f) ok
  have tl := told_lt (tx := tx)
  refine cf_of pX7 (Nat.le_of_ble_eq_true rfl) rfl (fun _ => B_X7_readField_0 ?_)
  rw [e43, e310, e307, (lay.1 f om.1).2]
  refine ⟨by omega, by omega, by omega, by omega, by omega, by omega, c_X7_isAnyBroken (d := d + 3) (Nat.lt_of_le_of_lt Nat.and_le_left hg) e43 l0 r (fun q => ⟨fun y => by omega, fun _ => ?_⟩) (fun q => ⟨fun _ => ?_, fun y => absurd rfl y⟩)⟩
  · rw [bkn_told o] at q
    have es : stepF tx β false l base size inn ρ f = ρ := by unfold stepF; rw [if_pos q]
    rw [es] at k0
    exact k0 h fI_refl e43 rfl rfl rfl rfl r rfl
  · rw [bkn_told o] at q
    have es : stepF tx β false l base size inn ρ f = stepV tx β false base size inn ρ f (fa tx β l base size ρ f) (fz tx β l base size ρ f) (fo tx β l base size ρ f) (fL tx β l base size ρ f) := by unfold stepF; rw [if_neg q]
    rw [es] at k0
    refine c_X7_nameLevel s e43 l0 r (fun g fg cg => ?_)
    have fi : fI h g l := fI_fN fg
    have sg := rst_fI s fi
    have g43 : g 294 43 = l := by rw [fg.2 43 (by omega) (by omega)]; exact e43
    have rg : rlv g l tx base size ρ := by
      unfold rlv at r ⊢
      rw [fg.1 308 (by omega) (by omega), fg.1 309 (by omega) (by omega), fg.1 312 (by omega) (by omega), fg.1 313 (by omega) (by omega), fg.1 314 (by omega) (by omega), fg.1 315 (by omega) (by omega), fg.1 316 (by omega) (by omega)]
      exact r
    have he : eok false (nmR ρ l size) β base := by
      refine ⟨hb.1, by rw [nmR_8]; omega, s.2.2.2.2.1, fun j aj => ?_⟩
      unfold al at aj
      simp at aj
      by_cases c : j < 8
      · rw [nmR_k c]
        have := (o.1 j c).2.2.1
        omega
      · by_cases c8 : j = 8
        · subst c8
          rw [show ((8 : Nat) : Int) = 8 from rfl, nmR_8]; omega
        · have : j = 9 := by omega
          subst this
          rw [show ((9 : Nat) : Int) = 9 from rfl, nmR_9]; omega
    have rf := rtx_f sg om.1 om.2
    have e5 : g 305 f = co tx f := (sg.2.2.1.1 f om.1).1
    rw [e5]
    have x0 : ∀ h2, fE g h2 (8 * l + f) → fI h h2 l ∧ h2 294 43 = l ∧ h2 310 l = h 310 l ∧ h2 311 l = h 311 l ∧ h2 294 44 = h 294 44 ∧ h2 294 45 = h 294 45 := fun h2 f2 =>
      ⟨fI_trans fi (fI_fE f2 (by omega)) (Int.le_refl _), by rw [f2.1 294 (by omega)]; exact g43, by rw [f2.1 310 (by omega), fg.1 310 (by omega) (by omega)], by rw [f2.1 311 (by omega), fg.1 311 (by omega) (by omega)], by rw [f2.1 294 (by omega)]; exact fg.2 44 (by omega) (by omega), by rw [f2.1 294 (by omega)]; exact fg.2 45 (by omega) (by omega)⟩
    refine c_X7_clauseAt rf.1 (by omega) ⟨by omega, by omega, ?_⟩
    rw [rf.2.2.1]
    have k8 := kdf_or ok om.2
    have w := fcl_ws ok om.2
    have v80 : kdf tx f = 0 ∨ kdf tx f = 1 → stepV tx β false base size inn ρ f (fa tx β l base size ρ f) (fz tx β l base size ρ f) (fo tx β l base size ρ f) (fL tx β l base size ρ f) 8 0 = ρ 8 0 := by
      intro q8
      unfold stepV
      repeat' split
      all_goals first | exact setR_ne (by omega) | exact putR_ne (by omega) | omega
    refine ⟨fun y => ⟨fun y2 => ?_, fun y2 => ?_⟩, fun y => ?_⟩
    · refine c_X7_readSum (d := d) (inn := inn) sg g43 l0 rg o hb cg he om.1 om.2 (by omega) (fun h2 f2 r2 => ?_)
      obtain ⟨a1, a2, a3, a4, a5, a6⟩ := x0 h2 f2
      exact k0 h2 a1 a2 a3 a4 a5 a6 r2 (v80 (by omega))
    · refine c_X7_readNum (d := d) (inn := inn) sg g43 l0 rg o hb cg he om.1 om.2 y2 (fun h2 f2 r2 => ?_)
      obtain ⟨a1, a2, a3, a4, a5, a6⟩ := x0 h2 f2
      exact k0 h2 a1 a2 a3 a4 a5 a6 r2 (v80 (by omega))
    · have lL : fL tx β l base size ρ f < 2 ^ 40 := by
        unfold fL
        rw [if_neg (by omega), Nat.or_zero]
        exact Nat.or_lt_two_pow (lk_lt he _ _ w.1) (lk_lt he _ _ w.2.1)
      refine c_X7_isNestBegun (d := d) (inn := inn) sg g43 l0 rg o hb cg he om.1 om.2 y hin (fun h2 f2 r2 e2 => ⟨Or.inl rfl, ?_⟩) (fun l2 w2 h2 f2 a310 a311 m2 b2 a44 a45 => ⟨Or.inr rfl, ?_⟩)
      · obtain ⟨a1, a2, a3, a4, a5, a6⟩ := x0 h2 f2
        exact k0 h2 a1 a2 a3 a4 a5 a6 r2 (by rw [e2, putR_ne (by omega)])
      · exact k1 f rfl l2 y q w2 lL h2 (fI_trans fi f2 (Int.le_refl _)) (by rw [a310, fg.1 310 (by omega) (by omega)]) (by rw [a311, fg.1 311 (by omega) (by omega)]) m2 b2 (by rw [a44, fg.2 44 (by omega) (by omega)]) (by rw [a45, fg.2 45 (by omega) (by omega)])
end RREAD5
