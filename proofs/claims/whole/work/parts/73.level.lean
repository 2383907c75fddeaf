/-! LEVEL 3, the reference's levels: a loop whose head is P; going on behind a level is C -/
section LEVEL
variable {D : Nat} {t l : Int} {tx : List Cl} {base size : Int} {ρ : Rd} {β : Int → Int} {P C : am_H → Prop}
def loopOK (D : Nat) (t : Int) (len : Nat) (P C : am_H → Prop) : Prop :=
  (∀ (g : am_H) (i : Nat) (l : Int), (0 ≤ l ∧ l ≤ 2) → g 294 43 = l → g 310 l = (i : Int) → g 294 31 = (len : Int) → i < len → cf D M_X7_readField [.inr (.inr 294), .inl t] g (fun r g9 => (¬ r = 0 → P g9) ∧ (r = 0 → (0 ≤ g9 294 43) ∧ ((g9 294 43 < 3) ∧ P (am_up g9 310 (g9 294 43) (am_w32 (g9 310 (g9 294 43) + 1)))))) → P g) ∧
  ∀ (g : am_H) (l : Int), (0 ≤ l ∧ l ≤ 2) → g 294 43 = l → g 310 l = (len : Int) → g 294 31 = (len : Int) → cf D M_X7_readMusts [.inr (.inr 294), .inl t] g (fun _ g6 => C g6 ∧ cf D M_X7_endLevel [.inr (.inr 294)] g6 (fun _ g3 => P g3)) → P g
/-- a level at its i-th FIELD -/
def rs (g : am_H) (t : Int) (tx : List Cl) (β : Int → Int) (l : Int) (i : Nat) (base size : Int) (ρ : Rd) : Prop := rst g t tx β ∧ (g 294 43 = l ∧ g 310 l = (i : Int) ∧ g 311 l = 0) ∧ rlv g l tx base size ρ ∧ okr tx ρ ∧ okn (bD l) tx ρ ∧ (l ≤ ρ 8 0 ∧ ρ 8 0 ≤ 2) ∧ ρ 8 1 = -1 ∧ ρ 8 4 = 0
/-- a NEST that is begun is read, and ended -/
def nestOK (t : Int) (tx : List Cl) (β : Int → Int) (l : Int) (F : Int → Int → Rd) (P : am_H → Prop) (E : Nat → Prop) : Prop :=
  ∀ (g : am_H) (i f : Nat) (base size a z : Int) (ρ : Rd) (L : Nat), rst g t tx β → ivl β base size → i < (ord tx).length → (ord tx).getD i 0 = f → E f → g 310 l = (i : Int) → L < 2 ^ 40 → (0 ≤ a ∧ a ≤ z ∧ z ≤ size ∧ z - a < size) → rmid g l tx base size ρ f a z L → rbeg g (l + 1) tx (base + a) (z - a) → (l + 1 ≤ g 294 44 ∧ g 294 44 ≤ 2) →
    (∀ g3, fI g g3 l → g3 294 43 = l → g3 310 l = ((i + 1 : Nat) : Int) → g3 311 l = g 311 l → rlv g3 l tx base size (setR ρ f (nval tx (F (base + a) (z - a))) a z (if sndR (F (base + a) (z - a)) = true then 0 else 2) (L ||| nlk (F (base + a) (z - a)))) → g3 294 44 = max (g 294 44) (F (base + a) (z - a) 8 0) → g3 294 45 = g 294 45 → P g3) → P g
theorem drop_take {i n : Nat} (hi : i + (n + 1) ≤ (ord tx).length) : ((ord tx).drop i).take (n + 1) = (ord tx).getD i 0 :: ((ord tx).drop (i + 1)).take n := by
  rw [drop_ord (by omega), List.take_succ_cons]
theorem lvA {inn : Int → Int → Option Rd} {E : Nat → Prop} (LP : loopOK (D + 5) t (ord tx).length P C) (hl : l = 0 ∨ l = 1 ∨ l = 2) (v : ivl β base size) (hin : inP tx l inn) (hN : (l = 2 ∧ inn = fun _ _ => none) ∨ (l < 2 ∧ ∃ F, inn = (fun b s => some (F b s)) ∧ nestOK t tx β l F P E)) :
    ∀ (n i : Nat) (g : am_H) (ρ : Rd) (D0 : Int), i + n ≤ (ord tx).length → rs g t tx β l i base size ρ → (∀ f, f ∈ ((ord tx).drop i).take n → ρ f 3 = 1 ∧ (kdf tx f = 2 → E f)) → g 294 44 = max D0 (ρ 8 0) → D0 ≤ 2 →
      (∀ g2, rs g2 t tx β l (i + n) base size (flds tx β false l base size inn 255 (((ord tx).drop i).take n) ρ) → fI g g2 l → g2 294 44 = max D0 (flds tx β false l base size inn 255 (((ord tx).drop i).take n) ρ 8 0) → g2 294 45 = g 294 45 → P g2) → P g
  | 0, i, g, ρ, D0, hi, s, hb, e44, d2, k => by
    simp only [List.take_zero, flds, Nat.add_zero] at k
    exact k g s fI_refl e44 rfl
  | n + 1, i, g, ρ, D0, hi, s, hb, e44, d2, k => by
    obtain ⟨s1, ⟨s2, s3, s4⟩, s5, s6, s7, s8, s9, s10⟩ := s
    have ok := s1.2.1
    have hi' : i < (ord tx).length := by omega
    have l8 := ord_len (tx := tx)
    rw [drop_take hi] at hb k
    have f8 : (255 : Nat).testBit ((ord tx).getD i 0) = true := by
      have mem : (ord tx).getD i 0 ∈ ord tx := by
        rw [List.getD_eq_getElem?_getD, List.getElem?_eq_getElem hi']
        exact List.getElem_mem hi'
      rw [show (255 : Nat) = 2 ^ 8 - 1 from rfl, Nat.testBit_two_pow_sub_one]
      exact decide_eq_true (ord_mem mem).1
    simp only [flds] at k
    rw [if_pos f8] at k
    have mem : (ord tx).getD i 0 ∈ ord tx := by
      rw [List.getD_eq_getElem?_getD, List.getElem?_eq_getElem hi']
      exact List.getElem_mem hi'
    have nd : (ord tx).getD i 0 ∉ ((ord tx).drop (i + 1)).take n := by
      intro h
      have := List.Sublist.nodup (List.drop_sublist i (ord tx)) ord_nodup
      rw [drop_ord hi'] at this
      exact (List.nodup_cons.mp this).1 (List.mem_of_mem_take h)
    have om := ord_mem mem
    have hb0 := hb _ List.mem_cons_self
    have so := stepF_ok (vo := false) (inn := inn) ok v hl hin s6 s7 om.1 hb0.1 om.2 s8
    have gi : ∃ f, (ord tx).getD i 0 = f := ⟨_, rfl⟩
    have next : ∀ (u : am_H) (m : Int), rst u t tx β → u 294 43 = l → u 310 l = ((i + 1 : Nat) : Int) → u 311 l = 0 → rlv u l tx base size (stepF tx β false l base size inn ρ ((ord tx).getD i 0)) → fI g u l → u 294 44 = max D0 (stepF tx β false l base size inn ρ ((ord tx).getD i 0) 8 0) → u 294 45 = g 294 45 → P u := by
      intro u m a1 a2 a3 a4 a5 a6 a7 a8
      refine lvA LP hl v hin hN n (i + 1) u _ D0 (by omega) ⟨a1, ⟨a2, a3, a4⟩, a5, so.1, so.2.1, so.2.2.1, by rw [so.2.2.2.2.1]; exact s9, by rw [so.2.2.2.2.2]; exact s10⟩ (fun f hf => ?_) a7 d2 (fun g2 b1 b2 b3 b4 => k g2 ?_ (fI_trans a6 b2 (Int.le_refl _)) b3 (b4.trans a8))
      · have q := hb f (List.mem_cons_of_mem _ hf)
        have m2 := ord_mem (List.mem_of_mem_drop (List.mem_of_mem_take hf))
        exact ⟨by rw [so.2.2.2.1 f m2.1 (fun e => nd (e ▸ hf))]; exact q.1, q.2⟩
      · rw [show i + (n + 1) = i + 1 + n by omega]; exact b1
    refine LP.1 g i l (by omega) s2 s3 s1.2.2.1.2.1 hi' (c_X7_readField (d := D) (inn := inn) s1 s2 (by omega) s3 hi' s5 s6 (by have := v.2; omega) (fun e => ?_) (fun h2 f2 a43 a310 a311 a44 a45 r2 e80 => ⟨fun q => absurd rfl q, fun _ => ?_⟩) (fun f ef l2 k2 nb w lL h2 f2 a310 a311 m2 b2 a44 a45 => ⟨fun _ => ?_, fun q => by omega⟩))
    · rcases hN with ⟨_, q⟩ | ⟨q, _⟩
      · exact q
      · omega
    · rw [a43, a310, s3, w32e (by omega) (by omega)]
      refine ⟨by omega, by omega, next _ 0 ?_ ?_ ?_ ?_ ?_ ?_ ?_ ?_⟩
      · exact rst_fI (l := l) (rst_fI s1 f2) (fI_up (by omega))
      · rw [am_up_ne (by omega)]; exact a43
      · rw [am_up_at]; omega
      · rw [am_up_ne (by omega), a311]; exact s4
      · obtain ⟨r0, r1, r3⟩ := r2
        refine ⟨by rw [am_up_ne (by omega)]; exact r0, by rw [am_up_ne (by omega)]; exact r1, fun x hx => ?_⟩
        rw [am_up_ne (by omega), am_up_ne (by omega), am_up_ne (by omega), am_up_ne (by omega), am_up_ne (by omega)]
        exact r3 x hx
      · exact fI_trans f2 (fI_up (by omega)) (Int.le_refl _)
      · rw [am_up_ne (by omega), a44, e44, e80]
      · rw [am_up_ne (by omega)]; exact a45
    · rcases hN with ⟨q, _⟩ | ⟨_, F, eF, hF⟩
      · omega
      · have es : stepF tx β false l base size inn ρ f = putR (setR ρ f (nval tx (F (base + fa tx β l base size ρ f) (fz tx β l base size ρ f - fa tx β l base size ρ f))) (fa tx β l base size ρ f) (fz tx β l base size ρ f) (if sndR (F (base + fa tx β l base size ρ f) (fz tx β l base size ρ f - fa tx β l base size ρ f)) = true then 0 else 2) (fL tx β l base size ρ f ||| nlk (F (base + fa tx β l base size ρ f) (fz tx β l base size ρ f - fa tx β l base size ρ f)))) 8 0 (max (ρ 8 0) (F (base + fa tx β l base size ρ f) (fz tx β l base size ρ f - fa tx β l base size ρ f) 8 0)) := by
          unfold stepF
          rw [if_neg nb]
          unfold stepV
          have eo : fo tx β l base size ρ f = fa tx β l base size ρ f := by unfold fo; rw [if_neg (by omega)]
          rw [eo, if_pos (by omega), if_neg (by omega), if_neg (by omega), if_pos w.2.2.2, eF]
        have iP := hin (base + fa tx β l base size ρ f) (fz tx β l base size ρ f - fa tx β l base size ρ f) (F (base + fa tx β l base size ρ f) (fz tx β l base size ρ f - fa tx β l base size ρ f)) (by have := v.2; omega) (by omega) (by have := v.2; omega) (by rw [eF])
        have hE : kdf tx f = 2 → E f := by rw [ef]; exact hb0.2
        refine hF h2 i f base size _ _ ρ _ (rst_fI s1 f2) v hi' ef.symm (hE k2) (a310.trans s3) lL w m2 b2 (by rw [a44, e44]; omega) (fun g3 f3 c43 c310 c311 r3 c44 c45 => next g3 0 (rst_fI (rst_fI s1 f2) f3) c43 c310 (by rw [c311, a311]; exact s4) ?_ (fI_trans f2 f3 (Int.le_refl _)) ?_ (c45.trans a45))
        · rw [← ef, es]
          obtain ⟨r0, r1, r4⟩ := r3
          refine ⟨r0, r1, fun x hx => ?_⟩
          rw [putR_ne (by omega), putR_ne (by omega), putR_ne (by omega), putR_ne (by omega), putR_ne (by omega)]
          exact r4 x hx
        · rw [c44, a44, e44, ← ef, es, putR_at]
          omega
/-- a level below one that goes on -/
theorem nestOK_of {inn : Int → Int → Option Rd} {E E2 : Nat → Prop} (LP : loopOK (D + 5) t (ord tx).length P C) (hl : l = 0 ∨ l = 1) (hb : ∀ j : Int, 0 ≤ j → j < 40 → 0 ≤ β j ∧ β j ≤ 255) (ok : okx tx) (hin : inP tx (l + 1) inn) (hN : (l + 1 = 2 ∧ inn = fun _ _ => none) ∨ (l + 1 < 2 ∧ ∃ F, inn = (fun b s => some (F b s)) ∧ nestOK t tx β (l + 1) F P E)) (hE : ∀ f, E f)
    (hC : ∀ (g6 : am_H) (i f : Nat), g6 294 43 = l + 1 → g6 310 l = (i : Int) → i < (ord tx).length → (ord tx).getD i 0 = f → g6 307 i = (f : Int) → E2 f → C g6) : nestOK t tx β l (lvl tx β false (l + 1) inn 255) P E2 := by
  intro g i f base size a z ρ L s v hi ef hE2 e310 hL w m b d44 k
  obtain ⟨b1, b2, b3, b4⟩ := b
  have v2 : ivl β (base + a) (z - a) := ⟨hb, by have := v.2; omega⟩
  have hl2 : l + 1 = 0 ∨ l + 1 = 1 ∨ l + 1 = 2 := by omega
  have mem0 : ∀ f, f ∈ ((ord tx).drop 0).take (ord tx).length → f ∈ ord tx := fun f hf => List.mem_of_mem_drop (List.mem_of_mem_take hf)
  have full : ((ord tx).drop 0).take (ord tx).length = ord tx := by rw [List.drop_zero, List.take_length]
  have om : f < 8 := by
    have mem : f ∈ ord tx := by
      rw [← ef, List.getD_eq_getElem?_getD, List.getElem?_eq_getElem hi]
      exact List.getElem_mem hi
    exact (ord_mem mem).1
  refine lvA (E := E) LP hl2 v2 hin hN (ord tx).length 0 g (rd0 tx (l + 1)) (g 294 44) (by omega) ⟨s, ⟨b1, b2, b3⟩, b4, okr_0, okn_0, by rw [rd0_8.1]; omega, rd0_8.2.1, rd0_8.2.2⟩ (fun x hx => ?_) (by rw [rd0_8.1]; omega) (by omega) (fun g2 s2 f2 e44 e45 => ?_)
  · have mm := ord_mem (mem0 x hx)
    exact ⟨((rd0_v (deep := l + 1) mm.1).1 mm.2).2.2.2, fun _ => hE x⟩
  · rw [full] at s2 e44
    rw [Nat.zero_add] at s2
    have lo := lvl_ok (vo := false) (wanted := 255) ok v2 hl2 hin
    have el : lvl tx β false (l + 1) inn 255 (base + a) (z - a) = msts β (l + 1) (base + a) (z - a) tx 0 (flds tx β false (l + 1) (base + a) (z - a) inn 255 (ord tx) (rd0 tx (l + 1))) := by unfold lvl; rw [if_pos rfl]
    rw [el] at lo
    generalize hρ : flds tx β false (l + 1) (base + a) (z - a) inn 255 (ord tx) (rd0 tx (l + 1)) = ρ3 at *
    obtain ⟨s21, ⟨s22, s23, s24⟩, s25, s26, s27, s28, s29, s210⟩ := s2
    refine LP.2 g2 (l + 1) (by omega) s22 s23 s21.2.2.1.2.1 (c_X7_readMusts (d := D + 1) s21 s22 (by omega) s25 s26 (by have := v2.2; omega) (by rw [s24, s210]) s29 (fun g3 ρm em om3 f3 r3 c311 c46 c450 c45 => ?_))
    have f13 : fI g g3 (l + 1) := fI_trans f2 (fM_fI f3) (Int.le_refl _)
    have s3 := rst_fM s21 f3
    have g43 : g3 294 43 = l + 1 := by rw [f3.2.1 43 (by omega) (by omega) (by omega) (by omega)]; exact s22
    have g310 : g3 310 l = (i : Int) := by rw [f13.2.2.1 310 l (by omega) (by omega) (by omega)]; exact e310
    rw [← em] at lo el
    refine ⟨hC g3 i f g43 g310 hi ef (by rw [s3.2.2.1.2.2.2.1 i hi, ef]) hE2, ?_⟩
    refine c_X7_endLevel (d := D + 4) s3 hl g43 r3 lo.1 lo.2.1 c311 c46 g310 hi ef hL (rmid_fI om m f13 (by omega)) (fun g4 f4 a43 a310 a311 a294 r4 => k g4 (fI_trans ?_ f4 (Int.le_refl _)) a43 a310 ?_ ?_ ?_ ?_)
    · exact ⟨f13.1, f13.2.1, fun b j q1 q2 q3 => f13.2.2.1 b j q1 q2 (by omega), fun b j q1 q2 q3 => f13.2.2.2 b j q1 q2 (by omega)⟩
    · rw [a311, f13.2.2.1 311 l (by omega) (by omega) (by omega)]
    · rw [el]; exact r4
    · rw [a294 44 (by omega), f3.2.1 44 (by omega) (by omega) (by omega) (by omega), e44, el, om3.2.2]
    · rw [a294 45 (by omega), c45 (by omega), e45]
end LEVEL
