section RREAD8
variable {d D : Nat} {h : am_H} {Q : Int → am_H → Prop} {t : Int} {tx : List Cl} {β : Int → Int}
theorem bset_up {γ : Int → Int} {x k : Int} (hx : 0 ≤ x ∧ x ≤ 7) (hk : 0 ≤ k) : bset (fun f => decide (0 ≤ up1 γ x k f)) 8 = bset (fun f => decide (0 ≤ γ f)) 8 ||| 2 ^ x.toNat := by
  refine bits_ext (n := 8) (bset_lt 8) (Nat.or_lt_two_pow (bset_lt 8) (Nat.pow_lt_pow_right (by decide) (by omega))) (fun i hi => ?_)
  rw [Nat.testBit_or, bset_bit, bset_bit, pow_bit]
  by_cases e : x.toNat = i
  · have : (i : Int) = x := by omega
    rw [this, up1_at]
    simp [hi, hk, e]
  · rw [up1_ne (by omega)]
    simp [e]
theorem l_lay7 (k : ∀ g, fY h g → (∀ f : Nat, f < 8 → g 305 f = -1) → g 294 32 = 0 → wf (d + 1) M_X7_layOrder Q 28 [some (.inr (.inr 294)), some (.inl t), some (.inl 0), none] [] g) : ∀ (n f : Nat) (g : am_H), f + n = 8 → fY h g → (∀ i : Nat, i < f → g 305 i = -1) → g 294 32 = 0 → wf (d + 1) M_X7_layOrder Q 7 [some (.inr (.inr 294)), some (.inl t), some (.inl (f : Int)), none] [] g
  | 0, f, g, hf, fg, gi, e32 => B_X7_layOrder_7 ⟨fun _ => k g fg (fun i hi => gi i (by omega)) e32, fun q => by omega⟩
  | n + 1, f, g, hf, fg, gi, e32 => by
    refine B_X7_layOrder_7 ⟨fun q => by omega, fun _ => ⟨by omega, ?_⟩⟩
    rw [w32e (by omega) (by omega), show (f : Int) + 1 = ((f + 1 : Nat) : Int) by omega]
    refine l_lay7 k n (f + 1) _ (by omega) (fY_up fg (by omega)) (fun i hi => ?_) (by rw [am_up_ne (by omega)]; exact e32)
    by_cases e : i = f
    · subst e; rw [am_up_at]
    · rw [am_up_ne (by omega)]; exact gi i (by omega)
theorem l_lay28 (r : rtx h t tx) (ok : okx tx) (k : ∀ g, fY h g → (∀ f : Nat, f < 8 → g 305 f = co tx f) → g 294 32 = (told tx : Nat) → wf (d + 1) M_X7_layOrder Q 97 [some (.inr (.inr 294)), some (.inl t), some (.inl 0), none] [] g) :
    ∀ (n i : Nat) (g : am_H) (γ : Int → Int), i + n = tx.length → fY h g → (∀ f : Nat, f < 8 → g 305 f = γ f) → g 294 32 = ((bset (fun f => decide (0 ≤ γ f)) 8 : Nat) : Int) → coA (tx.drop i) i γ = co tx → wf (d + 1) M_X7_layOrder Q 28 [some (.inr (.inr 294)), some (.inl t), some (.inl (i : Int)), none] [] g
  | 0, i, g, γ, hi, fg, g5, g32, ec => by
    have rg := rtx_congr r (fg.1 297 (by omega) (by omega))
    rw [List.drop_eq_nil_of_le (by omega)] at ec
    simp only [coA] at ec
    subst ec
    exact B_X7_layOrder_28 (c_X7_clauses rg ⟨fun _ => k g fg g5 g32, fun q => by omega⟩)
  | n + 1, i, g, γ, hi, fg, g5, g32, ec => by
    have rg := rtx_congr r (fg.1 297 (by omega) (by omega))
    have hi' : i < tx.length := by omega
    have l24 := ok.1
    have rc := rg.2.2 i (by omega) (by omega)
    have t0 := rg.1
    rw [drop_cl hi'] at ec
    simp only [coA] at ec
    rw [show (i : Int) + 1 = ((i + 1 : Nat) : Int) by omega] at ec
    have next : ∀ (g2 : am_H) (γ2 : Int → Int), fY h g2 → (∀ f : Nat, f < 8 → g2 305 f = γ2 f) → g2 294 32 = ((bset (fun f => decide (0 ≤ γ2 f)) 8 : Nat) : Int) → γ2 = (if (cl tx i).1 ≤ 2 then up1 γ (cl tx i).2.1 i else γ) → wf (d + 1) M_X7_layOrder Q 89 [some (.inr (.inr 294)), some (.inl t), some (.inl (i : Int)), none] [] g2 := by
      intro g2 γ2 f2 a5 a32 e2
      rw [← e2] at ec
      refine B_X7_layOrder_89 ?_
      rw [w32e (by omega) (by omega), show (i : Int) + 1 = ((i + 1 : Nat) : Int) by omega]
      exact l_lay28 r ok k n (i + 1) g2 γ2 (by omega) f2 a5 a32 ec
    refine B_X7_layOrder_28 (c_X7_clauses rg ⟨fun q => by omega, fun _ => c_X7_clauseAt t0 (by omega) ⟨by omega, by omega, fun q => ?_, fun q => ?_⟩⟩)
    · rw [rc.1] at q
      have x1 := ((ok.2.1 _ (cl_mem hi')).2.1 q).1
      have e1 := (rc.2.1 q).1
      have bl := bset_lt (p := fun f => decide (0 ≤ γ f)) 8
      have bu := bset_up (γ := γ) (k := (i : Int)) x1 (by omega)
      have p8 : 2 ^ (cl tx i).2.1.toNat < 256 := Nat.pow_lt_pow_right (n := 8) (by decide) (by omega)
      have sh := ishl1 (k := (cl tx i).2.1.toNat) (by omega)
      rw [show (((cl tx i).2.1.toNat : Nat) : Int) = (cl tx i).2.1 by omega] at sh
      rw [w32e (z := 825 * t + 1 + 9 * (i : Int) + 1) (by omega) (by omega), e1, g32, sh, ior_n (by omega) (by omega), ← bu]
      refine ⟨by omega, by omega, by omega, by omega, next _ (up1 γ (cl tx i).2.1 i) (fY_up (fY_up fg (by omega)) (by omega)) (fun f hf => ?_) (am_up_at _ _ _ _) (by rw [if_pos q])⟩
      rw [am_up_ne (by omega)]
      by_cases e : (f : Int) = (cl tx i).2.1
      · rw [e, am_up_at, up1_at]
      · rw [am_up_ne (by omega), up1_ne e]; exact g5 f hf
    · rw [rc.1] at q
      exact next g γ fg g5 g32 (by rw [if_neg (by omega)])
theorem l_lay97 (r : rtx h t tx) (ok : okx tx) (k : ∀ g, fY h g → lay2 g tx → g 294 31 = 0 → wf (d + 2) M_X7_layOrder Q 153 [some (.inr (.inr 294)), none, some (.inl 0), some (.inl 0)] [] g) :
    ∀ (n f : Nat) (g : am_H), f + n = 8 → fY h g → (∀ i : Nat, i < 8 → g 305 i = co tx i) → g 294 32 = (told tx : Nat) → (∀ i : Nat, i < f → g 306 i = ((hgu tx i &&& told tx : Nat) : Int)) → wf (d + 2) M_X7_layOrder Q 97 [some (.inr (.inr 294)), some (.inl t), some (.inl (f : Int)), none] [] g
  | 0, f, g, hf, fg, g5, g32, g6 => by
    refine B_X7_layOrder_97 ⟨fun _ => k _ (fY_up fg (by omega)) ⟨fun i hi => ?_, ?_⟩ (am_up_at _ _ _ _), fun q => by omega⟩
    · rw [am_up_ne (by omega), am_up_ne (by omega)]; exact ⟨g5 i hi, g6 i (by omega)⟩
    · rw [am_up_ne (by omega)]; exact g32
  | n + 1, f, g, hf, fg, g5, g32, g6 => by
    have rg := rtx_congr r (fg.1 297 (by omega) (by omega))
    have f8 : f < 8 := by omega
    have hl := hgu_lt (f := f) ok
    have tl := told_lt (tx := tx)
    have next : ∀ v : Int, v = ((hgu tx f &&& told tx : Nat) : Int) → wf (d + 2) M_X7_layOrder Q 137 [some (.inr (.inr 294)), some (.inl t), some (.inl (f : Int)), none] [.inl v, .inl (f : Int), .inr (.inr 306)] g := by
      intro v hv
      refine B_X7_layOrder_137 ⟨by omega, by omega, ?_⟩
      rw [w32e (by omega) (by omega), show (f : Int) + 1 = ((f + 1 : Nat) : Int) by omega]
      refine l_lay97 r ok k n (f + 1) _ (by omega) (fY_up fg (by omega)) (fun i hi => by rw [am_up_ne (by omega)]; exact g5 i hi) (by rw [am_up_ne (by omega)]; exact g32) (fun i hi => ?_)
      by_cases e : i = f
      · subst e; rw [am_up_at]; exact hv
      · rw [am_up_ne (by omega)]; exact g6 i (by omega)
    refine B_X7_layOrder_97 ⟨fun q => by omega, fun _ => ⟨by omega, ?_⟩⟩
    rw [g5 f f8]
    refine ⟨fun q => ?_, fun q => next 0 ?_⟩
    · obtain ⟨i, i0, qi, q2, q3⟩ := co_spec q
      have eh : hgu tx f = ncl (cl tx (co tx f)) := by
        unfold hgu
        rw [if_neg (by omega)]
        rfl
      refine c_X7_namesOf (d := d) rg ok (by omega) (by rw [qi]; omega) ?_
      rw [g32, iand_n (by rw [← eh]; omega), ← eh]
      exact next _ rfl
    · have eh : hgu tx f = 0 := by
        unfold hgu
        rw [if_pos q]
      rw [eh, Nat.zero_and]
      rfl
theorem c_X7_layOrder (r : rtx h t tx) (ok : okx tx) (k : ∀ g, fY h g → rlay g tx → Q 0 g) : cf (d + 2) M_X7_layOrder [.inr (.inr 294), .inl t] h Q := by
  refine cf_of pX7 (Nat.le_of_ble_eq_true rfl) rfl (fun _ => B_X7_layOrder_0 ?_)
  have f0 : fY h (am_up h 294 32 0) := fY_up ⟨fun _ _ _ => rfl, fun _ _ _ _ => rfl⟩ (by omega)
  refine l_lay7 (h := h) (fun g fg g5 g32 => ?_) 8 0 _ (by omega) f0 (fun i hi => by omega) (am_up_at _ _ _ _)
  refine l_lay28 (h := h) r ok (fun g2 f2 a5 a32 => ?_) tx.length 0 g (fun _ => -1) (by omega) fg g5 ?_ rfl
  · refine l_lay97 (h := h) r ok (fun g3 f3 l3 e31 => ?_) 8 0 g2 (by omega) f2 a5 a32 (fun i hi => by omega)
    exact l_lay153 ok k 8 0 [] g3 (by decide) rfl (by decide) (fun f hf => by simp) f3 l3 (by rw [e31]; rfl) (fun i hi => by simp at hi)
  · rw [g32]
    rfl
/-- what reading changes -/
def fV (h g : am_H) : Prop := (∀ b : Int, b ≠ 294 → b < 300 ∨ (304 < b ∧ b < 308) ∨ 316 < b → g b = h b) ∧ ∀ j : Int, j < 22 ∨ (23 < j ∧ j < 43) ∨ 47 < j → g 294 j = h 294 j
theorem fV_fI {g g2 : am_H} {l : Int} (f : fV h g) (b : fI g g2 l) : fV h g2 := ⟨fun c q1 q2 => (b.1 c q1 (by omega) (by omega) (by omega)).trans (f.1 c q1 q2), fun j q => (b.2.1 j (by omega) (by omega) (by omega) (by omega) (by omega) (by omega)).trans (f.2 j q)⟩
theorem rtx_fV {g : am_H} (r : rtx h t tx) (f : fV h g) : rtx g t tx := rtx_congr r (f.1 297 (by omega) (by omega))
theorem rlay_fV {g : am_H} (r : rlay h tx) (f : fV h g) : rlay g tx := rlay_congr r (fun b q q2 => f.1 b (by omega) (by omega)) (fun j q q2 => f.2 j (by omega))
/-- THE FILE's own reading -/
def rdX (tx : List Cl) (β : Int → Int) (size : Int) : Rd := rdC tx β false 255 0 size
theorem nest1 {P C : am_H → Prop} {E : Nat → Prop} (LP : loopOK (D + 5) t (ord tx).length P C) (hb : ∀ j : Int, 0 ≤ j → j < 40 → 0 ≤ β j ∧ β j ≤ 255) (ok : okx tx) (hC : ∀ g6 : am_H, g6 294 43 = 2 → C g6) : nestOK t tx β 1 (rdA tx β false 255) P E := by
  have z := nestOK_of (l := 1) (inn := fun _ _ => none) (E := fun _ => True) (E2 := E) LP (Or.inr rfl) hb ok (inP_2 (tx := tx)) (Or.inl ⟨rfl, rfl⟩) (fun _ => trivial) (fun g6 i f q _ _ _ _ _ => hC g6 q)
  exact z
theorem nest0 {P C : am_H → Prop} {E : Nat → Prop} (LP : loopOK (D + 5) t (ord tx).length P C) (hb : ∀ j : Int, 0 ≤ j → j < 40 → 0 ≤ β j ∧ β j ≤ 255) (ok : okx tx) (hC : ∀ g6 : am_H, g6 294 43 = 2 → C g6) (hC1 : ∀ (g6 : am_H) (i f : Nat), g6 294 43 = 1 → g6 310 0 = (i : Int) → i < (ord tx).length → (ord tx).getD i 0 = f → g6 307 i = (f : Int) → E f → C g6) : nestOK t tx β 0 (rdB tx β false 255) P E := by
  have n1 : nestOK t tx β 1 (rdA tx β false 255) P (fun _ => True) := nest1 LP hb ok hC
  have z := nestOK_of (l := 0) (inn := fun b s => some (rdA tx β false (wI tx false 1) b s)) (E := fun _ => True) (E2 := E) LP (Or.inl rfl) hb ok (inP_1 (vo := false) ok hb) (Or.inr ⟨by decide, rdA tx β false 255, rfl, n1⟩) (fun _ => trivial) hC1
  exact z
theorem c_X7_readBy (r : rtx h t tx) (ok : okx tx) (y : rlay h tx) (h6 : 0 ≤ h 295 6 ∧ h 295 6 ≤ 40) (hB : ∀ j : Int, 0 ≤ j → j < 40 → h 295 (8 + j) = β j) (hb : ∀ j : Int, 0 ≤ j → j < 40 → 0 ≤ β j ∧ β j ≤ 255)
    (k : ∀ g, fV h g → rlv g 0 tx 0 (h 295 6) (rdX tx β (h 295 6)) → g 294 44 = rdX tx β (h 295 6) 8 0 → g 294 45 = rdX tx β (h 295 6) 8 1 → g 294 46 = (if rdX tx β (h 295 6) 8 1 = -1 then 1 else 0) → g 294 47 = t → Q 0 g) : cf (D + 6) M_X7_readBy [.inr (.inr 294), .inl t] h Q := by
  refine cf_of pX7 (Nat.le_of_ble_eq_true rfl) rfl (fun _ => B_X7_readBy_0 ?_)
  have e0 : am_up (am_up (am_up h 294 47 t) 294 44 0) 294 45 (-1) 294 32 = h 294 32 := by rw [am_up_ne (by omega), am_up_ne (by omega), am_up_ne (by omega)]
  refine c_X7_beginLevel (d := D + 4) (tx := tx) (by omega) (by rw [e0]; exact y.2.2.1) (fun g fg a43 a44 a310 a311 rg => ?_)
  have f0 : fV h g := by
    refine ⟨fun b q1 q2 => ?_, fun j q => ?_⟩
    · rw [fg.1 b q1 (by omega)]; funext j; rw [am_up_ne (by omega), am_up_ne (by omega), am_up_ne (by omega)]
    · rw [fg.2.1 j (by omega) (by omega), am_up_ne (by omega), am_up_ne (by omega), am_up_ne (by omega)]
  have g47 : g 294 47 = t := by rw [fg.2.1 47 (by omega) (by omega), am_up_ne (by omega), am_up_ne (by omega), am_up_at]
  have g45 : g 294 45 = -1 := by rw [fg.2.1 45 (by omega) (by omega), am_up_at]
  have g44 : g 294 44 = 0 := by rw [a44, am_up_ne (by omega), am_up_at]; rfl
  have sg : rst g t tx β := ⟨rtx_fV r f0, ok, rlay_fV y f0, fun j j0 j1 => by rw [f0.1 295 (by omega) (by omega)]; exact hB j j0 j1, hb, g47⟩
  have LP : loopOK (D + 5) t (ord tx).length (fun g => wf (D + 6) M_X7_readBy Q 30 [some (.inr (.inr 294)), some (.inl t), some (.inl 0)] [] g) (fun g => ¬ g 294 43 = 0) := by
    refine ⟨fun g i l l0 e43 e310 e31 hi z => ?_, fun g l l0 e43 e310 e31 z => ?_⟩
    · refine B_X7_readBy_30 ⟨fun q => absurd rfl q, fun _ => ?_⟩
      rw [e43, e310, e31]
      exact ⟨by omega, by omega, fun q => by omega, fun _ => z⟩
    · refine B_X7_readBy_30 ⟨fun q => absurd rfl q, fun _ => ?_⟩
      rw [e43, e310, e31]
      exact ⟨by omega, by omega, fun _ => cf_mono z (fun r2 h2 q => ⟨fun _ => B_X7_readBy_91 ⟨fun q2 => absurd rfl q2, fun _ => q.2⟩, fun q2 => absurd q2 q.1⟩), fun q => by omega⟩
  have v : ivl β 0 (h 295 6) := ⟨hb, by omega⟩
  have n0 := nest0 (E := fun _ => True) LP hb ok (fun g6 q => by omega) (fun g6 i f q _ _ _ _ _ => by omega)
  have full : ((ord tx).drop 0).take (ord tx).length = ord tx := by rw [List.drop_zero, List.take_length]
  have iP : inP tx 0 (fun b s => some (rdB tx β false (wI tx false 0) b s)) := inP_0 (vo := false) ok hb
  refine lvA (E := fun _ => True) LP (Or.inl rfl) v iP (Or.inr ⟨by decide, rdB tx β false 255, rfl, n0⟩) (ord tx).length 0 g (rd0 tx 0) 0 (by omega) ⟨sg, ⟨a43, a310, a311⟩, rg, okr_0, okn_0, by rw [rd0_8.1]; omega, rd0_8.2.1, rd0_8.2.2⟩ (fun x hx => ?_) (by rw [rd0_8.1, g44]; rfl) (by omega) (fun g2 s2 f2 e44 e45 => ?_)
  · rw [full] at hx
    have mm := ord_mem hx
    exact ⟨((rd0_v (deep := 0) mm.1).1 mm.2).2.2.2, fun _ => trivial⟩
  · rw [full] at s2 e44
    rw [Nat.zero_add] at s2
    have lo := lvl_ok (vo := false) (wanted := 255) ok v (Or.inl rfl) iP
    have el : rdX tx β (h 295 6) = msts β 0 0 (h 295 6) tx 0 (flds tx β false 0 0 (h 295 6) (fun b s => some (rdB tx β false (wI tx false 0) b s)) 255 (ord tx) (rd0 tx 0)) := by
      unfold rdX rdC lvl
      rw [if_pos rfl]
    generalize hρ : flds tx β false 0 0 (h 295 6) (fun b s => some (rdB tx β false (wI tx false 0) b s)) 255 (ord tx) (rd0 tx 0) = ρ3 at *
    obtain ⟨s21, ⟨s22, s23, s24⟩, s25, s26, s27, s28, s29, s210⟩ := s2
    refine B_X7_readBy_30 ⟨fun q => absurd rfl q, fun _ => ?_⟩
    rw [s22, s23, s21.2.2.1.2.1]
    refine ⟨by omega, by omega, fun _ => c_X7_readMusts (d := D + 1) s21 s22 (by omega) s25 s26 (by have := v.2; omega) (by rw [s24, s210]) s29 (fun g3 ρm em om3 f3 r3 c311 c46 c450 c45 => ?_), fun q => by omega⟩
    have g343 : g3 294 43 = 0 := by rw [f3.2.1 43 (by omega) (by omega) (by omega) (by omega)]; exact s22
    rw [g343]
    refine ⟨fun q => absurd rfl q, fun _ => B_X7_readBy_91 ⟨fun _ => B_X7_readBy_30 ⟨fun _ => ?_, fun q => by omega⟩, fun q => by omega⟩⟩
    rw [← em] at el
    rw [el] at k
    refine k g3 (fV_fI (fV_fI f0 f2) (fM_fI f3)) r3 ?_ ?_ c46 ?_
    · rw [f3.2.1 44 (by omega) (by omega) (by omega) (by omega), e44, om3.2.2]
      omega
    · rw [c450 rfl]
      by_cases q : ρm 8 1 = -1
      · rw [if_pos q, e45, g45, q]
      · rw [if_neg q]
    · rw [f3.2.1 47 (by omega) (by omega) (by omega) (by omega)]
      exact s21.2.2.2.2.2
end RREAD8
