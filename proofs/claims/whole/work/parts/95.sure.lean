section SURE
variable {d D : Nat} {h : am_H} {Q : Int → am_H → Prop} {tx : Nat → List Cl} {tt : List Cl} {size : Int}
def nE (n : Int) : Int → Int := fun k => if k = 8 then n else 0
def pa (e : Ex) (n : Int) : Int := ev (nE n) (fun _ => 0) 0 e
theorem nE_ok {n : Int} (h : 0 ≤ n ∧ n ≤ 40) : eok false (nE n) (fun _ => 0) 0 := by
  refine ⟨Int.le_refl _, ?_, fun j _ _ => ⟨Int.le_refl 0, show (0 : Int) ≤ 255 by decide⟩, fun k _ => ?_⟩
  · unfold nE; rw [if_pos rfl]; omega
  · unfold nE; split <;> omega
/-- the nest is shorter -/
def shr (c : Cl) (n : Nat) : Bool := decide (¬ (0 ≤ pa c.2.2.2.1 n ∧ pa c.2.2.2.1 n ≤ pa c.2.2.2.2.1 n ∧ pa c.2.2.2.2.1 n ≤ (n : Int)) ∨ pa c.2.2.2.2.1 n - pa c.2.2.2.1 n < (n : Int))
def allb (p : Nat → Bool) : Nat → Nat → Bool
  | _, 0 => true
  | i, n + 1 => p i && allb p (i + 1) n
def psr (c : Cl) : Bool := pln c.2.2.2.1 && pln c.2.2.2.2.1
def r_sure (α : Int → Int) (tx : Nat → List Cl) (t f : Int) : Int := if (isT α t ∧ (0 ≤ f ∧ f ≤ 7)) ∧ kdf (tx t.toNat) f.toNat = 2 ∧ psr (fcl (tx t.toNat) f.toNat) = true then bi (allb (shr (fcl (tx t.toNat) f.toNat)) 1 40) else 0
/-- the reader's bytes are bytes -/
def bkP (h : am_H) : Prop := am_kd 321 (h 218 7) = 0 ∧ am_ln (h 218 7) = 40 ∧ ¬ h 218 7 = 219 ∧ ∀ j : Int, 0 ≤ j → j < 40 → 0 ≤ h (h 218 7) j ∧ h (h 218 7) j ≤ 255
theorem INV_bk (I : INV h tx) : bkP h := by
  have o := I.2.2.2.2.2.2.1.2
  have b := INV_b I
  unfold bkP
  rcases o.2.1 with e | e | e
  · rw [e]
    refine ⟨k_6, l_6, by omega, fun j j0 j1 => ?_⟩
    rw [sbyte I.1 j0 j1]
    exact b j j0 j1
  · rw [e]
    exact ⟨k_199, l_199, by omega, fun j j0 j1 => (o.2.2 j j0 j1).1⟩
  · rw [e]
    exact ⟨k_240, l_240, by omega, fun j j0 j1 => (o.2.2 j j0 j1).2⟩
theorem fcl_sr {f : Nat} (ok : okx tt) (hc : 0 ≤ co tt f) (k2 : kdf tt f = 2) : (psr (fcl tt f) = true ↔ hgu tt f = 0 ∧ (px (fcl tt f).2.2.2.1 || px (fcl tt f).2.2.2.2.1 || px (fcl tt f).2.2.2.2.2) = false) := by
  have o := fcl_ok ok hc
  have e : (fcl tt f).2.2.2.2.2 = xN 0 := o.1.2.2.2.2.2.1 (by omega)
  unfold psr hgu ncl
  rw [if_neg (by omega), e, Bool.and_eq_true, pln_iff, pln_iff, show nx (xN 0) = 0 from rfl, show px (xN 0) = false from rfl, Nat.or_eq_zero_iff, Nat.or_eq_zero_iff, Bool.or_eq_false_iff, Bool.or_eq_false_iff]
  constructor
  · rintro ⟨⟨q1, q2⟩, q3, q4⟩; exact ⟨⟨⟨q1, q3⟩, rfl⟩, ⟨q2, q4⟩, rfl⟩
  · rintro ⟨⟨⟨q1, q3⟩, _⟩, ⟨q2, q4⟩, _⟩; exact ⟨⟨q1, q2⟩, q3, q4⟩
theorem c_X2_isShorter {T : Int} {f n : Nat} (tT : am_kd 321 T = 15) (hT : 242 ≤ T) (cx : ctx h T tt) (ok : okx tt) (hf : f < 8) (hc : 0 ≤ co tt f) (pl : psr (fcl tt f) = true) (hn : n ≤ 40) (bk : bkP h) (k : ∀ h2, fW h h2 → bkP h2 → Q (bi (shr (fcl tt f) n)) h2) : cf (d + 4) M_X2_isShorter [.inr (.inr 218), .inr (.inr T), .inl (f : Int), .inl (n : Int)] h Q := by
  have w := fcl_ws ok hc
  unfold psr at pl
  rw [Bool.and_eq_true] at pl
  refine cf_of pX2 (Nat.le_of_ble_eq_true rfl) rfl (fun _ => B_X2_isShorter_0 (c_X6_isField (fun _ _ => ⟨fun _ => ⟨tT, ?_⟩, fun q => by omega⟩) (fun q => by omega)))
  rw [cx.1.2.1]
  refine c_X3_begin (d := d + 2) (tx := tt) (Or.inl rfl) (fun h2 _ g2 c2 => ⟨by omega, by omega, ?_⟩)
  have e218 : h2 218 = h 218 := g2 218 (by omega)
  have cx2 : ctx h2 T tt := ctx_congr cx (fun b q1 q2 => g2 b (by omega))
  have p2 := (cx2.2.2.2.1 f hf).2.2.2 hc
  have o0 : okr tt (rd0 tt 0) := okr_0
  have bk2 : bkP h2 := by
    unfold bkP at bk ⊢
    rw [e218]
    have r := bk.2.2.1
    refine ⟨bk.1, bk.2.1, bk.2.2.1, fun j j0 j1 => ?_⟩
    have k0 := bk.1
    by_cases z : 220 ≤ h 218 7 ∧ h 218 7 ≤ 224
    · exfalso
      rcases (show h 218 7 = 220 ∨ h 218 7 = 221 ∨ h 218 7 = 222 ∨ h 218 7 = 223 ∨ h 218 7 = 224 by omega) with q | q | q | q | q
      all_goals first | (have := bk.2.1; rw [q] at this; revert this; decide +kernel) | (have := bk.1; rw [q] at this; revert this; decide +kernel)
    · rw [g2 _ (by omega)]
      exact bk.2.2.2 j j0 j1
  have he : eok false (nmR (rd0 tt 0) 0 n) (h2 (h2 218 7)) 0 := by
    refine ⟨Int.le_refl _, ?_, fun j j0 j1 => bk2.2.2.2 j j0 j1, fun x hx => ?_⟩
    · rw [nmR_8]; omega
    · unfold al at hx
      have a2 := hx.2
      simp at a2
      rcases (show x < 8 ∨ x = 8 ∨ x = 9 by omega) with q | q | q
      · rw [nmR_k q]
        have := (o0.1 x q).2.2.1
        omega
      · subst q
        rw [show ((8 : Nat) : Int) = 8 from rfl, nmR_8]; omega
      · subst q
        rw [show ((9 : Nat) : Int) = 9 from rfl, nmR_9]; omega
  have ce2 : ce false h2 220 (nmR (rd0 tt 0) 0 n) (h2 (h2 218 7)) 0 := ⟨c2.1.1, by rw [nmR_8]; exact c2.1.2.1, fun _ => ⟨fun x hx => by rw [nmR_k hx]; exact (c2.2.2.2.1 x hx).1, by rw [nmR_9]; exact c2.1.2.2.1⟩, (fun q => by cases q), bk2.1, bk2.2.1, bk2.2.2.1, fun j _ _ => rfl⟩
  have val : ∀ e, ws false e false → pln e = true → ev (nmR (rd0 tt 0) 0 n) (h2 (h2 218 7)) 0 e = pa e n := fun e we pe => pln_ev (by rw [nmR_8]; unfold nE; rw [if_pos rfl]) e false we pe
  refine c_answerV (d := d) tT hT k_220 (by omega) he w.1 w.2.2.2.1 p2.2.1.1 p2.2.1.2.1 p2.2.1.2.2.1 p2.2.1.2.2.2 ce2 (fun h3 f3 => ?_)
  have e4 : ∀ b : Int, 242 ≤ b → h3 b = h2 b := fun b q => f3.1 b (by omega) (by omega)
  have cx3 : ctx h3 T tt := ctx_congr cx2 (fun b q1 q2 => e4 b (by omega))
  have p3 := (cx3.2.2.2.1 f hf).2.2.2 hc
  refine c_answerV (d := d) tT hT k_220 (by omega) he w.2.1 w.2.2.2.2.1 p3.2.2.1.1 p3.2.2.1.2.1 p3.2.2.1.2.2.1 p3.2.2.1.2.2.2 (ce_fA (by omega) ce2 f3) (fun h4 f4 => ?_)
  rw [val _ w.1 pl.1, val _ w.2.1 pl.2]
  have f24 := fA_trans f3 f4 (Int.le_refl _)
  have fw : fW h h4 := by
    refine ⟨fun b q => by rw [f24.1 b (by omega) (by omega)]; exact g2 b (by omega), by rw [f24.2.1 9 (by omega), e218], fun o => okP_congr o (by rw [f24.2.1 7 (by omega), e218]) (by rw [f24.2.1 8 (by omega), e218]) (by rw [f24.1 199 (by omega) (by omega)]; exact g2 199 (by omega)) (by rw [f24.1 240 (by omega) (by omega)]; exact g2 240 (by omega))⟩
  have bk4 : bkP h4 := by
    unfold bkP
    rw [f24.2.1 7 (by omega)]
    unfold bkP at bk2
    have n218 : ¬ h2 218 7 = 218 := fun q => by
      have := bk2.1
      rw [q] at this
      revert this; decide +kernel
    exact ⟨bk2.1, bk2.2.1, bk2.2.2.1, fun j j0 j1 => by rw [f24.1 _ n218 bk2.2.2.1]; exact bk2.2.2.2 j j0 j1⟩
  have b1 := ev_bd (nE_ok (n := (n : Int)) (by omega)) _ _ w.1
  have b2 := ev_bd (nE_ok (n := (n : Int)) (by omega)) _ _ w.2.1
  have kk := k h4 fw bk4
  unfold shr at kk
  have yes : bi (shr (fcl tt f) n) = 1 → Q 1 h4 := fun q => by unfold shr at q; rw [q] at kk; exact kk
  have no : shr (fcl tt f) n = false → Q 0 h4 := fun q => by unfold shr at q; rw [q] at kk; exact kk
  have out : ¬ (0 ≤ pa (fcl tt f).2.2.2.1 n ∧ pa (fcl tt f).2.2.2.1 n ≤ pa (fcl tt f).2.2.2.2.1 n ∧ pa (fcl tt f).2.2.2.2.1 n ≤ (n : Int)) → wf (d + 4) M_X2_isShorter Q 80 [none, none, none, some (.inl (n : Int)), some (.inl (pa (fcl tt f).2.2.2.1 n)), some (.inl (pa (fcl tt f).2.2.2.2.1 n)), none] [] h4 := fun q => by
    refine B_X2_isShorter_80 (B_X2_isShorter_81 ⟨fun _ => B_X2_isShorter_97 (yes ?_), fun y => absurd rfl y⟩)
    unfold shr
    rw [decide_eq_true (Or.inl q)]; rfl
  refine ⟨fun q => out (by omega), fun q => ⟨fun q2 => out (by omega), fun q2 => ⟨fun q3 => out (by omega), fun q3 => B_X2_isShorter_81 ⟨fun y => by omega, fun _ => ?_⟩⟩⟩⟩
  rw [w32e (by unfold pa at *; omega) (by unfold pa at *; omega)]
  refine ⟨fun q4 => no ?_, fun q4 => B_X2_isShorter_97 (yes ?_)⟩
  · unfold shr
    exact decide_eq_false (by omega)
  · unfold shr
    rw [decide_eq_true (Or.inr q4)]; rfl
end SURE
