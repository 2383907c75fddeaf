section PASS2
variable {d D : Nat} {h : am_H} {Q : Int → am_H → Prop} {tx : Nat → List Cl} {t : List Cl} {α : Int → Int} {m : Int}
/-- THE RULING TEXT, as the class finds it -/
def rul (h : am_H) (tx : Nat → List Cl) (ru : Int) : Prop := h 4 5 = ru ∧ (-1 ≤ ru ∧ ru ≤ 3) ∧ (0 ≤ ru → ru < h 4 4 ∧ ctx h (242 + 13 * ru) (tx ru.toNat) ∧ okx (tx ru.toNat))
theorem rul_congr {h2 : am_H} {ru : Int} (r : rul h tx ru) (e4 : h2 4 = h 4) (f : ∀ b : Int, 242 ≤ b → b < 294 → h2 b = h b) : rul h2 tx ru := by
  obtain ⟨r1, r2, r3⟩ := r
  unfold rul
  rw [e4]
  refine ⟨r1, r2, fun q => ?_⟩
  have z := r3 q
  exact ⟨z.1, ctx_congr z.2.1 (fun b q1 q2 => f b (by omega) (by omega)), z.2.2⟩
theorem c_theTextV {ru : Int} (r : rul h tx ru) (k1 : 0 ≤ ru → Q (242 + 13 * ru) h) (k0 : ru = -1 → Q 0 h) : cf (d + 1) M_X6_theText [.inr (.inr 1)] h Q := by
  obtain ⟨r1, r2, r3⟩ := r
  refine cf_of pX6 (Nat.le_of_ble_eq_true rfl) rfl (fun _ => B_X6_theText_0 ?_)
  rw [r1]
  have no : ru < 0 → wf d M_X6_textAt Q 28 [some (.inr (.inr 1)), some (.inl ru), none] [] h := fun c => B_X6_textAt_28 (B_X6_textAt_29 ⟨fun _ => k0 (by omega), fun c => absurd rfl c⟩)
  refine cf_of pX6 (Nat.le_of_ble_eq_true rfl) rfl (fun _ => B_X6_textAt_0 ⟨no, fun c => ⟨fun c2 => by have := (r3 c).1; omega, fun c2 => ⟨fun c3 => by omega, fun c3 => B_X6_textAt_29 ⟨fun c => by omega, fun _ => ⟨c, c3, ?_⟩⟩⟩⟩⟩)
  rw [show (3 : Int) + 239 + 13 * ru = 242 + 13 * ru by omega]
  exact k1 c
/-- a moment of the class passes -/
def fQ2 (h h2 : am_H) (m : Int) : Prop := (∀ b : Int, b ≠ m → b ≠ m + 1 → b ≠ m + 2 → b < 218 ∨ 225 ≤ b → h2 b = h b) ∧ (∀ j : Int, j ≠ 7 → j < 10 ∨ 13 < j → h2 218 j = h 218 j) ∧ (h2 218 7 = h 218 7 ∨ h2 218 7 = m + 1)
theorem fQ2_3 {g : am_H} (hm : m = 5 ∨ m = 198) (f : fr3 h g m) : fQ2 h g m := ⟨fun b q1 q2 q3 _ => f b q1 q2 q3, fun j _ _ => by rw [f 218 (by omega) (by omega) (by omega)], Or.inl (by rw [f 218 (by omega) (by omega) (by omega)])⟩
theorem fQ2_Q {g : am_H} (f : fQ h g m) : fQ2 h g m := ⟨fun b _ _ _ q => f.1 b q, f.2.1, f.2.2⟩
theorem fQ2_trans {g g2 : am_H} (a : fQ2 h g m) (b : fQ2 g g2 m) : fQ2 h g2 m := by
  refine ⟨fun c q1 q2 q3 q4 => (b.1 c q1 q2 q3 q4).trans (a.1 c q1 q2 q3 q4), fun j q1 q2 => (b.2.1 j q1 q2).trans (a.2.1 j q1 q2), ?_⟩
  rcases b.2.2 with e | e
  · rw [e]; exact a.2.2
  · exact Or.inr e
theorem fr3_m {i v : Int} : fr3 h (am_up h m i v) m := fr3_up (Or.inl rfl)
theorem fQ2_rul {g : am_H} {ru : Int} (hm : m = 5 ∨ m = 198) (f : fQ2 h g m) (r : rul h tx ru) : rul g tx ru := rul_congr r (f.1 4 (by omega) (by omega) (by omega) (by omega)) (fun b q1 q2 => f.1 b (by omega) (by omega) (by omega) (by omega))
theorem c_X6_passDay (hm : m = 5 ∨ m = 198) (mr : mrep h m (cur α)) (o : okm (cur α)) (h4 : α 4 < 9999) (ru : rul h tx (α 1)) (k : ∀ h2, fQ2 h h2 m → mrep h2 m (cur (pd tx α)) → Q (bi (prB tx α)) h2) : cf (d + 5) M_X6_passDay [.inr (.inr 1), .inr (.inr m)] h Q := by
  have km : am_kd 321 m = 10 := by
    rcases hm with rfl | rfl
    · exact k_5
    · exact k_198
  have o2 := okm_iff.mp o
  have e3 : h m 3 = α 6 := by
    have := mr.2.2.1
    rw [cur_lo (by omega)] at this
    exact this
  have fin : ∀ (g : am_H) (γ : Int → Int), fQ2 h g m → mrep g m (cur γ) → okm (cur γ) → γ 4 = α 4 → pd tx α = dayA γ → wf (d + 5) M_X6_passDay Q 65 [none, some (.inr (.inr m)), some (.inl (bi (prB tx α))), none, none] [] g := by
    intro g γ fg gm go g4 e
    have e4 : g m 4 = γ 4 := by
      have := gm.1
      rw [cur_lo (by omega)] at this
      exact this
    refine B_X6_passDay_65 ⟨km, bi01 _, ?_⟩
    rw [e4, w32e (by omega) (by omega)]
    refine k _ (fQ2_trans fg (fQ2_3 hm fr3_m)) ?_
    rw [e]
    exact mrep_up4 km gm go
  refine cf_of pX6 (Nat.le_of_ble_eq_true rfl) rfl (fun _ => B_X6_passDay_0 ⟨km, ?_⟩)
  rw [e3]
  refine ⟨fun q => ?_, fun q => ?_⟩
  · have e : prB tx α = false := by unfold prB; rw [decide_eq_false (by omega)]; rfl
    have z := fin h α ⟨fun _ _ _ _ _ => rfl, fun _ _ _ => rfl, Or.inl rfl⟩ mr o rfl (by unfold pd; rw [if_neg (by omega)])
    rw [e] at z
    exact z
  · have ex : ∀ (g : am_H) (γ : Int → Int), mrep g m (cur γ) → g m 5 = γ 5 := fun g γ r => by
      have := r.2.1
      rw [cur_lo (by omega)] at this
      exact this
    have o1 := okm_xs o
    have oo2 := okm_xs o1
    have o3 := okm_xs oo2
    have m1 : mrep (am_up h m 5 ((α 5 * 743 + 607) % 31079)) m (cur (xs α)) := mrep_up5 (v := (α 5 * 743 + 607) % 31079) km mr o
    have f1 : fQ2 h (am_up h m 5 ((α 5 * 743 + 607) % 31079)) m := fQ2_3 hm fr3_m
    have b1 := Int.emod_nonneg (α 5) (show α 6 ≠ 0 by omega)
    have b2 := Int.emod_lt_of_pos (α 5) q
    refine c_X0_draw (d := d + 3) km q (by omega) (by rw [ex h α mr]; exact o2.2.1) ?_
    rw [ex h α mr]
    have m2 : mrep (am_up (am_up h m 5 ((α 5 * 743 + 607) % 31079)) m 5 ((xs α 5 * 743 + 607) % 31079)) m (cur (xs (xs α))) := mrep_up5 (v := (xs α 5 * 743 + 607) % 31079) km m1 o1
    refine c_X0_draw (d := d + 3) km (by decide) (by decide) (by rw [ex _ _ m1]; exact (okm_iff.mp o1).2.1) ?_
    rw [ex _ _ m1]
    have m3 : mrep (am_up (am_up (am_up h m 5 ((α 5 * 743 + 607) % 31079)) m 5 ((xs α 5 * 743 + 607) % 31079)) m 5 ((xs (xs α) 5 * 743 + 607) % 31079)) m (cur (xs (xs (xs α)))) := mrep_up5 (v := (xs (xs α) 5 * 743 + 607) % 31079) km m2 oo2
    refine c_X0_draw (d := d + 3) km (by decide) (by decide) (by rw [ex _ _ m2]; exact (okm_iff.mp oo2).2.1) ?_
    rw [ex _ _ m2]
    have f3 := fQ2_trans (fQ2_trans f1 (fQ2_3 hm (fr3_m (i := 5) (v := (xs α 5 * 743 + 607) % 31079)))) (fQ2_3 hm (fr3_m (i := 5) (v := (xs (xs α) 5 * 743 + 607) % 31079)))
    have m3' := m3
    show cf (d + 4) M_X6_theText [.inr (.inr 1)] (am_up (am_up (am_up h m 5 ((α 5 * 743 + 607) % 31079)) m 5 ((xs α 5 * 743 + 607) % 31079)) m 5 ((xs (xs α) 5 * 743 + 607) % 31079)) _
    generalize am_up (am_up (am_up h m 5 ((α 5 * 743 + 607) % 31079)) m 5 ((xs α 5 * 743 + 607) % 31079)) m 5 ((xs (xs α) 5 * 743 + 607) % 31079) = g at m3' f3 ⊢
    have rg := fQ2_rul hm f3 ru
    have bx := Int.emod_nonneg (xs α 5) (show (8 : Int) ≠ 0 by decide)
    have by_ := Int.emod_lt_of_pos (xs α 5) (show (0 : Int) < 8 by decide)
    have x4 : xs (xs (xs α)) 4 = α 4 := by unfold xs; rw [up1_ne (by omega), up1_ne (by omega), up1_ne (by omega)]
    have x1 : xs (xs (xs α)) 1 = α 1 := by unfold xs; rw [up1_ne (by omega), up1_ne (by omega), up1_ne (by omega)]
    have x6 : xs (xs (xs α)) 6 = α 6 := by rw [xs_6, xs_6, xs_6]
    have after : ∀ (u : am_H) (r : Int), fQ2 h u m → mrep u m (cur (xs (xs (xs α)))) → r = rots tx (xs (xs (xs α))) (α 5 % α 6) → (r ≤ xs (xs α) 5 % 10 → wf (d + 5) M_X6_passDay Q 53 [none, some (.inr (.inr m)), none, some (.inl (α 5 % α 6)), some (.inl (xs α 5 % 8))] [.inl 0] u) ∧ (xs (xs α) 5 % 10 < r → wf (d + 5) M_X6_passDay Q 53 [none, some (.inr (.inr m)), none, some (.inl (α 5 % α 6)), some (.inl (xs α 5 % 8))] [.inl 1] u) := by
      intro u r fu um er
      refine ⟨fun c => B_X6_passDay_53 ⟨fun _ => ?_, fun y => absurd rfl y⟩, fun c => B_X6_passDay_53 ⟨fun y => by omega, fun _ => ⟨km, ?_⟩⟩⟩
      · have e : prB tx α = false := by unfold prB; rw [← er, decide_eq_false (show ¬ xs (xs α) 5 % 10 < r by omega), Bool.and_false]
        have z := fin u _ fu um o3 x4 (by unfold pd; rw [if_pos q, e, if_neg (by decide)])
        rw [e] at z
        exact z
      · have e : prB tx α = true := by unfold prB; rw [← er, decide_eq_true c, decide_eq_true q]; rfl
        obtain ⟨p, hp⟩ : ∃ p : Nat, α 5 % α 6 = (p : Int) := ⟨(α 5 % α 6).toNat, by omega⟩
        obtain ⟨b, hb⟩ : ∃ b : Nat, xs α 5 % 8 = (b : Int) := ⟨(xs α 5 % 8).toNat, by omega⟩
        have ob := (okm_iff.mp o3).2.2.2.2.1 p (by omega) (by omega)
        have c8 : cur (xs (xs (xs α))) (4 + (p : Int)) = xs (xs (xs α)) (8 + (p : Int)) := by rw [cur_lo (by omega), show 4 + (4 + (p : Int)) = 8 + (p : Int) by omega]
        rw [hp, hb]
        refine c_X0_rot (d := d + 3) km um (o3.1) (o3.2.2.2.1) (by omega) (by omega) (by rw [c8]; exact ob) (fun h3 f3' m3x => ?_)
        have mr3 : mrep h3 m (cur (rotA (xs (xs (xs α))) p b)) := by
          rw [c8] at m3x
          have l3 := mw_3 (μ := up1 (cur (xs (xs (xs α)))) (4 + (p : Int)) (((xs (xs (xs α)) (8 + (p : Int))).toNat ^^^ 2 ^ b : Nat) : Int)) (what := 3) (v := p) (b := (((xs (xs (xs α)) (8 + (p : Int))).toNat ^^^ 2 ^ b : Nat) : Int)) (by rw [up1_ne (by omega)]; exact o3.2.2.2.1)
          exact mrep_eq m3x l3.1 (fun j j0 j1 => cur_rot o3 (by omega) j0 (by omega))
        have z := fin h3 _ (fQ2_trans fu (fQ2_3 hm f3')) mr3 (okm_rot o3 (by rw [x6]; omega) (by omega)) (by rw [rotA_lo (okm_iff.mp o3).2.2.2.1 (by omega) (by omega) (by omega)]; exact x4) (by unfold pd; rw [if_pos q, e, if_pos rfl, hp, hb, Int.toNat_natCast, Int.toNat_natCast])
        rw [e] at z
        exact z
    refine c_theTextV (d := d + 3) rg (fun pos => ?_) (fun neg => ?_)
    · have z := rg.2.2 pos
      have zr := rg.2.1
      have kT : am_kd 321 (242 + 13 * α 1) = 15 := by
        rcases (show α 1 = 0 ∨ α 1 = 1 ∨ α 1 = 2 ∨ α 1 = 3 by omega) with e | e | e | e <;> rw [e]
        · exact k_242
        · exact k_255
        · exact k_268
        · exact k_281
      refine c_X2_rots (d := d) (α := xs (xs (xs α))) hm kT (by omega) z.2.1 z.2.2 m3' o3 (by omega) (fun h2 f2 => ?_)
      refine after h2 _ (fQ2_trans f3 (fQ2_Q f2)) (mrep_congr m3' (f2.1 _ (by omega)) (f2.1 _ (by omega)) (f2.1 _ (by omega))) ?_
      unfold rots
      rw [if_neg (by omega), x1]
    · refine cf_of pX2 (Nat.le_of_ble_eq_true rfl) rfl (fun _ => B_X2_rots_0 ⟨Int.le_refl _, fun _ => ?_, fun q => by omega⟩)
      refine after g 3 f3 m3' ?_
      unfold rots
      rw [if_pos (by omega)]
end PASS2
