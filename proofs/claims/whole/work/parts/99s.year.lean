section YEAR2
variable {d D : Nat} {h : am_H} {Q : Int → am_H → Prop} {tx : Nat → List Cl} {t : List Cl} {α : Int → Int}
theorem fE2_refl : fE2 h h := ⟨fun _ _ => rfl, rfl, fun q => q⟩
theorem fE2_trans {g g2 : am_H} (a : fE2 h g) (b : fE2 g g2) : fE2 h g2 := ⟨fun c q => (b.1 c q).trans (a.1 c q), b.2.1.trans a.2.1, fun q => b.2.2 (a.2.2 q)⟩
theorem fE2_D {g : am_H} (f : fD h g) : fE2 h g := ⟨fun b q => f.1 b (by omega), f.2.1.1, okP_fD f⟩
theorem fE2_3 {g : am_H} (f : fr3 h g 5) : fE2 h g := fE2_D (fD_Q (fQ2_3 (Or.inl rfl) f))
theorem fE2_M {g : am_H} (f : fM2 h g) : fE2 h g := ⟨fun b q => f.1 b (by omega), f.2.1, f.2.2⟩
theorem rul_fE {g : am_H} {ru : Int} (f : fE2 h g) (r : rul h tx ru) (e5 : g 4 5 = h 4 5) (e4 : g 4 4 = h 4 4) : rul g tx ru := by
  obtain ⟨r1, r2, r3⟩ := r
  refine ⟨by rw [e5]; exact r1, r2, fun q => ?_⟩
  have z := r3 q
  exact ⟨by rw [e4]; exact z.1, ctx_congr z.2.1 (fun b q1 q2 => f.1 b (by omega)), z.2.2⟩
theorem c_X6_passYear {x : Int} (hx : 0 ≤ x ∧ x ≤ 40000) (r : srep h 4 α) (ha : oka α) (ru : rul h tx (α 1)) (h9 : h 218 9 = 0) (oP : okP h) (k : ∀ g, fE2 h g → srep g 4 (hap tx x α) → Q 0 g) : cf (D + 13) M_X6_passYear [.inr (.inr 1), .inr (.inr 5), .inl (x)] h Q := by
  have o := ha.2.2.2.2.1
  have o2 := okm_iff.mp o
  have e6 : h 5 3 = α 6 := s_6 r
  have e4 : h 5 4 = α 4 := s_4 r
  have t6 := tm_n (x := x) (n := 6) hx (by omega)
  have t4 := tm_n (x := x) (n := 4) hx (by omega)
  have t256 := tm_n (x := x) (n := 256) hx (by omega)
  have d0 : 0 ≤ x / 6 ∧ x / 6 ≤ 40000 := by omega
  have t40 := tm_n (x := x / 6) (n := 40) d0 (by omega)
  have t41 := tm_n (x := x / 6) (n := 41) d0 (by omega)
  have same : ∀ g, fE2 h g → srep g 4 α → hap tx x α = α → Q 0 g := fun g f s e => k g f (by rw [e]; exact s)
  refine cf_of pX6 (Nat.le_of_ble_eq_true rfl) rfl (fun _ => B_X6_passYear_0 ?_)
  rw [t6.1, t6.2, t4.1, t256.1, t40.1, t41.1]
  refine ⟨fun n0 => ⟨fun n1 => ⟨fun n2 => ⟨k_5, ?_⟩, fun n2 => ⟨fun q => ?_, fun q => ?_⟩⟩, fun n1 => ⟨fun q => ?_, fun q => ⟨k_5, ?_⟩⟩⟩, fun n0 => ⟨k_5, ?_⟩⟩
  · rw [e4]
    refine ⟨fun q => same h fE2_refl r (by unfold hap; rw [if_neg n0, if_neg n1, if_neg n2, if_neg (by omega)]), fun q => ?_⟩
    refine c_X6_passDay (d := D + 7) (m := 5) (α := α) (Or.inl rfl) r.1 o q ru (fun g5 f5 m5 => ?_)
    refine k g5 (fE2_D (fD_Q f5)) ?_
    rw [show hap tx x α = pd tx α by unfold hap; rw [if_neg n0, if_neg n1, if_neg n2, if_pos q]]
    exact srep_5 f5 r ha m5 (fun j hj => pd_lo o (by omega))
  · exact B_X6_passYear_112 ⟨fun _ => B_X6_passYear_133 (same h fE2_refl r (by unfold hap; rw [if_neg n0, if_neg n1, if_pos n2, if_neg q])), fun y => absurd rfl y⟩
  · have hp : hap tx x α = mdO tx α := by unfold hap; rw [if_neg n0, if_neg n1, if_pos n2, if_pos q]
    refine c_theTextV (d := D + 11) ru (fun pos => ?_) (fun neg => ?_)
    · have z := ru.2.2 pos
      have zr := ru.2.1
      have kT : am_kd 321 (242 + 13 * α 1) = 15 := by
        rcases (show α 1 = 0 ∨ α 1 = 1 ∨ α 1 = 2 ∨ α 1 = 3 by omega) with e | e | e | e <;> rw [e]
        · exact k_242
        · exact k_255
        · exact k_268
        · exact k_281
      have mo : mndO tx α = mndT (tx (α 1).toNat) (α 6) (bR α) := by unfold mndO; rw [if_neg (by omega)]
      refine c_X2_mended (D := D) (β0 := bR α) (size := α 6) kT (by omega) z.2.1 z.2.2 h9 oP e6 o2.2.2.1 (fun j j0 j1 => by rw [bR_in j0 j1]; exact sbyte r j0 j1) (bR_b o) (fun e g f => B_X6_passYear_112 ⟨fun _ => B_X6_passYear_133 (same g (fE2_M f) (srep_fr r (fun b q1 q2 => f.1 b (by omega))) (by rw [hp, mdO_n (mo.trans e)])), fun y => absurd rfl y⟩) (fun γ e g f b => B_X6_passYear_112 ⟨fun y => by have := (unl_rng (γ := γ) (β := bR α) 40 0); omega, fun _ => ⟨k_5, ?_⟩⟩)
      have r2 : srep g 4 α := srep_fr r (fun b q1 q2 => f.1 b (by omega))
      have un := unl_rng (γ := γ) (β := bR α) 40 0
      refine c_X0_takeMended (d := D + 11) (μ := cur α) k_5 k_240 l_240 (by omega) r2.1 o.1 o.2.2.2.1 (by omega) (fun g4 f4 m4 => B_X6_passYear_133 ?_)
      have ms : mrep g4 5 (cur (mdS α γ (unl γ (bR α) 0 40))) := by
        have l3 := mw_3 (μ := fun j => if 4 ≤ j ∧ j < 44 then g 240 (j - 4) else cur α j) (what := 2) (v := unl γ (bR α) 0 40) (b := 0) (by simp; exact o.2.2.2.1)
        refine mrep_eq m4 l3.1 (fun j j0 j1 => ?_)
        rw [cur_mdS o j0 (by omega)]
        refine mw_c69 (fun i i0 i1 => ?_) j0 (by omega)
        unfold cur mv putB
        by_cases q : i < 44
        · rw [if_pos q]
          by_cases q2 : 4 ≤ i
          · rw [if_pos (by omega), if_pos ⟨q2, q⟩, show 4 + i - 8 = i - 4 by omega, b (i - 4) (by omega) (by omega)]
          · rw [if_neg (by omega), if_neg (by omega)]
            exact (if_pos q).symm
        · rw [if_neg q, if_neg (by omega), if_neg (by omega)]
          exact (if_neg q).symm
      refine k g4 (fE2_trans (fE2_M f) (fE2_3 f4)) ?_
      rw [hp, mdO_s (mo.trans e)]
      exact srep_now r2 ha f4 ms (fun j hj => mdS_lo o (by omega))
    · have mo : mndO tx α = none := by unfold mndO; rw [if_pos (by omega)]
      refine cf_of pX2 (Nat.le_of_ble_eq_true rfl) rfl (fun _ => B_X2_mended_0 ⟨Int.le_refl _, fun _ => ?_, fun q => by omega⟩)
      exact B_X6_passYear_112 ⟨fun _ => B_X6_passYear_133 (same h fE2_refl r (by rw [hp, mdO_n mo])), fun y => absurd rfl y⟩
  · exact B_X6_passYear_82 (same h fE2_refl r (by unfold hap; rw [if_neg n0, if_pos n1, if_neg (fun y => q y.1)]))
  · refine c_X0_canResize k_5 (fun a1 a2 a3 => ⟨fun y => by omega, fun _ => ?_⟩) (fun a => ⟨fun _ => B_X6_passYear_82 (same h fE2_refl r ?_), fun y => absurd rfl y⟩)
    · rw [e6] at a3
      have c : csize α (x / 6 % 41) := ⟨a1, a2, a3⟩
      refine c_X0_resize (d := D + 11) k_5 r.1 o.1 o.2.2.2.1 ⟨a1, a2⟩ (fun g4 f4 m4 => B_X6_passYear_82 ?_)
      have ms : mrep g4 5 (cur (szS α (x / 6 % 41))) := by
        have l3 := mw_3 (μ := mz (cur α) (x / 6 % 41)) (what := 1) (v := x / 6 % 41) (b := 0) (by rw [mz_ne (by omega) (by omega)]; exact o.2.2.2.1)
        exact mrep_eq m4 l3.1 (fun j j0 j1 => cur_szS ha ⟨a1, a2⟩ j0 (by omega))
      refine k g4 (fE2_3 f4) ?_
      rw [show hap tx x α = szS α (x / 6 % 41) by unfold hap; rw [if_neg n0, if_pos n1, if_pos ⟨q, a1, a2, a3⟩]]
      exact srep_now r ha f4 ms (fun j hj => szS_lo ha ⟨a1, a2⟩ (by omega))
    · unfold hap
      rw [if_neg n0, if_pos n1, if_neg (fun y => a ⟨y.2.1, y.2.2.1, by rw [e6]; exact y.2.2.2⟩)]
  · have b1 := Int.emod_nonneg (x / 6) (show (40 : Int) ≠ 0 by decide)
    have b2 := Int.emod_lt_of_pos (x / 6) (show (0 : Int) < 40 by decide)
    have eb : h (5 + 1) (x / 6 % 40) = α (8 + x / 6 % 40) := sbyte r b1 b2
    refine c_X0_canPut k_5 (by rw [e6]; exact o2.2.2.1) (fun a1 a2 a3 a4 a5 => ⟨fun y => by omega, fun _ => ?_⟩) (fun a => ⟨fun _ => B_X6_passYear_43 (same h fE2_refl r ?_), fun y => absurd rfl y⟩)
    · rw [eb] at a5
      rw [e6] at a2
      refine c_X0_putByte (d := D + 11) k_5 r.1 o.1 o.2.2.2.1 ⟨b1, b2⟩ ⟨a3, a4⟩ (fun g4 f4 m4 => B_X6_passYear_43 ?_)
      have ms : mrep g4 5 (cur (ptS α (x / 6 % 40) (x % 256))) := by
        have l3 := mw_3 (μ := up1 (cur α) (4 + x / 6 % 40) (x % 256)) (what := 0) (v := x / 6 % 40) (b := x % 256) (by rw [up1_ne (by omega)]; exact o.2.2.2.1)
        exact mrep_eq m4 l3.1 (fun j j0 j1 => cur_ptS ha ⟨b1, b2⟩ j0 (by omega))
      refine k g4 (fE2_3 f4) ?_
      rw [show hap tx x α = ptS α (x / 6 % 40) (x % 256) by unfold hap; rw [if_pos n0, if_pos ⟨a1, a2, a3, a4, a5⟩]]
      exact srep_now r ha f4 ms (fun j hj => ptS_lo ha ⟨b1, b2⟩ (by omega))
    · unfold hap
      rw [if_pos n0, if_neg (fun y => a ⟨y.1, by rw [e6]; exact y.2.1, y.2.2.1, y.2.2.2.1, by rw [eb]; exact y.2.2.2.2⟩)]
end YEAR2
