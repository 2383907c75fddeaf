section PLAYED4
variable {d D : Nat} {h : am_H} {Q : Int → am_H → Prop} {tx : Nat → List Cl} {t : List Cl} {α : Int → Int}
theorem c_mendW (r : srep h 4 α) (ha : oka α) (ru : rul h tx (α 1)) (h9 : h 218 9 = 0) (oP : okP h) (k0 : mndO tx α = none → ∀ g, fM2 h g → Q (-1) g) (k1 : ∀ γ, mndO tx α = some γ → ∀ g, fE2 h g → srep g 4 (mdS (rk_ α) γ (unl γ (bR α) 0 40)) → Q (unl γ (bR α) 0 40) g) : cf (D + 13) M_X6_mend [.inr (.inr 1)] h Q := by
  have o := ha.2.2.2.2.1
  have o2 := okm_iff.mp o
  unfold mndO at k0 k1
  refine cf_of pX6 (Nat.le_of_ble_eq_true rfl) rfl (fun _ => B_X6_mend_0 (c_theTextV (d := D + 11) ru (fun pos => ?_) (fun neg => ?_)))
  · have z := ru.2.2 pos
    have zr := ru.2.1
    have kT : am_kd 321 (242 + 13 * α 1) = 15 := by
      rcases (show α 1 = 0 ∨ α 1 = 1 ∨ α 1 = 2 ∨ α 1 = 3 by omega) with e | e | e | e <;> rw [e]
      · exact k_242
      · exact k_255
      · exact k_268
      · exact k_281
    rw [if_neg (by omega)] at k0
    refine c_X2_mended (D := D) (β0 := bR α) (size := α 6) kT (by omega) z.2.1 z.2.2 h9 oP (s_6 r) o2.2.2.1 (fun j j0 j1 => by rw [bR_in j0 j1]; exact sbyte r j0 j1) (bR_b o) (fun e g f => ⟨fun q => absurd rfl q, fun _ => k0 e g f⟩) (fun γ e g f b => ⟨fun _ => ?_, fun q => by have := (unl_rng (γ := γ) (β := bR α) 40 0); omega⟩)
    have r2 : srep g 4 α := srep_fr r (fun b q1 q2 => f.1 b (by omega))
    have un := unl_rng (γ := γ) (β := bR α) 40 0
    have kk := k1 γ (by rw [if_neg (by omega)]; exact e)
    refine c_X4_keepStep (d := D + 10) (Or.inl rfl) r2 ha (fun g3 f3 r3 => ?_)
    have ork := (rk_m ha).1
    refine c_X0_takeMended (d := D + 11) (μ := cur (rk_ α)) k_5 k_240 l_240 (by omega) r3.1 ork.1 ork.2.2.2.1 (by omega) (fun g4 f4 m4 => ?_)
    have g240 : ∀ j : Int, 0 ≤ j → j < 40 → g3 240 j = γ j := fun j j0 j1 => by rw [f3 240 (by omega)]; exact b j j0 j1
    have ms : mrep g4 5 (cur (mdS (rk_ α) γ (unl γ (bR α) 0 40))) := by
      have l3 := mw_3 (μ := fun j => if 4 ≤ j ∧ j < 44 then g3 240 (j - 4) else cur (rk_ α) j) (what := 2) (v := unl γ (bR α) 0 40) (b := 0) (by simp; exact ork.2.2.2.1)
      refine mrep_eq m4 l3.1 (fun j j0 j1 => ?_)
      rw [cur_mdS ork j0 (by omega)]
      refine mw_c69 (fun i i0 i1 => ?_) j0 (by omega)
      unfold cur mv putB
      by_cases q : i < 44
      · rw [if_pos q]
        by_cases q2 : 4 ≤ i
        · rw [if_pos (by omega), if_pos ⟨q2, q⟩, show 4 + i - 8 = i - 4 by omega, g240 (i - 4) (by omega) (by omega)]
        · rw [if_neg (by omega), if_neg (by omega)]
          exact (if_pos q).symm
      · rw [if_neg q, if_neg (by omega), if_neg (by omega)]
        exact (if_neg q).symm
    exact kk g4 (fE2_trans (fE2_M f) (fE2_trans (fE2_D (fD_S f3)) (fE2_3 f4))) (srep_now r3 (oka_rk ha) f4 ms (fun j hj => mdS_lo ork (by omega)))
  · rw [if_pos (by omega)] at k0
    refine cf_of pX2 (Nat.le_of_ble_eq_true rfl) rfl (fun _ => B_X2_mended_0 ⟨Int.le_refl _, fun _ => ⟨fun q => absurd rfl q, fun _ => k0 rfl h fM2_refl⟩, fun q => by omega⟩)
/-- what the class holds while a TEXT is played -/
def plP (h g : am_H) (tx : Nat → List Cl) (β : Int → Int) : Prop := fE2 h g ∧ srep g 4 β ∧ oka β
theorem l_X6_played {u : Int} (tT : am_kd 321 u = 15) (hu : 242 ≤ u) (cx : ctx h u t) (ok : okx t) (h9 : h 218 9 = 0) (oP : okP h) (ru : rul h tx (α 1)) (e0 : h 4 4 = α 0) (k : ∀ g, fE2 h g → srep g 4 (plyS tx t α) → Q (plyI tx t 0 α) g) : ∀ (n i : Nat) (β : Int → Int) (g : am_H), i + n = t.length → fE2 h g → srep g 4 β → oka β → β 0 = α 0 → β 1 = α 1 → plyS tx t α = plyS tx (t.drop i) β → plyI tx t 0 α = plyI tx (t.drop i) i β → wf (D + 14) M_X6_played Q 15 [some (.inr (.inr 1)), none, some (.inr (.inr u)), some (.inl (i : Int)), none, none] [] g
  | 0, i, β, g, hn, fg, r, hb, b0, b1, e1, e2 => by
    have el : g u 0 = t.length := by rw [fg.1 u (by omega)]; exact cx.1.1
    rw [List.drop_eq_nil_of_le (by omega)] at e1 e2
    have kk := k g fg (by rw [e1]; exact r)
    rw [e2] at kk
    refine B_X6_played_15 ⟨tT, ?_⟩
    rw [el]
    exact ⟨fun _ => kk, fun q => by omega⟩
  | n + 1, i, β, g, hn, fg, r, hb, b0, b1, e1, e2 => by
    have l24 := ok.1
    have hi : i < t.length := by omega
    have el : g u 0 = t.length := by rw [fg.1 u (by omega)]; exact cx.1.1
    have ci : t.drop i = cl t i :: t.drop (i + 1) := by
      rw [List.drop_eq_getElem_cons hi]
      unfold cl
      rw [show ((i : Int)).toNat = i by omega, List.getD_eq_getElem?_getD, List.getElem?_eq_getElem hi]
      rfl
    rw [ci] at e1 e2
    simp only [plyS, plyI] at e1 e2
    have oc := ok.2.1 (cl t i) (cl_mem hi)
    have rc := cx.2.1 i (by omega) (by omega)
    have g1 : ∀ x : Int, 242 ≤ x → g x = h x := fun x q => fg.1 x (by omega)
    have k1' : g (u + 1) i = (cl t i).1 := by rw [g1 _ (by omega)]; exact rc.1
    have so := actS_ok (tx := tx) (c := cl t i) hb
    have o4 := (okm_iff.mp hb.2.2.2.2.1).1
    have next : ∀ (v : Int) (g2 : am_H), fE2 h g2 → srep g2 4 (actS tx β (cl t i)) → v = bi (actB tx β (cl t i)) → wf (D + 14) M_X6_played Q 175 [some (.inr (.inr 1)), none, some (.inr (.inr u)), some (.inl (i : Int)), some (.inl v), none] [] g2 := by
      intro v g2 f2 r2 hv
      subst hv
      cases z : actB tx β (cl t i) with
      | true =>
        rw [z, if_pos rfl] at e1 e2
        refine B_X6_played_175 ⟨fun _ => ?_, fun q => absurd q (by decide)⟩
        rw [w32e (by omega) (by omega), show (i : Int) + 1 = ((i + 1 : Nat) : Int) by omega]
        exact l_X6_played tT hu cx ok h9 oP ru e0 k n (i + 1) _ g2 (by omega) f2 r2 so.1 (by rw [so.2 0 (by omega)]; exact b0) (by rw [so.2 1 (by omega)]; exact b1) e1 (by rw [e2]; rfl)
      | false =>
        rw [z, if_neg (by decide)] at e1 e2
        have kk := k g2 f2 (by rw [e1]; exact r2)
        rw [e2] at kk
        exact B_X6_played_175 ⟨fun q => absurd rfl q, fun _ => kk⟩
    have rg : rul g tx (β 1) := by
      rw [b1]
      refine rul_fE fg ru ?_ ?_
      · rw [r.2.2.2.2.2.1, ru.1, b1]
      · rw [r.2.2.2.2.1, e0, b0]
    refine B_X6_played_15 ⟨tT, ?_⟩
    rw [el, k1']
    refine ⟨fun q => by omega, fun _ => ⟨fun q => by omega, fun _ => ⟨by omega, fun q => ?_, fun q => ?_, fun q => ?_, fun q => ?_, fun q => ?_⟩⟩⟩
    · have a5 : ¬ (cl t i).1 = 5 := by omega
      have a6 : ¬ (cl t i).1 = 6 := by omega
      have a7 : ¬ (cl t i).1 = 7 := by omega
      have a8 : ¬ (cl t i).1 = 8 := by omega
      exact next 1 g fg (by unfold actS; rw [if_neg a5, if_neg a6, if_neg a7, if_neg a8]; exact r) (by unfold actB; rw [if_neg a5, if_neg a6, if_neg a7, if_neg a8]; rfl)
    · rw [g1 (u + 2) (by omega), g1 (u + 3) (by omega), rc.2.2.1 (by omega), rc.2.2.2.1 q]
      have eS : actS tx β (cl t i) = (if actB tx β (cl t i) = true then s_set β (cl t i).2.1 (cl t i).2.2.1 else β) := by unfold actS; rw [if_pos q]
      have eB : actB tx β (cl t i) = decide (0 ≤ (cl t i).2.1 ∧ (cl t i).2.1 < β 6 ∧ 0 ≤ (cl t i).2.2.1 ∧ (cl t i).2.2.1 ≤ 255 ∧ ¬ β (8 + (cl t i).2.1) = (cl t i).2.2.1) := by unfold actB; rw [if_pos q]
      refine c_X6_set (d := D + 10) r hb (fun c g2 f2 r2 => ?_) (fun c => ?_)
      · have b : actB tx β (cl t i) = true := by rw [eB]; exact decide_eq_true c
        exact next 1 g2 (fE2_trans fg (fE2_D (fD_S f2))) (by rw [eS, if_pos b]; exact r2) (by rw [b]; rfl)
      · have b : actB tx β (cl t i) = false := by rw [eB]; exact decide_eq_false c
        exact next 0 g fg (by rw [eS, b, if_neg (by decide)]; exact r) (by rw [b]; rfl)
    · rw [g1 (u + 2) (by omega), rc.2.2.1 (by omega)]
      have n5 : ¬ (cl t i).1 = 5 := by omega
      have eS : actS tx β (cl t i) = (if actB tx β (cl t i) = true then s_size β (cl t i).2.1 else β) := by unfold actS; rw [if_neg n5, if_pos q]
      have eB : actB tx β (cl t i) = decide (0 ≤ (cl t i).2.1 ∧ (cl t i).2.1 ≤ 40 ∧ ¬ (cl t i).2.1 = β 6) := by unfold actB; rw [if_neg n5, if_pos q]
      refine c_X6_size (d := D + 10) r hb (fun c g2 f2 r2 => ?_) (fun c => ?_)
      · have b : actB tx β (cl t i) = true := by rw [eB]; exact decide_eq_true c
        exact next 1 g2 (fE2_trans fg (fE2_D (fD_S f2))) (by rw [eS, if_pos b]; exact r2) (by rw [b]; rfl)
      · have b : actB tx β (cl t i) = false := by rw [eB]; exact decide_eq_false c
        exact next 0 g fg (by rw [eS, b, if_neg (by decide)]; exact r) (by rw [b]; rfl)
    · have n5 : ¬ (cl t i).1 = 5 := by omega
      have n6 : ¬ (cl t i).1 = 6 := by omega
      have eS : actS tx β (cl t i) = mdK tx β := by unfold actS; rw [if_neg n5, if_neg n6, if_pos q]
      have eB : actB tx β (cl t i) = (mndO tx β).isSome := by unfold actB; rw [if_neg n5, if_neg n6, if_pos q]
      refine c_mendW (D := D) (tx := tx) r hb rg (by rw [fg.2.1]; exact h9) (fg.2.2 oP) (fun e g2 f2 => ⟨fun _ => B_X6_played_117 (next 0 g2 (fE2_trans fg (fE2_M f2)) ?_ (by rw [eB, e]; rfl)), fun y => absurd rfl y⟩) (fun γ e g2 f2 r2 => ⟨fun y => by have := (unl_rng (γ := γ) (β := bR β) 40 0); omega, fun _ => B_X6_played_117 (next 1 g2 (fE2_trans fg f2) ?_ (by rw [eB, e]; rfl))⟩)
      · rw [eS]
        unfold mdK
        rw [e]
        exact srep_fr r (fun b q1 q2 => f2.1 b (by omega))
      · rw [eS]
        unfold mdK
        rw [e]
        exact r2
    · have n5 : ¬ (cl t i).1 = 5 := by omega
      have n6 : ¬ (cl t i).1 = 6 := by omega
      have n7 : ¬ (cl t i).1 = 7 := by omega
      have eS : actS tx β (cl t i) = dayN tx (mday β (cl t i).2.1) β := by unfold actS; rw [if_neg n5, if_neg n6, if_neg n7, if_pos q]
      have eB : actB tx β (cl t i) = decide ((mday β (cl t i).2.1 : Int) = (cl t i).2.1) := by unfold actB; rw [if_neg n5, if_neg n6, if_neg n7, if_pos q]
      have o8 := oc.2.2.2.2.2.2.2.2.2 q
      rw [g1 (u + 2) (by omega), rc.2.2.1 (by omega), s_4 r, w32e (by omega) (by omega)]
      have go : ∀ m : Int, m = (mday β (cl t i).2.1 : Int) → cf (D + 13) M_X6_passDays [.inr (.inr 1), .inl m] g (fun _ h16 => (¬ m = h16 (u + 2) i → wf (D + 14) M_X6_played Q 170 [some (.inr (.inr 1)), none, some (.inr (.inr u)), some (.inl (i : Int)), none, none] [.inl 0] h16) ∧ (m = h16 (u + 2) i → wf (D + 14) M_X6_played Q 170 [some (.inr (.inr 1)), none, some (.inr (.inr u)), some (.inl (i : Int)), none, none] [.inl 1] h16)) := by
        intro m hm
        subst hm
        refine c_X6_passDays (d := D + 7) (tx := tx) r hb rg (by unfold mday; omega) (by unfold mday; omega) (fun g2 f2 r2 => ?_)
        have e22 : g2 (u + 2) i = (cl t i).2.1 := by rw [f2.1 _ (by omega), g1 (u + 2) (by omega)]; exact rc.2.2.1 (by omega)
        rw [e22]
        have f3 := fE2_trans fg (fE2_D f2)
        exact ⟨fun y => B_X6_played_170 (next 0 g2 f3 (by rw [eS]; exact r2) (by rw [eB, decide_eq_false y]; rfl)), fun y => B_X6_played_170 (next 1 g2 f3 (by rw [eS]; exact r2) (by rw [eB, decide_eq_true y]; rfl))⟩
      exact c_min (fun c => go _ (by unfold mday; omega)) (fun c => go _ (by unfold mday; omega))
end PLAYED4
