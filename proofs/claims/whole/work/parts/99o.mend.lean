section MEND4
variable {d D : Nat} {h : am_H} {Q : Int → am_H → Prop} {tx : Nat → List Cl} {t : List Cl} {α : Int → Int}
def putB (α γ : Int → Int) : Int → Int := fun j => if 8 ≤ j ∧ j < 48 then γ (j - 8) else α j
/-- it is mended: the bytes are put, a line is written -/
def mdS (α γ : Int → Int) (n : Int) : Int → Int := rw_ (putB α γ) 2 n 0
theorem putB_in {γ : Int → Int} {j : Int} (j0 : 0 ≤ j) (j1 : j < 40) : putB α γ (8 + j) = γ j := by
  unfold putB
  rw [if_pos (by omega), show 8 + j - 8 = j by omega]
theorem putB_ne {γ : Int → Int} {j : Int} (q : j < 8 ∨ 48 ≤ j) : putB α γ j = α j := if_neg (by omega)
theorem bR_b (o : okm (cur α)) : ∀ j : Int, 0 ≤ j → j < 40 → 0 ≤ bR α j ∧ bR α j ≤ 255 := fun j j0 j1 => by
  rw [bR_in j0 j1]
  exact (okm_iff.mp o).2.2.2.2.1 j j0 j1
theorem bR_rk (ha : oka α) : bR (rk_ α) = bR α := by
  funext j
  unfold bR
  split
  · exact rk_lo ha.2.2.1 (by omega)
  · rfl
theorem mndO_rk (ha : oka α) : mndO tx (rk_ α) = mndO tx α := by
  unfold mndO
  rw [bR_rk ha, (rk_m ha).2.2.2.1, show rk_ α 6 = α 6 from rk_lo ha.2.2.1 (by omega)]
theorem mndT_b {β γ : Int → Int} {size : Int} (hb : ∀ j : Int, 0 ≤ j → j < 40 → 0 ≤ β j ∧ β j ≤ 255) (e : mndT t size β = some γ) : ∀ j : Int, 0 ≤ j → j < 40 → 0 ≤ γ j ∧ γ j ≤ 255 := by
  unfold mndT at e
  split at e
  · exact mnd_b 8 β γ hb e
  · cases e
/-- beyond the size nothing is put -/
theorem putS_out {R : Rd} {size : Int} (aA : okA size t R) : ∀ (l : List Nat) (γ : Int → Int) (j : Int), (∀ f, f ∈ l → f < 8) → size ≤ j → putS t R l γ j = γ j
  | [], _, _, _, _ => rfl
  | f :: l, γ, j, hl, hj => by
    simp only [putS]
    rw [putS_out aA l _ j (fun x hx => hl x (List.mem_cons_of_mem _ hx)) hj]
    split
    · rename_i q
      have := aA f (hl f List.mem_cons_self) q.1 q.2
      exact up1_ne (by omega)
    · rfl
theorem mnd_out {size : Int} : ∀ (n : Nat) (β γ : Int → Int), mnd t size n β = some γ → ∀ j : Int, size ≤ j → γ j = β j
  | 0, _, _, e => by cases e
  | n + 1, β, γ, e => by
    have r : ∀ j : Int, size ≤ j → rnd t size β j = β j := fun j hj => putS_out rdX_A (ord t) β j (fun f hf => (ord_mem hf).1) hj
    simp only [mnd] at e
    split at e
    · cases e; exact r
    · intro j hj
      rw [mnd_out n _ γ e j hj, r j hj]
theorem mndT_out {size : Int} {β γ : Int → Int} (e : mndT t size β = some γ) : ∀ j : Int, size ≤ j → γ j = β j := by
  unfold mndT at e
  split at e
  · exact mnd_out 8 β γ e
  · cases e
theorem mndO_ok (o : okm (cur α)) {γ : Int → Int} (e : mndO tx α = some γ) : (∀ j : Int, 0 ≤ j → j < 40 → 0 ≤ γ j ∧ γ j ≤ 255) ∧ ∀ j : Int, α 6 ≤ j → j < 40 → γ j = 0 := by
  have o2 := okm_iff.mp o
  unfold mndO at e
  split at e
  · cases e
  · exact ⟨mndT_b (bR_b o) e, fun j j0 j1 => by rw [mndT_out e j j0, bR_in (by omega) j1]; exact o2.2.2.2.2.2 j j0 j1⟩
theorem okm_putB (o : okm (cur α)) {γ : Int → Int} (b : (∀ j : Int, 0 ≤ j → j < 40 → 0 ≤ γ j ∧ γ j ≤ 255) ∧ ∀ j : Int, α 6 ≤ j → j < 40 → γ j = 0) : okm (cur (putB α γ)) := by
  rw [okm_iff] at o ⊢
  obtain ⟨o4, o5, o6, o7, ob, oz⟩ := o
  rw [putB_ne (by omega), putB_ne (by omega), putB_ne (by omega), putB_ne (by omega)]
  exact ⟨o4, o5, o6, o7, fun i i0 i1 => by rw [putB_in i0 i1]; exact b.1 i i0 i1, fun i i0 i1 => by rw [putB_in (by omega) i1]; exact b.2 i i0 i1⟩
theorem cur_mdS (o : okm (cur α)) {γ : Int → Int} {n j : Int} (j0 : 0 ≤ j) (j1 : j < 69) : cur (mdS α γ n) j = mw (cur (putB α γ)) 2 n 0 j := by
  have o2 := okm_iff.mp o
  unfold mdS
  exact cur_rw (by rw [putB_ne (by omega)]; exact o2.2.2.2.1) j0 j1
theorem okm_mdS (o : okm (cur α)) {γ : Int → Int} {n : Int} (b : (∀ j : Int, 0 ≤ j → j < 40 → 0 ≤ γ j ∧ γ j ≤ 255) ∧ ∀ j : Int, α 6 ≤ j → j < 40 → γ j = 0) : okm (cur (mdS α γ n)) :=
  okm_eq (okm_mw (what := 2) (v := n) (b := 0) (okm_putB o b)) (fun j j0 j1 => cur_mdS o j0 (by omega))
theorem mdS_lo (o : okm (cur α)) {γ : Int → Int} {n j : Int} (hj : (0 ≤ j ∧ j < 4) ∨ j = 4 ∨ (48 ≤ j ∧ j < 2134)) : mdS α γ n j = α j := by
  have o2 := okm_iff.mp o
  unfold mdS
  rw [rw_lo (by rw [putB_ne (by omega)]; exact o2.2.2.2.1) (by omega) (by omega), putB_ne (by omega)]
theorem mw_c69 {μ ν : Int → Int} {what v b : Int} (e : ∀ j : Int, 0 ≤ j → j < 69 → ν j = μ j) {j : Int} (j0 : 0 ≤ j) (j1 : j < 69) : mw ν what v b j = mw μ what v b j := by
  have e3 := e 3 (by omega) (by omega)
  have e0 := e 0 (by omega) (by omega)
  by_cases c : μ 3 = 25
  · rw [mw_pos c, mw_pos (e3.trans c), e0]
    have es : mws ν j = mws μ j := by
      unfold mws
      by_cases q : 44 ≤ j ∧ j < 68
      · rw [if_pos q, if_pos q, e (j + 1) (by omega) (by omega)]
      · rw [if_neg q, if_neg q, e j j0 j1]
    unfold up1
    rw [es]
  · rw [mw_neg c, mw_neg (by rw [e3]; exact c), e0, e3]
    unfold up1
    rw [e j j0 j1]
theorem okm_bs (o : okm (cur α)) {γ : Int → Int} {i : Int} (i0 : 0 ≤ i) (i1 : i < 68) : cur (putB α γ) i = (if 4 ≤ i ∧ i < 44 then γ (i - 4) else cur α i) := by
  unfold cur mv putB
  by_cases q : i < 44
  · rw [if_pos q]
    by_cases q2 : 4 ≤ i
    · rw [if_pos (by omega), if_pos ⟨q2, q⟩, show 4 + i - 8 = i - 4 by omega]
    · rw [if_neg (by omega), if_neg (by omega)]
      exact (if_pos q).symm
  · rw [if_neg q, if_neg (by omega), if_neg (by omega)]
    exact (if_neg q).symm
def fE2 (h g : am_H) : Prop := (∀ b : Int, b < 4 ∨ (100 < b ∧ b < 218) ∨ (235 ≤ b ∧ b < 240) ∨ 242 ≤ b → g b = h b) ∧ g 218 9 = h 218 9 ∧ (okP h → okP g)
theorem c_X6_mend (I : INV h tx) (k0 : mndO tx (h 295) = none → ∀ g, fX h g → Q (-1) g) (k1 : ∀ γ, mndO tx (h 295) = some γ → ∀ g, fE2 h g → srep g 4 (mdS (rk_ (h 295)) γ (unl γ (bR (h 295)) 0 40)) → Q (unl γ (bR (h 295)) 0 40) g) : cf (D + 13) M_X6_mend [.inr (.inr 1)] h Q := by
  have r := I.1
  have ha := I.2.1
  have o := ha.2.2.2.2.1
  have h7 := I.2.2.2.2.2.2.1
  have ru := INV_rul I
  have fx : ∀ g, fM2 h g → fX h g := fun g f => ⟨fun b q => f.1 b (by omega), f.2.1, f.2.2⟩
  unfold mndO at k0 k1
  refine cf_of pX6 (Nat.le_of_ble_eq_true rfl) rfl (fun _ => B_X6_mend_0 (c_theTextV (d := D + 11) ru (fun pos => ?_) (fun neg => ?_)))
  · have z := ru.2.2 pos
    have zr := ru.2.1
    have kT : am_kd 321 (242 + 13 * h 295 1) = 15 := by
      rcases (show h 295 1 = 0 ∨ h 295 1 = 1 ∨ h 295 1 = 2 ∨ h 295 1 = 3 by omega) with e | e | e | e <;> rw [e]
      · exact k_242
      · exact k_255
      · exact k_268
      · exact k_281
    rw [if_neg (by omega)] at k0
    refine c_X2_mended (D := D) (β0 := bR (h 295)) (size := h 295 6) kT (by omega) z.2.1 z.2.2 h7.1 h7.2 (s_6 r) (INV_6 I) (fun j j0 j1 => by rw [bR_in j0 j1]; exact sbyte r j0 j1) (bR_b o) (fun e g f => ⟨fun q => absurd rfl q, fun _ => k0 e g (fx g f)⟩) (fun γ e g f b => ⟨fun _ => ?_, fun q => by have := (unl_rng (γ := γ) (β := bR (h 295)) 40 0); omega⟩)
    have I2 := INV_fX I (fx g f)
    have e295 : g 295 = h 295 := (fx g f).1 295 (by omega)
    have r2 := I2.1
    rw [e295] at r2
    have un := unl_rng (γ := γ) (β := bR (h 295)) 40 0
    have kk := k1 γ (by rw [if_neg (by omega)]; exact e)
    have mo : mndO tx (h 295) = some γ := by unfold mndO; rw [if_neg (by omega)]; exact e
    have bo := mndO_ok o mo
    refine c_X4_keepStep (d := D + 10) (Or.inl rfl) r2 ha (fun g3 f3 r3 => ?_)
    have ork := (rk_m ha).1
    refine c_X0_takeMended (d := D + 11) (μ := cur (rk_ (h 295))) k_5 k_240 l_240 (by omega) r3.1 ork.1 ork.2.2.2.1 (by omega) (fun g4 f4 m4 => ?_)
    have g240 : ∀ j : Int, 0 ≤ j → j < 40 → g3 240 j = γ j := fun j j0 j1 => by rw [f3 240 (by omega)]; exact b j j0 j1
    have bs := bo
    have e6 : rk_ (h 295) 6 = h 295 6 := rk_lo ha.2.2.1 (by omega)
    have ms : mrep g4 5 (cur (mdS (rk_ (h 295)) γ (unl γ (bR (h 295)) 0 40))) := by
      have l3 := mw_3 (μ := fun j => if 4 ≤ j ∧ j < 44 then g3 240 (j - 4) else cur (rk_ (h 295)) j) (what := 2) (v := unl γ (bR (h 295)) 0 40) (b := 0) (by simp; exact ork.2.2.2.1)
      refine mrep_eq m4 l3.1 (fun j j0 j1 => ?_)
      rw [cur_mdS ork j0 (by omega)]
      have pt : ∀ i : Int, 0 ≤ i → i < 69 → cur (putB (rk_ (h 295)) γ) i = (if 4 ≤ i ∧ i < 44 then g3 240 (i - 4) else cur (rk_ (h 295)) i) := fun i i0 i1 => by
        unfold cur mv putB
        by_cases q : i < 44
        · rw [if_pos q]
          by_cases q2 : 4 ≤ i
          · rw [if_pos (by omega), if_pos ⟨q2, q⟩, show 4 + i - 8 = i - 4 by omega, g240 (i - 4) (by omega) (by omega)]
          · rw [if_neg (by omega), if_neg (by omega)]
            exact (if_pos q).symm
        · rw [if_neg q, if_neg (by omega), if_neg (by omega)]
          exact (if_neg q).symm
      exact mw_c69 pt j0 (by omega)
    have s4 := srep_now r3 (oka_rk ha) f4 ms (fun j hj => mdS_lo ork (by omega))
    refine kk g4 ⟨fun b' q => ?_, ?_, fun oo => ?_⟩ s4
    · rw [f4 b' (by omega) (by omega) (by omega), f3 b' (by omega)]; exact f.1 b' (by omega)
    · rw [f4 218 (by omega) (by omega) (by omega), f3 218 (by omega)]; exact f.2.1
    · refine okP_congr (f.2.2 oo) (by rw [f4 218 (by omega) (by omega) (by omega), f3 218 (by omega)]) (by rw [f4 218 (by omega) (by omega) (by omega), f3 218 (by omega)]) (by rw [f4 199 (by omega) (by omega) (by omega), f3 199 (by omega)]) (by rw [f4 240 (by omega) (by omega) (by omega), f3 240 (by omega)])
  · rw [if_pos (by omega)] at k0
    refine cf_of pX2 (Nat.le_of_ble_eq_true rfl) rfl (fun _ => B_X2_mended_0 ⟨Int.le_refl _, fun _ => ⟨fun q => absurd rfl q, fun _ => k0 rfl h fX_refl⟩, fun q => by omega⟩)
end MEND4
