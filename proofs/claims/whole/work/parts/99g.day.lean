section DAY
variable {d D : Nat} {h : am_H} {Q : Int → am_H → Prop} {tx : Nat → List Cl} {t : List Cl} {α : Int → Int} {m : Int} {w : Bool}
/-- a day, the moment kept -/
def dayS (tx : Nat → List Cl) (α : Int → Int) : Int → Int := pd tx (rk_ α)
def dayN (tx : Nat → List Cl) : Nat → (Int → Int) → Int → Int
  | 0, α => α
  | n + 1, α => dayN tx n (dayS tx α)
def cntN (tx : Nat → List Cl) : Nat → (Int → Int) → Int
  | 0, _ => 0
  | n + 1, α => bi (prB tx (rk_ α)) + cntN tx n (dayS tx α)
theorem cntN_rng : ∀ (n : Nat) (α : Int → Int), 0 ≤ cntN tx n α ∧ cntN tx n α ≤ n
  | 0, _ => by simp [cntN]
  | n + 1, α => by
    have := cntN_rng n (dayS tx α)
    have := bi01 (prB tx (rk_ α))
    simp only [cntN]
    omega
theorem rk_m (ha : oka α) : okm (cur (rk_ α)) ∧ rk_ α 4 = α 4 ∧ rk_ α 0 = α 0 ∧ rk_ α 1 = α 1 ∧ rk_ α 3 = α 3 := by
  have h2 := ha.2.2.1
  exact ⟨(oka_rk ha).2.2.2.2.1, rk_lo h2 (by omega), rk_lo h2 (by omega), rk_lo h2 (by omega), rk_lo h2 (by omega)⟩
theorem dayS_ok (ha : oka α) (h4 : α 4 < 9999) : oka (dayS tx α) ∧ dayS tx α 4 = α 4 + 1 ∧ dayS tx α 0 = α 0 ∧ dayS tx α 1 = α 1 ∧ dayS tx α 3 = α 3 ∧ ∀ j, 48 ≤ j → j < 64 → dayS tx α j = α j := by
  have r := rk_m ha
  unfold dayS
  refine ⟨oka_now (oka_rk ha) (okm_pd r.1 (by omega)) (fun j hj => pd_lo r.1 (by omega)), by rw [pd_4 r.1, r.2.1], by rw [pd_lo r.1 (by omega)]; exact r.2.2.1, by rw [pd_lo r.1 (by omega)]; exact r.2.2.2.1, by rw [pd_lo r.1 (by omega)]; exact r.2.2.2.2, fun j j0 j1 => by rw [pd_lo r.1 (by omega)]; exact rk_lo ha.2.2.1 (by omega)⟩
theorem dayN_ok : ∀ (n : Nat) (α : Int → Int), oka α → α 4 + n ≤ 9999 → oka (dayN tx n α) ∧ dayN tx n α 4 = α 4 + n ∧ dayN tx n α 0 = α 0 ∧ dayN tx n α 1 = α 1 ∧ dayN tx n α 3 = α 3 ∧ ∀ j, 48 ≤ j → j < 64 → dayN tx n α j = α j
  | 0, α, ha, _ => ⟨ha, by simp [dayN], rfl, rfl, rfl, fun _ _ _ => rfl⟩
  | n + 1, α, ha, h4 => by
    have s := dayS_ok (tx := tx) ha (by omega)
    have i := dayN_ok n (dayS tx α) s.1 (by omega)
    simp only [dayN]
    exact ⟨i.1, by omega, by rw [i.2.2.1, s.2.2.1], by rw [i.2.2.2.1, s.2.2.2.1], by rw [i.2.2.2.2.1, s.2.2.2.2.1], fun j j0 j1 => by rw [i.2.2.2.2.2 j j0 j1, s.2.2.2.2.2 j j0 j1]⟩
/-- days pass over the class's file -/
def fD (h g : am_H) : Prop := (∀ b : Int, b < 4 ∨ (100 < b ∧ b < 218) ∨ 225 ≤ b → g b = h b) ∧ (g 218 9 = h 218 9 ∧ g 218 8 = h 218 8) ∧ (g 218 7 = h 218 7 ∨ g 218 7 = 6)
theorem fD_refl : fD h h := ⟨fun _ _ => rfl, ⟨rfl, rfl⟩, Or.inl rfl⟩
theorem fD_trans {g g2 : am_H} (a : fD h g) (b : fD g g2) : fD h g2 := by
  refine ⟨fun c q => (b.1 c q).trans (a.1 c q), ⟨b.2.1.1.trans a.2.1.1, b.2.1.2.trans a.2.1.2⟩, ?_⟩
  rcases b.2.2 with e | e
  · rw [e]; exact a.2.2
  · exact Or.inr e
theorem fD_S {g : am_H} (f : frS h g 4) : fD h g := ⟨fun b q => f b (by omega), ⟨by rw [f 218 (by omega)], by rw [f 218 (by omega)]⟩, Or.inl (by rw [f 218 (by omega)])⟩
theorem fD_Q {g : am_H} (f : fQ2 h g 5) : fD h g := ⟨fun b q => f.1 b (by omega) (by omega) (by omega) (by omega), ⟨f.2.1 9 (by omega) (by omega), f.2.1 8 (by omega) (by omega)⟩, f.2.2⟩
theorem okP_fD {g : am_H} (f : fD h g) (o : okP h) : okP g := by
  refine ⟨by rw [f.2.1.2]; exact o.1, ?_, fun j j0 j1 => by rw [f.1 199 (by omega), f.1 240 (by omega)]; exact o.2.2 j j0 j1⟩
  rcases f.2.2 with e | e
  · rw [e]; exact o.2.1
  · exact Or.inl e
/-- the class's moment is another one -/
theorem srep_5 {g : am_H} {β γ : Int → Int} (f : fQ2 h g 5) (r : srep h 4 β) (ha : oka β) (mr : mrep g 5 (cur γ)) (e : ∀ j : Int, (0 ≤ j ∧ j < 4) ∨ (48 ≤ j ∧ j < 2134) → γ j = β j) : srep g 4 γ := by
  have r2 := srep_now (h2 := fun b => if 218 ≤ b ∧ b < 225 then h b else g b) r ha (fun b q1 q2 q3 => by
    by_cases z : 218 ≤ b ∧ b < 225
    · simp only [if_pos z]
    · simp only [if_neg z]
      exact f.1 b q1 q2 q3 (by omega)) (mrep_congr mr (by simp only [show ¬ (218 ≤ (4 : Int) + 1 ∧ (4 : Int) + 1 < 225) by omega, if_false]) (by simp only [show ¬ (218 ≤ (4 : Int) + 1 + 1 ∧ (4 : Int) + 1 + 1 < 225) by omega, if_false]) (by simp only [show ¬ (218 ≤ (4 : Int) + 1 + 2 ∧ (4 : Int) + 1 + 2 < 225) by omega, if_false])) e
  refine srep_fr r2 (fun b q1 q2 => ?_)
  simp only [show ¬ (218 ≤ b ∧ b < 225) by omega, if_false]
theorem rul_fD {g : am_H} {ru : Int} (f : fD h g) (r : rul h tx ru) (e5 : g 4 5 = h 4 5) (e4 : g 4 4 = h 4 4) : rul g tx ru := by
  obtain ⟨r1, r2, r3⟩ := r
  refine ⟨by rw [e5]; exact r1, r2, fun q => ?_⟩
  have z := r3 q
  exact ⟨by rw [e4]; exact z.1, ctx_congr z.2.1 (fun b q1 q2 => f.1 b (by omega)), z.2.2⟩
theorem l_passDays {n0 : Nat} {c0 : Int} (k : ∀ g, fD h g → srep g 4 (dayN tx n0 α) → Q (c0 + cntN tx n0 α) g) (r0 : rul h tx (α 1)) (e0 : h 4 4 = α 0) (h4 : α 4 + n0 ≤ 9999) (ha : oka α) (n60 : (0 ≤ c0 ∧ c0 ≤ 1000) ∧ n0 ≤ 60) :
    ∀ (n i : Nat) (β : Int → Int) (c : Int) (g : am_H), i + n = n0 → fD h g → srep g 4 β → oka β → β 4 + n ≤ 9999 → β 0 = α 0 → β 1 = α 1 → dayN tx n0 α = dayN tx n β → c0 + cntN tx n0 α = c + cntN tx n β → 0 ≤ c → wf (d + 6) M_X6_passDays Q 4 [some (.inr (.inr 1)), some (.inl (n0 : Int)), some (.inl c), some (.inl (i : Int))] [] g
  | 0, i, β, c, g, hn, fg, r, hb, b4, b0, b1, e, ec, hc => by
    have kk := k g fg (by rw [e]; exact r)
    rw [ec] at kk
    simp only [cntN, Int.add_zero] at kk
    exact B_X6_passDays_4 ⟨fun _ => kk, fun q => by omega⟩
  | n + 1, i, β, c, g, hn, fg, r, hb, b4, b0, b1, e, ec, hc => by
    have rm := rk_m hb
    have cr := cntN_rng (tx := tx) n0 α
    have cr2 := cntN_rng (tx := tx) n (dayS tx β)
    have c01 := bi01 (prB tx (rk_ β))
    simp only [dayN] at e
    simp only [cntN] at ec
    refine B_X6_passDays_4 ⟨fun q => by omega, fun _ => c_X4_keepStep (d := d + 3) (Or.inl rfl) r hb (fun g3 f3 r3 => ?_)⟩
    have f3' := fD_trans fg (fD_S f3)
    have rr : rul g3 tx (rk_ β 1) := by
      rw [rm.2.2.2.1, b1]
      refine rul_fD f3' r0 ?_ ?_
      · rw [r3.2.2.2.2.2.1, r0.1, rm.2.2.2.1, b1]
      · rw [r3.2.2.2.2.1, e0, rm.2.2.1, b0]
    refine c_X6_passDay (d := d) (m := 5) (α := rk_ β) (Or.inl rfl) r3.1 rm.1 (by omega) rr (fun g5 f5 m5 => ?_)
    have so := dayS_ok (tx := tx) hb (by omega)
    have r5 : srep g5 4 (dayS tx β) := srep_5 f5 r3 (oka_rk hb) m5 (fun j hj => pd_lo rm.1 (by omega))
    have nxt : ∀ v : Int, v = bi (prB tx (rk_ β)) → wf (d + 6) M_X6_passDays Q 36 [some (.inr (.inr 1)), some (.inl (n0 : Int)), none, some (.inl (i : Int))] [.inl v, .inl c] g5 := fun v hv => by
      subst hv
      refine B_X6_passDays_36 ?_
      rw [w32e (z := c + bi (prB tx (rk_ β))) (by omega) (by omega), w32e (z := (i : Int) + 1) (by omega) (by omega), show (i : Int) + 1 = ((i + 1 : Nat) : Int) by omega]
      exact l_passDays k r0 e0 h4 ha n60 n (i + 1) (dayS tx β) (c + bi (prB tx (rk_ β))) g5 (by omega) (fD_trans f3' (fD_Q f5)) r5 so.1 (by omega) (by rw [so.2.2.1]; exact b0) (by rw [so.2.2.2.1]; exact b1) e (by omega) (by omega)
    exact ⟨fun q => nxt 0 q.symm, fun q => nxt 1 (by omega)⟩
theorem c_X6_passDays {n : Nat} (r : srep h 4 α) (ha : oka α) (ru : rul h tx (α 1)) (h4 : α 4 + n ≤ 9999) (n60 : n ≤ 60) (k : ∀ g, fD h g → srep g 4 (dayN tx n α) → Q (cntN tx n α) g) : cf (d + 6) M_X6_passDays [.inr (.inr 1), .inl (n : Int)] h Q :=
  cf_of pX6 (Nat.le_of_ble_eq_true rfl) rfl (fun _ => B_X6_passDays_0 (l_passDays (c0 := 0) (fun g f s => by rw [Int.zero_add]; exact k g f s) ru r.2.2.2.2.1 h4 ha (by omega) n 0 α 0 h (by omega) fD_refl r ha h4 rfl rfl rfl rfl (by omega)))
theorem INV_rul (I : INV h tx) : rul h tx (h 295 1) := by
  have r := I.1
  have o := I.2.1
  refine ⟨r.2.2.2.2.2.1, by have := o.2.1; have := o.1; omega, fun q => ?_⟩
  have z := INV_t (t := h 295 1) I q o.2.1.2
  exact ⟨by rw [r.2.2.2.2.1]; exact o.2.1.2, z.1, z.2.2.1⟩
def cday (α : Int → Int) (n : Int) : Prop := (1 ≤ n ∧ n ≤ 60) ∧ α 4 + n ≤ 9999
theorem c_X6_day {n : Int} (I : INV h tx) (k1 : cday (h 295) n → ∀ g, fD h g → srep g 4 (dayN tx n.toNat (h 295)) → Q (cntN tx n.toNat (h 295)) g) (k0 : ¬ cday (h 295) n → Q (-1) h) : cf (d + 7) M_X6_day [.inr (.inr 1), .inl n] h Q := by
  have e4 := s_4 I.1
  have o4 := (okm_iff.mp I.2.1.2.2.2.2.1).1
  unfold cday at k1 k0
  refine cf_of pX6 (Nat.le_of_ble_eq_true rfl) rfl (fun _ => B_X6_day_0 ?_)
  rw [e4, w32e (by omega) (by omega)]
  refine ⟨fun q => k0 (by omega), fun q => ⟨fun q2 => k0 (by omega), fun q2 => ⟨fun q3 => ?_, fun q3 => k0 (by omega)⟩⟩⟩
  obtain ⟨n0, hn⟩ : ∃ n0 : Nat, n = (n0 : Int) := ⟨n.toNat, by omega⟩
  subst hn
  rw [Int.toNat_natCast] at k1
  exact c_X6_passDays (d := d) I.1 I.2.1 (INV_rul I) (by omega) (by omega) (fun g f s => k1 (by omega) g f s)
end DAY
