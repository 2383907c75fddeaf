section PLAYED2
variable {d D : Nat} {h : am_H} {Q : Int → am_H → Prop} {tx : Nat → List Cl} {t : List Cl} {α : Int → Int}
theorem c_X7_isPlayed {u k0 : Int} (I : INV7 h tx) (e295 : h 295 = α) (r : rtx h u t) (ok : okx t) (hk : 0 ≤ k0 ∧ k0 < t.length) (k : ∀ g, fN7 h g → g 295 = actS tx α (cl t k0) → Q (bi (actB tx α (cl t k0))) g) : cf (D + 10) M_X7_isPlayed [.inr (.inr 294), .inl (825 * u + 1 + 9 * k0)] h Q := by
  have u0 := r.1
  have l24 := ok.1
  have rc := r.2.2 k0 hk.1 hk.2
  have ha : oka α := by rw [← e295]; exact I.1
  obtain ⟨k9, hk9⟩ : ∃ k9 : Nat, k0 = (k9 : Int) := ⟨k0.toNat, by omega⟩
  have oc := ok.2.1 (cl t k0) (by rw [hk9]; exact cl_mem (by omega))
  have okc0 := oc.1
  refine cf_of pX7 (Nat.le_of_ble_eq_true rfl) rfl (fun _ => B_X7_isPlayed_0 ?_)
  rw [w32e (z := 825 * u + 1 + 9 * k0 + 1) (by omega) (by omega), w32e (z := 825 * u + 1 + 9 * k0 + 2) (by omega) (by omega), rc.1]
  refine ⟨by omega, by omega, by omega, by omega, fun q => ?_, fun q => ⟨by omega, by omega, ?_⟩, fun q => ?_, fun q => ?_, fun q => ?_⟩
  · have a5 : ¬ (cl t k0).1 = 5 := by omega
    have a6 : ¬ (cl t k0).1 = 6 := by omega
    have a7 : ¬ (cl t k0).1 = 7 := by omega
    have a8 : ¬ (cl t k0).1 = 8 := by omega
    have kk := k h fN7_refl (by rw [e295]; unfold actS; rw [if_neg a5, if_neg a6, if_neg a7, if_neg a8])
    unfold actB at kk
    rw [if_neg a5, if_neg a6, if_neg a7, if_neg a8] at kk
    exact kk
  · rw [rc.2.2.2.2.1 (by omega), rc.2.2.2.2.2 q]
    have eS : actS tx α (cl t k0) = (if actB tx α (cl t k0) = true then s_set α (cl t k0).2.1 (cl t k0).2.2.1 else α) := by unfold actS; rw [if_pos q]
    have eB : actB tx α (cl t k0) = decide (0 ≤ (cl t k0).2.1 ∧ (cl t k0).2.1 < α 6 ∧ 0 ≤ (cl t k0).2.2.1 ∧ (cl t k0).2.2.1 ≤ 255 ∧ ¬ α (8 + (cl t k0).2.1) = (cl t k0).2.2.1) := by unfold actB; rw [if_pos q]
    refine c_X7_set (d := D + 6) I.2.1 (by rw [e295]; exact ha) (fun c => ⟨Or.inr rfl, ?_⟩) (fun c => ⟨Or.inl rfl, ?_⟩)
    · rw [e295] at c ⊢
      have b : actB tx α (cl t k0) = true := by rw [eB]; exact decide_eq_true c
      have kk := k (am_row h 295 (s_set α (cl t k0).2.1 (cl t k0).2.2.1)) fN7_row (by rw [row_at, eS, if_pos b])
      rw [b] at kk
      exact kk
    · rw [e295] at c
      have b : actB tx α (cl t k0) = false := by rw [eB]; exact decide_eq_false c
      have kk := k h fN7_refl (by rw [eS, b, if_neg (by decide)]; exact e295)
      rw [b] at kk
      exact kk
  · rw [rc.2.2.2.2.1 (by omega)]
    have n5 : ¬ (cl t k0).1 = 5 := by omega
    have eS : actS tx α (cl t k0) = (if actB tx α (cl t k0) = true then s_size α (cl t k0).2.1 else α) := by unfold actS; rw [if_neg n5, if_pos q]
    have eB : actB tx α (cl t k0) = decide (0 ≤ (cl t k0).2.1 ∧ (cl t k0).2.1 ≤ 40 ∧ ¬ (cl t k0).2.1 = α 6) := by unfold actB; rw [if_neg n5, if_pos q]
    refine c_X7_size (d := D + 6) I.2.1 (by rw [e295]; exact ha) (fun c => ⟨Or.inr rfl, ?_⟩) (fun c => ⟨Or.inl rfl, ?_⟩)
    · rw [e295] at c ⊢
      have b : actB tx α (cl t k0) = true := by rw [eB]; exact decide_eq_true c
      have kk := k (am_row h 295 (s_size α (cl t k0).2.1)) fN7_row (by rw [row_at, eS, if_pos b])
      rw [b] at kk
      exact kk
    · rw [e295] at c
      have b : actB tx α (cl t k0) = false := by rw [eB]; exact decide_eq_false c
      have kk := k h fN7_refl (by rw [eS, b, if_neg (by decide)]; exact e295)
      rw [b] at kk
      exact kk
  · have n5 : ¬ (cl t k0).1 = 5 := by omega
    have n6 : ¬ (cl t k0).1 = 6 := by omega
    have eS : actS tx α (cl t k0) = mdK tx α := by unfold actS; rw [if_neg n5, if_neg n6, if_pos q]
    have eB : actB tx α (cl t k0) = (mndO tx α).isSome := by unfold actB; rw [if_neg n5, if_neg n6, if_pos q]
    refine c_X7_mend (D := D) I (fun e g f e2 => ⟨fun _ => ?_, fun y => by omega⟩) (fun γ e g f1 f2 e2 => ⟨fun y => by have := (unl_rng (γ := γ) (β := bR (h 295)) 40 0); omega, fun _ => ?_⟩)
    · rw [e295] at e e2
      have kk := k g (fN7_M f) (by rw [e2, eS]; unfold mdK; rw [e])
      rw [eB, e] at kk
      exact kk
    · rw [e295] at e e2
      have kk := k g ⟨f1, fun j qj => f2 j (by omega)⟩ (by rw [e2, eS]; unfold mdK; rw [e])
      rw [eB, e] at kk
      exact kk
  · rw [rc.2.2.2.2.1 (by omega)]
    have n5 : ¬ (cl t k0).1 = 5 := by omega
    have n6 : ¬ (cl t k0).1 = 6 := by omega
    have n7 : ¬ (cl t k0).1 = 7 := by omega
    have eS : actS tx α (cl t k0) = dayN tx (mday α (cl t k0).2.1) α := by unfold actS; rw [if_neg n5, if_neg n6, if_neg n7, if_pos q]
    have eB : actB tx α (cl t k0) = decide ((mday α (cl t k0).2.1 : Int) = (cl t k0).2.1) := by unfold actB; rw [if_neg n5, if_neg n6, if_neg n7, if_pos q]
    have o8 := oc.2.2.2.2.2.2.2.2.2 q
    obtain ⟨n, hn⟩ : ∃ n : Nat, (cl t k0).2.1 = (n : Int) := ⟨(cl t k0).2.1.toNat, by omega⟩
    rw [hn] at o8 eS eB ⊢
    refine c_arePassedM (d := D + 3) (tx := tx) I (by omega) (fun g f e => ⟨by split <;> omega, ?_⟩)
    rw [e295] at e ⊢
    have kk := k g (fN7_P f) (by rw [e, eS])
    rw [eB] at kk
    by_cases z : mday α n = n
    · rw [if_pos z]
      rw [decide_eq_true (by omega)] at kk
      exact kk
    · rw [if_neg z]
      rw [decide_eq_false (by omega)] at kk
      exact kk
end PLAYED2
