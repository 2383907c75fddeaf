/-! LEVEL 3, the reference's loop over a SUM, step by step -/
abbrev wLp (D : Nat) (Q : Int → am_H → Prop) (v1 : Int) (h : am_H) : Prop := wf (D + 6) M_X7_all Q 34 [some (.inr (.inr 294)), some (.inl v1), none] [] h
section RLOOP
variable {D : Nat} {g h : am_H} {Q : Int → am_H → Prop} {K V P E : Nat → Int} {N : Nat} {c t : Int} {l : Bool} {i o : Nat} {w v1 : Int} {σ : List Int}
theorem opw_app : ∀ p : List Int, (∀ y, y ∈ p → 1 ≤ rkO y) → opw (p ++ σ) = opw σ
  | [], _ => rfl
  | x :: r, h => by
    have hx := h x List.mem_cons_self
    have : ¬ 40 ≤ x := fun q => by unfold rkO at hx; rw [if_pos q] at hx; omega
    simp only [List.cons_append, opw]
    rw [if_neg this]
    exact opw_app r (fun y hy => h y (List.mem_cons_of_mem _ hy))
theorem oat_app : ∀ p : List Int, (∀ y, y ∈ p → 1 ≤ rkO y) → oat (p ++ σ) = oat σ
  | [], _ => rfl
  | x :: r, h => by
    have hx := h x List.mem_cons_self
    have : ¬ 40 ≤ x := fun q => by unfold rkO at hx; rw [if_pos q] at hx; omega
    simp only [List.cons_append, oat]
    rw [if_neg this]
    exact oat_app r (fun y hy => h y (List.mem_cons_of_mem _ hy))
theorem cpd_app : ∀ p : List Int, (∀ y, y ∈ p → 5 ≤ rkO y) → cpd (p ++ σ) = cpd σ
  | [], _ => rfl
  | x :: r, h => by
    have hx := h x List.mem_cons_self
    simp only [List.cons_append, cpd]
    rw [if_pos (by omega)]
    exact cpd_app r (fun y hy => h y (List.mem_cons_of_mem _ hy))
/-- a sign or a word between two -/
theorem wLp_op {r m : Int} {pend : List Int} (H : rE g K V P E N c t l) (S : rS g h K V P E c i w (o + cntO pend) (pend ++ σ) true) (hi : i + 1 ≤ N) (hb : ∀ r2, btw (K i) (pend ++ σ) r2 → r2 = r) (r0 : 0 ≤ r) (hm : m = if rkO r = 4 then 5 else rkO r) (w0 : 0 ≤ w) (w1 : w + pend.length ≤ 303) (len : (pend ++ σ).length < 160) (o3 : o + cntO pend ≤ 300) (hr : ∀ x, x ∈ pend → m ≤ rkO x) (ht : top σ (fun x => rkO x < m))
    (k : ∀ h2, rS g h2 K V P E c (i + 1) (w + pend.length) o (r :: σ) false → cds (h2 297) c w pend → (∀ q : Int, q < c + 2 * w → h2 297 q = h 297 q) → wLp D Q v1 h2) : wLp D Q v1 h := by
  have h18 : h 294 18 = 1 := S.2.2.2.2.2.1
  have ls : σ.length ≤ (pend ++ σ).length := by rw [List.length_append]; omega
  refine B_X7_all_34 ⟨fun y => by omega, fun _ => cf_of pX7 (Nat.le_of_ble_eq_true rfl) rfl (fun _ => B_X7_behindOne_0 (c_betweenOf S (by omega) (fun r2 b2 => ?_)))⟩
  rw [hb r2 b2]
  have go : wf (D + 5) M_X7_behindOne (fun r5 h6 => (r5 = 0 → cf (D + 5) M_X7_openNow [.inr (.inr 294)] h6 (fun r8 h9 => (¬ r8 = v1 → Q 1 h9) ∧ (r8 = v1 → (¬ v1 = 44 → wf (D + 6) M_X7_all Q 74 [some (.inr (.inr 294)), none, none] [] h9) ∧ (v1 = 44 → cf (D + 5) M_X7_isCompared [.inr (.inr 294)] h9 (fun r12 h13 => (¬ r12 = 0 → wf (D + 6) M_X7_all Q 74 [some (.inr (.inr 294)), none, none] [] h13) ∧ (r12 = 0 → Q 1 h13)))))) ∧ (¬ r5 = 0 → wLp D Q v1 h6)) 26 [some (.inr (.inr 294)), some (.inl r), none, none] [.inl m, .inr (.inr 294)] h := by
    refine B_X7_behindOne_26 (c_settle7 H S w0 (by omega) (by omega) o3 hr ht (fun h2 S2 C2 R2 => ?_))
    have h16 := S2.2.2.2.1
    rw [h16, w32e (z := (σ.length : Int) + 1) (by omega) (by omega)]
    refine ⟨by omega, by omega, c_next (σ := r :: σ) (o := o) (w := w + pend.length) (wh := false) H (rS_mk S2 (fun b q q2 q3 => ?_) (fun j q => ?_) (fun q hq => ?_) ?_ ?_ ?_ ?_ ?_) hi (fun h3 S3 R3 => ⟨fun y => absurd y (by omega), fun _ => k h3 S3 ?_ (fun q hq => ?_)⟩)⟩
    · rw [upr (by omega), upr (by omega), upr (by omega)]
    · rw [am_up_ne (by omega), am_up_ne (by omega), am_up_ne (by omega)]
    · rw [am_up_ne (by omega), am_up_ne (by omega), am_up_ne (by omega)]
    · rw [am_up_ne (by omega), am_up_ne (by omega), am_up_ne (by omega)]; exact S2.2.2.1
    · rw [am_up_ne (by omega), am_up_at, List.length_cons]; omega
    · rw [am_up_ne (by omega), am_up_ne (by omega), am_up_ne (by omega)]; exact S2.2.2.2.2.1
    · rw [am_up_at]; rfl
    · refine ⟨?_, pil_congr σ S2.2.2.2.2.2.2 (fun q hq => ?_)⟩
      · rw [am_up_ne (by omega), am_up_ne (by omega), am_up_at]
      · rw [am_up_ne (by omega), am_up_ne (by omega), am_up_ne (by omega)]
    · rw [R3, upr (by omega), upr (by omega), upr (by omega)]; exact C2
    · rw [R3, upr (by omega), upr (by omega), upr (by omega)]; exact R2 q hq
  refine ⟨fun y => by omega, fun _ => c_rank ⟨fun q => c_rank ?_, fun q => ?_⟩⟩
  · rw [if_neg q] at hm; rw [← hm]; exact go
  · rw [if_pos q] at hm; rw [hm] at go; exact go
/-- it can't stand here -/
theorem wLp_fail (S : rS g h K V P E c i w o σ true) (len : σ.length < 160) (hb : ∀ r, btw (K i) σ r → r < 0) (hp : ∀ r, prt (K i) (cpd σ) (opw σ) r → r < 0) (hv : opw σ ≠ v1 ∨ (v1 = 44 ∧ cpd σ = false)) (k : Q 1 h) : wLp D Q v1 h := by
  have h18 : h 294 18 = 1 := S.2.2.2.2.2.1
  refine B_X7_all_34 ⟨fun y => by omega, fun _ => cf_of pX7 (Nat.le_of_ble_eq_true rfl) rfl (fun _ => B_X7_behindOne_0 (c_betweenOf S (by omega) (fun r2 b2 => ⟨fun _ => c_openNow S (by omega) (c_partOf S (by omega) (fun r3 b3 => ⟨fun y => by have := hp r3 b3; omega, fun _ => ⟨fun _ => c_openNow S (by omega) ⟨fun _ => k, fun y => ⟨fun y2 => ?_, fun y2 => c_isCompared S (by omega) ?_⟩⟩, fun y => absurd rfl y⟩⟩)), fun y => by have := hb r2 b2; omega⟩)))⟩
  · rcases hv with z | z
    · exact absurd y z
    · exact absurd z.1 y2
  · rcases hv with z | z
    · exact absurd y z
    · rw [z.2]
      exact ⟨fun z2 => absurd rfl z2, fun _ => k⟩
/-- the end of what is read -/
theorem wLp_end {pend : List Int} (H : rE g K V P E N c t l) (S : rS g h K V P E c i w (o + cntO pend) (pend ++ σ) true) (hb : ∀ r, btw (K i) (pend ++ σ) r → r < 0) (hp : ∀ r, prt (K i) (cpd (pend ++ σ)) (opw (pend ++ σ)) r → r < 0) (hv : opw (pend ++ σ) = v1) (hv2 : v1 = 44 → cpd (pend ++ σ) = true) (w0 : 0 ≤ w) (w1 : w + pend.length ≤ 303) (len : (pend ++ σ).length < 160) (o3 : o + cntO pend ≤ 300) (hr : ∀ x, x ∈ pend → 1 ≤ rkO x) (ht : top σ (fun x => rkO x < 1))
    (k : ∀ h2, rS g h2 K V P E c i (w + pend.length) o σ true → cds (h2 297) c w pend → (∀ q : Int, q < c + 2 * w → h2 297 q = h 297 q) → Q 0 h2) : wLp D Q v1 h := by
  have h18 : h 294 18 = 1 := S.2.2.2.2.2.1
  have fin : wf (D + 6) M_X7_all Q 74 [some (.inr (.inr 294)), none, none] [] h := B_X7_all_74 (c_settle7 H S w0 (by omega) (by omega) o3 hr ht k)
  refine B_X7_all_34 ⟨fun y => by omega, fun _ => cf_of pX7 (Nat.le_of_ble_eq_true rfl) rfl (fun _ => B_X7_behindOne_0 (c_betweenOf S (by omega) (fun r2 b2 => ⟨fun _ => c_openNow S (by omega) (c_partOf S (by omega) (fun r3 b3 => ⟨fun y => by have := hp r3 b3; omega, fun _ => ⟨fun _ => c_openNow S (by omega) ⟨fun y => absurd hv y, fun y => ⟨fun y2 => fin, fun y2 => c_isCompared S (by omega) ?_⟩⟩, fun y => absurd rfl y⟩⟩)), fun y => by have := hb r2 b2; omega⟩)))⟩
  rw [hv2 y2]
  exact ⟨fun _ => fin, fun z => absurd z (by simp)⟩
/-- then, else -/
theorem wLp_part {x r : Int} {pend : List Int} (H : rE g K V P E N c t l) (S : rS g h K V P E c i w (o + cntO pend) (pend ++ x :: σ) true) (hi : i + 1 ≤ N) (hx : 40 ≤ x) (hb : ∀ r, btw (K i) (pend ++ x :: σ) r → r < 0) (hp : ∀ r2, prt (K i) (cpd (pend ++ x :: σ)) x r2 → r2 = r) (r0 : 0 < r) (w0 : 0 ≤ w) (w1 : w + pend.length ≤ 303) (len : (pend ++ x :: σ).length < 160) (o3 : o + cntO pend ≤ 300) (hr : ∀ y, y ∈ pend → 1 ≤ rkO y)
    (k : ∀ h2, rS g h2 K V P E c (i + 1) (w + pend.length) o (r :: σ) false → cds (h2 297) c w pend → (∀ q : Int, q < c + 2 * w → h2 297 q = h 297 q) → wLp D Q v1 h2) : wLp D Q v1 h := by
  have h18 : h 294 18 = 1 := S.2.2.2.2.2.1
  have eo : opw (pend ++ x :: σ) = x := by rw [opw_app pend hr]; simp only [opw]; rw [if_pos hx]
  have rk0 : rkO x = 0 := by unfold rkO; rw [if_pos hx]
  have ls : σ.length + 1 ≤ (pend ++ x :: σ).length := by rw [List.length_append, List.length_cons]; omega
  refine B_X7_all_34 ⟨fun y => by omega, fun _ => cf_of pX7 (Nat.le_of_ble_eq_true rfl) rfl (fun _ => B_X7_behindOne_0 (c_betweenOf S (by omega) (fun r2 b2 => ⟨fun _ => c_openNow S (by omega) ?_, fun y => by have := hb r2 b2; omega⟩)))⟩
  rw [eo]
  refine c_partOf S (by omega) (fun r3 b3 => ?_)
  rw [hp r3 b3]
  refine ⟨fun _ => c_settle7 H S w0 (by omega) (by omega) o3 hr (by show rkO x < 1; omega) (fun h2 S2 C2 R2 => c_next H S2 hi (fun h3 S3 R3 => ⟨fun y => by omega, fun _ => c_openAt S3 (by rw [List.length_cons]; omega) ?_⟩)), fun y => by omega⟩
  have oo : oat (x :: σ) = σ.length := by simp only [oat]; rw [if_pos hx]
  rw [oo]
  refine ⟨by omega, by omega, fun y => absurd y (by omega), fun _ => k _ (rS_mk S3 (fun b q q2 q3 => ?_) (fun j q => ?_) (fun q hq => ?_) ?_ ?_ ?_ ?_ ?_) ?_ (fun q hq => ?_)⟩
  · rw [upr (by omega), upr (by omega)]
  · rw [am_up_ne (by omega), am_up_ne (by omega)]
  · rw [am_up_ne (by omega), am_up_ne (by omega)]
  · rw [am_up_ne (by omega), am_up_ne (by omega)]; exact S3.2.2.1
  · rw [am_up_ne (by omega), am_up_ne (by omega), S3.2.2.2.1, List.length_cons, List.length_cons]
  · rw [am_up_ne (by omega), am_up_ne (by omega)]; exact S3.2.2.2.2.1
  · rw [am_up_at]; rfl
  · refine ⟨?_, pil_congr σ S3.2.2.2.2.2.2.2 (fun q hq => ?_)⟩
    · rw [am_up_ne (by omega), am_up_at]
    · rw [am_up_ne (by omega), am_up_ne (by omega)]
  · rw [upr (by omega), upr (by omega), R3]; exact C2
  · rw [upr (by omega), upr (by omega), R3]; exact R2 q hq
/-- what was open is shut -/
theorem wLp_close {x : Int} {pend us : List Int} {s : Nat} (H : rE g K V P E N c t l) (S : rS g h K V P E c i w (o + us.length + 1 + cntO pend) (pend ++ x :: (us ++ σ)) true) (hi : i + 1 ≤ N) (hx : x = 40 ∧ s = 0 ∨ x = 43 ∧ s = 1) (hb : ∀ r, btw (K i) (pend ++ x :: (us ++ σ)) r → r < 0) (hp : ∀ r2, prt (K i) (cpd (pend ++ x :: (us ++ σ))) x r2 → r2 = 0) (w0 : 0 ≤ w) (w1 : w + pend.length + s + us.length ≤ 303) (len : (pend ++ x :: (us ++ σ)).length < 160) (o3 : o + us.length + 1 + cntO pend ≤ 300) (hr : ∀ y, y ∈ pend → 1 ≤ rkO y) (hu : ∀ u, u ∈ us → rkO u = 7) (ht : top σ (fun x => rkO x < 7))
    (k : ∀ h2, rS g h2 K V P E c (i + 1) (w + pend.length + s + us.length) o σ true → cds (h2 297) c w pend → (s = 1 → h2 297 (c + 2 * (w + pend.length)) = 3) → cds (h2 297) c (w + pend.length + s) us → (∀ q : Int, q < c + 2 * w → h2 297 q = h 297 q) → wLp D Q v1 h2) : wLp D Q v1 h := by
  have h18 : h 294 18 = 1 := S.2.2.2.2.2.1
  have hx4 : 40 ≤ x := by omega
  have eo : opw (pend ++ x :: (us ++ σ)) = x := by rw [opw_app pend hr]; simp only [opw]; rw [if_pos hx4]
  have rk0 : rkO x = 0 := by unfold rkO; rw [if_pos hx4]
  have ls : (us ++ σ).length + 1 ≤ (pend ++ x :: (us ++ σ)).length := by simp only [List.length_append, List.length_cons]; omega
  have cu : ∀ us : List Int, (∀ u, u ∈ us → rkO u = 7) → cntO us = us.length := by
    intro us
    induction us with
    | nil => intro _; rfl
    | cons a r ih =>
      intro hu
      simp only [cntO, List.length_cons]
      rw [if_pos (Or.inl (hu a List.mem_cons_self)), ih (fun u hu2 => hu u (List.mem_cons_of_mem _ hu2))]
  refine B_X7_all_34 ⟨fun y => by omega, fun _ => cf_of pX7 (Nat.le_of_ble_eq_true rfl) rfl (fun _ => B_X7_behindOne_0 (c_betweenOf S (by omega) (fun r2 b2 => ⟨fun _ => c_openNow S (by omega) ?_, fun y => by have := hb r2 b2; omega⟩)))⟩
  rw [eo]
  refine c_partOf S (by omega) (fun r3 b3 => ?_)
  rw [hp r3 b3]
  refine ⟨fun _ => c_settle7 H S w0 (by omega) (by omega) o3 hr (by show rkO x < 1; omega) (fun h2 S2 C2 R2 => c_next H S2 hi (fun h3 S3 R3 => ⟨fun _ => ?_, fun y => by omega⟩)), fun y => by omega⟩
  have h16 := S3.2.2.2.1
  have h17 := S3.2.2.2.2.1
  rw [List.length_cons] at h16
  rw [h16, h17, w32e (z := ((o + us.length + 1 : Nat) : Int) - 1) (by omega) (by omega), w32e (z := (((us ++ σ).length + 1 : Nat) : Int) - 1) (by omega) (by omega)]
  have S4 : rS g (am_up (am_up h3 294 17 (((o + us.length + 1 : Nat) : Int) - 1)) 294 16 ((((us ++ σ).length + 1 : Nat) : Int) - 1)) K V P E c (i + 1) (w + pend.length) (o + cntO us) (us ++ σ) true := by
    refine rS_mk S3 (fun b q q2 q3 => ?_) (fun j q => ?_) (fun q hq => ?_) ?_ ?_ ?_ ?_ ?_
    · rw [upr (by omega), upr (by omega)]
    · rw [am_up_ne (by omega), am_up_ne (by omega)]
    · rw [am_up_ne (by omega), am_up_ne (by omega)]
    · rw [am_up_ne (by omega), am_up_ne (by omega)]; exact S3.2.2.1
    · rw [am_up_at]; omega
    · rw [am_up_ne (by omega), am_up_at, cu us hu]; omega
    · rw [am_up_ne (by omega), am_up_ne (by omega)]; exact S3.2.2.2.2.2.1
    · rw [upr (by omega), upr (by omega)]; exact S3.2.2.2.2.2.2.2
  generalize hg : am_up (am_up h3 294 17 (((o + us.length + 1 : Nat) : Int) - 1)) 294 16 ((((us ++ σ).length + 1 : Nat) : Int) - 1) = h4 at S4
  have e4 : h4 297 = h2 297 := by rw [← hg, upr (by omega), upr (by omega), R3]
  have last : ∀ (h5 : am_H), rS g h5 K V P E c (i + 1) (w + pend.length + s) (o + cntO us) (us ++ σ) true → (s = 1 → h5 297 (c + 2 * (w + pend.length)) = 3) → (∀ q : Int, q < c + 2 * (w + pend.length) → h5 297 q = h4 297 q) → cf (D + 4) M_X7_settle [.inr (.inr 294), .inl 7] h5 (fun _ h6 => (¬ (1 : Int) = 0 → wLp D Q v1 h6)) := by
    intro h5 S5 e5 R5
    refine c_settle7 H S5 (by omega) (by omega) (by omega) (by rw [cu us hu]; omega) (fun x hx => by rw [hu x hx]; omega) ht (fun h6 S6 C6 R6 => fun _ => k h6 S6 ?_ (fun y => by rw [R6 _ (by omega)]; exact e5 y) C6 (fun q hq => by rw [R6 q (by omega), R5 q (by omega), e4]; exact R2 q hq))
    have cc : ∀ (l1 : List Int) (κ κ2 : Int → Int) (u : Int), cds κ c u l1 → (∀ q : Int, q < c + 2 * (u + l1.length) → κ2 q = κ q) → cds κ2 c u l1 := by
      intro l1
      induction l1 with
      | nil => intros; trivial
      | cons a r ih =>
        intro κ κ2 u hc hq
        rw [List.length_cons] at hq
        exact ⟨by rw [hq _ (by omega)]; exact hc.1, ih κ κ2 (u + 1) hc.2 (fun q hq2 => hq q (by omega))⟩
    exact cc pend (h2 297) _ w C2 (fun q hq => by rw [R6 q (by omega), R5 q (by omega), e4])
  have fin : ∀ h5 : am_H, cf (D + 4) M_X7_settle [.inr (.inr 294), .inl 7] h5 (fun _ h6 => (¬ (1 : Int) = 0 → wLp D Q v1 h6)) → wf (D + 5) M_X7_behindOne (fun r5 h6 => (r5 = 0 → cf (D + 5) M_X7_openNow [.inr (.inr 294)] h6 (fun r8 h9 => (¬ r8 = v1 → Q 1 h9) ∧ (r8 = v1 → (¬ v1 = 44 → wf (D + 6) M_X7_all Q 74 [some (.inr (.inr 294)), none, none] [] h9) ∧ (v1 = 44 → cf (D + 5) M_X7_isCompared [.inr (.inr 294)] h9 (fun r12 h13 => (¬ r12 = 0 → wf (D + 6) M_X7_all Q 74 [some (.inr (.inr 294)), none, none] [] h13) ∧ (r12 = 0 → Q 1 h13)))))) ∧ (¬ r5 = 0 → wLp D Q v1 h6)) 139 [some (.inr (.inr 294)), none, none, none] [] h5 := fun h5 q => B_X7_behindOne_139 (cf_mono q (fun _ h6 z => ⟨fun y => absurd y (by omega), z⟩))
  refine ⟨fun y => fin _ (last _ ?_ ?_ ?_), fun y => c_emit7 H S4 (by omega) (fun h5 S5 e5 _ R5 _ => fin _ (last _ ?_ ?_ ?_))⟩
  · have s0 : s = 0 := by omega
    subst s0
    simpa using S4
  · intro z; omega
  · intro q hq; rfl
  · have s1 : s = 1 := by omega
    subst s1
    exact S5
  · intro _; exact e5
  · intro q hq; exact R5 q hq
end RLOOP
