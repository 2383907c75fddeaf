/-! LEVEL 3, the reference begins a ONE -/
section RBEGIN
variable {D : Nat} {g h : am_H} {Q : Int → am_H → Prop} {K V P E : Nat → Int} {N : Nat} {c t : Int} {l : Bool} {i o : Nat} {w v1 : Int} {σ us : List Int}
theorem cnt7 : ∀ us : List Int, (∀ u, u ∈ us → rkO u = 7) → cntO us = us.length := by
  intro us
  induction us with
  | nil => intro _; rfl
  | cons a r ih =>
    intro hu
    simp only [cntO, List.length_cons]
    rw [if_pos (Or.inl (hu a List.mem_cons_self)), ih (fun u hu2 => hu u (List.mem_cons_of_mem _ hu2))]
/-- the names that can stand here -/
def nmOk (l : Bool) (n : Int) : Prop := (l = true ∧ (n = 8 ∨ 10 ≤ n)) ∨ (l = false ∧ n ≤ 9)
theorem wLp_b (S : rS g h K V P E c i w o σ false) (k : cf (D + 5) M_X7_beginOne [.inr (.inr 294)] h (fun r2 h3 => (r2 = 0 → wLp D Q v1 h3) ∧ (¬ r2 = 0 → Q r2 h3))) : wLp D Q v1 h := by
  have h18 : h 294 18 = 0 := S.2.2.2.2.2.1
  exact B_X7_all_34 ⟨fun _ => k, fun y => absurd h18 y⟩
/-- a NUMBER or a NAME -/
theorem wLp_leaf {o1 v : Int} (H : rE g K V P E N c t l) (S : rS g h K V P E c i w (o + us.length) (us ++ σ) false) (hi : i + 1 ≤ N) (hv : (K i = 64 ∧ V i ≤ 9999 ∧ o1 = 0 ∧ v = V i) ∨ (0 ≤ nmK (K i) ∧ nmOk l (nmK (K i)) ∧ o1 = 1 ∧ v = nmK (K i))) (w0 : 0 ≤ w) (w1 : w + 1 + us.length ≤ 303) (len : (us ++ σ).length < 160) (o3 : o + us.length ≤ 300) (hu : ∀ u, u ∈ us → rkO u = 7) (ht : top σ (fun x => rkO x < 7))
    (k : ∀ h2, rS g h2 K V P E c (i + 1) (w + 1 + us.length) o σ true → h2 297 (c + 2 * w) = o1 → h2 297 (c + 2 * w + 1) = v → cds (h2 297) c (w + 1) us → (∀ q : Int, q < c + 2 * w → h2 297 q = h 297 q) → wLp D Q v1 h2) : wLp D Q v1 h := by
  have R := S.2.1.2.2.1
  have n := rtk_n R
  have law : h 294 14 = 4 ↔ l = true := by rw [S.1.2.1 14 (by omega)]; exact H.2.2.1
  refine wLp_b S (cf_of pX7 (Nat.le_of_ble_eq_true rfl) rfl (fun _ => B_X7_beginOne_0 ?_))
  have at81 : wf (D + 5) M_X7_beginOne (fun r2 h3 => (r2 = 0 → wLp D Q v1 h3) ∧ (¬ r2 = 0 → Q r2 h3)) 81 [some (.inr (.inr 294)), none] [.inl v, .inl o1, .inr (.inr 294)] h := by
    refine B_X7_beginOne_81 (c_emit7 H S (by omega) (fun h2 S2 e2 e2b R2 _ => c_next H S2 hi (fun h4 S4 R4 => ?_)))
    have S5 : rS g (am_up h4 294 18 1) K V P E c (i + 1) (w + 1) (o + cntO us) (us ++ σ) true := by
      refine rS_mk S4 (fun b q q2 q3 => upr (by omega)) (fun j q => am_up_ne (by omega)) (fun q hq => am_up_ne (by omega)) ?_ ?_ ?_ ?_ ?_
      · rw [am_up_ne (by omega)]; exact S4.2.2.1
      · rw [am_up_ne (by omega)]; exact S4.2.2.2.1
      · rw [am_up_ne (by omega), cnt7 us hu]; exact S4.2.2.2.2.1
      · rw [am_up_at]; rfl
      · rw [upr (by omega)]; exact S4.2.2.2.2.2.2
    refine c_settle7 H S5 (by omega) (by omega) (by omega) (by rw [cnt7 us hu]; omega) (fun x hx => by rw [hu x hx]; omega) ht (fun h6 S6 C6 R6 => ⟨fun _ => k h6 S6 ?_ ?_ C6 (fun q hq => ?_), fun y => absurd rfl y⟩)
    · rw [R6 _ (by omega), upr (by omega), R4, e2]
    · rw [R6 _ (by omega), upr (by omega), R4, e2b]
    · rw [R6 q (by omega), upr (by omega), R4, R2 q hq]
  have at51 : ∀ r1 : Int, r1 = nmK (K i) → wf (D + 5) M_X7_beginOne (fun r2 h3 => (r2 = 0 → wLp D Q v1 h3) ∧ (¬ r2 = 0 → Q r2 h3)) 51 [some (.inr (.inr 294)), some (.inl r1)] [] h := by
    intro r1 e1
    rcases hv with ⟨q1, q2, q3, q4⟩ | ⟨q1, q2, q3, q4⟩
    · have t1 := n.2.1.2 q1
      refine B_X7_beginOne_51 ⟨fun y => absurd t1 y, fun _ => B_X7_beginOne_65 ⟨fun y => absurd t1 y, fun _ => ?_⟩⟩
      subst q3
      subst q4
      rw [(rtk_v R q1).1 q2]
      exact at81
    · have t1 : ¬ h 294 9 = 1 := fun y => by
        rw [n.2.1.1 y] at q1
        exact absurd q1 (by decide)
      refine B_X7_beginOne_51 ⟨fun _ => B_X7_beginOne_65 ⟨fun _ => ?_, fun y => absurd y t1⟩, fun y => absurd y t1⟩
      subst q3
      subst q4
      rw [e1]
      exact at81
  have at20 : wf (D + 5) M_X7_beginOne (fun r2 h3 => (r2 = 0 → wLp D Q v1 h3) ∧ (¬ r2 = 0 → Q r2 h3)) 20 [some (.inr (.inr 294)), none] [] h := by
    refine B_X7_beginOne_20 (c_nameOf S.2.1 ⟨fun y => ?_, fun y => c_isOf law (fun z => ⟨fun _ => ?_, fun y2 => absurd y2 (by omega)⟩) (fun z => ⟨fun y2 => absurd rfl y2, fun _ => ?_⟩)⟩)
    · rcases hv with ⟨q1, q2, q3, q4⟩ | ⟨q1, q2, q3, q4⟩
      · exact B_X7_beginOne_39 ⟨fun _ => at51 _ rfl, fun y2 => absurd (n.2.1.2 q1) y2⟩
      · omega
    · exact B_X7_beginOne_39 ⟨fun _ => at51 _ rfl, fun _ => ⟨fun y2 => by omega, fun _ => at51 _ rfl⟩⟩
    · rcases hv with ⟨q1, q2, q3, q4⟩ | ⟨q1, q2, q3, q4⟩
      · rw [q1] at y; exact absurd y (by decide)
      · exfalso
        unfold nmOk at q2
        rcases q2 with ⟨a, b⟩ | ⟨a, b⟩
        · rcases b with b | b
          · exact z (Or.inl b)
          · exact z (Or.inr (Or.inl ⟨a, by omega⟩))
        · exact z (Or.inr (Or.inr ⟨a, b⟩))
  refine ⟨fun _ => at20, fun y => ⟨fun _ => at20, fun y2 => ?_⟩⟩
  rcases hv with ⟨q1, q2, q3, q4⟩ | ⟨q1, q2, q3, q4⟩
  · rw [(rtk_v R q1).1 q2] at y2; omega
  · rw [n.2.1.1 y] at q1; exact absurd q1 (by decide)
/-- what opens -/
theorem wLp_open {x : Int} (H : rE g K V P E N c t l) (S : rS g h K V P E c i w o σ false) (hi : i + 1 ≤ N) (hx : (K i = 168 ∧ x = 40) ∨ (K i = 173 ∧ x = 5) ∨ (K i = 12 ∧ x = 2) ∨ (K i = 13 ∧ x = 41) ∨ (K i = 19 ∧ aska σ ∧ x = 20)) (len : σ.length < 160) (ho : o ≤ 8)
    (k1 : o < 8 → ∀ h2, rS g h2 K V P E c (i + 1) w (o + 1) (x :: σ) false → h2 297 = h 297 → wLp D Q v1 h2) (k0 : ¬ o < 8 → Q 3 h) : wLp D Q v1 h := by
  have L := S.2.1
  have R := L.2.2.1
  have n := rtk_n R
  have e40 := rtk_s R (s := 40) (by omega)
  have e45 := rtk_s R (s := 45) (by omega)
  have nn : nmK (K i) = -1 := by
    unfold nmK
    rw [if_neg (by omega), if_neg (by omega), if_neg (by omega), if_neg (by omega), if_neg (by omega), if_neg (by omega)]
  have op : cf (D + 4) M_X7_opened [.inr (.inr 294), .inl x] h (fun r2 h3 => (r2 = 0 → wLp D Q v1 h3) ∧ (¬ r2 = 0 → Q r2 h3)) := c_opened (d := D + 1) H S len ho hi (fun o8 h2 S2 R2 => ⟨fun _ => k1 o8 h2 S2 R2, fun y => absurd rfl y⟩) (fun o8 => ⟨fun y => absurd y (by omega), fun _ => k0 o8⟩)
  have op2 : cf (D + 4) M_X7_opened [.inr (.inr 294), .inl x] h (fun r h24 => ((r = 0 → wLp D Q v1 h24) ∧ (¬ r = 0 → Q r h24))) := op
  have at20 : wf (D + 5) M_X7_beginOne (fun r2 h3 => (r2 = 0 → wLp D Q v1 h3) ∧ (¬ r2 = 0 → Q r2 h3)) 20 [some (.inr (.inr 294)), none] [] h := by
    refine B_X7_beginOne_20 (c_nameOf L ⟨fun _ => B_X7_beginOne_39 ⟨fun y => ?_, fun _ => ⟨fun _ => ⟨fun q1 => ⟨fun q2 => ?_, fun q2 => ?_⟩, fun q1 => ?_⟩, fun y => by omega⟩⟩, fun y => by omega⟩)
    · have := n.2.1.1 y; omega
    · refine c_w4 (by omega) (by omega) (by omega) (by omega) (r := wdv 12) (by decide) (c_isW L 12 (by omega) rfl (fun z => ⟨fun y => absurd y (by omega), fun _ => ?_⟩) (fun z => ⟨fun _ => ?_, fun y => absurd rfl y⟩))
      · rw [show x = 2 by omega] at op; exact op
      · refine c_w2 (by omega) (by omega) (r := wdv 13) (by decide) (c_isW L 13 (by omega) rfl (fun z => ⟨fun y => absurd y (by omega), fun _ => ?_⟩) (fun z => ⟨fun _ => ?_, fun y => absurd rfl y⟩))
        · rw [show x = 41 by omega] at op; exact op
        · have h19 : K i = 19 ∧ aska σ ∧ x = 20 := by
            rcases hx with q | q | q | q | q
            · exact absurd (e40.2 q.1) q1
            · exact absurd (e45.2 q.1) q2
            · omega
            · omega
            · exact q
          refine c_w3 (by omega) (by omega) (by omega) (r := wdv 19) (by decide) (c_isW L 19 (by omega) rfl (fun z => ⟨fun y => absurd y (by omega), fun _ => c_isAskAhead S (by omega) (fun a => ⟨fun y => absurd y (by omega), fun _ => ?_⟩) (fun a => absurd h19.2.1 a)⟩) (fun z => absurd h19.1 z))
          rw [h19.2.2] at op; exact op
    · rw [show x = 5 by have := e45.1 q2; omega] at op; exact op
    · rw [show x = 40 by have := e40.1 q1; omega] at op; exact op
  refine wLp_b S (cf_of pX7 (Nat.le_of_ble_eq_true rfl) rfl (fun _ => B_X7_beginOne_0 ⟨fun _ => at20, fun y => ⟨fun _ => at20, fun _ => ?_⟩⟩))
  have := n.2.1.1 y; omega
/-- what can't stand here -/
theorem wLp_bad {f : Int} (H : rE g K V P E N c t l) (S : rS g h K V P E c i w o σ false) (len : σ.length < 160) (hf : (K i = 64 ∧ 9999 < V i ∧ f = 2) ∨ (0 ≤ nmK (K i) ∧ ¬ nmOk l (nmK (K i)) ∧ f = 5) ∨ (K i ≠ 64 ∧ nmK (K i) < 0 ∧ K i ≠ 168 ∧ K i ≠ 173 ∧ K i ≠ 12 ∧ K i ≠ 13 ∧ (K i = 19 → ¬ aska σ) ∧ f = 1)) (k : Q f h) : wLp D Q v1 h := by
  have L := S.2.1
  have R := L.2.2.1
  have n := rtk_n R
  have law : h 294 14 = 4 ↔ l = true := by rw [S.1.2.1 14 (by omega)]; exact H.2.2.1
  have kf : ¬ f = 0 := by omega
  have at20 : ¬ K i = 64 → wf (D + 5) M_X7_beginOne (fun r2 h3 => (r2 = 0 → wLp D Q v1 h3) ∧ (¬ r2 = 0 → Q r2 h3)) 20 [some (.inr (.inr 294)), none] [] h := by
    intro n64
    refine B_X7_beginOne_20 (c_nameOf L ⟨fun y => ?_, fun y => c_isOf law (fun z => ⟨fun _ => ?_, fun y2 => absurd y2 (by omega)⟩) (fun z => ⟨fun y2 => absurd rfl y2, fun _ => ?_⟩)⟩)
    · have q : K i ≠ 168 ∧ K i ≠ 173 ∧ K i ≠ 12 ∧ K i ≠ 13 ∧ (K i = 19 → ¬ aska σ) ∧ f = 1 := by
        rcases hf with q | q | q
        · exact absurd q.1 n64
        · omega
        · exact q.2.2
      obtain ⟨q1, q2, q3, q4, q5, q6⟩ := q
      rw [q6] at k
      have kk : ((1 : Int) = 0 → wLp D Q v1 h) ∧ (¬ (1 : Int) = 0 → Q 1 h) := ⟨fun y => absurd y (by omega), fun _ => k⟩
      refine B_X7_beginOne_39 ⟨fun y => absurd (n.2.1.1 y) n64, fun _ => ⟨fun _ => ⟨fun z1 => ⟨fun z2 => ?_, fun z2 => ?_⟩, fun z1 => ?_⟩, fun y => by omega⟩⟩
      · refine c_w4 (by omega) (by omega) (by omega) (by omega) (r := wdv 12) (by decide) (c_isW L 12 (by omega) rfl (fun z => absurd z q3) (fun z => ⟨fun _ => ?_, fun y => absurd rfl y⟩))
        refine c_w2 (by omega) (by omega) (r := wdv 13) (by decide) (c_isW L 13 (by omega) rfl (fun z => absurd z q4) (fun z => ⟨fun _ => ?_, fun y => absurd rfl y⟩))
        refine c_w3 (by omega) (by omega) (by omega) (r := wdv 19) (by decide) (c_isW L 19 (by omega) rfl (fun z => ⟨fun y => absurd y (by omega), fun _ => c_isAskAhead S (by omega) (fun a => absurd a (q5 z)) (fun a => ⟨fun _ => kk, fun y => absurd rfl y⟩)⟩) (fun z => ⟨fun _ => kk, fun y => absurd rfl y⟩))
      · exact absurd ((rtk_s R (s := 45) (by omega)).1 z2) q2
      · exact absurd ((rtk_s R (s := 40) (by omega)).1 z1) q1
    · exfalso
      rcases hf with q | q | q
      · exact n64 q.1
      · refine q.2.1 ?_
        unfold nmOk
        rcases z with z | z | z
        · cases l with
          | true => exact Or.inl ⟨rfl, Or.inl z⟩
          | false => exact Or.inr ⟨rfl, by omega⟩
        · exact Or.inl ⟨z.1, Or.inr (by omega)⟩
        · exact Or.inr z
      · omega
    · have f5 : f = 5 := by
        rcases hf with q | q | q
        · exact absurd q.1 n64
        · exact q.2.2
        · omega
      rw [f5] at k
      exact ⟨fun y => absurd y (by omega), fun _ => k⟩
  refine wLp_b S (cf_of pX7 (Nat.le_of_ble_eq_true rfl) rfl (fun _ => B_X7_beginOne_0 ⟨fun y => at20 (fun z => y (n.2.1.2 z)), fun y => ?_⟩))
  have k64 := n.2.1.1 y
  have f2 : f = 2 ∧ 9999 < V i := by
    rcases hf with q | q | q
    · exact ⟨q.2.2, q.2.1⟩
    · rw [k64] at q; exact absurd q.1 (by decide)
    · exact absurd k64 q.1
  rw [f2.1] at k
  exact ⟨fun z => by have := (rtk_v R k64).2 f2.2; omega, fun _ => ⟨fun y => absurd y (by omega), fun _ => k⟩⟩
end RBEGIN
