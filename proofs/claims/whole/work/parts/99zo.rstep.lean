/-! LEVEL 3, the reference's TOKEN at hand, its pile, its steps: the small methods -/
def fTk (h h2 : am_H) : Prop := (∀ b : Int, b ≠ 294 → h2 b = h b) ∧ ∀ j : Int, j < 7 ∨ 11 < j → h2 294 j = h 294 j
def rL (h : am_H) (K V P E : Nat → Int) (i : Nat) : Prop := h 294 7 = E i ∧ h 294 8 = P i ∧ rtk h (K i) (V i) ∧ (h 294 9 = 2 → 0 ≤ P i ∧ P i < h 294 4 ∧ h 294 4 ≤ 300) ∧ (-1 ≤ P i ∧ P i ≤ 400 ∧ 0 ≤ E i ∧ E i ≤ 400)
/-- the next TOKEN is come to -/
def rNx (g : am_H) (K V P E : Nat → Int) (N : Nat) : Prop := ∀ (d i : Nat) (h : am_H) (Q : Int → am_H → Prop), i + 1 ≤ N → h 298 = g 298 → h 294 4 = g 294 4 → h 294 7 = E i → (∀ h2, fTk h h2 → rL h2 K V P E (i + 1) → Q 0 h2) → cf (d + 2) M_X7_nextToken [.inr (.inr 294)] h Q
def rE (g : am_H) (K V P E : Nat → Int) (N : Nat) (c t : Int) (l : Bool) : Prop := tkok K V N ∧ (g 294 12 = 825 * t ∧ c = 825 * t + 217 ∧ 0 ≤ t ∧ t ≤ 3) ∧ (g 294 14 = 4 ↔ l = true) ∧ rNx g K V P E N
def rO (g h : am_H) (c : Int) : Prop := (∀ b : Int, b ≠ 294 → b ≠ 297 → b ≠ 299 → h b = g b) ∧ (∀ j : Int, j < 7 ∨ j = 12 ∨ j = 14 ∨ j = 15 ∨ 18 < j → h 294 j = g 294 j) ∧ ∀ q : Int, q < c → h 297 q = g 297 q
/-- at the i-th TOKEN, w steps put down, o open, the pile σ -/
def rS (g h : am_H) (K V P E : Nat → Int) (c : Int) (i : Nat) (w : Int) (o : Nat) (σ : List Int) (wh : Bool) : Prop := rO g h c ∧ rL h K V P E i ∧ h 294 13 = w ∧ h 294 16 = σ.length ∧ h 294 17 = o ∧ h 294 18 = (if wh = true then 1 else 0) ∧ pil (h 299) σ
section RSTEP
variable {d : Nat} {g h h2 : am_H} {Q : Int → am_H → Prop} {K V P E : Nat → Int} {N : Nat} {c t : Int} {l : Bool} {i o : Nat} {w : Int} {σ : List Int} {wh : Bool}
theorem rL_congr (L : rL h K V P E i) (e : ∀ j : Int, j = 4 ∨ (7 ≤ j ∧ j ≤ 11) → h2 294 j = h 294 j) (e2 : h2 298 = h 298) : rL h2 K V P E i := by
  unfold rL at L ⊢
  rw [e 7 (by omega), e 8 (by omega), e 9 (by omega), e 4 (by omega)]
  exact ⟨L.1, L.2.1, rtk_congr L.2.2.1 (fun j q q2 => e j (by omega)) e2, L.2.2.2⟩
theorem rS_mk {w2 : Int} {o2 : Nat} {σ2 : List Int} {wh2 : Bool} (S : rS g h K V P E c i w o σ wh) (f1 : ∀ b : Int, b ≠ 294 → b ≠ 297 → b ≠ 299 → h2 b = h b) (f2 : ∀ j : Int, j < 13 ∨ j = 14 ∨ j = 15 ∨ 18 < j → h2 294 j = h 294 j) (f3 : ∀ q : Int, q < c → h2 297 q = h 297 q)
    (e13 : h2 294 13 = w2) (e16 : h2 294 16 = σ2.length) (e17 : h2 294 17 = o2) (e18 : h2 294 18 = (if wh2 = true then 1 else 0)) (ep : pil (h2 299) σ2) : rS g h2 K V P E c i w2 o2 σ2 wh2 := by
  obtain ⟨⟨s1, s2, s3⟩, s4, _⟩ := S
  exact ⟨⟨fun b q q2 q3 => (f1 b q q2 q3).trans (s1 b q q2 q3), fun j q => (f2 j (by omega)).trans (s2 j q), fun q hq => (f3 q hq).trans (s3 q hq)⟩, rL_congr s4 (fun j q => f2 j (by omega)) (f1 298 (by omega) (by omega) (by omega)), e13, e16, e17, e18, ep⟩
/-- the next TOKEN -/
theorem c_next (H : rE g K V P E N c t l) (S : rS g h K V P E c i w o σ wh) (hi : i + 1 ≤ N) (k : ∀ h2, rS g h2 K V P E c (i + 1) w o σ wh → h2 297 = h 297 → Q 0 h2) : cf (d + 2) M_X7_nextToken [.inr (.inr 294)] h Q := by
  obtain ⟨⟨s1, s2, s3⟩, s4, s13, s16, s17, s18, sp⟩ := S
  refine H.2.2.2 d i h Q hi (s1 298 (by omega) (by omega) (by omega)) (s2 4 (by omega)) s4.1 (fun h2 f L => ?_)
  refine k h2 ⟨⟨fun b q q2 q3 => (f.1 b q).trans (s1 b q q2 q3), fun j q => (f.2 j (by omega)).trans (s2 j q), fun q hq => by rw [f.1 297 (by omega)]; exact s3 q hq⟩, L, ?_, ?_, ?_, ?_, ?_⟩ (f.1 297 (by omega))
  · rw [f.2 13 (by omega)]; exact s13
  · rw [f.2 16 (by omega)]; exact s16
  · rw [f.2 17 (by omega)]; exact s17
  · rw [f.2 18 (by omega)]; exact s18
  · rw [f.1 299 (by omega)]; exact sp
theorem c_rank {x : Int} (k : Q (rkO x) h) : cf d M_X7_rank [.inl x] h Q := by
  unfold rkO at k
  refine cf_of pX7 (Nat.le_of_ble_eq_true rfl) rfl (fun _ => B_X7_rank_0 ⟨fun c0 => ?_, fun c0 => ?_⟩)
  · rw [if_neg (by omega)] at k
    refine ⟨fun c1 => ?_, fun c1 => ?_⟩
    · rw [if_neg c1] at k
      refine ⟨fun c2 => ?_, fun c2 => ?_⟩
      · rw [if_neg c2] at k
        refine ⟨fun c3 => ?_, fun c3 => ?_⟩
        · rw [if_neg c3] at k
          refine ⟨fun c4 => ?_, fun c4 => ?_⟩
          · rw [if_neg (by omega)] at k
            refine ⟨fun c5 => ?_, fun c5 => ?_⟩
            · rw [if_neg (by omega)] at k
              refine ⟨fun c6 => ?_, fun c6 => ?_⟩
              · rw [if_neg (by omega)] at k; exact k
              · rw [if_pos c6] at k; exact k
            · rw [if_pos c5] at k; exact k
          · rw [if_pos c4] at k; exact k
        · rw [if_pos c3] at k; exact k
      · rw [if_pos c2] at k; exact k
    · rw [if_pos c1] at k; exact k
  · rw [if_pos c0] at k; exact k
/-- a step is put down -/
theorem c_emit7 {o1 v : Int} (H : rE g K V P E N c t l) (S : rS g h K V P E c i w o σ wh) (w0 : 0 ≤ w ∧ w ≤ 303) (k : ∀ h2, rS g h2 K V P E c i (w + 1) o σ wh → h2 297 (c + 2 * w) = o1 → h2 297 (c + 2 * w + 1) = v → (∀ q : Int, q < c + 2 * w → h2 297 q = h 297 q) → h2 299 = h 299 → Q 0 h2) : cf d M_X7_emit [.inr (.inr 294), .inl o1, .inl v] h Q := by
  obtain ⟨e1, ⟨e2, e3, e4, e5⟩, e6, e7⟩ := H
  have h12 : h 294 12 = 825 * t := by rw [S.1.2.1 12 (by omega)]; exact e2
  have h13 := S.2.2.1
  refine cf_of pX7 (Nat.le_of_ble_eq_true rfl) rfl (fun _ => B_X7_emit_0 ?_)
  rw [h12, h13, w32e (z := 825 * t + 217) (by omega) (by omega), w32e (z := 2 * w) (by omega) (by omega), w32e (z := 825 * t + 217 + 2 * w) (by omega) (by omega), w32e (z := 825 * t + 217 + 2 * w + 1) (by omega) (by omega), w32e (z := w + 1) (by omega) (by omega), ← e3]
  refine ⟨by omega, by omega, by omega, by omega, k _ (rS_mk S (fun b q q2 q3 => ?_) (fun j q => ?_) (fun q hq => ?_) ?_ ?_ ?_ ?_ ?_) ?_ ?_ (fun q hq => ?_) ?_⟩
  · rw [upr (by omega), upr (by omega), upr (by omega)]
  · rw [am_up_ne (by omega), am_up_ne (by omega), am_up_ne (by omega)]
  · rw [am_up_ne (by omega), am_up_ne (by omega), am_up_ne (by omega)]
  · rw [am_up_at]
  · rw [am_up_ne (by omega), am_up_ne (by omega), am_up_ne (by omega)]; exact S.2.2.2.1
  · rw [am_up_ne (by omega), am_up_ne (by omega), am_up_ne (by omega)]; exact S.2.2.2.2.1
  · rw [am_up_ne (by omega), am_up_ne (by omega), am_up_ne (by omega)]; exact S.2.2.2.2.2.1
  · rw [upr (by omega), upr (by omega), upr (by omega)]; exact S.2.2.2.2.2.2
  · rw [am_up_ne (by omega), am_up_ne (by omega), am_up_at]
  · rw [am_up_ne (by omega), am_up_at]
  · rw [am_up_ne (by omega), am_up_ne (by omega), am_up_ne (by omega)]
  · rw [upr (by omega), upr (by omega), upr (by omega)]
/-- what is on the pile is put down as far as it binds closely enough -/
theorem c_settle {m : Int} (H : rE g K V P E N c t l) : ∀ (pend : List Int) (h : am_H) (w : Int) (o : Nat), rS g h K V P E c i w (o + cntO pend) (pend ++ σ) wh → 0 ≤ w → w + pend.length ≤ 304 → (pend ++ σ).length ≤ 160 → o + cntO pend ≤ 300 → (∀ x, x ∈ pend → m ≤ rkO x) → top σ (fun x => rkO x < m) → (∀ h2, rS g h2 K V P E c i (w + pend.length) o σ wh → cds (h2 297) c w pend → (∀ q : Int, q < c + 2 * w → h2 297 q = h 297 q) → Q 0 h2) → wf (d + 1) M_X7_settle Q 0 [some (.inr (.inr 294)), some (.inl m)] [] h
  | [], h, w, o, S, w0, w1, len, o3, hr, ht, k => by
    have kk := k h (by simpa [cntO] using S) trivial (fun _ _ => rfl)
    have h16 := S.2.2.2.1
    refine B_X7_settle_0 ⟨fun _ => kk, fun c0 => ?_⟩
    cases σ with
    | nil => rw [h16] at c0; simp at c0
    | cons x r =>
      have px := S.2.2.2.2.2.2.1
      simp only [List.nil_append, List.length_cons] at h16 len
      rw [h16, w32e (z := ((r.length + 1 : Nat) : Int) - 1) (by omega) (by omega), show ((r.length + 1 : Nat) : Int) - 1 = r.length by omega]
      rw [px]
      exact ⟨by omega, by omega, c_rank ⟨fun _ => kk, fun q => by have : rkO x < m := ht; omega⟩⟩
  | x :: r, h, w, o, S, w0, w1, len, o3, hr, ht, k => by
    have h16 := S.2.2.2.1
    have sp := S.2.2.2.2.2.2
    simp only [List.cons_append, List.length_cons] at h16 len w1
    have px : h 299 ((r ++ σ).length : Int) = x := sp.1
    have rx := hr x List.mem_cons_self
    refine B_X7_settle_0 ⟨fun c0 => by omega, fun _ => ?_⟩
    rw [h16, w32e (z := (((r ++ σ).length + 1 : Nat) : Int) - 1) (by omega) (by omega), show (((r ++ σ).length + 1 : Nat) : Int) - 1 = ((r ++ σ).length : Int) by omega, px]
    refine ⟨by omega, by omega, c_rank ⟨fun q => by omega, fun _ => ?_⟩⟩
    rw [h16, w32e (z := (((r ++ σ).length + 1 : Nat) : Int) - 1) (by omega) (by omega), show (((r ++ σ).length + 1 : Nat) : Int) - 1 = ((r ++ σ).length : Int) by omega, px]
    refine ⟨by omega, by omega, ?_⟩
    have S1 : rS g (am_up h 294 16 ((r ++ σ).length : Int)) K V P E c i w (o + cntO (x :: r)) (r ++ σ) wh := by
      refine rS_mk S (fun b q q2 q3 => upr q) (fun j q => am_up_ne (by omega)) (fun q hq => am_up_ne (by omega)) ?_ (am_up_at _ _ _ _) ?_ ?_ ?_
      · rw [am_up_ne (by omega)]; exact S.2.2.1
      · rw [am_up_ne (by omega)]; exact S.2.2.2.2.1
      · rw [am_up_ne (by omega)]; exact S.2.2.2.2.2.1
      · rw [upr (by omega)]; exact sp.2
    refine c_emit7 H S1 (by omega) (fun h2 S2 e2 _ R2 e299 => ?_)
    have g16 := S2.2.2.2.1
    rw [g16]
    have px2 : h2 299 ((r ++ σ).length : Int) = x := by rw [e299, upr (by omega)]; exact px
    rw [px2]
    have go : ∀ h3 : am_H, rS g h3 K V P E c i (w + 1) (o + cntO r) (r ++ σ) wh → h3 297 = h2 297 → wf (d + 1) M_X7_settle Q 0 [some (.inr (.inr 294)), some (.inl m)] [] h3 := by
      intro h3 S3 e3
      refine c_settle H r h3 (w + 1) o S3 (by omega) (by omega) (by omega) (by simp only [cntO] at o3; omega) (fun y hy => hr y (List.mem_cons_of_mem _ hy)) ht (fun h4 S4 C4 R4 => ?_)
      refine k h4 ?_ ⟨?_, C4⟩ (fun q hq => ?_)
      · rw [show w + (((x :: r).length : Nat) : Int) = w + 1 + r.length by simp only [List.length_cons]; omega]; exact S4
      · rw [R4 _ (by omega), e3, e2]
      · rw [R4 q (by omega), e3, R2 q hq, upr (by omega)]
    have o17 := S2.2.2.2.2.1
    have g80 : rkO x = 7 ∨ x = 20 → wf (d + 1) M_X7_settle Q 80 [some (.inr (.inr 294)), some (.inl m)] [] h2 := by
      intro q
      simp only [cntO] at o17 o3
      rw [if_pos q] at o17 o3
      refine B_X7_settle_80 ?_
      rw [o17, w32e (z := ((o + (cntO r + 1) : Nat) : Int) - 1) (by omega) (by omega)]
      refine go _ (rS_mk S2 (fun b q q2 q3 => upr q) (fun j q => am_up_ne (by omega)) (fun q hq => am_up_ne (by omega)) ?_ ?_ ?_ ?_ ?_) (upr (by omega))
      · rw [am_up_ne (by omega)]; exact S2.2.2.1
      · rw [am_up_ne (by omega)]; exact S2.2.2.2.1
      · rw [am_up_at]; omega
      · rw [am_up_ne (by omega)]; exact S2.2.2.2.2.2.1
      · rw [upr (by omega)]; exact S2.2.2.2.2.2.2
    refine ⟨by omega, by omega, c_rank ⟨fun q => g80 (Or.inl q), fun q7 => ?_⟩⟩
    rw [g16, px2]
    refine ⟨by omega, by omega, fun q20 => go h2 ?_ rfl, fun q20 => g80 (Or.inr q20)⟩
    simp only [cntO] at S2
    rw [if_neg (by omega)] at S2
    exact S2
theorem c_settle7 {m : Int} (H : rE g K V P E N c t l) {pend : List Int} (S : rS g h K V P E c i w (o + cntO pend) (pend ++ σ) wh) (w0 : 0 ≤ w) (w1 : w + pend.length ≤ 304) (len : (pend ++ σ).length ≤ 160) (o3 : o + cntO pend ≤ 300) (hr : ∀ x, x ∈ pend → m ≤ rkO x) (ht : top σ (fun x => rkO x < m)) (k : ∀ h2, rS g h2 K V P E c i (w + pend.length) o σ wh → cds (h2 297) c w pend → (∀ q : Int, q < c + 2 * w → h2 297 q = h 297 q) → Q 0 h2) : cf (d + 1) M_X7_settle [.inr (.inr 294), .inl m] h Q :=
  cf_of pX7 (Nat.le_of_ble_eq_true rfl) rfl (fun _ => c_settle H pend h w o S w0 w1 len o3 hr ht k)
theorem wf_openAt (S : rS g h K V P E c i w o σ wh) (len : σ.length ≤ 160) : ∀ τ : List Int, pil (h 299) τ → τ.length ≤ σ.length → (k : Q (oat τ) h) → wf d M_X7_openAt Q 7 [some (.inr (.inr 294)), some (.inl ((τ.length : Int) - 1))] [] h
  | [], _, _, k => B_X7_openAt_7 ⟨fun _ => k, fun q => by simp at q⟩
  | x :: r, p, q, k => by
    have px : h 299 (r.length : Int) = x := p.1
    simp only [List.length_cons] at q
    simp only [oat] at k
    refine B_X7_openAt_7 ?_
    rw [show (((x :: r).length : Nat) : Int) - 1 = (r.length : Int) by simp, px]
    refine ⟨fun q => by omega, fun _ => ⟨by omega, fun q => ?_, fun q => ?_⟩⟩
    · rw [if_pos q] at k; exact k
    · rw [if_neg (by omega)] at k
      rw [w32e (z := (r.length : Int) + -1) (by omega) (by omega)]
      exact wf_openAt S len r p.2 (by omega) k
theorem c_openAt (S : rS g h K V P E c i w o σ wh) (len : σ.length ≤ 160) (k : Q (oat σ) h) : cf d M_X7_openAt [.inr (.inr 294)] h Q := by
  refine cf_of pX7 (Nat.le_of_ble_eq_true rfl) rfl (fun _ => B_X7_openAt_0 ?_)
  rw [S.2.2.2.1, w32e (z := (σ.length : Int) - 1) (by omega) (by omega)]
  exact wf_openAt S len σ S.2.2.2.2.2.2 (Nat.le_refl _) k
theorem c_openNow (S : rS g h K V P E c i w o σ wh) (len : σ.length ≤ 160) (k : Q (opw σ) h) : cf (d + 1) M_X7_openNow [.inr (.inr 294)] h Q := by
  have oo := oat_opw σ S.2.2.2.2.2.2
  have r := oat_rng σ
  refine cf_of pX7 (Nat.le_of_ble_eq_true rfl) rfl (fun _ => B_X7_openNow_0 (c_openAt S len ⟨fun q => c_openAt S len ⟨q, by omega, ?_⟩, fun q => ?_⟩))
  · rw [oo.2 q]; exact k
  · rw [oo.1 q] at k; exact k
theorem wf_isCompared (S : rS g h K V P E c i w o σ wh) (len : σ.length ≤ 160) : ∀ τ : List Int, pil (h 299) τ → τ.length ≤ σ.length → (k : Q (if cpd τ = true then 1 else 0) h) → wf (d + 1) M_X7_isCompared Q 7 [some (.inr (.inr 294)), some (.inl ((τ.length : Int) - 1))] [] h
  | [], _, _, k => B_X7_isCompared_7 ⟨fun _ => B_X7_isCompared_30 ⟨fun _ => k, fun q => by simp at q⟩, fun q => by simp at q⟩
  | x :: r, p, q, k => by
    have px : h 299 (r.length : Int) = x := p.1
    simp only [List.length_cons] at q
    refine B_X7_isCompared_7 ?_
    rw [show (((x :: r).length : Nat) : Int) - 1 = (r.length : Int) by simp, px]
    refine ⟨fun q => by omega, fun _ => ⟨by omega, c_rank ⟨fun q => B_X7_isCompared_30 ?_, fun q => ?_⟩⟩⟩
    · rw [show cpd (x :: r) = decide (rkO x = 4) from if_neg (by omega)] at k
      rw [px]
      refine ⟨fun q => by omega, fun _ => ⟨by omega, c_rank ⟨fun q2 => ?_, fun q2 => ?_⟩⟩⟩
      · rw [if_neg (by simpa using q2)] at k; exact k
      · rw [if_pos (by simpa using q2)] at k; exact k
    · rw [show cpd (x :: r) = cpd r from if_pos q] at k
      rw [w32e (z := (r.length : Int) + -1) (by omega) (by omega)]
      exact wf_isCompared S len r p.2 (by omega) k
theorem c_isCompared (S : rS g h K V P E c i w o σ wh) (len : σ.length ≤ 160) (k : Q (if cpd σ = true then 1 else 0) h) : cf (d + 1) M_X7_isCompared [.inr (.inr 294)] h Q := by
  refine cf_of pX7 (Nat.le_of_ble_eq_true rfl) rfl (fun _ => B_X7_isCompared_0 ?_)
  rw [S.2.2.2.1, w32e (z := (σ.length : Int) - 1) (by omega) (by omega)]
  exact wf_isCompared S len σ S.2.2.2.2.2.2 (Nat.le_refl _) k
theorem c_isAsk {x : Int} (k1 : isA x → Q 1 h) (k0 : ¬ isA x → Q 0 h) : cf d M_X7_isAsk [.inl x] h Q :=
  cf_of pX7 (Nat.le_of_ble_eq_true rfl) rfl (fun _ => B_X7_isAsk_0 ⟨fun c => B_X7_isAsk_12 (k1 (Or.inl c)), fun c => ⟨fun c2 => k0 (fun q => q.elim c c2), fun c2 => B_X7_isAsk_12 (k1 (Or.inr c2))⟩⟩)
theorem c_isAskAhead (S : rS g h K V P E c i w o σ wh) (len : σ.length ≤ 160) (k1 : aska σ → Q 1 h) (k0 : ¬ aska σ → Q 0 h) : cf (d + 2) M_X7_isAskAhead [.inr (.inr 294)] h Q := by
  refine cf_of pX7 (Nat.le_of_ble_eq_true rfl) rfl (fun _ => B_X7_isAskAhead_0 (c_openNow S len (c_isAsk (fun a => ⟨fun y => absurd y (by omega), fun _ => ?_⟩) (fun a => ⟨fun _ => k0 (fun q => a q.1), fun y => absurd rfl y⟩))))
  cases σ with
  | nil => rcases a with a | a <;> simp [opw] at a
  | cons x r =>
    have px : h 299 (r.length : Int) = x := S.2.2.2.2.2.2.1
    have h16 := S.2.2.2.1
    simp only [List.length_cons] at h16 len
    rw [h16, w32e (z := ((r.length + 1 : Nat) : Int) - 1) (by omega) (by omega), show ((r.length + 1 : Nat) : Int) - 1 = (r.length : Int) by omega, px]
    refine ⟨by omega, by omega, fun q => B_X7_isAskAhead_48 (k1 ⟨a, Or.inl q⟩), fun q => c_rank (c_X7_isIn (fun u v => ⟨fun y => absurd y (by omega), fun _ => B_X7_isAskAhead_48 (k1 ⟨a, Or.inr ⟨u, v⟩⟩)⟩) (fun u => ⟨fun _ => k0 (fun z => ?_), fun y => absurd rfl y⟩))⟩
    have z2 : 40 ≤ x ∨ (1 ≤ rkO x ∧ rkO x ≤ 3) := z.2
    omega
end RSTEP
