section REF2
variable {d : Nat} {h : am_H} {Q : Int → am_H → Prop}
theorem cp_loop {P : Int → am_H → Prop} {K : am_H → Prop} {src dst N : Int} (hs : dst ≤ src ∨ src + N ≤ dst) (done : ∀ g, K g → P N g) (step : ∀ v g, 0 ≤ v → v < N → P (v + 1) (am_row g 295 (up1 (g 295) (dst + v) (g 295 (src + v)))) → P v g) : ∀ (n : Nat) (v : Int) (g : am_H), v + n = N → 0 ≤ v → K (am_row g 295 (cp1 (g 295) src dst v N)) → P v g
  | 0, v, g, hv, h0, k => by
    rw [cp1_done (by omega), row_id] at k
    rw [show v = N by omega]
    exact done g k
  | n + 1, v, g, hv, h0, k => by
    refine step v g h0 (by omega) (cp_loop hs done step n (v + 1) _ (by omega) (by omega) ?_)
    rw [row_at, row_row, cp1_step (by omega) hs h0]
    exact k
theorem fl_loop {P : Int → am_H → Prop} {K : am_H → Prop} {dst N z : Int} (done : ∀ g, K g → P N g) (step : ∀ v g, 0 ≤ v → v < N → P (v + 1) (am_row g 295 (up1 (g 295) (dst + v) z)) → P v g) : ∀ (n : Nat) (v : Int) (g : am_H), v + n = N → 0 ≤ v → K (am_row g 295 (fl1 (g 295) dst v N z)) → P v g
  | 0, v, g, hv, h0, k => by
    rw [fl1_done (by omega), row_id] at k
    rw [show v = N by omega]
    exact done g k
  | n + 1, v, g, hv, h0, k => by
    refine step v g h0 (by omega) (fl_loop done step n (v + 1) _ (by omega) (by omega) ?_)
    rw [row_at, row_row, fl1_step (by omega)]
    exact k
theorem c_X7_isPlace {p : Int} (h6 : 0 ≤ h 295 6 ∧ h 295 6 ≤ 40) (k1 : 0 ≤ p → p < h 295 6 → Q 1 h) (k0 : p < 0 ∨ h 295 6 ≤ p → Q 0 h) : cf (d + 1) M_X7_isPlace [.inr (.inr 294), .inl p] h Q := by
  refine cf_of pX7 (Nat.le_of_ble_eq_true rfl) rfl (fun _ => B_X7_isPlace_0 ?_)
  rw [w32e (by omega) (by omega)]
  exact c_X7_isIn (fun a b => ⟨Or.inr rfl, k1 a (by omega)⟩) (fun a => ⟨Or.inl rfl, k0 (by omega)⟩)
theorem c_X7_isText {t : Int} (h0 : 0 ≤ h 295 0 ∧ h 295 0 ≤ 4) (k1 : 0 ≤ t → t < h 295 0 → Q 1 h) (k0 : t < 0 ∨ h 295 0 ≤ t → Q 0 h) : cf (d + 1) M_X7_isText [.inr (.inr 294), .inl t] h Q := by
  refine cf_of pX7 (Nat.le_of_ble_eq_true rfl) rfl (fun _ => B_X7_isText_0 ?_)
  rw [w32e (by omega) (by omega)]
  exact c_X7_isIn (fun a b => ⟨Or.inr rfl, k1 a (by omega)⟩) (fun a => ⟨Or.inl rfl, k0 (by omega)⟩)
def cset (α : Int → Int) (p v : Int) : Prop := 0 ≤ p ∧ p < α 6 ∧ 0 ≤ v ∧ v ≤ 255 ∧ ¬ α (8 + p) = v
theorem c_X7_canSet {p v : Int} (h6 : 0 ≤ h 295 6 ∧ h 295 6 ≤ 40) (k1 : cset (h 295) p v → Q 1 h) (k0 : ¬ cset (h 295) p v → Q 0 h) : cf (d + 2) M_X7_canSet [.inr (.inr 294), .inl p, .inl v] h Q := by
  refine cf_of pX7 (Nat.le_of_ble_eq_true rfl) rfl (fun _ => B_X7_canSet_0 (c_X7_isPlace h6 (fun a b => ⟨fun c => by omega, fun _ => ?_⟩) (fun a => ⟨fun _ => ?_, fun c => absurd rfl c⟩)))
  · refine c_X7_isIn (fun a2 b2 => ⟨fun c => by omega, fun _ => ?_⟩) (fun a2 => ⟨fun _ => k0 (fun q => by unfold cset at q; omega), fun c => absurd rfl c⟩)
    rw [w32e (by omega) (by omega)]
    exact ⟨by omega, by omega, fun c => k0 (fun q => q.2.2.2.2 c), fun c => k1 ⟨a, b, a2, b2, c⟩⟩
  · exact k0 (fun q => by unfold cset at q; omega)
theorem c_X7_setNow {p v : Int} (hw : ¬ h 294 50 = 0) (h7 : 0 ≤ h 295 7 ∧ h 295 7 ≤ 25) (h4 : 0 ≤ h 295 4 ∧ h 295 4 ≤ 9999) (hp : 0 ≤ p ∧ p < 40) (hv : 0 ≤ v ∧ v ≤ 255) (k : Q 0 (am_row h 295 (rw_ (up1 (h 295) (8 + p) v) 0 p v))) : cf (d + 1) M_X7_setNow [.inr (.inr 294), .inl p, .inl v] h Q := by
  refine cf_of pX7 (Nat.le_of_ble_eq_true rfl) rfl (fun _ => B_X7_setNow_0 ?_)
  rw [w32e (by omega) (by omega)]
  refine ⟨by omega, by omega, ?_⟩
  rw [up_row]
  refine c_X7_write (by rw [row_ne (by omega)]; exact hw) (by rw [row_at, up1_ne (by omega)]; exact h7) (by rw [row_at, up1_ne (by omega)]; exact h4) (by omega) (by omega) hv ?_
  rw [row_at, row_row]
  exact k
def csize (α : Int → Int) (n : Int) : Prop := 0 ≤ n ∧ n ≤ 40 ∧ ¬ n = α 6
theorem c_X7_canSize {n : Int} (k1 : csize (h 295) n → Q 1 h) (k0 : ¬ csize (h 295) n → Q 0 h) : cf (d + 1) M_X7_canSize [.inr (.inr 294), .inl n] h Q :=
  cf_of pX7 (Nat.le_of_ble_eq_true rfl) rfl (fun _ => B_X7_canSize_0 (c_X7_isIn (fun a b => ⟨fun c => by omega, fun _ => ⟨fun c => k0 (fun q => q.2.2 c), fun c => k1 ⟨a, b, c⟩⟩⟩) (fun a => ⟨fun _ => k0 (fun q => by unfold csize at q; omega), fun c => absurd rfl c⟩)))
theorem c_X7_cutTo {n : Int} (hn : 0 ≤ n ∧ n ≤ 40) (k : Q 0 (am_row h 295 (fl1 (up1 (h 295) 6 n) 8 n 40 0))) : cf d M_X7_cutTo [.inr (.inr 294), .inl n] h Q := by
  refine cf_of pX7 (Nat.le_of_ble_eq_true rfl) rfl (fun _ => B_X7_cutTo_0 ?_)
  refine fl_loop (P := fun v g => wf d M_X7_cutTo Q 10 [some (.inr (.inr 294)), none, some (.inl v)] [] g) (K := fun g => Q 0 g) (dst := 8) (N := 40) (z := 0) (fun g q => B_X7_cutTo_10 ⟨fun _ => q, fun c => by omega⟩) (fun v g a b q => ?_) (40 - n).toNat n _ (by omega) hn.1 ?_
  · refine B_X7_cutTo_10 ⟨fun c => by omega, fun c => ?_⟩
    rw [w32e (z := 8 + v) (by omega) (by omega), w32e (z := v + 1) (by omega) (by omega), up_row]
    exact ⟨by omega, by omega, q⟩
  · rw [up_row, row_at, row_row]
    exact k
theorem c_X7_sizeNow {n : Int} (hw : ¬ h 294 50 = 0) (h7 : 0 ≤ h 295 7 ∧ h 295 7 ≤ 25) (h4 : 0 ≤ h 295 4 ∧ h 295 4 ≤ 9999) (hn : 0 ≤ n ∧ n ≤ 40) (k : Q 0 (am_row h 295 (rw_ (fl1 (up1 (h 295) 6 n) 8 n 40 0) 1 n 0))) : cf (d + 1) M_X7_sizeNow [.inr (.inr 294), .inl n] h Q := by
  refine cf_of pX7 (Nat.le_of_ble_eq_true rfl) rfl (fun _ => B_X7_sizeNow_0 (c_X7_cutTo hn ?_))
  have e : ∀ j : Int, j < 6 ∨ j = 7 → fl1 (up1 (h 295) 6 n) 8 n 40 0 j = h 295 j := fun j q => by
    unfold fl1
    rw [if_neg (by omega), up1_ne (by omega)]
  refine c_X7_write (by rw [row_ne (by omega)]; exact hw) (by rw [row_at, e 7 (Or.inr rfl)]; exact h7) (by rw [row_at, e 4 (by omega)]; exact h4) (by omega) (by omega) (by omega) ?_
  rw [row_at, row_row]
  exact k
/-- a STEP is kept -/
def rk_ (α : Int → Int) : Int → Int :=
  let β := if α 2 = 30 then up1 (cp1 α 133 64 0 2001) 2 29 else α
  up1 (cp1 (cp1 β 4 (64 + 69 * β 2) 0 44) 2134 (64 + 69 * β 2 + 44) 0 25) 2 (β 2 + 1)
theorem c_X7_keep (h2 : 0 ≤ h 295 2 ∧ h 295 2 ≤ 30) (k : Q 0 (am_row h 295 (rk_ (h 295)))) : cf d M_X7_keep [.inr (.inr 294)] h Q := by
  have fin : ∀ g : am_H, (0 ≤ g 295 2 ∧ g 295 2 ≤ 29) → Q 0 (am_row g 295 (up1 (cp1 (cp1 (g 295) 4 (64 + 69 * g 295 2) 0 44) 2134 (64 + 69 * g 295 2 + 44) 0 25) 2 (g 295 2 + 1))) → wf d M_X7_keep Q 55 [some (.inr (.inr 294)), none, none] [] g := by
    intro g g2 k
    refine B_X7_keep_55 ?_
    rw [w32e (z := 69 * g 295 2) (by omega) (by omega), w32e (z := 64 + 69 * g 295 2) (by omega) (by omega)]
    generalize hx : 64 + 69 * g 295 2 = x at k ⊢
    refine cp_loop (P := fun v g => wf d M_X7_keep Q 70 [some (.inr (.inr 294)), some (.inl x), some (.inl v)] [] g) (K := fun g1 => (0 ≤ g1 295 2 ∧ g1 295 2 ≤ 29) ∧ Q 0 (am_row g1 295 (up1 (cp1 (g1 295) 2134 (x + 44) 0 25) 2 (g1 295 2 + 1)))) (src := 4) (dst := x) (N := 44) (by omega) (fun g1 q => ?_) (fun v g1 a b q => ?_) 44 0 g (by omega) (by omega) ?_
    · obtain ⟨q2, q⟩ := q
      refine B_X7_keep_70 ⟨fun _ => ?_, fun c => by omega⟩
      refine cp_loop (P := fun v g => wf d M_X7_keep Q 100 [some (.inr (.inr 294)), some (.inl x), some (.inl v)] [] g) (K := fun g1 => (0 ≤ g1 295 2 ∧ g1 295 2 ≤ 29) ∧ Q 0 (am_row g1 295 (up1 (g1 295) 2 (g1 295 2 + 1)))) (src := 2134) (dst := x + 44) (N := 25) (by omega) (fun g1 q => ?_) (fun v g1 a b q => ?_) 25 0 g1 (by omega) (by omega) ?_
      · refine B_X7_keep_100 ⟨fun _ => ?_, fun c => by omega⟩
        rw [w32e (by omega) (by omega), up_row]
        exact q.2
      · refine B_X7_keep_100 ⟨fun c => by omega, fun c => ?_⟩
        rw [w32e (z := 2134 + v) (by omega) (by omega), w32e (z := x + 44) (by omega) (by omega), w32e (z := x + 44 + v) (by omega) (by omega), w32e (z := v + 1) (by omega) (by omega), up_row]
        exact ⟨by omega, by omega, by omega, by omega, q⟩
      · have e : cp1 (g1 295) 2134 (x + 44) 0 25 2 = g1 295 2 := by
          unfold cp1
          rw [if_neg (by omega)]
        rw [row_at, row_row, e]
        exact ⟨q2, q⟩
    · refine B_X7_keep_70 ⟨fun c => by omega, fun c => ?_⟩
      rw [w32e (z := 4 + v) (by omega) (by omega), w32e (z := x + v) (by omega) (by omega), w32e (z := v + 1) (by omega) (by omega), up_row]
      exact ⟨by omega, by omega, by omega, by omega, q⟩
    · have e : cp1 (g 295) 4 x 0 44 2 = g 295 2 := by
        unfold cp1
        rw [if_neg (by omega)]
      rw [row_at, row_row, e]
      exact ⟨g2, k⟩
  refine cf_of pX7 (Nat.le_of_ble_eq_true rfl) rfl (fun _ => B_X7_keep_0 ⟨fun c => fin h (by omega) ?_, fun c => ?_⟩)
  · have e : rk_ (h 295) = up1 (cp1 (cp1 (h 295) 4 (64 + 69 * h 295 2) 0 44) 2134 (64 + 69 * h 295 2 + 44) 0 25) 2 (h 295 2 + 1) := by
      unfold rk_
      rw [if_neg c]
    rw [← e]
    exact k
  · refine cp_loop (P := fun v g => wf d M_X7_keep Q 13 [some (.inr (.inr 294)), some (.inl v), none] [] g) (K := fun g => g 295 2 = 30 ∧ Q 0 (am_row g 295 (up1 (cp1 (cp1 (up1 (g 295) 2 29) 4 (64 + 69 * 29) 0 44) 2134 (64 + 69 * 29 + 44) 0 25) 2 30))) (src := 133) (dst := 64) (N := 2001) (by omega) (fun g q => ?_) (fun v g a b q => ?_) 2001 0 h (by omega) (by omega) ?_
    · refine B_X7_keep_13 ⟨fun _ => ?_, fun c => by omega⟩
      rw [q.1, show am_w32 (30 - 1) = 29 from w32e (by omega) (by omega), up_row]
      refine fin _ (by rw [row_at, up1_at]; omega) ?_
      rw [row_at, row_row, up1_at]
      exact q.2
    · refine B_X7_keep_13 ⟨fun c => by omega, fun c => ?_⟩
      rw [w32e (z := 133 + v) (by omega) (by omega), w32e (z := 64 + v) (by omega) (by omega), w32e (z := v + 1) (by omega) (by omega), up_row]
      exact ⟨by omega, by omega, by omega, by omega, q⟩
    · have e2 : cp1 (h 295) 133 64 0 2001 2 = h 295 2 := by
        unfold cp1
        rw [if_neg (by omega)]
      have e : rk_ (h 295) = up1 (cp1 (cp1 (up1 (cp1 (h 295) 133 64 0 2001) 2 29) 4 (64 + 69 * 29) 0 44) 2134 (64 + 69 * 29 + 44) 0 25) 2 30 := by
        unfold rk_
        rw [if_pos c]
        simp only [up1_at]
        rfl
      rw [row_at, row_row, e2, ← e]
      exact ⟨c, k⟩
/-- the latest STEP is taken back -/
def ru_ (α : Int → Int) : Int → Int := cp1 (cp1 (up1 α 2 (α 2 - 1)) (64 + 69 * (α 2 - 1)) 4 0 44) (64 + 69 * (α 2 - 1) + 44) 2134 0 25
theorem c_X7_undo (h2 : 0 ≤ h 295 2 ∧ h 295 2 ≤ 30) (k0 : h 295 2 = 0 → Q (-1) h) (k1 : 0 < h 295 2 → Q (h 295 2 - 1) (am_row h 295 (ru_ (h 295)))) : cf d M_X7_undo [.inr (.inr 294)] h Q := by
  refine cf_of pX7 (Nat.le_of_ble_eq_true rfl) rfl (fun _ => B_X7_undo_0 ⟨fun c => ?_, k0⟩)
  have k := k1 (by omega)
  rw [w32e (z := h 295 2 - 1) (by omega) (by omega), w32e (z := 69 * (h 295 2 - 1)) (by omega) (by omega), w32e (z := 64 + 69 * (h 295 2 - 1)) (by omega) (by omega), up_row]
  unfold ru_ at k
  generalize hy : h 295 2 - 1 = y at k ⊢
  generalize hx : 64 + 69 * y = x at k ⊢
  refine cp_loop (P := fun v g => wf d M_X7_undo Q 36 [some (.inr (.inr 294)), some (.inl x), some (.inl v)] [] g) (K := fun g1 => g1 295 2 = y ∧ Q y (am_row g1 295 (cp1 (g1 295) (x + 44) 2134 0 25))) (src := x) (dst := 4) (N := 44) (by omega) (fun g1 q => ?_) (fun v g1 a b q => ?_) 44 0 _ (by omega) (by omega) ?_
  · obtain ⟨q2, q⟩ := q
    refine B_X7_undo_36 ⟨fun _ => ?_, fun c => by omega⟩
    refine cp_loop (P := fun v g => wf d M_X7_undo Q 66 [some (.inr (.inr 294)), some (.inl x), some (.inl v)] [] g) (K := fun g1 => g1 295 2 = y ∧ Q y g1) (src := x + 44) (dst := 2134) (N := 25) (by omega) (fun g1 q => ?_) (fun v g1 a b q => ?_) 25 0 g1 (by omega) (by omega) ?_
    · refine B_X7_undo_66 ⟨fun _ => ?_, fun c => by omega⟩
      rw [q.1]
      exact q.2
    · refine B_X7_undo_66 ⟨fun c => by omega, fun c => ?_⟩
      rw [w32e (z := 2134 + v) (by omega) (by omega), w32e (z := x + 44) (by omega) (by omega), w32e (z := x + 44 + v) (by omega) (by omega), w32e (z := v + 1) (by omega) (by omega), up_row]
      exact ⟨by omega, by omega, by omega, by omega, q⟩
    · have e : cp1 (g1 295) (x + 44) 2134 0 25 2 = g1 295 2 := by
        unfold cp1
        rw [if_neg (by omega)]
      rw [row_at, e]
      exact ⟨q2, q⟩
  · refine B_X7_undo_36 ⟨fun c => by omega, fun c => ?_⟩
    rw [w32e (z := 4 + v) (by omega) (by omega), w32e (z := x + v) (by omega) (by omega), w32e (z := v + 1) (by omega) (by omega), up_row]
    exact ⟨by omega, by omega, by omega, by omega, q⟩
  · have e : cp1 (up1 (h 295) 2 y) x 4 0 44 2 = y := by
      unfold cp1
      rw [if_neg (by omega), up1_at]
    rw [row_at, row_row, row_at, row_row, e]
    exact ⟨rfl, k⟩
end REF2
