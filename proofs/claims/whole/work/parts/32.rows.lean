/-! LEVEL 3: one row of the heap is another one -/
def up1 (α : Int → Int) (j v : Int) : Int → Int := fun k => if k = j then v else α k
def am_row (h : am_H) (a : Int) (α : Int → Int) : am_H := fun b => if b = a then α else h b
theorem row_at {h : am_H} {a : Int} {α : Int → Int} : am_row h a α a = α := by simp [am_row]
theorem row_ne {h : am_H} {a b : Int} {α : Int → Int} (q : b ≠ a) : am_row h a α b = h b := by simp [am_row, q]
theorem up_row {h : am_H} {a j v : Int} : am_up h a j v = am_row h a (up1 (h a) j v) := by
  funext b k
  unfold am_up am_row up1
  by_cases q : b = a
  · subst q
    simp
  · simp [q]
theorem up_row2 {h : am_H} {a j v : Int} {α : Int → Int} : am_up (am_row h a α) a j v = am_row h a (up1 α j v) := by
  rw [up_row, row_at]
  funext b
  unfold am_row
  by_cases q : b = a <;> simp [q]
theorem row_row {h : am_H} {a : Int} {α β : Int → Int} : am_row (am_row h a α) a β = am_row h a β := by
  funext b
  unfold am_row
  by_cases q : b = a <;> simp [q]
theorem row_id {h : am_H} {a : Int} : am_row h a (h a) = h := by
  funext b
  unfold am_row
  by_cases q : b = a <;> simp [q]
theorem up1_at {α : Int → Int} {j v : Int} : up1 α j v j = v := by simp [up1]
theorem up1_ne {α : Int → Int} {j v k : Int} (q : k ≠ j) : up1 α j v k = α k := by simp [up1, q]
/-- places from lo to n of a stretch come from another stretch -/
def cp1 (α : Int → Int) (src dst lo n : Int) : Int → Int := fun j => if dst + lo ≤ j ∧ j < dst + n then α (j - dst + src) else α j
theorem cp1_done {α : Int → Int} {src dst lo n : Int} (q : n ≤ lo) : cp1 α src dst lo n = α := by
  funext j
  unfold cp1
  rw [if_neg (by omega)]
theorem cp1_step {α : Int → Int} {src dst lo n : Int} (q : lo < n) (hs : dst ≤ src ∨ src + n ≤ dst) (h0 : 0 ≤ lo) : cp1 (up1 α (dst + lo) (α (src + lo))) src dst (lo + 1) n = cp1 α src dst lo n := by
  funext j
  unfold cp1
  by_cases c : dst + (lo + 1) ≤ j ∧ j < dst + n
  · rw [if_pos c, if_pos (by omega), up1_ne (by omega)]
  · rw [if_neg c]
    by_cases e : j = dst + lo
    · subst e
      rw [up1_at, if_pos (by omega)]
      congr 1
      omega
    · rw [up1_ne e, if_neg (by omega)]
/-- places from lo to n of a stretch are v -/
def fl1 (α : Int → Int) (dst lo n v : Int) : Int → Int := fun j => if dst + lo ≤ j ∧ j < dst + n then v else α j
theorem fl1_done {α : Int → Int} {dst lo n v : Int} (q : n ≤ lo) : fl1 α dst lo n v = α := by
  funext j
  unfold fl1
  rw [if_neg (by omega)]
theorem fl1_step {α : Int → Int} {dst lo n v : Int} (q : lo < n) : fl1 (up1 α (dst + lo) v) dst (lo + 1) n v = fl1 α dst lo n v := by
  funext j
  unfold fl1
  by_cases c : dst + (lo + 1) ≤ j ∧ j < dst + n
  · rw [if_pos c, if_pos (by omega)]
  · rw [if_neg c]
    by_cases e : j = dst + lo
    · subst e
      rw [up1_at, if_pos (by omega)]
    · rw [up1_ne e, if_neg (by omega)]
/-- a sum from a place on -/
def sm (f : Int → Int) (p : Int) : Nat → Int
  | 0 => 0
  | n + 1 => f p + sm f (p + 1) n
theorem sm_bd {f : Int → Int} {b : Int} : ∀ (n : Nat) (p : Int), (∀ j, p ≤ j → j < p + n → 0 ≤ f j ∧ f j ≤ b) → 0 ≤ sm f p n ∧ sm f p n ≤ b * n
  | 0, p, _ => by simp [sm]
  | n + 1, p, hf => by
    have h1 := hf p (by omega) (by omega)
    have h2 := sm_bd n (p + 1) (fun j a c => hf j (by omega) (by omega))
    have e : b * ((n + 1 : Nat) : Int) = b * n + b := by
      rw [show ((n + 1 : Nat) : Int) = (n : Int) + 1 by omega, Int.mul_add, Int.mul_one]
    simp only [sm]
    omega
theorem sm_congr {f g : Int → Int} : ∀ (n : Nat) (p q : Int), (∀ j : Int, 0 ≤ j → j < n → f (p + j) = g (q + j)) → sm f p n = sm g q n
  | 0, p, q, _ => rfl
  | n + 1, p, q, hf => by
    have h0 := hf 0 (by omega) (by omega)
    simp only [Int.add_zero] at h0
    simp only [sm]
    rw [h0, sm_congr n (p + 1) (q + 1) (fun j a c => by
      have := hf (j + 1) (by omega) (by omega)
      rw [show p + (j + 1) = p + 1 + j by omega, show q + (j + 1) = q + 1 + j by omega] at this
      exact this)]
/-- bytes as a number, the first highest -/
def nb (f : Int → Int) (v p : Int) : Nat → Int
  | 0 => v
  | n + 1 => nb f (256 * v + f p) (p + 1) n
theorem nb_congr {f g : Int → Int} : ∀ (n : Nat) (v p q : Int), (∀ j : Int, 0 ≤ j → j < n → f (p + j) = g (q + j)) → nb f v p n = nb g v q n
  | 0, v, p, q, _ => rfl
  | n + 1, v, p, q, hf => by
    have h0 := hf 0 (by omega) (by omega)
    simp only [Int.add_zero] at h0
    simp only [nb]
    rw [h0, nb_congr n _ (p + 1) (q + 1) (fun j a c => by
      have := hf (j + 1) (by omega) (by omega)
      rw [show p + (j + 1) = p + 1 + j by omega, show q + (j + 1) = q + 1 + j by omega] at this
      exact this)]
