/-! LEVEL 3, TOKENS out of bytes: pure. τ: the bytes, n: how many are there -/
def isLt (c : Int) : Bool := decide ((97 ≤ c ∧ c ≤ 122) ∨ (65 ≤ c ∧ c ≤ 90))
def isDg (c : Int) : Bool := decide (48 ≤ c ∧ c ≤ 57)
/-- the first place from one on that is behind the end, or not such a byte -/
def rnF (f : Int → Bool) (τ : Int → Int) (n : Nat) : Nat → Nat → Nat
  | 0, p => p
  | m + 1, p => if p < n ∧ f (τ p) = true then rnF f τ n m (p + 1) else p
def rnE (f : Int → Bool) (τ : Int → Int) (n p : Nat) : Nat := rnF f τ n (n - p) p
def blR (τ : Int → Int) (p : Nat) : Nat → List Int
  | 0 => []
  | m + 1 => τ ((p + m : Nat) : Int) :: blR τ p m
/-- the words -/
def wds : List (List Int) := [[110, 117, 109], [115, 117, 109], [110, 101, 115, 116], [109, 117, 115, 116], [114, 111, 116, 115], [115, 101, 116], [115, 105, 122, 101], [109, 101, 110, 100], [100, 97, 121], [97, 116], [111, 102], [116, 111], [112, 101, 101, 107], [105, 102], [116, 104, 101, 110], [101, 108, 115, 101], [101, 110, 100], [111, 114], [97, 110, 100], [110, 111, 116], [100, 101, 101, 112], [112, 108, 97, 99, 101], [111, 108, 100]]
def wlk (k : Nat) : List Int := (wds.getD k []).reverse
def widx (bs : List Int) : Int := match (List.range 23).find? (fun k => decide (wlk k = bs)) with
  | some k => k
  | none => 65
def wkT (τ : Int → Int) (p e : Nat) : Int := if e = p + 1 ∧ 97 ≤ τ p ∧ τ p ≤ 104 then τ p - 65 else widx (blR τ p (e - p))
def vlC (τ : Int → Int) (p : Nat) : Nat → Int
  | 0 => 0
  | m + 1 => min (vlC τ p m * 10 + τ ((p + m : Nat) : Int) - 48) 10000
def sgK (c : Int) : Int := if c = 35 ∨ (40 ≤ c ∧ c ≤ 43) ∨ c = 45 ∨ c = 47 ∨ (59 ≤ c ∧ c ≤ 62) then 128 + c else 65
/-- a TOKEN: what it is, where it begins, its number, where it ends -/
abbrev Tk : Type := Int × Nat × Int × Nat
def tkA (τ : Int → Int) (n p : Nat) : Tk :=
  if isLt (τ p) = true then (wkT τ p (rnE isLt τ n p), p, 0, rnE isLt τ n p)
  else if isDg (τ p) = true then (64, p, vlC τ p (rnE isDg τ n p - p), rnE isDg τ n p)
  else if (τ p = 60 ∨ τ p = 62) ∧ p + 1 < n ∧ τ ((p + 1 : Nat) : Int) = 61 then (256 + τ p, p, 0, p + 2)
  else (sgK (τ p), p, 0, p + 1)
def lxA (τ : Int → Int) (n : Nat) : Nat → Nat → List Tk
  | 0, _ => []
  | m + 1, p => if n ≤ p then [] else if τ p = 32 ∨ τ p = 10 then lxA τ n m (p + 1) else tkA τ n p :: lxA τ n m (tkA τ n p).2.2.2
section LEX
variable {τ : Int → Int} {n p m : Nat} {f : Int → Bool}
theorem rnE_step (h : p < n) (hf : f (τ p) = true) : rnE f τ n p = rnE f τ n (p + 1) := by
  unfold rnE
  rw [show n - p = (n - (p + 1)) + 1 by omega]
  simp only [rnF]
  rw [if_pos ⟨h, hf⟩]
theorem rnE_stop (h : ¬ (p < n ∧ f (τ p) = true)) : rnE f τ n p = p := by
  unfold rnE
  cases n - p with
  | zero => rfl
  | succ k => simp only [rnF]; rw [if_neg h]
theorem rnF_le : ∀ (m p : Nat), p + m = n → p ≤ rnF f τ n m p ∧ rnF f τ n m p ≤ n
  | 0, p, h => by simp only [rnF]; omega
  | m + 1, p, h => by
    have i := rnF_le m (p + 1) (by omega)
    simp only [rnF]
    split <;> omega
theorem rnE_le (h : p ≤ n) : p ≤ rnE f τ n p ∧ rnE f τ n p ≤ n := rnF_le (n - p) p (by omega)
theorem rnE_gt (h : p < n) (hf : f (τ p) = true) : p < rnE f τ n p := by
  rw [rnE_step h hf]
  have := rnE_le (f := f) (τ := τ) (n := n) (p := p + 1) (by omega)
  omega
theorem tkA_end (h : p < n) : p < (tkA τ n p).2.2.2 ∧ (tkA τ n p).2.2.2 ≤ n ∧ (tkA τ n p).2.1 = p := by
  unfold tkA
  split
  · have := rnE_le (f := isLt) (τ := τ) (n := n) (p := p) (by omega)
    exact ⟨rnE_gt h (by assumption), this.2, rfl⟩
  · split
    · have := rnE_le (f := isDg) (τ := τ) (n := n) (p := p) (by omega)
      exact ⟨rnE_gt h (by assumption), this.2, rfl⟩
    · split
      · rename_i c
        exact ⟨by simp only; omega, by simp only; omega, rfl⟩
      · exact ⟨by simp only; omega, by simp only; omega, rfl⟩
theorem wlk_ne : ∀ k : Nat, k < 23 → 2 ≤ (wlk k).length ∧ (wlk k).length ≤ 5 := by decide +kernel
theorem widx_rng {bs : List Int} : (0 ≤ widx bs ∧ widx bs ≤ 22 ∧ wlk (widx bs).toNat = bs) ∨ (widx bs = 65 ∧ ∀ k : Nat, k < 23 → wlk k ≠ bs) := by
  unfold widx
  cases h : (List.range 23).find? (fun k => decide (wlk k = bs)) with
  | some k =>
    left
    have h1 := List.find?_some h
    have h2 := List.mem_range.mp (List.mem_of_find?_eq_some h)
    simp only
    exact ⟨by omega, by omega, by simpa using h1⟩
  | none =>
    right
    refine ⟨rfl, fun k hk e => ?_⟩
    have := List.find?_eq_none.mp h k (List.mem_range.mpr hk)
    simp [e] at this
theorem wlk_inj : ∀ a : Nat, a < 23 → ∀ b : Nat, b < 23 → wlk a = wlk b → a = b := by decide +kernel
theorem vlC_rng (h : ∀ j : Nat, p ≤ j → j < p + m → isDg (τ j) = true) : 0 ≤ vlC τ p m ∧ vlC τ p m ≤ 10000 := by
  induction m with
  | zero => simp [vlC]
  | succ m ih =>
    have i := ih (fun j a b => h j a (by omega))
    have d := h (p + m) (by omega) (by omega)
    unfold isDg at d
    have d2 := of_decide_eq_true d
    simp only [vlC]
    omega
theorem rnF_all : ∀ (m p : Nat), ∀ j : Nat, p ≤ j → j < rnF f τ n m p → f (τ j) = true
  | 0, p, j, a, b => by simp only [rnF] at b; omega
  | m + 1, p, j, a, b => by
    simp only [rnF] at b
    split at b
    · rename_i c
      by_cases e : j = p
      · rw [e]; exact c.2
      · exact rnF_all m (p + 1) j (by omega) b
    · omega
theorem rnE_all {j : Nat} (a : p ≤ j) (b : j < rnE f τ n p) : f (τ j) = true := rnF_all (n - p) p j a b
/-- TOKENS and what comes behind them -/
theorem lxA_suf : ∀ (m p : Nat), n - p ≤ m → ∀ i : Nat, i < (lxA τ n m p).length → ∃ (m2 : Nat) (done : List Tk), lxA τ n m p = done ++ lxA τ n m2 ((lxA τ n m p).getD i (66, n, 0, n)).2.2.2 ∧ done.length = i + 1 ∧ n - ((lxA τ n m p).getD i (66, n, 0, n)).2.2.2 ≤ m2 ∧ ((lxA τ n m p).getD i (66, n, 0, n)).2.2.2 ≤ n
  | 0, p, hm, i, hi => by simp [lxA] at hi
  | m + 1, p, hm, i, hi => by
    simp only [lxA] at hi ⊢
    by_cases c : n ≤ p
    · rw [if_pos c] at hi; simp at hi
    · rw [if_neg c] at hi ⊢
      by_cases b : τ p = 32 ∨ τ p = 10
      · rw [if_pos b] at hi ⊢
        exact lxA_suf m (p + 1) (by omega) i hi
      · rw [if_neg b] at hi ⊢
        have te := tkA_end (τ := τ) (n := n) (p := p) (by omega)
        cases i with
        | zero => exact ⟨m, [tkA τ n p], by simp, by simp, by simp; omega, by simp; omega⟩
        | succ i =>
          simp only [List.length_cons] at hi
          obtain ⟨m2, done, e1, e2, e3, e4⟩ := lxA_suf m (tkA τ n p).2.2.2 (by omega) i (by omega)
          simp only [List.getD_cons_succ]
          exact ⟨m2, tkA τ n p :: done, by rw [List.cons_append, ← e1], by simp [e2], e3, e4⟩
/-- of each TOKEN -/
theorem lxA_all {F : Tk → Prop} (hF : ∀ p : Nat, p < n → ¬ (τ p = 32 ∨ τ p = 10) → F (tkA τ n p)) : ∀ (m p : Nat), ∀ x, x ∈ lxA τ n m p → F x
  | 0, p, x, hx => by simp [lxA] at hx
  | m + 1, p, x, hx => by
    simp only [lxA] at hx
    split at hx
    · simp at hx
    · split at hx
      · exact lxA_all hF m _ x hx
      · rcases List.mem_cons.mp hx with rfl | hx
        · exact hF p (by omega) (by assumption)
        · exact lxA_all hF m _ x hx
theorem lxA_len : ∀ (m p : Nat), p ≤ n → (lxA τ n m p).length + p ≤ n
  | 0, p, h => by simp [lxA]; exact h
  | m + 1, p, h => by
    simp only [lxA]
    split
    · simp; exact h
    · split
      · have := lxA_len m (p + 1) (by omega); omega
      · have te := tkA_end (τ := τ) (n := n) (p := p) (by omega)
        have := lxA_len m (tkA τ n p).2.2.2 te.2.1
        simp only [List.length_cons]
        omega
theorem tkA_k (h : p < n) (hb : ∀ j : Nat, j < n → 0 ≤ τ j ∧ τ j ≤ 255) : ((tkA τ n p).1 ≠ 66 ∧ (tkA τ n p).1 < 400 ∧ 0 ≤ (tkA τ n p).1) ∧ 0 ≤ (tkA τ n p).2.2.1 ∧ (tkA τ n p).2.2.1 ≤ 10000 := by
  have b := hb p h
  unfold tkA
  split
  · refine ⟨?_, by simp, by simp⟩
    simp only
    unfold wkT
    split
    · omega
    · rcases widx_rng (bs := blR τ p (rnE isLt τ n p - p)) with q | q <;> omega
  · split
    · have := vlC_rng (τ := τ) (p := p) (m := rnE isDg τ n p - p) (fun j a b => rnE_all (n := n) a (by
        have := rnE_le (f := isDg) (τ := τ) (n := n) (p := p) (by omega)
        omega))
      exact ⟨by simp, this⟩
    · split
      · exact ⟨by simp only; omega, by simp, by simp⟩
      · refine ⟨?_, by simp, by simp⟩
        simp only
        unfold sgK
        split <;> omega
end LEX
