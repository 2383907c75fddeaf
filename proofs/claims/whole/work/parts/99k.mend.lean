section MEND
variable {d D : Nat} {h : am_H} {Q : Int → am_H → Prop} {t : List Cl} {β : Int → Int} {vo : Bool} {deep base size : Int} {ρ : Rd}
/-- a known sum is a byte -/
def okS2 (t : List Cl) (ρ : Rd) : Prop := ∀ f, f < 8 → kdf t f = 1 → ¬ ρ f 3 = 1 → 0 ≤ ρ f 0 ∧ ρ f 0 ≤ 255
theorem okS2_put {f c : Nat} {v : Int} (i : okS2 t ρ) (q : c = 4 ∨ 8 ≤ f) : okS2 t (putR ρ f c v) := by
  intro g hg
  rw [putR_ne (by omega), putR_ne (by omega)]
  exact i g hg
theorem okS2_step {inn : Int → Int → Option Rd} {f : Nat} (i : okS2 t ρ) : okS2 t (stepF t β vo deep base size inn ρ f) := by
  have set : ∀ (v a z w : Int) (l : Nat), (kdf t f = 1 → 0 ≤ v ∧ v ≤ 255) → okS2 t (setR ρ f v a z w l) := fun v a z w l hv g hg k1 k3 => by
    by_cases e : g = f
    · subst e
      rw [setR_at.1]; exact hv k1
    · rw [setR_ne e] at k3 ⊢; exact i g hg k1 k3
  unfold stepF
  split
  · exact i
  · unfold stepV
    split
    · split
      · split
        · exact set _ _ _ _ _ (fun k => by omega)
        · exact okS2_put i (Or.inl rfl)
      · split
        · split
          · exact set _ _ _ _ _ (fun k => by unfold sval; omega)
          · exact okS2_put i (Or.inl rfl)
        · split
          · split
            · exact okS2_put (set _ _ _ _ _ (fun k => by omega)) (Or.inr (Nat.le_refl _))
            · exact okS2_put i (Or.inl rfl)
          · exact okS2_put i (Or.inl rfl)
    · exact okS2_put i (Or.inl rfl)
theorem okS2_flds {inn : Int → Int → Option Rd} {W : Nat} : ∀ (l : List Nat) (ρ : Rd), okS2 t ρ → okS2 t (flds t β vo deep base size inn W l ρ)
  | [], ρ, i => i
  | f :: l, ρ, i => by
    simp only [flds]
    refine okS2_flds l _ ?_
    split
    · exact okS2_step i
    · exact i
theorem rdX_S2 : okS2 t (rdX t β size) := by
  have i0 : okS2 t (rd0 t 0) := by
    intro f hf k1 k3
    have v := rd0_v (tx := t) (deep := 0) hf
    by_cases c : 0 ≤ co t f
    · exact absurd (v.1 c).2.2.2 k3
    · unfold kdf at k1
      rw [if_pos (by omega)] at k1
      omega
  have i := okS2_flds (β := β) (vo := false) (deep := 0) (base := 0) (size := size) (inn := fun b s => some (rdB t β false (wI t false 0) b s)) (W := 255) (ord t) (rd0 t 0) i0
  unfold rdX rdC lvl
  rw [if_pos rfl]
  intro f hf
  rw [msts_row hf, msts_row hf]
  exact i f hf
/-- the sums of a reading are put -/
def putS (t : List Cl) (R : Rd) : List Nat → (Int → Int) → Int → Int
  | [], γ => γ
  | f :: l, γ => putS t R l (if kdf t f = 1 ∧ ¬ R f 3 = 1 then up1 γ (R f 1) (R f 0) else γ)
def rnd (t : List Cl) (size : Int) (β : Int → Int) : Int → Int := putS t (rdX t β size) (ord t) β
def eq40 (γ β : Int → Int) : Bool := allb (fun j => decide (γ j = β j)) 0 40
/-- rounds, until nothing changes -/
def mnd (t : List Cl) (size : Int) : Nat → (Int → Int) → Option (Int → Int)
  | 0, _ => none
  | n + 1, β => if eq40 (rnd t size β) β = true then some (rnd t size β) else mnd t size n (rnd t size β)
/-- how many bytes are other -/
def unl (γ β : Int → Int) : Nat → Nat → Int
  | _, 0 => 0
  | i, n + 1 => (if γ i = β i then 0 else 1) + unl γ β (i + 1) n
theorem unl_rng {γ β : Int → Int} : ∀ (n i : Nat), 0 ≤ unl γ β i n ∧ unl γ β i n ≤ n
  | 0, _ => by simp [unl]
  | n + 1, i => by
    have := unl_rng (γ := γ) (β := β) n (i + 1)
    simp only [unl]
    split <;> omega
theorem unl_0 {γ β : Int → Int} : ∀ (n i : Nat), unl γ β i n = 0 ↔ allb (fun j => decide (γ j = β j)) i n = true
  | 0, _ => by simp [unl, allb]
  | n + 1, i => by
    have r := unl_rng (γ := γ) (β := β) n (i + 1)
    have ih := unl_0 (γ := γ) (β := β) n (i + 1)
    simp only [unl, allb]
    by_cases q : γ i = β i
    · rw [if_pos q, decide_eq_true q, Bool.true_and, Int.zero_add]; exact ih
    · rw [if_neg q, decide_eq_false q, Bool.false_and]
      constructor
      · intro h; omega
      · intro h; cases h
theorem unl_congr {γ β γ2 β2 : Int → Int} : ∀ (n i : Nat), (∀ j : Nat, i ≤ j → j < i + n → γ j = γ2 j ∧ β j = β2 j) → unl γ β i n = unl γ2 β2 i n
  | 0, _, _ => rfl
  | n + 1, i, h => by
    simp only [unl]
    rw [(h i (Nat.le_refl _) (by omega)).1, (h i (Nat.le_refl _) (by omega)).2, unl_congr n (i + 1) (fun j a b => h j (by omega) (by omega))]
theorem putS_b {R : Rd} (s2 : okS2 t R) : ∀ (l : List Nat) (γ : Int → Int), (∀ f, f ∈ l → f < 8) → (∀ j : Int, 0 ≤ j → j < 40 → 0 ≤ γ j ∧ γ j ≤ 255) → ∀ j : Int, 0 ≤ j → j < 40 → 0 ≤ putS t R l γ j ∧ putS t R l γ j ≤ 255
  | [], _, _, h => h
  | f :: l, γ, hl, h => by
    simp only [putS]
    refine putS_b s2 l _ (fun x hx => hl x (List.mem_cons_of_mem _ hx)) (fun j j0 j1 => ?_)
    split
    · rename_i q
      have v := s2 f (hl f List.mem_cons_self) q.1 q.2
      by_cases e : j = R f 1
      · rw [e, up1_at]; exact v
      · rw [up1_ne e]; exact h j j0 j1
    · exact h j j0 j1
theorem rnd_b (hb : ∀ j : Int, 0 ≤ j → j < 40 → 0 ≤ β j ∧ β j ≤ 255) : ∀ j : Int, 0 ≤ j → j < 40 → 0 ≤ rnd t size β j ∧ rnd t size β j ≤ 255 := putS_b rdX_S2 (ord t) β (fun f hf => (ord_mem hf).1) hb
theorem mnd_b : ∀ (n : Nat) (β γ : Int → Int), (∀ j : Int, 0 ≤ j → j < 40 → 0 ≤ β j ∧ β j ≤ 255) → mnd t size n β = some γ → ∀ j : Int, 0 ≤ j → j < 40 → 0 ≤ γ j ∧ γ j ≤ 255
  | 0, _, _, _, e => by cases e
  | n + 1, β, γ, hb, e => by
    simp only [mnd] at e
    split at e
    · cases e; exact rnd_b hb
    · exact mnd_b n _ γ (rnd_b hb) e
end MEND
