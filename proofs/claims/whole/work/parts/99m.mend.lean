section MEND1
variable {d D : Nat} {h : am_H} {Q : Int → am_H → Prop} {t : List Cl} {β : Int → Int} {vo : Bool} {deep base size : Int} {ρ : Rd}
/-- a known sum stands within -/
def okA (size : Int) (t : List Cl) (ρ : Rd) : Prop := ∀ f, f < 8 → kdf t f = 1 → ¬ ρ f 3 = 1 → ρ f 1 < size
theorem okA_put {f c : Nat} {v : Int} (i : okA size t ρ) (q : c = 4 ∨ 8 ≤ f) : okA size t (putR ρ f c v) := by
  intro g hg
  rw [putR_ne (by omega), putR_ne (by omega)]
  exact i g hg
theorem okA_step {inn : Int → Int → Option Rd} {f : Nat} (i : okA size t ρ) : okA size t (stepF t β vo deep base size inn ρ f) := by
  have set : ∀ (v a z w : Int) (l : Nat), (kdf t f = 1 → a < size) → okA size t (setR ρ f v a z w l) := fun v a z w l hv g hg k1 k3 => by
    by_cases e : g = f
    · subst e
      rw [setR_at.2.1]; exact hv k1
    · rw [setR_ne e] at k3 ⊢; exact i g hg k1 k3
  unfold stepF
  split
  · exact i
  · unfold stepV
    split
    · split
      · split
        · exact set _ _ _ _ _ (fun k => by omega)
        · exact okA_put i (Or.inl rfl)
      · split
        · split
          · exact set _ _ _ _ _ (fun _ => by assumption)
          · exact okA_put i (Or.inl rfl)
        · split
          · split
            · exact okA_put (set _ _ _ _ _ (fun k => by omega)) (Or.inr (Nat.le_refl _))
            · exact okA_put i (Or.inl rfl)
          · exact okA_put i (Or.inl rfl)
    · exact okA_put i (Or.inl rfl)
theorem okA_flds {inn : Int → Int → Option Rd} {W : Nat} : ∀ (l : List Nat) (ρ : Rd), okA size t ρ → okA size t (flds t β vo deep base size inn W l ρ)
  | [], ρ, i => i
  | f :: l, ρ, i => by
    simp only [flds]
    refine okA_flds l _ ?_
    split
    · exact okA_step i
    · exact i
theorem rdX_A : okA size t (rdX t β size) := by
  have i0 : okA size t (rd0 t 0) := by
    intro f hf k1 k3
    have v := rd0_v (tx := t) (deep := 0) hf
    by_cases c : 0 ≤ co t f
    · exact absurd (v.1 c).2.2.2 k3
    · unfold kdf at k1
      rw [if_pos (by omega)] at k1
      omega
  have i := okA_flds (β := β) (vo := false) (deep := 0) (base := 0) (size := size) (inn := fun b s => some (rdB t β false (wI t false 0) b s)) (W := 255) (ord t) (rd0 t 0) i0
  unfold rdX rdC lvl
  rw [if_pos rfl]
  intro f hf
  rw [msts_row hf, msts_row hf]
  exact i f hf
end MEND1
