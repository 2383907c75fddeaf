section INSIDE2
variable {d D : Nat} {h : am_H} {Q : Int → am_H → Prop} {tx : Nat → List Cl} {t : List Cl} {β : Int → Int} {vo : Bool} {deep base size : Int} {ρ : Rd}
/-- a NEST that is known was read, one deeper -/
def dp1 (t : List Cl) (ρ : Rd) : Prop := ∀ f, f < 8 → kdf t f = 2 → ¬ ρ f 3 = 1 → 1 ≤ ρ 8 0
theorem dp1_put {f : Nat} {v : Int} (i : dp1 t ρ) (hf : f < 8) : dp1 t (putR ρ f 4 v) := by
  intro g hg
  rw [putR_ne (by omega), putR_ne (by omega)]
  exact i g hg
theorem dp1_set {f l : Nat} {v a z w : Int} (i : dp1 t ρ) (hf : f < 8) (k : ¬ kdf t f = 2) : dp1 t (setR ρ f v a z w l) := by
  intro g hg k2 k3
  by_cases e : g = f
  · subst e; exact absurd k2 k
  · rw [setR_ne e] at k3
    rw [setR_ne (by omega)]
    exact i g hg k2 k3
theorem dp1_step {inn : Int → Int → Option Rd} {f : Nat} (hin : ∀ (b s : Int) (ι : Rd), 0 ≤ b → 0 ≤ s → b + s ≤ 40 → inn b s = some ι → 1 ≤ ι 8 0) (v : 0 ≤ base ∧ 0 ≤ size ∧ base + size ≤ 40) (hf : f < 8) (i : dp1 t ρ) : dp1 t (stepF t β vo deep base size inn ρ f) := by
  unfold stepF
  split
  · exact i
  · have ho : ¬ kdf t f = 1 → fo t β deep base size ρ f = fa t β deep base size ρ f := fun q => by unfold fo; rw [if_neg q]
    unfold stepV
    split
    · rename_i w
      split
      · split
        · exact dp1_set i hf (by omega)
        · exact dp1_put i hf
      · split
        · split
          · exact dp1_set i hf (by omega)
          · exact dp1_put i hf
        · rename_i k1
          have := ho k1
          split
          · split
            · rename_i ι e
              have := hin _ _ _ (by omega) (by omega) (by omega) e
              intro g _ _ _
              rw [putR_at]
              omega
            · exact dp1_put i hf
          · exact dp1_put i hf
    · exact dp1_put i hf
theorem dp1_flds {inn : Int → Int → Option Rd} {W : Nat} (hin : ∀ (b s : Int) (ι : Rd), 0 ≤ b → 0 ≤ s → b + s ≤ 40 → inn b s = some ι → 1 ≤ ι 8 0) (v : 0 ≤ base ∧ 0 ≤ size ∧ base + size ≤ 40) : ∀ (l : List Nat) (ρ : Rd), (∀ f, f ∈ l → f < 8) → dp1 t ρ → dp1 t (flds t β vo deep base size inn W l ρ)
  | [], ρ, _, i => i
  | f :: l, ρ, hl, i => by
    simp only [flds]
    refine dp1_flds hin v l _ (fun x hx => hl x (List.mem_cons_of_mem _ hx)) ?_
    split
    · exact dp1_step hin v (hl f List.mem_cons_self) i
    · exact i
theorem dp1_0 : dp1 t (rd0 t deep) := by
  intro f hf k2 k3
  have v := rd0_v (tx := t) (deep := deep) hf
  by_cases c : 0 ≤ co t f
  · exact absurd (v.1 c).2.2.2 k3
  · unfold kdf at k2
    rw [if_pos (by omega)] at k2
    omega
theorem mst1_80 {k : Int} {c0 : Cl} : mst1 β deep base size ρ k c0 8 0 = ρ 8 0 := by
  unfold mst1
  try dsimp only
  repeat' split
  all_goals first | rfl | (rw [putR_ne (by omega), putR_ne (by omega)]) | (rw [putR_ne (by omega)])
theorem msts_80 : ∀ (l : List Cl) (k : Int) (ρ : Rd), msts β deep base size l k ρ 8 0 = ρ 8 0
  | [], _, _ => rfl
  | c0 :: l, k, ρ => by
    simp only [msts]
    rw [msts_80 l (k + 1) _]
    split
    · exact mst1_80
    · rfl
theorem dp1_C {W : Nat} (ok : okx t) (hb : ∀ j : Int, 0 ≤ j → j < 40 → 0 ≤ β j ∧ β j ≤ 255) (hs : 0 ≤ size ∧ size ≤ 40) : dp1 t (rdC t β vo W 0 size) := by
  have iP := inP_0 (vo := vo) (w := wI t vo 0) ok hb
  have i := dp1_flds (t := t) (β := β) (vo := vo) (deep := 0) (W := W) (inn := fun b s => some (rdB t β vo (wI t vo 0) b s)) (fun b s ι b0 s0 bs e => by have := (iP b s ι b0 s0 bs e).2.2.2.1; omega) (base := 0) (size := size) (by omega) (ord t) (rd0 t 0) (fun f hf => (ord_mem hf).1) dp1_0
  unfold rdC lvl
  split
  · intro g hg
    rw [msts_row hg, msts_80]
    exact i g hg
  · exact i
/-- what stands inside a NEST -/
def rdI (t : List Cl) (β : Int → Int) (R : Rd) (f : Nat) : Rd := rdB t β false 255 (R f 1) (R f 2 - R f 1)
def r_inside (α : Int → Int) (tx : Nat → List Cl) (t f g w : Int) : Int := if ((isT α t ∧ (0 ≤ f ∧ f ≤ 7)) ∧ ((0 ≤ g ∧ g ≤ 7) ∧ (0 ≤ w ∧ w ≤ 3))) ∧ kdf (tx t.toNat) f.toNat = 2 ∧ ¬ rdX (tx t.toNat) (fB8 α) (α 6) f.toNat 3 = 1 then tl (rdI (tx t.toNat) (fB8 α) (rdX (tx t.toNat) (fB8 α) (α 6)) f.toNat) g.toNat w else -2
theorem c_X6_inside {t f g w : Int} (I : INV h tx) (k : ∀ g2, fX h g2 → Q (r_inside (h 295) tx t f g w) g2) : cf (D + 13) M_X6_inside [.inr (.inr 1), .inl t, .inl f, .inl g, .inl w] h Q := by
  have s6 := INV_6 I
  have hb := INV_b I
  have no : ∀ g2, fX h g2 → ¬ (((isT (h 295) t ∧ (0 ≤ f ∧ f ≤ 7)) ∧ ((0 ≤ g ∧ g ≤ 7) ∧ (0 ≤ w ∧ w ≤ 3))) ∧ kdf (tx t.toNat) f.toNat = 2 ∧ ¬ rdX (tx t.toNat) (fB8 (h 295)) (h 295 6) f.toNat 3 = 1) → Q (-2) g2 := fun g2 f2 y => by
    have kk := k g2 f2
    unfold r_inside at kk
    rw [if_neg y] at kk; exact kk
  refine cf_of pX6 (Nat.le_of_ble_eq_true rfl) rfl (fun _ => B_X6_inside_0 (c6_textAt I (fun q => ⟨by have := q.1; omega, fun c => by have := q.1; omega, fun _ => c_X6_isField (fun a b => ⟨fun c => by omega, fun _ => c_X6_isField (fun a2 b2 => ⟨fun c => by omega, fun _ => ?_⟩) (fun a2 => ⟨fun _ => no h fX_refl (fun y => by omega), fun c => absurd rfl c⟩)⟩) (fun a => ⟨fun _ => no h fX_refl (fun y => by omega), fun c => absurd rfl c⟩)⟩) (fun q => ⟨by omega, fun _ => no h fX_refl (fun y => q y.1.1.1), fun c => by omega⟩)))
  obtain ⟨z1, z2, z3, z4, z5⟩ := INV_t I q.1 q.2
  obtain ⟨f0, hf0⟩ : ∃ f0 : Nat, f = (f0 : Int) := ⟨f.toNat, by omega⟩
  obtain ⟨g0, hg0⟩ : ∃ g0 : Nat, g = (g0 : Int) := ⟨g.toNat, by omega⟩
  subst hf0 hg0
  have f8 : f0 < 8 := by omega
  have g8 : g0 < 8 := by omega
  have tb := q.1
  rw [Int.toNat_natCast] at no
  have cf4 := z1.2.2.2.1 f0 f8
  rw [cf4.1, cf4.2.2.1]
  refine ⟨z5, by omega, by omega, fun k2 => ?_, fun k2 => no h fX_refl (fun y => k2 y.2.1)⟩
  refine c_rdF (D := D) I q.1 q.2 needF_lt (fun h2 f2 I2 c2 o2 e8 e7 => ⟨k_220, ?_⟩)
  have x2 := fX_fW f2
  have e0 := rdC_need (β := fB8 (h 295)) (size := h 295 6) z3 f8
  refine c_X3_how (d := D + 11) k_220 f8 c2 o2 ⟨fun n1 => ?_, fun y1 => ?_⟩
  · rw [e0] at n1
    have c4 := c2.2.2.2.1 f0 f8
    have e1 : h2 (220 + 2) f0 = rdX (tx t.toNat) (fB8 (h 295)) (h 295 6) f0 1 := by rw [c4.2.1, e0]
    have e2 : h2 (220 + 3) f0 = rdX (tx t.toNat) (fB8 (h 295)) (h 295 6) f0 2 := by rw [c4.2.2.1, e0]
    rw [e1, e2]
    have o := (rdX_ok z3 hb s6).1
    have of := o.1 f0 f8
    have nt : ¬ co (tx t.toNat) f0 < 0 := fun y => by
      unfold kdf at k2
      rw [if_pos y] at k2
      omega
    have ii := rdX_I (t := tx t.toNat) (β := fB8 (h 295)) (size := h 295 6) f0 f8 (by have := of.1; have := of.2.1; omega)
    have d1 := dp1_C (vo := false) (W := needF (tx t.toNat) f0) z3 hb s6 f0 f8 k2 (by rw [e0]; exact n1)
    have okp := x2.2.2 I.2.2.2.2.2.2.1.2
    refine cf_of pX2 (Nat.le_of_ble_eq_true rfl) rfl (fun _ => B_X2_readInside_0 ?_)
    rw [w32e (by omega) (by omega)]
    have ctx2 : ctx h2 (242 + 13 * t) (tx t.toNat) := ctx_congr z1 (fun b q1 q2 => x2.1 b (by omega))
    have p : rpre h2 (242 + 13 * t) (tx t.toNat) (fB8 (h 295)) false 1 (rdX (tx t.toNat) (fB8 (h 295)) (h 295 6) f0 1) (rdX (tx t.toNat) (fB8 (h 295)) (h 295 6) f0 2 - rdX (tx t.toNat) (fB8 (h 295)) (h 295 6) f0 1) := ⟨⟨z5, by omega, ctx2, z3⟩, by rw [f2.2.1]; exact I.2.2.2.2.2.2.1.1, by rw [e7]; exact ⟨k_6, l_6, by omega, fun j j0 j1 => by rw [f2.1 6 (by omega)]; exact sbyte I.1 j0 j1⟩, hb, by omega, by omega, by rw [e8]; exact d1, okp.1.2⟩
    refine rfOK_1 (D := D + 3) _ h2 255 _ _ p (by decide) (fun h3 f3 c3 o3 n3 d3 e83 => ⟨k_225, ?_⟩)
    have x3 : fX h2 h3 := by
      refine ⟨fun b qb => f3.1 b (by omega), by rw [f3.2 9 (by omega) (by omega)], fun oo => ⟨by rw [e83]; have := oo.1; omega, by rw [f3.2 7 (by omega) (by omega)]; exact oo.2.1, fun j j0 j1 => by rw [f3.1 199 (by omega), f3.1 240 (by omega)]; exact oo.2.2 j j0 j1⟩⟩
    refine c_X3_tell (d := D + 10) k_225 g8 c3 o3 ?_
    have kk := k h3 (fX_trans x2 x3)
    unfold r_inside at kk
    by_cases hw : 0 ≤ w ∧ w ≤ 3
    · rw [if_pos ⟨⟨⟨q, a, b⟩, ⟨a2, b2⟩, hw⟩, by rw [Int.toNat_natCast]; exact k2, by rw [Int.toNat_natCast]; exact n1⟩, Int.toNat_natCast, Int.toNat_natCast] at kk
      rw [if_pos hw]; exact kk
    · rw [if_neg (fun y => hw y.1.2.2)] at kk
      rw [if_neg hw]; exact kk
  · rw [e0] at y1
    exact no h2 x2 (fun y => y.2.2 y1)
end INSIDE2
