/-! LEVEL 3, the reference's shifting and settling: its state, its small steps -/
/-- the words' numbers -/
def wdv (k : Int) : Int := [7239021, 7566701, 1852142452, 1836413812, 1919906931, 7562612, 1936292453, 1835363940, 6578553, 24948, 28518, 29807, 1885693291, 26982, 1952998766, 1701606245, 6647396, 28530, 6385252, 7237492, 1684366704, 482854658917, 7302244].getD k.toNat 0
theorem wdv_inj : ∀ a : Nat, a < 23 → ∀ b : Nat, b < 23 → wdv a = wdv b → a = b := by decide +kernel
theorem wdv_i {a b : Int} (ha : 0 ≤ a ∧ a ≤ 22) (hb : 0 ≤ b ∧ b ≤ 22) (e : wdv a = wdv b) : a = b := by
  have := wdv_inj a.toNat (by omega) b.toNat (by omega) (by
    rw [show ((a.toNat : Nat) : Int) = a by omega, show ((b.toNat : Nat) : Int) = b by omega]; exact e)
  omega
def fnm (h : am_H) : Prop := h 294 7 - h 294 8 = 1 ∧ 97 ≤ h 298 (h 294 8) ∧ h 298 (h 294 8) ≤ 104
/-- the TOKEN at hand is k (as the class numbers them), its number v -/
def rtk (h : am_H) (k v : Int) : Prop :=
  (k = 66 ∧ h 294 9 = 0) ∨ (k = 64 ∧ h 294 9 = 1 ∧ ((v ≤ 9999 ∧ h 294 10 = v) ∨ (9999 < v ∧ 9999 < h 294 10))) ∨
  ((0 ≤ k ∧ k ≤ 22) ∧ h 294 9 = 2 ∧ h 294 11 = wdv k ∧ ¬ fnm h) ∨
  ((32 ≤ k ∧ k ≤ 39) ∧ h 294 9 = 2 ∧ h 294 7 - h 294 8 = 1 ∧ h 298 (h 294 8) = k + 65 ∧ ∀ w : Int, 0 ≤ w → w ≤ 22 → h 294 11 ≠ wdv w) ∨
  (k = 65 ∧ (h 294 9 = 3 ∨ h 294 9 = 58 ∨ (h 294 9 = 2 ∧ ¬ fnm h ∧ ∀ w : Int, 0 ≤ w → w ≤ 22 → h 294 11 ≠ wdv w))) ∨
  ((k = 163 ∨ (168 ≤ k ∧ k ≤ 171) ∨ k = 173 ∨ k = 175 ∨ (187 ≤ k ∧ k ≤ 190)) ∧ h 294 9 = k - 128) ∨ (k = 316 ∧ h 294 9 = 4) ∨ (k = 318 ∧ h 294 9 = 5)
theorem rtk_s {h : am_H} {k v : Int} (R : rtk h k v) {s : Int} (hs : s = 35 ∨ (40 ≤ s ∧ s ≤ 43) ∨ s = 45 ∨ s = 47 ∨ (59 ≤ s ∧ s ≤ 62)) : h 294 9 = s ↔ k = s + 128 := by
  unfold rtk at R
  rcases R with R | R | R | R | R | R | R | R
  · have := R.2; omega
  · have := R.2.1; omega
  · have := R.2.1; omega
  · have := R.2.1; omega
  · rcases R.2 with q | q | q
    · omega
    · omega
    · have := q.1; omega
  · have := R.2; omega
  · have := R.2; omega
  · have := R.2; omega
theorem rtk_n {h : am_H} {k v : Int} (R : rtk h k v) : (h 294 9 = 0 ↔ k = 66) ∧ (h 294 9 = 1 ↔ k = 64) ∧ (h 294 9 = 4 ↔ k = 316) ∧ (h 294 9 = 5 ↔ k = 318) ∧ (h 294 9 = 2 → (0 ≤ k ∧ k ≤ 22) ∨ (32 ≤ k ∧ k ≤ 39) ∨ k = 65) := by
  unfold rtk at R
  rcases R with R | R | R | R | R | R | R | R
  · have := R.2; omega
  · have := R.2.1; omega
  · have := R.2.1; omega
  · have := R.2.1; omega
  · rcases R.2 with q | q | q
    · omega
    · omega
    · have := q.1; omega
  · have := R.2; omega
  · have := R.2; omega
  · have := R.2; omega
theorem rtk_w {h : am_H} {k v : Int} (R : rtk h k v) {w : Int} (hw : 0 ≤ w ∧ w ≤ 22) : (h 294 9 = 2 ∧ h 294 11 = wdv w) ↔ k = w := by
  unfold rtk at R
  rcases R with R | R | R | R | R | R | R | R
  · have := R.2; omega
  · have := R.2.1; omega
  · obtain ⟨R1, R2, R3, R4⟩ := R
    refine ⟨fun q => ?_, fun q => ?_⟩
    · rw [R3] at q; exact wdv_i R1 hw q.2
    · subst q; exact ⟨R2, R3⟩
  · obtain ⟨R1, R2, R3, R4, R5⟩ := R
    refine ⟨fun q => absurd q.2 (R5 w hw.1 hw.2), fun q => ?_⟩
    omega
  · rcases R.2 with q | q | q
    · omega
    · omega
    · refine ⟨fun y => absurd y.2 (q.2.2 w hw.1 hw.2), fun y => ?_⟩
      have := R.1
      omega
  · have := R.2; omega
  · have := R.2; omega
  · have := R.2; omega
theorem rtk_f {h : am_H} {k v : Int} (R : rtk h k v) : (h 294 9 = 2 ∧ fnm h ↔ 32 ≤ k ∧ k ≤ 39) ∧ (32 ≤ k → k ≤ 39 → h 298 (h 294 8) = k + 65) := by
  unfold rtk at R
  rcases R with R | R | R | R | R | R | R | R
  · have := R.2; omega
  · have := R.2.1; omega
  · refine ⟨⟨fun q => absurd q.2 R.2.2.2, fun q => ?_⟩, fun q q2 => ?_⟩ <;> (have := R.1; omega)
  · exact ⟨⟨fun _ => R.1, fun q => ⟨R.2.1, R.2.2.1, by have := R.2.2.2.1; omega, by have := R.2.2.2.1; omega⟩⟩, fun _ _ => R.2.2.2.1⟩
  · rcases R.2 with q | q | q
    · omega
    · omega
    · refine ⟨⟨fun y => absurd y.2 q.2.1, fun y => ?_⟩, fun y y2 => ?_⟩ <;> (have := R.1; omega)
  · have := R.2; omega
  · have := R.2; omega
  · have := R.2; omega
theorem rtk_v {h : am_H} {k v : Int} (R : rtk h k v) (q : k = 64) : (v ≤ 9999 → h 294 10 = v) ∧ (9999 < v → 9999 < h 294 10) := by
  unfold rtk at R
  rcases R with R | R | R | R | R | R | R | R
  · have := R.1; omega
  · have := R.2.2; omega
  · have := R.1; omega
  · have := R.1; omega
  · have := R.1; omega
  · have := R.1; omega
  · have := R.1; omega
  · have := R.1; omega
theorem rtk_congr {h h2 : am_H} {k v : Int} (R : rtk h k v) (e : ∀ j : Int, 7 ≤ j → j ≤ 11 → h2 294 j = h 294 j) (e2 : h2 298 = h 298) : rtk h2 k v := by
  unfold rtk fnm at R ⊢
  rw [e 7 (by omega) (by omega), e 8 (by omega) (by omega), e 9 (by omega) (by omega), e 10 (by omega) (by omega), e 11 (by omega) (by omega), e2]
  exact R
/-! the pile, the topmost first -/
def rkO (o : Int) : Int := if 40 ≤ o then 0 else if o = 22 then 1 else if o = 21 then 2 else if o = 20 then 3 else if 10 ≤ o then 4 else if 8 ≤ o then 6 else if 6 ≤ o then 5 else 7
def pil (κ : Int → Int) : List Int → Prop
  | [] => True
  | x :: r => κ r.length = x ∧ pil κ r
theorem pil_congr {κ κ2 : Int → Int} : ∀ σ : List Int, pil κ σ → (∀ q : Int, q < σ.length → κ2 q = κ q) → pil κ2 σ
  | [], _, _ => trivial
  | x :: r, h, f => by
    simp only [List.length_cons] at f
    exact ⟨by rw [f _ (by omega)]; exact h.1, pil_congr r h.2 (fun q hq => f q (by omega))⟩
/-- how many of them are open ONES, or nots -/
def cntO : List Int → Nat
  | [] => 0
  | x :: r => cntO r + if rkO x = 7 ∨ x = 20 then 1 else 0
theorem cntO_app : ∀ a b : List Int, cntO (a ++ b) = cntO a + cntO b
  | [], b => by simp [cntO]
  | x :: r, b => by simp only [List.cons_append, cntO, cntO_app r b]; omega
/-- steps that stand from the w-th on -/
def cds (κ : Int → Int) (c w : Int) : List Int → Prop
  | [] => True
  | x :: r => κ (c + 2 * w) = x ∧ cds κ c (w + 1) r
theorem cds_app {κ : Int → Int} {c : Int} : ∀ (a b : List Int) (w : Int), cds κ c w (a ++ b) ↔ cds κ c w a ∧ cds κ c (w + a.length) b
  | [], b, w => by simp [cds]
  | x :: r, b, w => by
    simp only [List.cons_append, cds, cds_app r b, List.length_cons]
    rw [show w + 1 + (r.length : Int) = w + ((r.length + 1 : Nat) : Int) by omega]
    exact ⟨fun q => ⟨⟨q.1, q.2.1⟩, q.2.2⟩, fun q => ⟨q.1.1, q.1.2, q.2⟩⟩
def opw : List Int → Int
  | [] => -1
  | x :: r => if 40 ≤ x then x else opw r
def oat : List Int → Int
  | [] => -1
  | x :: r => if 40 ≤ x then r.length else oat r
def cpd : List Int → Bool
  | [] => false
  | x :: r => if 4 < rkO x then cpd r else decide (rkO x = 4)
def isA (o : Int) : Prop := o = 41 ∨ o = 44
theorem oat_rng : ∀ σ : List Int, -1 ≤ oat σ ∧ oat σ < σ.length
  | [] => by simp [oat]
  | x :: r => by
    have := oat_rng r
    simp only [oat, List.length_cons]
    split <;> omega
theorem oat_opw {κ : Int → Int} : ∀ σ : List Int, pil κ σ → (oat σ < 0 → opw σ = -1) ∧ (0 ≤ oat σ → κ (oat σ) = opw σ)
  | [], _ => ⟨fun _ => rfl, fun q => by simp [oat] at q⟩
  | x :: r, h => by
    have i := oat_opw r h.2
    simp only [oat, opw]
    split
    · exact ⟨fun q => by omega, fun _ => h.1⟩
    · exact i
/-- a condition on the topmost -/
def top (σ : List Int) (p : Int → Prop) : Prop := match σ with
  | [] => True
  | x :: _ => p x
/-- what is asked can be denied here -/
def aska (σ : List Int) : Prop := isA (opw σ) ∧ match σ with
  | [] => False
  | x :: _ => 40 ≤ x ∨ (1 ≤ rkO x ∧ rkO x ≤ 3)
