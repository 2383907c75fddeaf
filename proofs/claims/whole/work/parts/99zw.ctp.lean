/-! LEVEL 3, the Text while it is read -/
def codp (κ : Int → Int) (p : Int) (e : Ex) (cp : Int) : Prop := cod κ p e ∧ p + lx e + 1 ≤ cp
def sway (c : Cl) : Int := if (px c.2.2.2.1 || px c.2.2.2.2.1 || px c.2.2.2.2.2) = true then 1 else 0
/-- of the k-th CLAUSE -/
def ctpK (h : am_H) (T k : Int) (c : Cl) (cp : Int) : Prop := h (T + 1) k = c.1 ∧ (c.1 = 3 → codp (h (T + 4)) (h (T + 2) k) c.2.2.2.1 cp ∧ h (T + 3) k = (ncl c : Nat)) ∧ (5 ≤ c.1 → h (T + 2) k = c.2.1) ∧ (c.1 = 5 → h (T + 3) k = c.2.2.1) ∧ (c.1 = 4 → codp (h (T + 4)) (h T 5) c.2.2.2.1 cp)
/-- of a FIELD told by c -/
def ctpF (h : am_H) (T f : Int) (c : Cl) (cp : Int) : Prop := h (T + 10) f = sway c ∧ codp (h (T + 4)) (h (T + 6) f) c.2.2.2.1 cp ∧ codp (h (T + 4)) (h (T + 8) f) c.2.2.2.2.1 cp ∧ (c.1 = 1 → codp (h (T + 4)) (h (T + 7) f) c.2.2.2.2.2 cp)
def ctp (h : am_H) (T : Int) (tx : List Cl) (cp : Int) : Prop := (h T 0 = tx.length ∧ h T 6 = (told tx : Nat)) ∧ (∀ k : Int, 0 ≤ k → k < tx.length → ctpK h T k (cl tx k) cp) ∧ (hasR tx = false → h T 5 = -1) ∧ ∀ f : Nat, f < 8 → h (T + 5) f = kdf tx f ∧ h (T + 9) f = (hgu tx f : Nat) ∧ (0 ≤ co tx f → ctpF h T f (fcl tx f) cp)
section CTP
variable {g h h2 : am_H} {T cp cp2 : Int} {tx : List Cl} {c : Cl}
theorem codp_congr {l : Bool} {κ κ2 : Int → Int} {p : Int} {e : Ex} {s : Bool} (we : ws l e s) (h : codp κ p e cp) (f : ∀ q : Int, q < cp → κ2 q = κ q) (q : cp ≤ cp2) : codp κ2 p e cp2 := by
  obtain ⟨⟨h1, h2, h3, h4⟩, h5⟩ := h
  exact ⟨⟨cat_congr _ _ we _ h1 (fun q q0 q1 => f q (by omega)), by rw [f _ (by omega)]; exact h2, h3, h4⟩, by omega⟩
theorem cod_p {κ : Int → Int} {p : Int} {e : Ex} (h : cod κ p e) (q : p + lx e + 1 ≤ cp) : codp κ p e cp := ⟨h, q⟩
theorem ctpK_same {k : Int} (o : okc c) (h0 : ctpK h T k c cp) (q : cp ≤ cp2) (e1 : h2 (T + 1) k = h (T + 1) k) (e2 : h2 (T + 2) k = h (T + 2) k) (e3 : h2 (T + 3) k = h (T + 3) k) (e4 : ∀ q : Int, q < cp → h2 (T + 4) q = h (T + 4) q) (e5 : c.1 = 4 → h2 T 5 = h T 5) : ctpK h2 T k c cp2 := by
  unfold ctpK at h0 ⊢
  rw [e1, e2, e3]
  exact ⟨h0.1, fun z => ⟨codp_congr (o.2.2.1 z) (h0.2.1 z).1 e4 q, (h0.2.1 z).2⟩, h0.2.2.1, h0.2.2.2.1, fun z => by rw [e5 z]; exact codp_congr (o.2.2.2.1 z) (h0.2.2.2.2 z) e4 q⟩
theorem ctpF_same {f : Int} (o : okc c) (q3 : c.1 ≤ 2) (h0 : ctpF h T f c cp) (q : cp ≤ cp2) (e4 : ∀ q : Int, q < cp → h2 (T + 4) q = h (T + 4) q) (e : ∀ b : Int, T + 6 ≤ b → b ≤ T + 10 → h2 b f = h b f) : ctpF h2 T f c cp2 := by
  unfold ctpF at h0 ⊢
  rw [e (T + 10) (by omega) (by omega), e (T + 6) (by omega) (by omega), e (T + 7) (by omega) (by omega), e (T + 8) (by omega) (by omega)]
  have w := (o.2.1 q3).2
  exact ⟨h0.1, codp_congr w.1 h0.2.1 e4 q, codp_congr w.2.1 h0.2.2.1 e4 q, fun z => codp_congr w.2.2 (h0.2.2.2 z) e4 q⟩
/-- one CLAUSE more -/
theorem ctp_snoc (p : ctp h T tx cp) (ok : okx tx) (oc : okc c) (q : cp ≤ cp2) (e0 : h2 T 0 = (tx.length : Int) + 1) (e6 : h2 T 6 = (told (tx ++ [c]) : Nat)) (e4 : ∀ q : Int, q < cp → h2 (T + 4) q = h (T + 4) q) (rows : ∀ k : Int, 0 ≤ k → k < tx.length → ∀ b : Int, T + 1 ≤ b → b ≤ T + 3 → h2 b k = h b k) (r5 : c.1 ≠ 4 → h2 T 5 = h T 5) (no4 : c.1 = 4 → hasR tx = false)
    (fl : ∀ y : Nat, y < 8 → ¬ (c.1 ≤ 2 ∧ (y : Int) = c.2.1) → ∀ b : Int, T + 5 ≤ b → b ≤ T + 10 → h2 b y = h b y) (newK : ctpK h2 T tx.length c cp2) (newF : ∀ f : Nat, f < 8 → c.1 ≤ 2 ∧ (f : Int) = c.2.1 → h2 (T + 5) f = c.1 ∧ h2 (T + 9) f = (ncl c : Nat) ∧ ctpF h2 T f c cp2) : ctp h2 T (tx ++ [c]) cp2 := by
  obtain ⟨⟨p0, p6⟩, pK, pR, pF⟩ := p
  have len : (tx ++ [c]).length = tx.length + 1 := by simp
  refine ⟨⟨by rw [e0, len]; omega, e6⟩, fun k k0 k1 => ?_, fun nr => ?_, fun f hf => ?_⟩
  · by_cases z : k < tx.length
    · rw [cl_snoc z k0]
      have ck : cl tx k = cl tx (k.toNat : Nat) := by rw [show ((k.toNat : Nat) : Int) = k by omega]
      refine ctpK_same (by rw [ck]; exact ok.2.1 _ (cl_mem (by omega))) (pK k k0 z) q (rows k k0 z _ (by omega) (by omega)) (rows k k0 z _ (by omega) (by omega)) (rows k k0 z _ (by omega) (by omega)) e4 (fun z4 => r5 (fun c4 => ?_))
      have := (hasR_iff (tx := tx)).2 ⟨k.toNat, by omega, by rw [← ck]; exact z4⟩
      rw [no4 c4] at this
      simp at this
    · have ek : k = tx.length := by rw [len] at k1; omega
      rw [ek, cl_last]
      exact newK
  · have c4 : c.1 ≠ 4 := fun z => by
      have := (hasR_iff (tx := tx ++ [c])).2 ⟨tx.length, by omega, by rw [cl_last]; exact z⟩
      rw [nr] at this
      simp at this
    rw [r5 c4]
    refine pR ?_
    cases z : hasR tx with
    | false => rfl
    | true =>
      obtain ⟨k, hk, e⟩ := hasR_iff.1 z
      have := (hasR_iff (tx := tx ++ [c])).2 ⟨k, by omega, by rw [cl_snoc (by omega) (by omega)]; exact e⟩
      rw [nr] at this
      simp at this
  · by_cases z : c.1 ≤ 2 ∧ (f : Int) = c.2.1
    · have n := newF f hf z
      have k := kdf_new z (tx := tx)
      have e := fcl_new z (tx := tx)
      rw [k.1, k.2, e.2]
      exact ⟨n.1, n.2.1, fun _ => n.2.2⟩
    · have k := kdf_same z (tx := tx)
      have e := fcl_same z (tx := tx)
      have r := fl f hf z
      have o := pF f hf
      rw [k.1, k.2, e.1, r (T + 5) (by omega) (by omega), r (T + 9) (by omega) (by omega)]
      refine ⟨o.1, o.2.1, fun h0 => ?_⟩
      rw [e.2 h0]
      have fo := fcl_ok ok h0
      exact ctpF_same fo.1 fo.2.1 (o.2.2 h0) q e4 (fun b q q2 => r b (by omega) (by omega))
end CTP
