/-! LEVEL 3, readings stay as they can be: pure -/
section OKP
variable {tx : List Cl} {β : Int → Int} {vo : Bool} {deep base size : Int} {ρ : Rd}
/-- what is nested is as it can be -/
def inP (tx : List Cl) (deep : Int) (inn : Int → Int → Option Rd) : Prop := ∀ (b s : Int) (ι : Rd), 0 ≤ b → 0 ≤ s → b + s ≤ 40 → inn b s = some ι → (deep = 0 ∨ deep = 1) ∧ okr tx ι ∧ okn (bD (deep + 1)) tx ι ∧ deep + 1 ≤ ι 8 0 ∧ ι 8 0 ≤ 2
/-- an interval of THE FILE -/
def ivl (β : Int → Int) (base size : Int) : Prop := (∀ j : Int, 0 ≤ j → j < 40 → 0 ≤ β j ∧ β j ≤ 255) ∧ 0 ≤ base ∧ 0 ≤ size ∧ base + size ≤ 40
theorem ivl_eok (v : ivl β base size) (hd : 0 ≤ deep ∧ deep ≤ 2) (o : okr tx ρ) : eok false (nmR ρ deep size) β base := by
  refine ⟨v.2.1, by rw [nmR_8]; have := v.2.2; omega, v.1, fun j aj => ?_⟩
  have v2 := v.2
  unfold al at aj
  simp at aj
  by_cases c : j < 8
  · rw [nmR_k c]
    have := (o.1 j c).2.2.1
    omega
  · by_cases c8 : j = 8
    · subst c8
      rw [show ((8 : Nat) : Int) = 8 from rfl, nmR_8]; omega
    · have : j = 9 := by omega
      subst this
      rw [show ((9 : Nat) : Int) = 9 from rfl, nmR_9]; omega
theorem stepV_ok {inn : Int → Int → Option Rd} {f L : Nat} {a z o : Int} (ok : okx tx) (v : ivl β base size) (hd : deep = 0 ∨ deep = 1 ∨ deep = 2) (hin : inP tx deep inn) (r : okr tx ρ) (n : okn (bD deep) tx ρ) (hL : L < 2 ^ 40) (hf : f < 8) (b3 : ρ f 3 = 1) (hc : 0 ≤ co tx f) (d0 : deep ≤ ρ 8 0 ∧ ρ 8 0 ≤ 2) (ho : ¬ kdf tx f = 1 → o = a) : okS tx deep ρ (stepV tx β vo base size inn ρ f a z o L) f := by
  obtain ⟨v1, v2, v3, v4⟩ := v
  have k8 := kdf_or ok hc
  have look := okS_look (deep := deep) hc hL hf b3 r n d0
  unfold stepV
  by_cases w : 0 ≤ o ∧ o ≤ z ∧ z ≤ size ∧ 0 ≤ a ∧ a ≤ size
  · rw [if_pos w]
    obtain ⟨w1, w2, w3, w4, w5⟩ := w
    by_cases q0 : kdf tx f = 0
    · rw [if_pos q0]
      by_cases q : z - a ≤ 3
      · rw [if_pos q]
        have oa := ho (by omega)
        have np := nb_rng v1 (z - a).toNat (base + a) 0 (by omega) (by omega) (by omega) (by omega) (by
          rcases (show (z - a).toNat = 0 ∨ (z - a).toNat = 1 ∨ (z - a).toNat = 2 ∨ (z - a).toNat = 3 by omega) with e | e | e | e <;> rw [e] <;> decide)
        have sl : spn (base + a).toNat (base + z).toNat < 2 ^ 40 := Nat.lt_of_lt_of_le (spn_lt (by omega)) (Nat.pow_le_pow_right (by decide) (by omega))
        exact okS_set np (fun y => by omega) (Or.inl rfl) hc (Nat.or_lt_two_pow hL sl) hf r n d0
      · rw [if_neg q]; exact look
    · rw [if_neg q0]
      by_cases q1 : kdf tx f = 1
      · rw [if_pos q1]
        by_cases q : a < size
        · rw [if_pos q]
          have sv : 0 ≤ sval β (base + a) (base + o) (base + z) ∧ sval β (base + a) (base + o) (base + z) < 256 := by unfold sval; omega
          exact okS_set (by omega) (fun y => by omega) (by split <;> omega) hc (Nat.or_lt_two_pow hL (slk_lt (by omega) (by omega))) hf r n d0
        · rw [if_neg q]; exact look
      · rw [if_neg q1]
        have oa := ho q1
        by_cases q : z - a < size
        · rw [if_pos q]
          cases e : inn (base + a) (z - a) with
          | none => exact look
          | some ι =>
            obtain ⟨i0, i1, i2, i3, i4⟩ := hin _ _ ι (by omega) (by omega) (by omega) e
            have nv := nval_rng i0 i2
            have nb9 : bD deep ≤ 9 := by rcases i0 with rfl | rfl <;> decide
            exact okS_put8 (okS_set (by omega) (fun _ => nv.2) (by split <;> omega) hc (Nat.or_lt_two_pow hL (nlk_lt i1)) hf r n d0) (by omega)
        · rw [if_neg q]; exact look
  · rw [if_neg w]; exact look
theorem fL_lt {f : Nat} (ok : okx tx) (v : ivl β base size) (hd : 0 ≤ deep ∧ deep ≤ 2) (r : okr tx ρ) (hc : 0 ≤ co tx f) : fL tx β deep base size ρ f < 2 ^ 40 := by
  have w := fcl_ws ok hc
  have he := ivl_eok v hd r
  unfold fL
  refine Nat.or_lt_two_pow (Nat.or_lt_two_pow (lk_lt he _ _ w.1) ?_) (lk_lt he _ _ w.2.1)
  split
  · exact lk_lt he _ _ w.2.2.1
  · decide
theorem stepF_ok {inn : Int → Int → Option Rd} {f : Nat} (ok : okx tx) (v : ivl β base size) (hd : deep = 0 ∨ deep = 1 ∨ deep = 2) (hin : inP tx deep inn) (r : okr tx ρ) (n : okn (bD deep) tx ρ) (hf : f < 8) (b3 : ρ f 3 = 1) (hc : 0 ≤ co tx f) (d0 : deep ≤ ρ 8 0 ∧ ρ 8 0 ≤ 2) : okS tx deep ρ (stepF tx β vo deep base size inn ρ f) f := by
  unfold stepF
  by_cases q : bkn ρ (hgu tx f) = true
  · rw [if_pos q]
    exact ⟨r, n, d0, fun _ _ _ _ => rfl, rfl, rfl⟩
  · rw [if_neg q]
    exact stepV_ok ok v hd hin r n (fL_lt ok v (by omega) r hc) hf b3 hc d0 (fun y => by unfold fo; rw [if_neg y])
theorem flds_ok {inn : Int → Int → Option Rd} {wanted : Nat} (ok : okx tx) (v : ivl β base size) (hd : deep = 0 ∨ deep = 1 ∨ deep = 2) (hin : inP tx deep inn) : ∀ (l : List Nat) (ρ : Rd), l.Nodup → (∀ f, f ∈ l → f < 8 ∧ 0 ≤ co tx f ∧ ρ f 3 = 1) → okr tx ρ → okn (bD deep) tx ρ → (deep ≤ ρ 8 0 ∧ ρ 8 0 ≤ 2) →
    okr tx (flds tx β vo deep base size inn wanted l ρ) ∧ okn (bD deep) tx (flds tx β vo deep base size inn wanted l ρ) ∧ (deep ≤ flds tx β vo deep base size inn wanted l ρ 8 0 ∧ flds tx β vo deep base size inn wanted l ρ 8 0 ≤ 2) ∧ (∀ g, g < 8 → g ∉ l → ∀ c, flds tx β vo deep base size inn wanted l ρ g c = ρ g c) ∧ flds tx β vo deep base size inn wanted l ρ 8 1 = ρ 8 1 ∧ flds tx β vo deep base size inn wanted l ρ 8 4 = ρ 8 4
  | [], ρ, _, _, r, n, d0 => ⟨r, n, d0, fun _ _ _ _ => rfl, rfl, rfl⟩
  | f :: l, ρ, nd, hl, r, n, d0 => by
    have nd2 := List.nodup_cons.mp nd
    have hf := hl f List.mem_cons_self
    simp only [flds]
    by_cases q : wanted.testBit f = true
    · rw [if_pos q]
      obtain ⟨s1, s2, s3, s4, s5, s6⟩ := stepF_ok (vo := vo) ok v hd hin r n hf.1 hf.2.2 hf.2.1 d0
      obtain ⟨i1, i2, i3, i4, i5, i6⟩ := flds_ok (wanted := wanted) ok v hd hin l _ nd2.2 (fun g hg => by
        have h := hl g (List.mem_cons_of_mem _ hg)
        exact ⟨h.1, h.2.1, by rw [s4 g h.1 (fun e => nd2.1 (e ▸ hg))]; exact h.2.2⟩) s1 s2 s3
      exact ⟨i1, i2, i3, fun g hg gl c => by rw [i4 g hg (fun z => gl (List.mem_cons_of_mem _ z))]; exact s4 g hg (fun e => gl (e ▸ List.mem_cons_self)) c, by rw [i5, s5], by rw [i6, s6]⟩
    · rw [if_neg q]
      obtain ⟨i1, i2, i3, i4, i5, i6⟩ := flds_ok (wanted := wanted) ok v hd hin l ρ nd2.2 (fun g hg => hl g (List.mem_cons_of_mem _ hg)) r n d0
      exact ⟨i1, i2, i3, fun g hg gl c => i4 g hg (fun z => gl (List.mem_cons_of_mem _ z)) c, i5, i6⟩
theorem msts_ok (v : ivl β base size) (hd : 0 ≤ deep ∧ deep ≤ 2) : ∀ (l : List Cl) (k : Nat) (ρ1 : Rd), (∀ c, c ∈ l → c.1 = 3 → ws false c.2.2.2.1 true) → k + l.length ≤ 24 → okM tx ρ ρ1 → okM tx ρ (msts β deep base size l k ρ1)
  | [], k, ρ1, _, _, o => o
  | c :: l, k, ρ1, hw, hk, o => by
    simp only [msts]
    rw [show (k : Int) + 1 = ((k + 1 : Nat) : Int) by omega]
    have hk2 : k + (l.length + 1) ≤ 24 := by simpa using hk
    refine msts_ok v hd l (k + 1) _ (fun c2 h2 => hw c2 (List.mem_cons_of_mem _ h2)) (by omega) ?_
    by_cases q : c.1 = 3
    · rw [if_pos q]
      have he := ivl_eok v hd o.1
      have ll := lk_lt he _ _ (hw c List.mem_cons_self q)
      have o84 := o.1.2.1
      have lo := Nat.or_lt_two_pow (n := 40) (x := (ρ1 8 4).toNat) (by omega) ll
      have o2 : okM tx ρ (if bkn ρ1 (ncl c) = true then ρ1 else putR ρ1 8 4 (((ρ1 8 4).toNat ||| lk (nmR ρ1 deep size) β base c.2.2.2.1 : Nat) : Int)) := by
        split
        · exact o
        · exact okM_put o (Or.inr ⟨rfl, by omega⟩)
      unfold mst1
      dsimp only
      split
      · exact okM_put o2 (Or.inl ⟨rfl, by omega, by omega⟩)
      · exact o2
    · rw [if_neg q]; exact o
theorem okn_0 : okn (bD deep) tx (rd0 tx deep) := by
  intro x hx k1 k2
  have v := rd0_v (tx := tx) (deep := deep) hx
  by_cases c : 0 ≤ co tx x
  · exact absurd (v.1 c).2.2.2 k2
  · unfold kdf at k1
    rw [if_pos (by omega)] at k1
    omega
/-- a level's reading is as it can be -/
theorem lvl_ok {inn : Int → Int → Option Rd} {wanted : Nat} (ok : okx tx) (v : ivl β base size) (hd : deep = 0 ∨ deep = 1 ∨ deep = 2) (hin : inP tx deep inn) : okr tx (lvl tx β vo deep inn wanted base size) ∧ okn (bD deep) tx (lvl tx β vo deep inn wanted base size) ∧ deep ≤ lvl tx β vo deep inn wanted base size 8 0 ∧ lvl tx β vo deep inn wanted base size 8 0 ≤ 2 := by
  have f := flds_ok (vo := vo) (wanted := wanted) ok v hd hin (ord tx) (rd0 tx deep) ord_nodup (fun f hf => by
    have m := ord_mem hf
    exact ⟨m.1, m.2, ((rd0_v (deep := deep) m.1).1 m.2).2.2.2⟩) okr_0 okn_0 (by rw [rd0_8.1]; omega)
  obtain ⟨f1, f2, f3, _⟩ := f
  unfold lvl
  split
  · have m := msts_ok (tx := tx) (deep := deep) (ρ := flds tx β vo deep base size inn wanted (ord tx) (rd0 tx deep)) v (by omega) tx 0 _ (fun c hc q => (ok.2.1 c hc).2.2.1 q) (by have := ok.1; omega) (okM_refl f1)
    rw [show ((0 : Nat) : Int) = 0 from rfl] at m
    obtain ⟨m1, m2, m3⟩ := m
    refine ⟨m1, fun x hx k1 k2 => ?_, by rw [m3]; exact f3.1, by rw [m3]; exact f3.2⟩
    rw [m2 x hx] at k2 ⊢
    exact f2 x hx k1 k2
  · exact ⟨f1, f2, f3.1, f3.2⟩
theorem inP_2 : inP tx 2 (fun _ _ => none) := fun _ _ _ _ _ _ q => by cases q
theorem inP_1 (ok : okx tx) (hb : ∀ j : Int, 0 ≤ j → j < 40 → 0 ≤ β j ∧ β j ≤ 255) {w : Nat} : inP tx 1 (fun b s => some (rdA tx β vo w b s)) := by
  intro b s ι b0 s0 bs q
  cases q
  obtain ⟨o1, o2, o3, o4⟩ := lvl_ok (vo := vo) (wanted := w) ok ⟨hb, b0, s0, bs⟩ (Or.inr (Or.inr rfl)) (inP_2 (tx := tx))
  exact ⟨Or.inr rfl, o1, o2, o3, o4⟩
theorem inP_0 (ok : okx tx) (hb : ∀ j : Int, 0 ≤ j → j < 40 → 0 ≤ β j ∧ β j ≤ 255) {w : Nat} : inP tx 0 (fun b s => some (rdB tx β vo w b s)) := by
  intro b s ι b0 s0 bs q
  cases q
  obtain ⟨o1, o2, o3, o4⟩ := lvl_ok (vo := vo) (wanted := w) ok ⟨hb, b0, s0, bs⟩ (Or.inr (Or.inl rfl)) (inP_1 (vo := vo) ok hb (w := wI tx vo 1))
  exact ⟨Or.inl rfl, o1, o2, o3, o4⟩
end OKP
