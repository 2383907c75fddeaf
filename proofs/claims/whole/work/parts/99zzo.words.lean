/-! TEXTS: the word of some letters -/
def woff (w : Nat) : Nat := ((List.range w).map (fun k => (wlk k).length + 1)).sum
def wby (w j : Nat) : Int := (wds.getD w []).getD j 0
theorem wo_s : ∀ w : Nat, w < 23 → woff (w + 1) = woff w + (wlk w).length + 1 ∧ woff w + (wlk w).length < 98 ∧ stB 0 ((woff w + (wlk w).length : Nat) : Int) = 32 := by decide +kernel
theorem wo_b : ∀ w : Nat, w < 23 → ∀ j : Nat, j < (wlk w).length → stB 0 ((woff w + j : Nat) : Int) = wby w j ∧ 97 ≤ wby w j := by decide +kernel
theorem wo_e : woff 23 = 98 ∧ woff 0 = 0 := by decide +kernel
theorem blR_at {τ : Int → Int} {p : Nat} : ∀ m j : Nat, j < m → (blR τ p m).getD (m - 1 - j) 0 = τ ((p + j : Nat) : Int)
  | 0, j, h => by omega
  | m + 1, j, h => by
    simp only [blR]
    by_cases c : j = m
    · subst c
      rw [show j + 1 - 1 - j = 0 by omega]
      rfl
    · rw [show m + 1 - 1 - j = (m - 1 - j) + 1 by omega]
      simp only [List.getD_cons_succ]
      exact blR_at m j (by omega)
theorem wlk_at : ∀ w : Nat, w < 23 → ∀ j : Nat, j < (wlk w).length → (wlk w).getD ((wlk w).length - 1 - j) 0 = wby w j := by decide +kernel
/-- the word w is what stands from p to e -/
theorem wlk_iff {τ : Int → Int} {p e w : Nat} (hw : w < 23) (pe : p < e) : wlk w = blR τ p (e - p) ↔ (e = p + (wlk w).length ∧ ∀ i : Nat, i < (wlk w).length → τ ((p + i : Nat) : Int) = wby w i) := by
  constructor
  · intro q
    have l : (wlk w).length = e - p := by rw [q, blR_len]
    refine ⟨by omega, fun i hi => ?_⟩
    rw [← wlk_at w hw i hi, q, blR_len]
    exact (blR_at (e - p) i (by omega)).symm
  · intro ⟨q1, q2⟩
    have l : (blR τ p (e - p)).length = (wlk w).length := by rw [blR_len]; omega
    refine List.ext_getElem l.symm (fun i h1 h2 => ?_)
    have a1 := wlk_at w hw ((wlk w).length - 1 - i) (by omega)
    have a2 := blR_at (τ := τ) (p := p) (e - p) ((wlk w).length - 1 - i) (by omega)
    rw [show (wlk w).length - 1 - ((wlk w).length - 1 - i) = i by omega] at a1
    rw [show e - p - 1 - ((wlk w).length - 1 - i) = i by omega] at a2
    rw [q2 _ (by omega)] at a2
    rw [List.getD_eq_getElem?_getD, List.getElem?_eq_getElem h1] at a1
    rw [List.getD_eq_getElem?_getD, List.getElem?_eq_getElem h2] at a2
    simp only [Option.getD_some] at a1 a2
    rw [a1, a2]
theorem widx_of {bs : List Int} {w : Nat} (hw : w < 23) (e : wlk w = bs) : widx bs = w := by
  rcases widx_rng (bs := bs) with ⟨a, b, c⟩ | ⟨a, b⟩
  · have := wlk_inj _ (by omega) w hw (c.trans e.symm)
    omega
  · exact absurd e (b w hw)
theorem widx_no {bs : List Int} (n : ∀ k : Nat, k < 23 → wlk k ≠ bs) : widx bs = 65 := by
  rcases widx_rng (bs := bs) with ⟨a, b, c⟩ | ⟨a, b⟩
  · exact absurd c (n _ (by omega))
  · exact a
/-- so far the bytes agree with the word w, up to its j-th byte -/
def wmt (τ : Int → Int) (p e w j : Nat) (A : Int) : Prop := (A = -1 ∧ ¬ (p + j ≤ e ∧ ∀ i : Nat, i < j → τ ((p + i : Nat) : Int) = wby w i)) ∨ (A = ((p + j : Nat) : Int) ∧ p + j ≤ e ∧ ∀ i : Nat, i < j → τ ((p + i : Nat) : Int) = wby w i)
theorem wmt_0 {τ : Int → Int} {p e w : Nat} (pe : p < e) : wmt τ p e w 0 p := Or.inr ⟨by simp, by omega, fun i hi => by omega⟩
theorem wmt_no {τ : Int → Int} {p e w j : Nat} (q : ¬ (p + j ≤ e ∧ ∀ i : Nat, i < j → τ ((p + i : Nat) : Int) = wby w i)) : wmt τ p e w (j + 1) (-1) :=
  Or.inl ⟨rfl, fun z => q ⟨by omega, fun i hi => z.2 i (by omega)⟩⟩
theorem wmt_bad {τ : Int → Int} {p e w j : Nat} (q : ¬ τ ((p + j : Nat) : Int) = wby w j) : wmt τ p e w (j + 1) (-1) :=
  Or.inl ⟨rfl, fun z => q (z.2 j (by omega))⟩
theorem wmt_end {τ : Int → Int} {p e w j : Nat} (q : e ≤ p + j) : wmt τ p e w (j + 1) (-1) :=
  Or.inl ⟨rfl, fun z => by omega⟩
theorem wmt_up {τ : Int → Int} {p e w j : Nat} (a : p + j < e) (b : ∀ i : Nat, i < j → τ ((p + i : Nat) : Int) = wby w i) (c : τ ((p + j : Nat) : Int) = wby w j) : wmt τ p e w (j + 1) ((p + j : Nat) + 1) :=
  Or.inr ⟨by omega, by omega, fun i hi => by
    by_cases q : i = j
    · rw [q]; exact c
    · exact b i (by omega)⟩
section WORDM
variable {y : Nat} {h : am_H} {Q : Int → am_H → Prop} {p e : Nat}
theorem l_wordL (pe : p < e) (e9 : e ≤ 300) (K : Q (widx (blR (h 2) p (e - p))) h) : ∀ (m w j : Nat) (A : Int), w ≤ 23 → (w < 23 → j ≤ (wlk w).length) → (w = 23 → j = 0) → 98 - (woff w + j) ≤ m → wmt (h 2) p e w j A → (∀ k : Nat, k < w → wlk k ≠ blR (h 2) p (e - p)) → ∀ (c6 : Option am_V) (h0 : am_H), am_Wp true (y + 4) M_X1_wordToken 321 321 h0 Q 47 [some (.inr (.inr 2)), some (.inl (p : Int)), some (.inl (e : Int)), some (.inl (w : Int)), some (.inl A), some (.inl ((woff w + j : Nat) : Int)), c6] [] 321 h := by
  have k2 : am_kd 321 2 = 0 := k_2
  have l2 : am_ln 2 = 300 := by decide +kernel
  have sv := stN_v
  intro m
  induction m with
  | zero =>
    intro w j A w1 w2 w3 hm mt no c6 h0
    have w23 : w = 23 := by
      by_cases c : w = 23
      · exact c
      · have := wo_s w (by omega)
        have := w2 (by omega)
        omega
    have j0 := w3 w23
    subst w23
    subst j0
    refine ar_iload (pc := 47) (i := 5) (by decide +kernel) rfl ?_
    refine ar_ldcS (pc := 49) (k := 0) (by decide +kernel) rfl (Or.inl ⟨rfl, rfl⟩) ?_
    refine ar_callVS (d := y + 3) (pc := 51) (M2 := M_S_length) (k := 0) (as := []) (n2 := 321) (st := [.inl ((woff 23 + 0 : Nat) : Int)]) (by decide +kernel) rfl sm_P113 si_length sl_length (by omega) sn_S sc_length ⟨by decide, by decide, rfl⟩ (by decide) (Nat.le_of_ble_eq_true rfl) (Nat.le_refl _) (Nat.le_refl _) (c_S_length (d := y + 2) (by omega) ?_)
    show am_Wp true (y + 4) M_X1_wordToken 321 321 h0 Q 54 [some (.inr (.inr 2)), some (.inl (p : Int)), some (.inl (e : Int)), some (.inl ((23 : Nat) : Int)), some (.inl A), some (.inl ((woff 23 + 0 : Nat) : Int)), c6] [.inl (stN 0), .inl ((woff 23 + 0 : Nat) : Int)] 321 h
    refine ar_icmp_ge (pc := 54) (x := ((woff 23 + 0 : Nat) : Int)) (y := stN 0) (tgt := 140) (off := 86) (by decide +kernel) (by decide) (fun _ => ?_) (fun z => by have := wo_e; omega)
    refine ar_bipush (pc := 140) (z := 65) (by decide +kernel) (by omega) ?_
    rw [widx_no no] at K
    exact ar_iret (pc := 142) (x := 65) (by decide +kernel) rfl rfl K
  | succ m ih =>
    intro w j A w1 w2 w3 hm mt no c6 h0
    refine ar_iload (pc := 47) (i := 5) (by decide +kernel) rfl ?_
    refine ar_ldcS (pc := 49) (k := 0) (by decide +kernel) rfl (Or.inl ⟨rfl, rfl⟩) ?_
    refine ar_callVS (d := y + 3) (pc := 51) (M2 := M_S_length) (k := 0) (as := []) (n2 := 321) (st := [.inl ((woff w + j : Nat) : Int)]) (by decide +kernel) rfl sm_P113 si_length sl_length (by omega) sn_S sc_length ⟨by decide, by decide, rfl⟩ (by decide) (Nat.le_of_ble_eq_true rfl) (Nat.le_refl _) (Nat.le_refl _) (c_S_length (d := y + 2) (by omega) ?_)
    show am_Wp true (y + 4) M_X1_wordToken 321 321 h0 Q 54 [some (.inr (.inr 2)), some (.inl (p : Int)), some (.inl (e : Int)), some (.inl (w : Int)), some (.inl A), some (.inl ((woff w + j : Nat) : Int)), c6] [.inl (stN 0), .inl ((woff w + j : Nat) : Int)] 321 h
    refine ar_icmp_ge (pc := 54) (x := ((woff w + j : Nat) : Int)) (y := stN 0) (tgt := 140) (off := 86) (by decide +kernel) (by decide) (fun z => ?_) (fun z => ?_)
    · have w23 : w = 23 := by
        by_cases c : w = 23
        · exact c
        · have := wo_s w (by omega)
          have := w2 (by omega)
          omega
      subst w23
      refine ar_bipush (pc := 140) (z := 65) (by decide +kernel) (by omega) ?_
      rw [widx_no no] at K
      exact ar_iret (pc := 142) (x := 65) (by decide +kernel) rfl rfl K
    · have w23 : w < 23 := by
        by_cases c : w = 23
        · have := wo_e
          rw [c] at z
          omega
        · omega
      have os := wo_s w w23
      have jl := w2 w23
      have Ar : A = -1 ∨ A = ((p + j : Nat) : Int) := by
        rcases mt with q | q
        · exact Or.inl q.1
        · exact Or.inr q.1
      -- the loop's end
      have nx : ∀ (w' j' : Nat) (A' : Int) (c' : Option am_V), w' ≤ 23 → (w' < 23 → j' ≤ (wlk w').length) → (w' = 23 → j' = 0) → woff w' + j' = woff w + j + 1 → wmt (h 2) p e w' j' A' → (∀ k : Nat, k < w' → wlk k ≠ blR (h 2) p (e - p)) → am_Wp true (y + 4) M_X1_wordToken 321 321 h0 Q 134 [some (.inr (.inr 2)), some (.inl (p : Int)), some (.inl (e : Int)), some (.inl (w' : Int)), some (.inl A'), some (.inl ((woff w + j : Nat) : Int)), c'] [] 321 h := by
        intro w' j' A' c' a1 a2 a3 a4 a5 a6
        refine ar_iinc (pc := 134) (i := 5) (z := 1) (x := ((woff w + j : Nat) : Int)) (ls2 := [some (.inr (.inr 2)), some (.inl (p : Int)), some (.inl (e : Int)), some (.inl (w' : Int)), some (.inl A'), some (.inl (am_w32 (((woff w + j : Nat) : Int) + 1))), c']) (by decide +kernel) rfl (by decide) rfl ?_
        refine ar_goto (pc := 137) (tgt := 47) (off := -90) (by decide +kernel) (by decide) ?_
        rw [w32e (z := ((woff w + j : Nat) : Int) + 1) (by omega) (by omega), show ((woff w + j : Nat) : Int) + 1 = ((woff w' + j' : Nat) : Int) by omega]
        exact ih w' j' A' a1 a2 a3 (by omega) a5 a6 c' h0
      refine ar_ldcS (pc := 57) (k := 0) (by decide +kernel) rfl (Or.inl ⟨rfl, rfl⟩) ?_
      refine ar_iload (pc := 59) (i := 5) (by decide +kernel) rfl ?_
      refine ar_callVS (d := y + 3) (pc := 61) (M2 := M_S_charAt) (k := 0) (as := [.inl ((woff w + j : Nat) : Int)]) (n2 := 321) (st := []) (by decide +kernel) rfl sm_P117 si_charAt sl_charAt (by omega) sn_S sc_charAt ⟨by decide, by decide, rfl⟩ (by decide) (Nat.le_of_ble_eq_true rfl) (Nat.le_refl _) (Nat.le_refl _) (c_S_charAt (d := y) (by omega) (by omega) (by omega) ?_)
      show am_Wp true (y + 4) M_X1_wordToken 321 321 h0 Q 64 [some (.inr (.inr 2)), some (.inl (p : Int)), some (.inl (e : Int)), some (.inl (w : Int)), some (.inl A), some (.inl ((woff w + j : Nat) : Int)), c6] [.inl (stB 0 ((woff w + j : Nat) : Int))] 321 h
      refine ar_istore (pc := 64) (i := 6) (ls2 := [some (.inr (.inr 2)), some (.inl (p : Int)), some (.inl (e : Int)), some (.inl (w : Int)), some (.inl A), some (.inl ((woff w + j : Nat) : Int)), some (.inl (stB 0 ((woff w + j : Nat) : Int)))]) (by decide +kernel) (by decide) rfl ?_
      refine ar_iload (pc := 66) (i := 6) (by decide +kernel) rfl ?_
      refine ar_bipush (pc := 68) (z := 32) (by decide +kernel) (by omega) ?_
      by_cases c : j = (wlk w).length
      · -- a blank: the word is over
        have b32 : stB 0 ((woff w + j : Nat) : Int) = 32 := by rw [c]; exact os.2.2
        refine ar_icmp_ne (pc := 70) (x := stB 0 ((woff w + j : Nat) : Int)) (y := 32) (tgt := 81) (off := 11) (by decide +kernel) (by decide) (fun q => absurd b32 q) (fun _ => ?_)
        refine ar_iload (pc := 73) (i := 4) (by decide +kernel) rfl ?_
        refine ar_iload_n (pc := 75) (i := 2) (k0 := 2) (by decide +kernel) rfl rfl ?_
        refine ar_icmp_ne (pc := 76) (x := A) (y := (e : Int)) (tgt := 81) (off := 5) (by decide +kernel) (by decide) (fun q => ?_) (fun q => ?_)
        · -- not this word
          refine ar_iload (pc := 81) (i := 6) (by decide +kernel) rfl ?_
          refine ar_bipush (pc := 83) (z := 32) (by decide +kernel) (by omega) ?_
          refine ar_icmp_ne (pc := 85) (x := stB 0 ((woff w + j : Nat) : Int)) (y := 32) (tgt := 97) (off := 12) (by decide +kernel) (by decide) (fun q => absurd b32 q) (fun _ => ?_)
          refine ar_iinc (pc := 88) (i := 3) (z := 1) (x := (w : Int)) (ls2 := [some (.inr (.inr 2)), some (.inl (p : Int)), some (.inl (e : Int)), some (.inl (am_w32 ((w : Int) + 1))), some (.inl A), some (.inl ((woff w + j : Nat) : Int)), some (.inl (stB 0 ((woff w + j : Nat) : Int)))]) (by decide +kernel) rfl (by decide) rfl ?_
          refine ar_iload_n (pc := 91) (i := 1) (k0 := 1) (by decide +kernel) rfl rfl ?_
          refine ar_istore (pc := 92) (i := 4) (ls2 := [some (.inr (.inr 2)), some (.inl (p : Int)), some (.inl (e : Int)), some (.inl (am_w32 ((w : Int) + 1))), some (.inl (p : Int)), some (.inl ((woff w + j : Nat) : Int)), some (.inl (stB 0 ((woff w + j : Nat) : Int)))]) (by decide +kernel) (by decide) rfl ?_
          refine ar_goto (pc := 94) (tgt := 134) (off := 40) (by decide +kernel) (by decide) ?_
          rw [w32e (z := (w : Int) + 1) (by omega) (by omega), show (w : Int) + 1 = ((w + 1 : Nat) : Int) by omega]
          refine nx (w + 1) 0 p _ (by omega) (fun _ => by omega) (fun _ => rfl) (by omega) (wmt_0 pe) (fun k hk => ?_)
          by_cases kw : k = w
          · subst kw
            intro z2
            have z3 := (wlk_iff w23 pe).1 z2
            rcases mt with q2 | q2
            · exact q2.2 ⟨by omega, fun i hi => z3.2 i (by omega)⟩
            · exact q (by rw [q2.1]; omega)
          · exact no k (by omega)
        · -- this word
          refine ar_iload_n (pc := 79) (i := 3) (k0 := 3) (by decide +kernel) rfl rfl ?_
          have K2 : widx (blR (h 2) p (e - p)) = (w : Int) := by
            refine widx_of w23 ((wlk_iff w23 pe).2 ?_)
            rcases mt with q2 | q2
            · omega
            · refine ⟨by omega, fun i hi => q2.2.2 i (by omega)⟩
          rw [K2] at K
          exact ar_iret (pc := 80) (x := (w : Int)) (by decide +kernel) rfl rfl K
      · -- a byte of the word
        have jb := wo_b w w23 j (by omega)
        have n32 : ¬ stB 0 ((woff w + j : Nat) : Int) = 32 := by rw [jb.1]; omega
        refine ar_icmp_ne (pc := 70) (x := stB 0 ((woff w + j : Nat) : Int)) (y := 32) (tgt := 81) (off := 11) (by decide +kernel) (by decide) (fun _ => ?_) (fun q => absurd q n32)
        refine ar_iload (pc := 81) (i := 6) (by decide +kernel) rfl ?_
        refine ar_bipush (pc := 83) (z := 32) (by decide +kernel) (by omega) ?_
        refine ar_icmp_ne (pc := 85) (x := stB 0 ((woff w + j : Nat) : Int)) (y := 32) (tgt := 97) (off := 12) (by decide +kernel) (by decide) (fun _ => ?_) (fun q => absurd q n32)
        have at131 : wmt (h 2) p e w (j + 1) (-1) → am_Wp true (y + 4) M_X1_wordToken 321 321 h0 Q 131 [some (.inr (.inr 2)), some (.inl (p : Int)), some (.inl (e : Int)), some (.inl (w : Int)), some (.inl A), some (.inl ((woff w + j : Nat) : Int)), some (.inl (stB 0 ((woff w + j : Nat) : Int)))] [] 321 h := by
          intro q
          refine ar_iconst (pc := 131) (z := -1) (by decide +kernel) (by unfold am_i32; omega) ?_
          refine ar_istore (pc := 132) (i := 4) (ls2 := [some (.inr (.inr 2)), some (.inl (p : Int)), some (.inl (e : Int)), some (.inl (w : Int)), some (.inl (-1)), some (.inl ((woff w + j : Nat) : Int)), some (.inl (stB 0 ((woff w + j : Nat) : Int)))]) (by decide +kernel) (by decide) rfl ?_
          exact nx w (j + 1) (-1) _ w1 (fun _ => by omega) (fun z => by omega) (by omega) q no
        refine ar_iload (pc := 97) (i := 4) (by decide +kernel) rfl ?_
        refine ar_if_lt (pc := 99) (x := A) (tgt := 131) (off := 32) (by decide +kernel) (by decide) (fun q => at131 ?_) (fun q => ?_)
        · rcases mt with q2 | q2
          · exact wmt_no q2.2
          · omega
        have mt2 : A = ((p + j : Nat) : Int) ∧ p + j ≤ e ∧ ∀ i : Nat, i < j → (h 2) ((p + i : Nat) : Int) = wby w i := by
          rcases mt with q2 | q2
          · omega
          · exact q2
        refine ar_iload (pc := 102) (i := 4) (by decide +kernel) rfl ?_
        refine ar_iload_n (pc := 104) (i := 2) (k0 := 2) (by decide +kernel) rfl rfl ?_
        refine ar_icmp_ge (pc := 105) (x := A) (y := (e : Int)) (tgt := 131) (off := 26) (by decide +kernel) (by decide) (fun z => at131 (wmt_end (by omega))) (fun z1 => ?_)
        refine ar_iload (pc := 108) (i := 4) (by decide +kernel) rfl ?_
        refine ar_aload_n (pc := 110) (i := 0) (k0 := 0) (by decide +kernel) rfl rfl ?_
        refine ar_alen (pc := 111) (by decide +kernel) (by omega) ?_
        rw [l2]
        refine ar_icmp_ge (pc := 112) (x := A) (y := 300) (tgt := 131) (off := 19) (by decide +kernel) (by decide) (fun z => at131 (by omega)) (fun _ => ?_)
        refine ar_aload_n (pc := 115) (i := 0) (k0 := 0) (by decide +kernel) rfl rfl ?_
        refine ar_iload (pc := 116) (i := 4) (by decide +kernel) rfl ?_
        refine ar_iald (pc := 118) (by decide +kernel) k2 (by omega) (by omega) ?_
        refine ar_iload (pc := 119) (i := 6) (by decide +kernel) rfl ?_
        have jA : h 2 A = h 2 ((p + j : Nat) : Int) := by rw [mt2.1]
        refine ar_icmp_ne (pc := 121) (x := h 2 A) (y := stB 0 ((woff w + j : Nat) : Int)) (tgt := 131) (off := 10) (by decide +kernel) (by decide) (fun z => at131 (wmt_bad (by rw [← jA, ← jb.1]; exact z))) (fun z => ?_)
        refine ar_iload (pc := 124) (i := 4) (by decide +kernel) rfl ?_
        refine ar_iconst (pc := 126) (z := 1) (by decide +kernel) (by unfold am_i32; omega) ?_
        refine ar_iadd (pc := 127) (by decide +kernel) ?_
        refine ar_goto (pc := 128) (tgt := 132) (off := 4) (by decide +kernel) (by decide) ?_
        rw [w32e (z := A + 1) (by omega) (by omega)]
        refine ar_istore (pc := 132) (i := 4) (ls2 := [some (.inr (.inr 2)), some (.inl (p : Int)), some (.inl (e : Int)), some (.inl (w : Int)), some (.inl (A + 1)), some (.inl ((woff w + j : Nat) : Int)), some (.inl (stB 0 ((woff w + j : Nat) : Int)))]) (by decide +kernel) (by decide) rfl ?_
        refine nx w (j + 1) (A + 1) _ w1 (fun _ => by omega) (fun z => by omega) (by omega) ?_ no
        rw [mt2.1]
        exact wmt_up (by omega) mt2.2.2 (by rw [← jA, z]; exact jb.1)
theorem o_word : oWord := by
  intro d h Q p e hd pe e9 lt K
  obtain ⟨y, rfl⟩ : ∃ y, d = y + 4 := ⟨d - 4, by omega⟩
  have k2 : am_kd 321 2 = 0 := k_2
  have l2 : am_ln 2 = 300 := by decide +kernel
  have at39 : ¬ (e = p + 1 ∧ 97 ≤ h 2 p ∧ h 2 p ≤ 104) → ∀ h0 : am_H, am_Wp true (y + 4) M_X1_wordToken 321 321 h0 Q 39 [some (.inr (.inr 2)), some (.inl (p : Int)), some (.inl (e : Int)), none, none, none, none] [] 321 h := by
    intro q h0
    unfold wkT at K
    rw [if_neg q] at K
    refine ar_iconst (pc := 39) (z := 0) (by decide +kernel) (by unfold am_i32; omega) ?_
    refine ar_istore_n (pc := 40) (i := 3) (k0 := 3) (ls2 := [some (.inr (.inr 2)), some (.inl (p : Int)), some (.inl (e : Int)), some (.inl (0)), none, none, none]) (by decide +kernel) rfl (by decide) rfl ?_
    refine ar_iload_n (pc := 41) (i := 1) (k0 := 1) (by decide +kernel) rfl rfl ?_
    refine ar_istore (pc := 42) (i := 4) (ls2 := [some (.inr (.inr 2)), some (.inl (p : Int)), some (.inl (e : Int)), some (.inl (0)), some (.inl ((p : Int))), none, none]) (by decide +kernel) (by decide) rfl ?_
    refine ar_iconst (pc := 44) (z := 0) (by decide +kernel) (by unfold am_i32; omega) ?_
    refine ar_istore (pc := 45) (i := 5) (ls2 := [some (.inr (.inr 2)), some (.inl (p : Int)), some (.inl (e : Int)), some (.inl (0)), some (.inl ((p : Int))), some (.inl (0)), none]) (by decide +kernel) (by decide) rfl ?_
    have l := l_wordL (y := y) pe e9 K 98 0 0 p (by omega) (fun _ => by omega) (fun _ => rfl) (by omega) (wmt_0 pe) (fun k hk => by omega) none h0
    rw [wo_e.2] at l
    exact l
  refine cf_of pX1 (Nat.le_of_ble_eq_true rfl) rfl (fun _ => ?_)
  intro h0
  refine ar_iload_n (pc := 0) (i := 2) (k0 := 2) (by decide +kernel) rfl rfl ?_
  refine ar_iload_n (pc := 1) (i := 1) (k0 := 1) (by decide +kernel) rfl rfl ?_
  refine ar_isub (pc := 2) (by decide +kernel) ?_
  rw [w32e (z := (e : Int) - (p : Int)) (by omega) (by omega)]
  refine ar_iconst (pc := 3) (z := 1) (by decide +kernel) (by unfold am_i32; omega) ?_
  refine ar_icmp_ne (pc := 4) (x := (e : Int) - (p : Int)) (y := 1) (tgt := 39) (off := 35) (by decide +kernel) (by decide) (fun q => at39 (by omega) h0) (fun q1 => ?_)
  refine ar_iload_n (pc := 7) (i := 1) (k0 := 1) (by decide +kernel) rfl rfl ?_
  refine ar_if_lt (pc := 8) (x := (p : Int)) (tgt := 39) (off := 31) (by decide +kernel) (by decide) (fun q => by omega) (fun _ => ?_)
  refine ar_iload_n (pc := 11) (i := 1) (k0 := 1) (by decide +kernel) rfl rfl ?_
  refine ar_aload_n (pc := 12) (i := 0) (k0 := 0) (by decide +kernel) rfl rfl ?_
  refine ar_alen (pc := 13) (by decide +kernel) (by omega) ?_
  rw [l2]
  refine ar_icmp_ge (pc := 14) (x := (p : Int)) (y := 300) (tgt := 39) (off := 25) (by decide +kernel) (by decide) (fun q => by omega) (fun _ => ?_)
  refine ar_aload_n (pc := 17) (i := 0) (k0 := 0) (by decide +kernel) rfl rfl ?_
  refine ar_iload_n (pc := 18) (i := 1) (k0 := 1) (by decide +kernel) rfl rfl ?_
  refine ar_iald (pc := 19) (by decide +kernel) k2 (by omega) (by omega) ?_
  refine ar_bipush (pc := 20) (z := 97) (by decide +kernel) (by omega) ?_
  refine ar_isub (pc := 22) (by decide +kernel) ?_
  have r := lt p (Nat.le_refl _) pe
  unfold isLt at r
  have r2 := of_decide_eq_true r
  rw [w32e (z := h 2 p - 97) (by omega) (by omega)]
  refine ar_callSN (d := y + 3) (pc := 23) (M2 := M_X6_isField) (as := [.inl (h 2 p - 97)]) (n2 := 321) (st := []) (by decide +kernel) rfl wn_RX1_108 ws_yX6_isField wz_RX6 wc_yX6_isField ⟨by decide, by decide, rfl⟩ (by decide) (Nat.le_of_ble_eq_true rfl) (Nat.le_refl _) (Nat.le_refl _) (c_X6_isField (fun a b => ?_) (fun a => ?_))
  · show am_Wp true (y + 4) M_X1_wordToken 321 321 h0 Q 26 [some (.inr (.inr 2)), some (.inl (p : Int)), some (.inl (e : Int)), none, none, none, none] [.inl 1] 321 h
    refine ar_if_eq (pc := 26) (x := 1) (tgt := 39) (off := 13) (by decide +kernel) (by decide) (fun z => absurd z (by decide)) (fun _ => ?_)
    refine ar_bipush (pc := 29) (z := 32) (by decide +kernel) (by omega) ?_
    refine ar_aload_n (pc := 31) (i := 0) (k0 := 0) (by decide +kernel) rfl rfl ?_
    refine ar_iload_n (pc := 32) (i := 1) (k0 := 1) (by decide +kernel) rfl rfl ?_
    refine ar_iald (pc := 33) (by decide +kernel) k2 (by omega) (by omega) ?_
    refine ar_iadd (pc := 34) (by decide +kernel) ?_
    rw [w32e (z := 32 + h 2 p) (by omega) (by omega)]
    refine ar_bipush (pc := 35) (z := 97) (by decide +kernel) (by omega) ?_
    refine ar_isub (pc := 37) (by decide +kernel) ?_
    rw [w32e (z := 32 + h 2 p - 97) (by omega) (by omega)]
    unfold wkT at K
    rw [if_pos ⟨by omega, by omega, by omega⟩, show h 2 p - 65 = 32 + h 2 p - 97 by omega] at K
    exact ar_iret (pc := 38) (x := 32 + h 2 p - 97) (by decide +kernel) rfl rfl K
  · show am_Wp true (y + 4) M_X1_wordToken 321 321 h0 Q 26 [some (.inr (.inr 2)), some (.inl (p : Int)), some (.inl (e : Int)), none, none, none, none] [.inl 0] 321 h
    refine ar_if_eq (pc := 26) (x := 0) (tgt := 39) (off := 13) (by decide +kernel) (by decide) (fun _ => at39 (by omega) h0) (fun z => absurd rfl z)
end WORDM
