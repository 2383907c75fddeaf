/-! LEVEL 3, the class splits the tape into TOKENS (words and signs by the two small methods that look into texts: premises here) -/
def oWord : Prop := ∀ (d : Nat) (h : am_H) (Q : Int → am_H → Prop) (p e : Nat), 40 ≤ d → p < e → e ≤ 300 → (∀ j : Nat, p ≤ j → j < e → isLt (h 2 j) = true) → Q (wkT (h 2) p e) h → cf d M_X1_wordToken [.inr (.inr 2), .inl (p : Int), .inl (e : Int)] h Q
def oSign : Prop := ∀ (d : Nat) (h : am_H) (Q : Int → am_H → Prop) (c : Int), 40 ≤ d → 0 ≤ c → c ≤ 255 → Q (sgK c) h → cf d M_X1_signToken [.inl c] h Q
def trw (h : am_H) (L : List Tk) : Prop := h 201 3 = L.length ∧ ∀ j : Nat, j < L.length → h 202 j = (L.getD j (66, 0, 0, 0)).1 ∧ h 203 j = ((L.getD j (66, 0, 0, 0)).2.1 : Nat) ∧ h 204 j = (L.getD j (66, 0, 0, 0)).2.2.1
def fSp (h h2 : am_H) : Prop := (∀ b : Int, b < 201 ∨ 204 < b → h2 b = h b) ∧ ∀ j : Int, j ≠ 3 → h2 201 j = h 201 j
section SPLIT
variable {d : Nat} {h h0 : am_H} {Q : Int → am_H → Prop} {n : Nat}
theorem c_X1_isLetter {c : Int} (k1 : isLt c = true → Q 1 h) (k0 : isLt c = false → Q 0 h) : cf d M_X1_isLetter [.inl c] h Q := by
  have no : ¬ ((97 ≤ c ∧ c ≤ 122) ∨ (65 ≤ c ∧ c ≤ 90)) → Q 0 h := fun q => k0 (decide_eq_false q)
  have ye : ((97 ≤ c ∧ c ≤ 122) ∨ (65 ≤ c ∧ c ≤ 90)) → Q 1 h := fun q => k1 (decide_eq_true q)
  have at12 : ¬ (97 ≤ c ∧ c ≤ 122) → wf d M_X1_isLetter Q 12 [some (.inl c)] [] h := fun q => B_X1_isLetter_12 ⟨fun y => no (by omega), fun y => ⟨fun y2 => no (by omega), fun y2 => B_X1_isLetter_24 (ye (by omega))⟩⟩
  exact cf_of pX1 (Nat.le_of_ble_eq_true rfl) rfl (fun _ => B_X1_isLetter_0 ⟨fun y => at12 (by omega), fun y => ⟨fun y2 => B_X1_isLetter_24 (ye (by omega)), fun y2 => at12 (by omega)⟩⟩)
theorem c_X1_isDigit {c : Int} (k1 : isDg c = true → Q 1 h) (k0 : isDg c = false → Q 0 h) : cf d M_X1_isDigit [.inl c] h Q :=
  cf_of pX1 (Nat.le_of_ble_eq_true rfl) rfl (fun _ => B_X1_isDigit_0 ⟨fun y => k0 (decide_eq_false (by omega)), fun y => ⟨fun y2 => k0 (decide_eq_false (by omega)), fun y2 => k1 (decide_eq_true (by omega))⟩⟩)
theorem c_X1_put {L : List Tk} {k v : Int} {p e : Nat} (t : trw h L) (hL : L.length ≤ 300) (kk : ∀ h2, fSp h h2 → trw h2 (L ++ [(k, p, v, e)]) → Q 0 h2) : cf d M_X1_put [.inr (.inr 201), .inl k, .inl (p : Int), .inl v] h Q := by
  refine cf_of pX1 (Nat.le_of_ble_eq_true rfl) rfl (fun _ => B_X1_put_0 ?_)
  rw [t.1, w32e (z := (L.length : Int) + 1) (by omega) (by omega)]
  refine ⟨fun y => by omega, fun _ => ⟨fun y => by omega, fun _ => ⟨by omega, kk _ ⟨fun b q => ?_, fun j q => ?_⟩ ⟨?_, fun j hj => ?_⟩⟩⟩⟩
  · rw [upr (by omega), upr (by omega), upr (by omega), upr (by omega)]
  · rw [am_up_ne (by omega), am_up_ne (by omega), am_up_ne (by omega), am_up_ne (by omega)]
  · rw [am_up_at]; simp
  · by_cases c : j = L.length
    · subst c
      refine ⟨?_, ?_, ?_⟩
      · rw [am_up_ne (by omega), am_up_ne (by omega), am_up_ne (by omega), am_up_at]; simp
      · rw [am_up_ne (by omega), am_up_ne (by omega), am_up_at]; simp
      · rw [am_up_ne (by omega), am_up_at]; simp
    · have hj2 : j < L.length := by simp at hj; omega
      have e1 : (L ++ [(k, p, v, e)]).getD j (66, 0, 0, 0) = L.getD j (66, 0, 0, 0) := by
        rw [List.getD_eq_getElem?_getD, List.getD_eq_getElem?_getD, List.getElem?_append_left hj2]
      rw [e1]
      have tj := t.2 j hj2
      refine ⟨?_, ?_, ?_⟩
      · rw [am_up_ne (by omega), am_up_ne (by omega), am_up_ne (by omega), am_up_ne (by omega)]; exact tj.1
      · rw [am_up_ne (by omega), am_up_ne (by omega), am_up_ne (by omega), am_up_ne (by omega)]; exact tj.2.1
      · rw [am_up_ne (by omega), am_up_ne (by omega), am_up_ne (by omega), am_up_ne (by omega)]; exact tj.2.2
theorem fSp_refl : fSp h h := ⟨fun _ _ => rfl, fun _ _ => rfl⟩
theorem fSp_trans {h2 h3 : am_H} (a : fSp h h2) (b : fSp h2 h3) : fSp h h3 := ⟨fun c q => (b.1 c q).trans (a.1 c q), fun j q => (b.2 j q).trans (a.2 j q)⟩
theorem l_split (oW : oWord) (oS : oSign) (hd : 40 ≤ d) {τ : Int → Int} (hn : n ≤ 300) (hb : ∀ j : Nat, j < n → 0 ≤ τ j ∧ τ j ≤ 255) : ∀ (m p : Nat) (done : List Tk) (h : am_H), n - p ≤ m → p ≤ n → h 2 = τ → trw h done → done.length ≤ p → (∀ h2, fSp h h2 → trw h2 (done ++ lxA τ n m p ++ [(66, n, 0, n)]) → Q 0 h2) → wf (d + 1) M_X1_split Q 7 [some (.inr (.inr 201)), some (.inr (.inr 2)), some (.inl (n : Int)), some (.inl (p : Int)), none, none, none] [] h := by
  have k2 : am_kd 321 2 = 0 := k_2
  have l2 : am_ln 2 = 300 := by decide +kernel
  intro m
  induction m with
  | zero =>
    intro p done h hm hp e2 t hl k
    have pn : p = n := by omega
    subst pn
    refine B_X1_split_7 ⟨fun _ => B_X1_split_243 (c_X1_put (e := p) t (by omega) (fun h2 f t2 => k h2 f ?_)), fun y => by omega⟩
    simp only [lxA, List.append_nil]
    exact t2
  | succ m ih =>
    intro p done h hm hp e2 t hl k
    simp only [lxA] at k
    by_cases c : n ≤ p
    · have pn : p = n := by omega
      subst pn
      rw [if_pos c] at k
      refine B_X1_split_7 ⟨fun _ => B_X1_split_243 (c_X1_put (e := p) t (by omega) (fun h2 f t2 => k h2 f ?_)), fun y => by omega⟩
      rw [List.append_nil]
      exact t2
    · rw [if_neg c] at k
      have bp := hb p (by omega)
      -- a TOKEN is put down
      have put1 : ∀ (kd v : Int) (e : Nat), ¬ (τ p = 32 ∨ τ p = 10) → tkA τ n p = (kd, p, v, e) → ∀ v5 : Int, v5 = e → cf d M_X1_put [.inr (.inr 201), .inl kd, .inl (p : Int), .inl v] h (fun _ h4 => wf (d + 1) M_X1_split Q 237 [some (.inr (.inr 201)), some (.inr (.inr 2)), some (.inl (n : Int)), none, none, some (.inl v5), none] [] h4) := by
        intro kd v e nb et v5 ev
        rw [if_neg nb, et] at k
        have te := tkA_end (τ := τ) (n := n) (p := p) (by omega)
        rw [et] at te
        refine c_X1_put (e := e) t (by omega) (fun h2 f t2 => B_X1_split_237 ?_)
        rw [ev]
        refine ih e (done ++ [(kd, p, v, e)]) h2 (by have := te.1; simp only at this; omega) te.2.1 (by rw [f.1 2 (by omega)]; exact e2) t2 (by simp; have := te.1; simp only at this; omega) (fun h3 f3 t3 => k h3 (fSp_trans f f3) ?_)
        rw [List.append_assoc] at t3
        simpa using t3
      have at212 : isLt (τ p) = false → isDg (τ p) = false → ¬ ((τ p = 60 ∨ τ p = 62) ∧ p + 1 < n ∧ τ ((p + 1 : Nat) : Int) = 61) → wf (d + 1) M_X1_split Q 212 [some (.inr (.inr 201)), some (.inr (.inr 2)), some (.inl (n : Int)), some (.inl (p : Int)), some (.inl (τ p)), some (.inl ((p + 1 : Nat) : Int)), none] [] h := by
        intro q1 q2 q3
        have blank : (τ p = 32 ∨ τ p = 10) → wf (d + 1) M_X1_split Q 237 [some (.inr (.inr 201)), some (.inr (.inr 2)), some (.inl (n : Int)), none, none, some (.inl ((p + 1 : Nat) : Int)), none] [] h := by
          intro q
          rw [if_pos q] at k
          exact B_X1_split_237 (ih (p + 1) done h (by omega) (by omega) e2 t (by omega) k)
        refine B_X1_split_212 ⟨fun y => blank (Or.inl y), fun y => ⟨fun y2 => blank (Or.inr y2), fun y2 => oS d h _ (τ p) hd bp.1 bp.2 ?_⟩⟩
        refine put1 (sgK (τ p)) 0 (p + 1) (by omega) ?_ _ rfl
        unfold tkA
        rw [if_neg (by simp [q1]), if_neg (by simp [q2]), if_neg q3]
      have at172 : isLt (τ p) = false → isDg (τ p) = false → (τ p = 60 ∨ τ p = 62) → wf (d + 1) M_X1_split Q 172 [some (.inr (.inr 201)), some (.inr (.inr 2)), some (.inl (n : Int)), some (.inl (p : Int)), some (.inl (τ p)), some (.inl ((p + 1 : Nat) : Int)), none] [] h := by
        intro q1 q2 q3
        refine B_X1_split_172 ⟨fun y => at212 q1 q2 (by omega), fun y => ⟨k2, fun y2 => by rw [l2] at y2; omega, fun y2 => ⟨by omega, y2, ?_⟩⟩⟩
        rw [e2]
        refine ⟨fun y3 => at212 q1 q2 (fun z => y3 z.2.2), fun y3 => ?_⟩
        rw [w32e (z := 256 + τ p) (by omega) (by omega), w32e (z := ((p + 1 : Nat) : Int) + 1) (by omega) (by omega)]
        refine put1 (256 + τ p) 0 (p + 2) (by omega) ?_ _ (by omega)
        unfold tkA
        rw [if_neg (by simp [q1]), if_neg (by simp [q2]), if_pos ⟨q3, by omega, y3⟩]
      refine B_X1_split_7 ⟨fun y => by omega, fun _ => ⟨k2, fun y => by rw [l2] at y; omega, fun y => ⟨by omega, y, ?_⟩⟩⟩
      rw [e2, w32e (z := (p : Int) + 1) (by omega) (by omega), show (p : Int) + 1 = ((p + 1 : Nat) : Int) by omega]
      refine c_X1_isLetter (fun q1 => ⟨fun z => by omega, fun _ => ?_⟩) (fun q1 => ⟨fun _ => ?_, fun z => absurd rfl z⟩)
      · -- letters
        have nb : ¬ (τ p = 32 ∨ τ p = 10) := by
          unfold isLt at q1
          have := of_decide_eq_true q1
          omega
        have l36 : ∀ (k q : Nat), n - q ≤ k → q ≤ n → rnE isLt τ n q = rnE isLt τ n p → wf (d + 1) M_X1_split Q 36 [some (.inr (.inr 201)), some (.inr (.inr 2)), some (.inl (n : Int)), some (.inl (p : Int)), none, some (.inl (q : Int)), none] [] h := by
          intro kk
          induction kk with
          | zero =>
            intro q z1 z2 z3
            have qn : q = n := by omega
            have en : rnE isLt τ n p = q := by rw [← z3]; exact rnE_stop (by omega)
            refine B_X1_split_36 ⟨fun _ => B_X1_split_65 ?_, fun z => by omega⟩
            refine oW d h _ p q hd (by omega) (by omega) (fun j a b => by rw [e2]; exact rnE_all a (by rw [en]; exact b)) ?_
            rw [e2]
            refine put1 _ 0 q nb ?_ _ rfl
            unfold tkA
            rw [if_pos q1, en]
          | succ kk ihk =>
            intro q z1 z2 z3
            have at65 : rnE isLt τ n q = q → wf (d + 1) M_X1_split Q 65 [some (.inr (.inr 201)), some (.inr (.inr 2)), some (.inl (n : Int)), some (.inl (p : Int)), none, some (.inl (q : Int)), none] [] h := by
              intro eq1
              have en : rnE isLt τ n p = q := by rw [← z3]; exact eq1
              have pq : p < q := by have := rnE_gt (n := n) (p := p) (by omega) q1; omega
              refine B_X1_split_65 (oW d h _ p q hd pq (by omega) (fun j a b => by rw [e2]; exact rnE_all a (by rw [en]; exact b)) ?_)
              rw [e2]
              refine put1 _ 0 q nb ?_ _ rfl
              unfold tkA
              rw [if_pos q1, en]
            refine B_X1_split_36 ⟨fun z => at65 (rnE_stop (by omega)), fun z => ⟨k2, fun y2 => by rw [l2] at y2; omega, fun y2 => ⟨by omega, y2, ?_⟩⟩⟩
            rw [e2]
            refine c_X1_isLetter (fun q2 => ⟨fun z => by omega, fun _ => ?_⟩) (fun q2 => ⟨fun _ => at65 (rnE_stop (fun w => by rw [q2] at w; simp at w)), fun z => absurd rfl z⟩)
            rw [w32e (z := (q : Int) + 1) (by omega) (by omega), show (q : Int) + 1 = ((q + 1 : Nat) : Int) by omega]
            exact ihk (q + 1) (by omega) (by omega) (by rw [← z3]; exact (rnE_step (by omega) q2).symm)
        exact l36 n (p + 1) (by omega) (by omega) (rnE_step (by omega) q1).symm
      · refine c_X1_isDigit (fun q2 => ⟨fun z => by omega, fun _ => ?_⟩) (fun q2 => ⟨fun _ => ⟨fun z => at172 q1 q2 (Or.inl z), fun z => ⟨fun z2 => at212 q1 q2 (by omega), fun z2 => at172 q1 q2 (Or.inr z2)⟩⟩, fun z => absurd rfl z⟩)
        -- figures
        have dg := of_decide_eq_true (show decide (48 ≤ τ p ∧ τ p ≤ 57) = true from q2)
        have nb : ¬ (τ p = 32 ∨ τ p = 10) := by omega
        rw [w32e (z := τ p - 48) (by omega) (by omega)]
        have l96 : ∀ (k q : Nat), n - q ≤ k → q ≤ n → p < q → rnE isDg τ n q = rnE isDg τ n p → wf (d + 1) M_X1_split Q 96 [some (.inr (.inr 201)), some (.inr (.inr 2)), some (.inl (n : Int)), some (.inl (p : Int)), none, some (.inl (q : Int)), some (.inl (vlC τ p (q - p)))] [] h := by
          intro kk
          induction kk with
          | zero =>
            intro q z1 z2 z0 z3
            have en : rnE isDg τ n p = q := by rw [← z3]; exact rnE_stop (by omega)
            refine B_X1_split_96 ⟨fun _ => B_X1_split_146 ?_, fun z => by omega⟩
            refine put1 64 _ q nb ?_ _ rfl
            unfold tkA
            rw [if_neg (by simp [q1]), if_pos q2, en]
          | succ kk ihk =>
            intro q z1 z2 z0 z3
            have at146 : rnE isDg τ n q = q → wf (d + 1) M_X1_split Q 146 [some (.inr (.inr 201)), some (.inr (.inr 2)), some (.inl (n : Int)), some (.inl (p : Int)), none, some (.inl (q : Int)), some (.inl (vlC τ p (q - p)))] [] h := by
              intro eq1
              have en : rnE isDg τ n p = q := by rw [← z3]; exact eq1
              refine B_X1_split_146 (put1 64 _ q nb ?_ _ rfl)
              unfold tkA
              rw [if_neg (by simp [q1]), if_pos q2, en]
            refine B_X1_split_96 ⟨fun z => at146 (rnE_stop (by omega)), fun z => ⟨k2, fun y2 => by rw [l2] at y2; omega, fun y2 => ⟨by omega, y2, ?_⟩⟩⟩
            rw [e2]
            refine c_X1_isDigit (fun q3 => ⟨fun z => by omega, fun _ => ?_⟩) (fun q3 => ⟨fun _ => at146 (rnE_stop (fun w => by rw [q3] at w; simp at w)), fun z => absurd rfl z⟩)
            have dq := of_decide_eq_true (show decide (48 ≤ τ q ∧ τ q ≤ 57) = true from q3)
            have vr := vlC_rng (τ := τ) (p := p) (m := q - p) (fun j a b => rnE_all (n := n) a (by
              have := rnE_le (f := isDg) (τ := τ) (n := n) (p := q) (by omega)
              omega))
            rw [e2, w32e (z := vlC τ p (q - p) * 10) (by omega) (by omega), w32e (z := vlC τ p (q - p) * 10 + τ q) (by omega) (by omega), w32e (z := vlC τ p (q - p) * 10 + τ q - 48) (by omega) (by omega), w32e (z := (q : Int) + 1) (by omega) (by omega), show (q : Int) + 1 = ((q + 1 : Nat) : Int) by omega]
            have vs : vlC τ p (q + 1 - p) = min (vlC τ p (q - p) * 10 + τ q - 48) 10000 := by
              rw [show q + 1 - p = (q - p) + 1 by omega]
              simp only [vlC]
              rw [show p + (q - p) = q by omega]
            have nx := ihk (q + 1) (by omega) (by omega) (by omega) (by rw [← z3]; exact (rnE_step (by omega) q3).symm)
            rw [vs] at nx
            refine c_min (fun w => ?_) (fun w => ?_)
            · rw [show min (vlC τ p (q - p) * 10 + τ q - 48) 10000 = 10000 by omega] at nx; exact nx
            · rw [show min (vlC τ p (q - p) * 10 + τ q - 48) 10000 = vlC τ p (q - p) * 10 + τ q - 48 by omega] at nx; exact nx
        have st := l96 n (p + 1) (by omega) (by omega) (by omega) (rnE_step (by omega) q2).symm
        have v1 : vlC τ p (p + 1 - p) = τ p - 48 := by
          rw [show p + 1 - p = 0 + 1 by omega]
          simp only [vlC]
          rw [show p + 0 = p by omega]
          omega
        rw [v1] at st
        exact st
end SPLIT
