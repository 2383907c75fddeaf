/-! LEVEL 3, the class reads the tape as a TEXT; the reference likewise -/
section TEXTS
variable {d D : Nat} {h h0 : am_H} {Q : Int → am_H → Prop} {n : Nat} {T : Int}
/-- what a TEXT comes to: the FAULT and its place, or its CLAUSES -/
def txR (τ : Int → Int) (n : Nat) : (Int × Nat) ⊕ List Cl := pTx (tK (lxA τ n n 0) n) (tV (lxA τ n n 0) n) 400 [] 0
theorem c_clear (tT : am_kd 321 T = 15) (hT : 242 ≤ T) (k : ∀ h2, (∀ b : Int, b < T ∨ T + 12 < b → h2 b = h b) → ctp h2 T [] 0 → Q 0 h2) : cf d M_X5_clear [.inr (.inr T)] h Q := by
  have lo : ∀ (m f : Nat) (g : am_H), f + m = 8 → (∀ b : Int, b < T ∨ T + 12 < b → g b = h b) → (g T 0 = 0 ∧ g T 5 = -1 ∧ g T 6 = 0) → (∀ y : Nat, y < f → g (T + 5) y = -1 ∧ g (T + 9) y = 0) → wf d M_X5_clear Q 17 [some (.inr (.inr T)), some (.inl (f : Int))] [] g := by
    intro m
    induction m with
    | zero =>
      intro f g hf fr e er
      refine B_X5_clear_17 tT ⟨fun _ => k g fr ⟨⟨e.1, by rw [e.2.2]; rfl⟩, fun kk k0 k1 => by simp at k1; omega, fun _ => e.2.1, fun y hy => ?_⟩, fun y => by omega⟩
      have := er y (by omega)
      refine ⟨by rw [this.1]; rfl, by rw [this.2]; rfl, fun c => ?_⟩
      have c0 : co ([] : List Cl) y = -1 := rfl
      omega
    | succ m ih =>
      intro f g hf fr e er
      refine B_X5_clear_17 tT ⟨fun y => by omega, fun _ => ⟨by omega, ?_⟩⟩
      rw [w32e (z := (f : Int) + 1) (by omega) (by omega), show (f : Int) + 1 = ((f + 1 : Nat) : Int) by omega]
      refine ih (f + 1) _ (by omega) (fun b q => by rw [upr (by omega), upr (by omega), upr (by omega)]; exact fr b q) ⟨?_, ?_, ?_⟩ (fun y hy => ?_)
      · rw [am_up_ne (by omega), am_up_ne (by omega), am_up_ne (by omega)]; exact e.1
      · rw [am_up_ne (by omega), am_up_ne (by omega), am_up_ne (by omega)]; exact e.2.1
      · rw [am_up_ne (by omega), am_up_ne (by omega), am_up_ne (by omega)]; exact e.2.2
      · by_cases c : y = f
        · subst c
          exact ⟨by rw [am_up_ne (by omega), am_up_ne (by omega), am_up_at], by rw [am_up_ne (by omega), am_up_at]⟩
        · have := er y (by omega)
          exact ⟨by rw [am_up_ne (by omega), am_up_ne (by omega), am_up_ne (by omega)]; exact this.1, by rw [am_up_ne (by omega), am_up_ne (by omega), am_up_ne (by omega)]; exact this.2⟩
  refine cf_of pX5 (Nat.le_of_ble_eq_true rfl) rfl (fun _ => B_X5_clear_0 tT (lo 8 0 _ rfl (fun b q => by rw [upr (by omega), upr (by omega), upr (by omega)]) ⟨?_, ?_, am_up_at _ _ _ _⟩ (fun y hy => by omega)))
  · rw [am_up_ne (by omega), am_up_ne (by omega), am_up_at]
  · rw [am_up_ne (by omega), am_up_at]
theorem okx_nil : okx [] := ⟨by simp, fun c hc => by simp at hc, fun i j hi => by simp at hi, fun i j hi => by simp at hi⟩
theorem pTx_ne {K V : Nat → Int} {N : Nat} (tk : tkok K V N) : ∀ (m : Nat) (tx : List Cl) (i : Nat), i ≤ N → N - i < m → ∀ {x : Int × Nat}, pTx K V m tx i = .inl x → ¬ x.1 = 0 := by
  intro m
  induction m with
  | zero => intro tx i _ h; omega
  | succ m ih =>
    intro tx i hi hm x e
    simp only [pTx] at e
    split at e
    · cases e
    · cases hc : clB K V tx i with
      | inl y =>
        rw [hc] at e
        cases e
        exact fault_pos rfl hc tk hi
      | inr y =>
        rw [hc] at e
        have le : i < y.2 ∧ y.2 ≤ N := by
          unfold clB at hc
          split at hc
          · cases hc
          · split at hc
            · cases hc
            · split at hc
              · cases hc
              · rename_i c1 c2 c3
                have i1 := tk_lt tk hi (by omega)
                cases hb : bdc K V tx (K i) (i + 1) with
                | inl z => rw [hb] at hc; cases hc
                | inr z =>
                  rw [hb] at hc
                  simp only [bcc] at hc
                  unfold tkc at hc
                  have l := bdc_le tk i1 hb
                  split at hc
                  · rename_i c4
                    have j1 := tk_lt tk l.2 (by rw [c4]; decide)
                    cases hc
                    exact ⟨by simp only; omega, j1⟩
                  · cases hc
        exact ih _ y.2 le.2 (by omega) e
theorem c_parse (oW : oWord) (oS : oSign) {τ : Int → Int} (e2 : h 2 = τ) (hn : n ≤ 300) (hb : ∀ j : Nat, j < n → 0 ≤ τ j ∧ τ j ≤ 255) (tT : am_kd 321 T = 15) (hT : 242 ≤ T)
    (bad : ∀ x, txR τ n = .inl x → ∀ h2, (∀ b : Int, b < 201 ∨ 204 < b → b < T ∨ T + 12 < b → h2 b = h b) → h2 201 13 = tP (lxA τ n n 0) n x.2 → ¬ x.1 = 0 → Q x.1 h2)
    (good : ∀ tx, txR τ n = .inr tx → ∀ h2, (∀ b : Int, b < 201 ∨ 204 < b → b < T ∨ T + 12 < b → h2 b = h b) → ctx h2 T tx → okx tx → Q 0 h2) : cf (D + 67) M_X1_parse [.inr (.inr 201), .inr (.inr 2), .inl (n : Int), .inr (.inr T)] h Q := by
  have tk := lx_tkok (n := n) hn hb
  have ll := lxA_len (τ := τ) (n := n) n 0 (by omega)
  generalize hL : lxA τ n n 0 = L at *
  unfold txR at bad good
  rw [hL] at bad good
  have main : cf (D + 66) M_X1_split [.inr (.inr 201), .inr (.inr 2), .inl (n : Int)] h (fun _ h6 => (am_kd 321 T = 15) ∧ (cf (D + 66) M_X5_clear [.inr (.inr T)] (am_up (am_up (am_up (am_up (am_up (am_up (am_up h6 201 5 0) 201 4 (h6 202 0)) 201 7 0) 201 9 0) 201 12 0) 201 13 (-1)) 201 6 T) (fun _ h8 => wf (D + 67) M_X1_parse Q 66 [some (.inr (.inr 201)), none, none, none, some (.inl 0)] [] h8))) := by
    refine cf_of pX1 (Nat.le_of_ble_eq_true rfl) rfl (fun _ => B_X1_split_0 ?_)
    refine l_split oW oS (by omega) hn hb n 0 [] _ (by omega) (by omega) (by rw [upr (by omega)]; exact e2) ⟨by rw [am_up_at]; rfl, fun j hj => by simp at hj⟩ (by simp) (fun h6 f6 t6 => ⟨tT, ?_⟩)
    rw [hL, List.nil_append] at t6
    generalize hg : am_up (am_up (am_up (am_up (am_up (am_up (am_up h6 201 5 0) 201 4 (h6 202 0)) 201 7 0) 201 9 0) 201 12 0) 201 13 (-1)) 201 6 T = g
    have gb : ∀ b : Int, b ≠ 201 → g b = h6 b := fun b q => by rw [← hg, upr q, upr q, upr q, upr q, upr q, upr q, upr q]
    have rows : ∀ j : Nat, j ≤ L.length → g 202 j = tK L n j ∧ g 203 j = tP L n j ∧ g 204 j = tV L n j := by
      intro j hj
      have tj := t6.2 j (by simp; omega)
      rw [gb 202 (by omega), gb 203 (by omega), gb 204 (by omega)]
      unfold tK tP tV
      have e : (L ++ [(66, n, 0, n)]).getD j (66, 0, 0, 0) = L.getD j (dfT n) := by
        by_cases c : j = L.length
        · subst c
          rw [getD_out (Nat.le_refl _)]
          simp [dfT]
        · rw [List.getD_eq_getElem?_getD, List.getElem?_append_left (by omega), List.getD_eq_getElem?_getD, List.getElem?_eq_getElem (by omega)]
          rfl
      rw [e] at tj
      exact tj
    have E : tE g (tK L n) (tV L n) (tP L n) L.length T := ⟨tk, ⟨tT, hT⟩, rows⟩
    have g201 : g 201 3 = (L.length : Int) + 1 ∧ g 201 4 = tK L n 0 ∧ g 201 5 = 0 ∧ g 201 6 = T ∧ g 201 7 = 0 ∧ g 201 9 = 0 ∧ g 201 12 = 0 := by
      refine ⟨?_, ?_, ?_, ?_, ?_, ?_, ?_⟩
      · rw [← hg, am_up_ne (by omega), am_up_ne (by omega), am_up_ne (by omega), am_up_ne (by omega), am_up_ne (by omega), am_up_ne (by omega), am_up_ne (by omega), t6.1]; simp
      · rw [← (rows 0 (by omega)).1, gb 202 (by omega), ← hg, am_up_ne (by omega), am_up_ne (by omega), am_up_ne (by omega), am_up_ne (by omega), am_up_ne (by omega), am_up_at]; rfl
      · rw [← hg, am_up_ne (by omega), am_up_ne (by omega), am_up_ne (by omega), am_up_ne (by omega), am_up_ne (by omega), am_up_ne (by omega), am_up_at]
      · rw [← hg, am_up_at]
      · rw [← hg, am_up_ne (by omega), am_up_ne (by omega), am_up_ne (by omega), am_up_ne (by omega), am_up_at]
      · rw [← hg, am_up_ne (by omega), am_up_ne (by omega), am_up_ne (by omega), am_up_at]
      · rw [← hg, am_up_ne (by omega), am_up_ne (by omega), am_up_at]
    have gh : ∀ b : Int, b < 201 ∨ 204 < b → g b = h b := fun b q => by rw [gb b (by omega), f6.1 b q, upr (by omega)]
    refine c_clear tT hT (fun h8 f8 p8 => ?_)
    have e201 : h8 201 = g 201 := f8 201 (by omega)
    have W8 : cW g h8 (tK L n) L.length T 0 0 := by
      refine ⟨⟨fun b _ q => f8 b q, by rw [e201]; exact g201.2.2.2.1⟩, ?_⟩
      rw [e201]
      exact ⟨⟨g201.1, g201.2.2.2.1⟩, g201.2.1, g201.2.2.1, g201.2.2.2.2.1, g201.2.2.2.2.2.1, g201.2.2.2.2.2.2⟩
    refine c_loop (D := D) E 400 [] 0 h8 0 0 (by omega) (by omega) (by omega) (by omega) W8 (by omega) (by omega) p8 okx_nil (fun x hx h2 X => bad x hx h2 (fun b q q2 => (X.1.1 b (by omega) q2).trans (gh b q)) X.2.2 ?_) (fun tx2 hx h2 j cp2 W2 p2 ok2 => ?_)
    · exact pTx_ne tk 400 [] 0 (by omega) (by omega) hx
    · refine B_X1_parse_127 ⟨fun y => absurd W2.2.2.2.2.2.2 y, fun _ => ?_⟩
      rw [W2.2.1.2]
      refine ⟨tT, c_sort (D := D + 63) tT p2 ok2 (fun h3 f3 c3 => B_X1_parse_141 ?_)⟩
      rw [f3 201 (by omega) (by omega) (by omega), W2.2.2.2.2.2.2]
      exact good tx2 hx h3 (fun b q q2 => by rw [f3 b (by omega) (by omega) (by omega), W2.1.1 b (by omega) q2, gh b q]) c3 ok2
  refine cf_of pX1 (Nat.le_of_ble_eq_true rfl) rfl (fun _ => B_X1_parse_0 (c_min (fun y => by omega) (fun _ => c_max (fun _ => main) (fun y => ?_))))
  have n0 : (n : Int) = 0 := by omega
  rw [n0] at main
  exact main
end TEXTS
