/-! LEVEL 3, the class reads the tape as a TEXT; the reference likewise -/
section TEXTS
variable {d D : Nat} {h h0 : am_H} {Q : Int → am_H → Prop} {n : Nat} {T : Int}
/-- what a TEXT comes to: the FAULT and its place, or its CLAUSES -/
def txR (τ : Int → Int) (n : Nat) : (Int × Nat) ⊕ List Cl := pTx (tK (lxA τ n n 0) n) (tV (lxA τ n n 0) n) 400 [] 0
theorem c_clear (tT : am_kd 321 T = 15) (hT : 242 ≤ T) (k : ∀ h2, (∀ b : Int, b < T ∨ T + 12 < b → h2 b = h b) → ctp h2 T [] 0 → Q 0 h2) : cf d M_X5_clear [.inr (.inr T)] h Q := by
  have lo : ∀ (m f : Nat) (g : am_H), f + m = 8 → (∀ b : Int, b < T ∨ T + 12 < b → g b = h b) → (g T 0 = 0 ∧ g T 5 = -1 ∧ g T 6 = 0) → (∀ y : Nat, y < f → g (T + 5) y = -1 ∧ g (T + 9) y = 0) → wf d M_X5_clear Q 17 [some (.inr (.inr T)), some (.inl (f : Int))] [] g := by
    intro m
    induction m with
    | zero =>
      intro f g hf fr e er
      refine B_X5_clear_17 tT ⟨fun _ => k g fr ⟨⟨e.1, by rw [e.2.2]; rfl⟩, fun kk k0 k1 => by simp at k1; omega, fun _ => e.2.1, fun y hy => ?_⟩, fun y => by omega⟩
      have := er y (by omega)
      refine ⟨by rw [this.1]; rfl, by rw [this.2]; rfl, fun c => ?_⟩
      have c0 : co ([] : List Cl) y = -1 := rfl
      omega
    | succ m ih =>
      intro f g hf fr e er
      refine B_X5_clear_17 tT ⟨fun y => by omega, fun _ => ⟨by omega, ?_⟩⟩
      rw [w32e (z := (f : Int) + 1) (by omega) (by omega), show (f : Int) + 1 = ((f + 1 : Nat) : Int) by omega]
      refine ih (f + 1) _ (by omega) (fun b q => by rw [upr (by omega), upr (by omega), upr (by omega)]; exact fr b q) ⟨?_, ?_, ?_⟩ (fun y hy => ?_)
      · rw [am_up_ne (by omega), am_up_ne (by omega), am_up_ne (by omega)]; exact e.1
      · rw [am_up_ne (by omega), am_up_ne (by omega), am_up_ne (by omega)]; exact e.2.1
      · rw [am_up_ne (by omega), am_up_ne (by omega), am_up_ne (by omega)]; exact e.2.2
      · by_cases c : y = f
        · subst c
          exact ⟨by rw [am_up_ne (by omega), am_up_ne (by omega), am_up_at], by rw [am_up_ne (by omega), am_up_at]⟩
        · have := er y (by omega)
          exact ⟨by rw [am_up_ne (by omega), am_up_ne (by omega), am_up_ne (by omega)]; exact this.1, by rw [am_up_ne (by omega), am_up_ne (by omega), am_up_ne (by omega)]; exact this.2⟩
  refine cf_of pX5 (Nat.le_of_ble_eq_true rfl) rfl (fun _ => B_X5_clear_0 tT (lo 8 0 _ rfl (fun b q => by rw [upr (by omega), upr (by omega), upr (by omega)]) ⟨?_, ?_, am_up_at _ _ _ _⟩ (fun y hy => by omega)))
  · rw [am_up_ne (by omega), am_up_ne (by omega), am_up_at]
  · rw [am_up_ne (by omega), am_up_at]
theorem okx_nil : okx [] := ⟨by simp, fun c hc => by simp at hc, fun i j hi => by simp at hi, fun i j hi => by simp at hi⟩
theorem c_parse (oW : oWord) (oS : oSign) {τ : Int → Int} (e2 : h 2 = τ) (hn : n ≤ 300) (hb : ∀ j : Nat, j < n → 0 ≤ τ j ∧ τ j ≤ 255) (tT : am_kd 321 T = 15) (hT : 242 ≤ T)
    (bad : ∀ x, txR τ n = .inl x → ∀ h2, (∀ b : Int, b < 201 ∨ 204 < b → b < T ∨ T + 12 < b → h2 b = h b) → h2 201 13 = tP (lxA τ n n 0) n x.2 → ¬ x.1 = 0 → Q x.1 h2)
    (good : ∀ tx, txR τ n = .inr tx → ∀ h2, (∀ b : Int, b < 201 ∨ 204 < b → b < T ∨ T + 12 < b → h2 b = h b) → ctx h2 T tx → okx tx → Q 0 h2) : cf (D + 67) M_X1_parse [.inr (.inr 201), .inr (.inr 2), .inl (n : Int), .inr (.inr T)] h Q := by
  have tk := lx_tkok (n := n) hn hb
  have ll := lxA_len (τ := τ) (n := n) n 0 (by omega)
  generalize hL : lxA τ n n 0 = L at *
  unfold txR at bad good
  rw [hL] at bad good
  refine cf_of pX1 (Nat.le_of_ble_eq_true rfl) rfl (fun _ => B_X1_parse_0 (c_min (fun y => by omega) (fun _ => c_max (fun _ => ?_) (fun y => ?_))))
  all_goals
    refine cf_of pX1 (Nat.le_of_ble_eq_true rfl) rfl (fun _ => B_X1_split_0 ?_)
  · sorry
  · sorry
end TEXTS
