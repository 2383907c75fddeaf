/-! LEVEL 3, the reference comes to the next TOKEN -/
def nmW : List Int → Int
  | [] => 0
  | b :: r => b + 256 * nmW r
def byL (l : List Int) : Prop := ∀ b, b ∈ l → 1 ≤ b ∧ b ≤ 255
theorem nmW_nn : ∀ l : List Int, byL l → 0 ≤ nmW l
  | [], _ => by simp [nmW]
  | b :: r, h => by
    have := nmW_nn r (fun x hx => h x (List.mem_cons_of_mem _ hx))
    have := h b List.mem_cons_self
    simp only [nmW]; omega
theorem nmW_inj : ∀ a b : List Int, byL a → byL b → nmW a = nmW b → a = b
  | [], [], _, _, _ => rfl
  | [], y :: s, _, hb, e => by
    have := nmW_nn s (fun x hx => hb x (List.mem_cons_of_mem _ hx))
    have := hb y List.mem_cons_self
    simp only [nmW] at e; omega
  | x :: r, [], ha, _, e => by
    have := nmW_nn r (fun x hx => ha x (List.mem_cons_of_mem _ hx))
    have := ha x List.mem_cons_self
    simp only [nmW] at e; omega
  | x :: r, y :: s, ha, hb, e => by
    have h1 := ha x List.mem_cons_self
    have h2 := hb y List.mem_cons_self
    simp only [nmW] at e
    have e1 : x = y := by omega
    have e2 : nmW r = nmW s := by omega
    rw [e1, nmW_inj r s (fun x hx => ha x (List.mem_cons_of_mem _ hx)) (fun x hx => hb x (List.mem_cons_of_mem _ hx)) e2]
theorem nmW_lt : ∀ l : List Int, byL l → nmW l < 256 ^ l.length ∧ (l ≠ [] → (256 : Int) ^ (l.length - 1) ≤ nmW l)
  | [], _ => by simp [nmW]
  | b :: r, h => by
    have i := nmW_lt r (fun x hx => h x (List.mem_cons_of_mem _ hx))
    have := h b List.mem_cons_self
    simp only [nmW, List.length_cons]
    have e : (256 : Int) ^ (r.length + 1) = 256 ^ r.length * 256 := Int.pow_succ 256 r.length
    refine ⟨by omega, fun _ => ?_⟩
    rw [show r.length + 1 - 1 = r.length by omega]
    cases r with
    | nil => simp [nmW]; omega
    | cons y s =>
      have i2 := i.2 (by simp)
      simp only [List.length_cons] at i2 ⊢
      rw [show s.length + 1 - 1 = s.length by omega] at i2
      have e2 : (256 : Int) ^ (s.length + 1) = 256 ^ s.length * 256 := Int.pow_succ 256 s.length
      omega
theorem wdv_nm : ∀ k : Nat, k < 23 → wdv k = nmW (wlk k) ∧ nmW (wlk k) < 1099511627776 := by decide +kernel
theorem wlk_by : ∀ k : Nat, k < 23 → ∀ b, b ∈ wlk k → 1 ≤ b ∧ b ≤ 255 := by decide +kernel
/-- the word's number, as the reference has it -/
def wrd (l : List Int) (x : Int) : Prop := (l.length ≤ 7 ∧ x = nmW l) ∨ (7 < l.length ∧ x = 1152921504606846976)
theorem wrd_iff {l : List Int} {x : Int} (h : wrd l x) (hb : byL l) {k : Nat} (hk : k < 23) : x = wdv k ↔ wlk k = l := by
  have w := wdv_nm k hk
  have ln := wlk_ne k hk
  rcases h with ⟨h1, h2⟩ | ⟨h1, h2⟩
  · rw [h2, w.1]
    exact ⟨fun e => (nmW_inj _ _ hb (wlk_by k hk) e).symm, fun e => by rw [e]⟩
  · rw [h2, w.1]
    constructor
    · intro e; have := w.2; omega
    · intro e; rw [← e] at h1; omega
theorem blR_len {τ : Int → Int} {p : Nat} : ∀ m, (blR τ p m).length = m
  | 0 => rfl
  | m + 1 => by simp [blR, blR_len m]
theorem blR_by {τ : Int → Int} {p : Nat} : ∀ m, (∀ j : Nat, p ≤ j → j < p + m → 1 ≤ τ j ∧ τ j ≤ 255) → byL (blR τ p m)
  | 0, _ => fun b hb => by simp [blR] at hb
  | m + 1, h => fun b hb => by
    rcases List.mem_cons.mp hb with rfl | hb
    · exact h (p + m) (by omega) (by omega)
    · exact blR_by m (fun j a c => h j a (by omega)) b hb
def hdO (h : am_H) (n : Nat) : List Tk → Prop
  | [] => h 294 9 = 0 ∧ h 294 8 = n ∧ h 294 7 = n
  | x :: _ => h 294 7 = (x.2.2.2 : Nat) ∧ h 294 8 = (x.2.1 : Nat) ∧ rtk h x.1 x.2.2.1
section RNEXT
variable {d : Nat} {h h0 : am_H} {Q : Int → am_H → Prop} {n p : Nat} {σ : Int → Int}
theorem fTk_refl : fTk h h := ⟨fun _ _ => rfl, fun _ _ => rfl⟩
theorem fTk_trans {h2 h3 : am_H} (a : fTk h h2) (b : fTk h2 h3) : fTk h h3 := ⟨fun c q => (b.1 c q).trans (a.1 c q), fun j q => (b.2 j q).trans (a.2 j q)⟩
theorem fTk_up {g : am_H} {j v : Int} (f : fTk h g) (q : 7 ≤ j ∧ j ≤ 11) : fTk h (am_up g 294 j v) := ⟨fun b z => by rw [upr z]; exact f.1 b z, fun y z => by rw [am_up_ne (by omega)]; exact f.2 y z⟩
/-- the tape as the reference has it -/
def tpe (h : am_H) (n : Nat) (σ : Int → Int) : Prop := h 298 = σ ∧ h 294 4 = n ∧ n ≤ 300
theorem tpe_f {h2 : am_H} (t : tpe h n σ) (f : fTk h h2) : tpe h2 n σ := ⟨by rw [f.1 298 (by omega)]; exact t.1, by rw [f.2 4 (by omega)]; exact t.2.1, t.2.2⟩
theorem c_byteAt {x : Int} (t : tpe h n σ) (e : x = p) (k1 : p < n → Q (σ p) h) (k0 : ¬ p < n → Q (-1) h) : cf d M_X7_byteAt [.inr (.inr 294), .inl x] h Q := by
  have t3 := t.2.2
  refine cf_of pX7 (Nat.le_of_ble_eq_true rfl) rfl (fun _ => B_X7_byteAt_0 ?_)
  rw [t.2.1, t.1, e]
  exact ⟨fun y => k0 (by omega), fun y => ⟨by omega, by omega, k1 (by omega)⟩⟩
theorem c_X7_isLt {c : Int} (k1 : isLt c = true → Q 1 h) (k0 : isLt c = false → Q 0 h) : cf d M_X7_isLetterByte [.inl c] h Q := by
  have no : ¬ ((97 ≤ c ∧ c ≤ 122) ∨ (65 ≤ c ∧ c ≤ 90)) → Q 0 h := fun q => k0 (decide_eq_false q)
  have ye : ((97 ≤ c ∧ c ≤ 122) ∨ (65 ≤ c ∧ c ≤ 90)) → Q 1 h := fun q => k1 (decide_eq_true q)
  have at12 : ¬ (97 ≤ c ∧ c ≤ 122) → wf d M_X7_isLetterByte Q 12 [some (.inl c)] [] h := fun q => B_X7_isLetterByte_12 ⟨fun y => no (by omega), fun y => ⟨fun y2 => no (by omega), fun y2 => B_X7_isLetterByte_24 (ye (by omega))⟩⟩
  exact cf_of pX7 (Nat.le_of_ble_eq_true rfl) rfl (fun _ => B_X7_isLetterByte_0 ⟨fun y => at12 (by omega), fun y => ⟨fun y2 => B_X7_isLetterByte_24 (ye (by omega)), fun y2 => at12 (by omega)⟩⟩)
theorem c_X7_isDg {c : Int} (k1 : isDg c = true → Q 1 h) (k0 : isDg c = false → Q 0 h) : cf d M_X7_isFigure [.inl c] h Q :=
  cf_of pX7 (Nat.le_of_ble_eq_true rfl) rfl (fun _ => B_X7_isFigure_0 ⟨fun y => k0 (decide_eq_false (by omega)), fun y => ⟨fun y2 => k0 (decide_eq_false (by omega)), fun y2 => k1 (decide_eq_true (by omega))⟩⟩)
theorem c_X7_isSign {c : Int} (k1 : (c = 35 ∨ (40 ≤ c ∧ c ≤ 43) ∨ c = 45 ∨ c = 47 ∨ (58 ≤ c ∧ c ≤ 62)) → Q 1 h) (k0 : ¬ (c = 35 ∨ (40 ≤ c ∧ c ≤ 43) ∨ c = 45 ∨ c = 47 ∨ (58 ≤ c ∧ c ≤ 62)) → Q 0 h) : cf d M_X7_isSign [.inl c] h Q := by
  refine cf_of pX7 (Nat.le_of_ble_eq_true rfl) rfl (fun _ => B_X7_isSign_0 ⟨?_, ?_, ?_, ?_, ?_, ?_, ?_, ?_, ?_, ?_, ?_, ?_, ?_, ?_, ?_, ?_, ?_, ?_, ?_, ?_, ?_, ?_, ?_, ?_, ?_, ?_, ?_, ?_, ?_⟩) <;> intro y <;> first | exact k0 (by omega) | exact k1 (by omega)
/-- figures -/
def fgR (v x : Int) : Prop := (v ≤ 9999 ∧ x = v) ∨ (v = 10000 ∧ 9999 < x ∧ x ≤ 1000008)
theorem l_fig (t : tpe h0 n σ) (hp : p < n) (k : ∀ h2, fTk h0 h2 → h2 294 9 = 1 → h2 294 8 = p → h2 294 7 = (rnE isDg σ n p : Nat) → fgR (vlC σ p (rnE isDg σ n p - p)) (h2 294 10) → Q 0 h2) : ∀ (m q : Nat) (g : am_H), n - q ≤ m → p ≤ q → q ≤ n → fTk h0 g → g 294 9 = 1 → g 294 8 = p → g 294 7 = q → rnE isDg σ n q = rnE isDg σ n p → fgR (vlC σ p (q - p)) (g 294 10) → wf (d + 1) M_X7_nextToken Q 85 [some (.inr (.inr 294)), none] [] g := by
  have n3 := t.2.2
  intro m
  induction m with
  | zero =>
    intro q g z1 z0 z2 fg e9 e8 e7 er eR
    have tg := tpe_f t fg
    have en : rnE isDg σ n p = q := by rw [← er]; exact rnE_stop (by omega)
    refine B_X7_nextToken_85 (c_byteAt (p := q) tg e7 (fun y => by omega) (fun y => c_X7_isDg (fun w => absurd w (by decide)) (fun _ => ⟨fun _ => k g fg e9 e8 (by rw [en]; exact e7) (by rw [en]; exact eR), fun w => absurd rfl w⟩)))
  | succ m ih =>
    intro q g z1 z0 z2 fg e9 e8 e7 er eR
    have tg := tpe_f t fg
    have stop : rnE isDg σ n q = q → Q 0 g := fun e1 => by
      have en : rnE isDg σ n p = q := by rw [← er]; exact e1
      exact k g fg e9 e8 (by rw [en]; exact e7) (by rw [en]; exact eR)
    refine B_X7_nextToken_85 (c_byteAt (p := q) tg e7 (fun y => c_X7_isDg (fun w => ⟨fun y2 => by omega, fun _ => ?_⟩) (fun w => ⟨fun _ => stop (rnE_stop (fun z => by rw [w] at z; simp at z)), fun y2 => absurd rfl y2⟩)) (fun y => c_X7_isDg (fun w => absurd w (by decide)) (fun _ => ⟨fun _ => stop (rnE_stop (by omega)), fun w => absurd rfl w⟩)))
    have dq := of_decide_eq_true (show decide (48 ≤ σ q ∧ σ q ≤ 57) = true from w)
    have vr := vlC_rng (τ := σ) (p := p) (m := q - p) (fun j a b => rnE_all (n := n) a (by
      have := rnE_le (f := isDg) (τ := σ) (n := n) (p := q) (by omega)
      omega))
    have next : ∀ s : Int, fgR (vlC σ p (q + 1 - p)) s → wf (d + 1) M_X7_nextToken Q 135 [some (.inr (.inr 294)), none] [.inl s, .inr (.inr 294)] g := by
      intro s es
      refine B_X7_nextToken_135 ?_
      rw [e7, w32e (z := (q : Int) + 1) (by omega) (by omega), show (q : Int) + 1 = ((q + 1 : Nat) : Int) by omega]
      refine ih (q + 1) _ (by omega) (by omega) (by omega) (fTk_up (fTk_up fg (by omega)) (by omega)) ?_ ?_ (am_up_at _ _ _ _) (by rw [← er]; exact (rnE_step y w).symm) ?_
      · rw [am_up_ne (by omega), am_up_ne (by omega)]; exact e9
      · rw [am_up_ne (by omega), am_up_ne (by omega)]; exact e8
      · rw [am_up_ne (by omega), am_up_at]; exact es
    have vs : vlC σ p (q + 1 - p) = min (vlC σ p (q - p) * 10 + σ q - 48) 10000 := by
      rw [show q + 1 - p = (q - p) + 1 by omega]
      simp only [vlC]
      rw [show p + (q - p) = q by omega]
    rw [vs] at next
    unfold fgR at eR next
    refine ⟨fun y2 => c_byteAt (p := q) tg e7 (fun _ => ?_) (fun y3 => absurd y y3), fun y2 => next _ (by omega)⟩
    rw [w32e (z := 10 * g 294 10) (by omega) (by omega), w32e (z := 10 * g 294 10 + σ q) (by omega) (by omega), w32e (z := 10 * g 294 10 + σ q - 48) (by omega) (by omega)]
    exact next _ (by omega)
/-- letters -/
theorem l_word (t : tpe h0 n σ) (hp : p < n) (k : ∀ h2, fTk h0 h2 → h2 294 9 = 2 → h2 294 8 = p → h2 294 7 = (rnE isLt σ n p : Nat) → wrd (blR σ p (rnE isLt σ n p - p)) (h2 294 11) → Q 0 h2) : ∀ (m q : Nat) (g : am_H), n - q ≤ m → p ≤ q → q ≤ n → fTk h0 g → g 294 9 = 2 → g 294 8 = p → g 294 7 = q → rnE isLt σ n q = rnE isLt σ n p → wrd (blR σ p (q - p)) (g 294 11) → wf (d + 1) M_X7_nextToken Q 168 [some (.inr (.inr 294)), none] [] g := by
  have n3 := t.2.2
  intro m
  induction m with
  | zero =>
    intro q g z1 z0 z2 fg e9 e8 e7 er eR
    have tg := tpe_f t fg
    have en : rnE isLt σ n p = q := by rw [← er]; exact rnE_stop (by omega)
    refine B_X7_nextToken_168 (c_byteAt (p := q) tg e7 (fun y => by omega) (fun y => c_X7_isLt (fun w => absurd w (by decide)) (fun _ => ⟨fun _ => k g fg e9 e8 (by rw [en]; exact e7) (by rw [en]; exact eR), fun w => absurd rfl w⟩)))
  | succ m ih =>
    intro q g z1 z0 z2 fg e9 e8 e7 er eR
    have tg := tpe_f t fg
    have stop : rnE isLt σ n q = q → Q 0 g := fun e1 => by
      have en : rnE isLt σ n p = q := by rw [← er]; exact e1
      exact k g fg e9 e8 (by rw [en]; exact e7) (by rw [en]; exact eR)
    refine B_X7_nextToken_168 (c_byteAt (p := q) tg e7 (fun y => c_X7_isLt (fun w => ⟨fun y2 => by omega, fun _ => ?_⟩) (fun w => ⟨fun _ => stop (rnE_stop (fun z => by rw [w] at z; simp at z)), fun y2 => absurd rfl y2⟩)) (fun y => c_X7_isLt (fun w => absurd w (by decide)) (fun _ => ⟨fun _ => stop (rnE_stop (by omega)), fun w => absurd rfl w⟩)))
    have by1 : ∀ j : Nat, p ≤ j → j < p + (q - p) → 1 ≤ σ j ∧ σ j ≤ 255 := fun j a b => by
      have := rnE_all (f := isLt) (τ := σ) (n := n) (p := p) (j := j) a (by
        have := rnE_le (f := isLt) (τ := σ) (n := n) (p := q) (by omega)
        omega)
      have := of_decide_eq_true (show decide ((97 ≤ σ j ∧ σ j ≤ 122) ∨ (65 ≤ σ j ∧ σ j ≤ 90)) = true from this)
      omega
    have bq := of_decide_eq_true (show decide ((97 ≤ σ q ∧ σ q ≤ 122) ∨ (65 ≤ σ q ∧ σ q ≤ 90)) = true from w)
    have bl := blR_by (q - p) by1
    have ln := blR_len (τ := σ) (p := p) (q - p)
    have lt := nmW_lt _ bl
    have nn := nmW_nn _ bl
    rw [ln] at lt
    have bs : blR σ p (q + 1 - p) = σ q :: blR σ p (q - p) := by
      rw [show q + 1 - p = (q - p) + 1 by omega]
      simp only [blR]
      rw [show p + (q - p) = q by omega]
    have next : ∀ s : Int, wrd (blR σ p (q + 1 - p)) s → wf (d + 1) M_X7_nextToken Q 218 [some (.inr (.inr 294)), none] [.inr (.inl s), .inr (.inr 294)] g := by
      intro s es
      refine B_X7_nextToken_218 ?_
      rw [e7, w32e (z := (q : Int) + 1) (by omega) (by omega), show (q : Int) + 1 = ((q + 1 : Nat) : Int) by omega]
      refine ih (q + 1) _ (by omega) (by omega) (by omega) (fTk_up (fTk_up fg (by omega)) (by omega)) ?_ ?_ (am_up_at _ _ _ _) (by rw [← er]; exact (rnE_step y w).symm) ?_
      · rw [am_up_ne (by omega), am_up_ne (by omega)]; exact e9
      · rw [am_up_ne (by omega), am_up_ne (by omega)]; exact e8
      · rw [am_up_ne (by omega), am_up_at]; exact es
    have small : q - p ≤ 6 → nmW (blR σ p (q - p)) < 281474976710656 := fun z => by
      have : (256 : Int) ^ (q - p) ≤ 256 ^ 6 := by
        rcases (show q - p = 0 ∨ q - p = 1 ∨ q - p = 2 ∨ q - p = 3 ∨ q - p = 4 ∨ q - p = 5 ∨ q - p = 6 by omega) with e | e | e | e | e | e | e <;> rw [e] <;> decide
      have e6 : (256 : Int) ^ 6 = 281474976710656 := by decide
      omega
    have big : q - p = 7 → 281474976710656 ≤ nmW (blR σ p (q - p)) ∧ nmW (blR σ p (q - p)) < 72057594037927936 := fun z => by
      have l2 := lt.2 (fun y => by rw [y] at ln; simp at ln; omega)
      rw [z] at lt l2 ⊢
      have e6 : (256 : Int) ^ 6 = 281474976710656 := by decide
      have e7 : (256 : Int) ^ 7 = 72057594037927936 := by decide
      omega
    -- the word at hand
    have gw : 0 ≤ g 294 11 ∧ g 294 11 ≤ 1152921504606846976 ∧ (g 294 11 < 281474976710656 ↔ q - p ≤ 6) ∧ (q - p ≤ 6 → g 294 11 = nmW (blR σ p (q - p))) := by
      rcases eR with ⟨r1, r2⟩ | ⟨r1, r2⟩
      · rw [ln] at r1
        rw [r2]
        by_cases z : q - p ≤ 6
        · have := small z; exact ⟨nn, by omega, by omega, fun _ => rfl⟩
        · have := big (by omega); exact ⟨nn, by omega, by omega, fun y => absurd y z⟩
      · rw [ln] at r1
        rw [r2]
        exact ⟨by omega, by omega, by omega, fun y => by omega⟩
    have sh : am_lshr (g 294 11) 48 = g 294 11 / 281474976710656 := by
      have e := lshr_n (a := (g 294 11).toNat) (k := 48) (by omega) (by omega)
      rw [show ((48 : Nat) : Int) = 48 from rfl, show (((g 294 11).toNat : Nat) : Int) = g 294 11 by omega] at e
      rw [e]
      have : (2 : Nat) ^ 48 = 281474976710656 := by decide
      rw [this]
      omega
    rw [sh]
    refine ⟨fun y2 => c_byteAt (p := q) tg e7 (fun _ => ?_) (fun y3 => absurd y y3), fun y2 => next _ ?_⟩
    · have y3 := lcmp_eq0.1 y2
      have z6 : q - p ≤ 6 := gw.2.2.1.1 (by omega)
      rw [lor8 (by omega) (by omega)]
      refine next _ (Or.inl ⟨by rw [bs]; simp only [List.length_cons]; omega, ?_⟩)
      rw [bs, gw.2.2.2 z6]
      simp only [nmW]
      omega
    · refine Or.inr ⟨?_, rfl⟩
      rw [bs]
      simp only [List.length_cons]
      have : ¬ q - p ≤ 6 := fun z => y2 (lcmp_eq0.2 (by have := gw.2.2.1.2 z; omega))
      omega
end RNEXT
