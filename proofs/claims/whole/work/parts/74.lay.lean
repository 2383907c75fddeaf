/-! LEVEL 3, ORDER is laid down by the reference -/
section LAY
variable {d : Nat} {h : am_H} {Q : Int → am_H → Prop} {t : Int} {tx : List Cl}
theorem find8 {p : Nat → Bool} {x : Nat} (hx : x < 8) (h1 : p x = true) (h0 : ∀ y, y < x → p y = false) : (List.range 8).find? p = some x := by
  have e : List.range 8 = [0, 1, 2, 3, 4, 5, 6, 7] := by decide
  rw [e]
  rcases (show x = 0 ∨ x = 1 ∨ x = 2 ∨ x = 3 ∨ x = 4 ∨ x = 5 ∨ x = 6 ∨ x = 7 by omega) with rfl | rfl | rfl | rfl | rfl | rfl | rfl | rfl
  · simp [List.find?, h1]
  · simp [List.find?, h1, h0 0 (by omega)]
  · simp [List.find?, h1, h0 0 (by omega), h0 1 (by omega)]
  · simp [List.find?, h1, h0 0 (by omega), h0 1 (by omega), h0 2 (by omega)]
  · simp [List.find?, h1, h0 0 (by omega), h0 1 (by omega), h0 2 (by omega), h0 3 (by omega)]
  · simp [List.find?, h1, h0 0 (by omega), h0 1 (by omega), h0 2 (by omega), h0 3 (by omega), h0 4 (by omega)]
  · simp [List.find?, h1, h0 0 (by omega), h0 1 (by omega), h0 2 (by omega), h0 3 (by omega), h0 4 (by omega), h0 5 (by omega)]
  · simp [List.find?, h1, h0 0 (by omega), h0 1 (by omega), h0 2 (by omega), h0 3 (by omega), h0 4 (by omega), h0 5 (by omega), h0 6 (by omega)]
theorem find8n {p : Nat → Bool} (h0 : ∀ y, y < 8 → p y = false) : (List.range 8).find? p = none := by
  have e : List.range 8 = [0, 1, 2, 3, 4, 5, 6, 7] := by decide
  rw [e]
  simp [List.find?, h0 0 (by omega), h0 1 (by omega), h0 2 (by omega), h0 3 (by omega), h0 4 (by omega), h0 5 (by omega), h0 6 (by omega), h0 7 (by omega)]
/-- how many are not placed -/
def ct (p : Nat) : Nat := (List.range 8).countP (fun f => !p.testBit f)
theorem ct_put : ∀ p : Nat, p < 256 → ∀ f : Nat, f < 8 → p.testBit f = false → ct (p ||| 2 ^ f) + 1 = ct p := by decide +kernel
theorem ct_zero : ∀ p : Nat, p < 256 → ct p = 0 → ∀ f : Nat, f < 8 → p.testBit f = true := by decide +kernel
theorem rdy_iff {tt : Nat} {hg : Nat → Nat} {placed f : Nat} : rdy tt hg placed f = true ↔ tt.testBit f = true ∧ placed.testBit f = false ∧ ∀ g, g < 8 → (hg f).testBit g = true → tt.testBit g = true → placed.testBit g = true := by
  unfold rdy
  rw [Bool.and_eq_true, Bool.and_eq_true, List.all_eq_true]
  constructor
  · rintro ⟨⟨a, b⟩, c⟩
    refine ⟨a, by simpa using b, fun g hg2 h1 h2 => ?_⟩
    have := c g (List.mem_range.mpr hg2)
    simpa [h1, h2] using this
  · rintro ⟨a, b, c⟩
    refine ⟨⟨a, by simp [b]⟩, fun g hg2 => ?_⟩
    have := c g (List.mem_range.mp hg2)
    cases h1 : (hg f).testBit g <;> cases h2 : tt.testBit g <;> simp
    exact this h1 h2
/-- what is nothing of what is not placed -/
theorem and_zero {s tt placed : Nat} (hs : s < 256) : (s &&& tt) &&& (placed ^^^ 4294967295) = 0 ↔ ∀ g, g < 8 → s.testBit g = true → tt.testBit g = true → placed.testBit g = true := by
  have hl : s &&& tt < 2147483648 := Nat.lt_of_le_of_lt Nat.and_le_left (by omega)
  constructor
  · intro q g hg h1 h2
    have e : ((s &&& tt) &&& (placed ^^^ 4294967295)).testBit g = false := by rw [q]; exact Nat.zero_testBit g
    rw [andn_bit hl, Nat.testBit_and, h1, h2] at e
    simpa using e
  · intro q
    refine bits_ext (n := 8) (Nat.lt_of_le_of_lt Nat.and_le_left (Nat.lt_of_le_of_lt Nat.and_le_left hs)) (by decide) (fun g hg => ?_)
    rw [andn_bit hl, Nat.testBit_and, Nat.zero_testBit]
    cases h1 : s.testBit g with
    | false => rfl
    | true =>
      cases h2 : tt.testBit g with
      | false => rfl
      | true => rw [q g hg h1 h2]; rfl
/-- only ORDER is other -/
def fY (h g : am_H) : Prop := (∀ b : Int, b ≠ 294 → b < 305 ∨ 307 < b → g b = h b) ∧ ∀ j : Int, j ≠ 31 → j ≠ 32 → j ≠ 33 → g 294 j = h 294 j
theorem fY_up {g : am_H} {r i v : Int} (f : fY h g) (q : (r = 294 ∧ (i = 31 ∨ i = 32 ∨ i = 33)) ∨ (305 ≤ r ∧ r ≤ 307)) : fY h (am_up g r i v) := by
  refine ⟨fun b q1 q2 => ?_, fun j q1 q2 q3 => ?_⟩
  · rw [← f.1 b q1 q2]; funext j; exact am_up_ne (by omega)
  · rw [am_up_ne (by omega)]; exact f.2 j q1 q2 q3
/-- the FIELDS, by their CLAUSES, and what they hang on -/
def lay2 (g : am_H) (tx : List Cl) : Prop := (∀ f : Nat, f < 8 → g 305 f = co tx f ∧ g 306 f = ((hgu tx f &&& told tx : Nat) : Int)) ∧ g 294 32 = (told tx : Nat)
theorem l_lay153 (ok : okx tx) (k : ∀ g2, fY h g2 → rlay g2 tx → Q 0 g2) : ∀ (n placed : Nat) (pre : List Nat) (g : am_H), placed < 256 → pre ++ ordS (told tx) (hgu tx) n placed = ord tx → ct placed ≤ n → (∀ f, f < 8 → placed.testBit f = pre.contains f) → fY h g → lay2 g tx → g 294 31 = pre.length → (∀ i : Nat, i < pre.length → g 307 i = (pre.getD i 0 : Nat)) → wf (d + 1) M_X7_layOrder Q 153 [some (.inr (.inr 294)), none, some (.inl (placed : Int)), some (.inl 0)] [] g := by
  intro n
  induction n with
  | zero =>
    intro placed pre g hp hpre hct hpl fg lg e31 e307
    have all := ct_zero placed hp (by omega)
    have tl := told_lt (tx := tx)
    have scan : ∀ (m f : Nat), f + m = 8 → wf (d + 1) M_X7_layOrder Q 153 [some (.inr (.inr 294)), none, some (.inl (placed : Int)), some (.inl (f : Int))] [] g := by
      intro m
      induction m with
      | zero =>
        intro f hf
        refine B_X7_layOrder_153 ⟨fun _ => ?_, fun q => by omega⟩
        rw [lg.2, andn_n (by omega)]
        simp only [ordS, List.append_nil] at hpre
        refine k _ (fY_up fg (by omega)) ⟨fun f hf => ?_, ?_, ?_, fun i hi => ?_, ?_⟩
        · rw [am_up_ne (by omega), am_up_ne (by omega)]; exact lg.1 f hf
        · rw [am_up_ne (by omega), e31, hpre]
        · rw [am_up_ne (by omega)]; exact lg.2
        · rw [am_up_ne (by omega), ← hpre]; exact e307 i (by rw [hpre]; exact hi)
        · rw [am_up_at]
          congr 1
          refine bits_ext (n := 8) (Nat.lt_of_le_of_lt Nat.and_le_left tl) (bset_lt 8) (fun f hf => ?_)
          rw [andn_bit (by omega), bset_bit, hpl f hf, hpre]
          simp [hf]
      | succ m ih =>
        intro f hf
        refine B_X7_layOrder_153 ⟨fun q => by omega, fun _ => ?_⟩
        rw [lg.2, andn_n (by omega)]
        refine c_X7_has (Nat.lt_of_le_of_lt Nat.and_le_left (by omega)) (by omega) (fun q => ?_) (fun q => ⟨fun _ => B_X7_layOrder_218 ?_, fun c => absurd rfl c⟩)
        · rw [andn_bit (by omega), all f (by omega)] at q
          simp at q
        · rw [w32e (by omega) (by omega), show (f : Int) + 1 = ((f + 1 : Nat) : Int) by omega]
          exact ih (f + 1) (by omega)
    exact scan 8 0 (by omega)
  | succ n ihn =>
    intro placed pre g hp hpre hct hpl fg lg e31 e307
    have tl := told_lt (tx := tx)
    have scan : ∀ (m f : Nat), f + m = 8 → (∀ y, y < f → rdy (told tx) (hgu tx) placed y = false) → wf (d + 1) M_X7_layOrder Q 153 [some (.inr (.inr 294)), none, some (.inl (placed : Int)), some (.inl (f : Int))] [] g := by
      intro m
      induction m with
      | zero =>
        intro f hf hn
        have none8 : lowR (told tx) (hgu tx) placed = none := find8n (fun y hy => hn y (by omega))
        refine B_X7_layOrder_153 ⟨fun _ => ?_, fun q => by omega⟩
        rw [lg.2, andn_n (by omega)]
        simp only [ordS, none8, List.append_nil] at hpre
        refine k _ (fY_up fg (by omega)) ⟨fun f hf => ?_, ?_, ?_, fun i hi => ?_, ?_⟩
        · rw [am_up_ne (by omega), am_up_ne (by omega)]; exact lg.1 f hf
        · rw [am_up_ne (by omega), e31, hpre]
        · rw [am_up_ne (by omega)]; exact lg.2
        · rw [am_up_ne (by omega), ← hpre]; exact e307 i (by rw [hpre]; exact hi)
        · rw [am_up_at]
          congr 1
          refine bits_ext (n := 8) (Nat.lt_of_le_of_lt Nat.and_le_left tl) (bset_lt 8) (fun f hf => ?_)
          rw [andn_bit (by omega), bset_bit, hpl f hf, hpre]
          simp [hf]
      | succ m ih =>
        intro f hf hn
        have f8 : f < 8 := by omega
        have skip : rdy (told tx) (hgu tx) placed f = false → wf (d + 1) M_X7_layOrder Q 218 [some (.inr (.inr 294)), none, some (.inl (placed : Int)), some (.inl (f : Int))] [] g := by
          intro q
          refine B_X7_layOrder_218 ?_
          rw [w32e (by omega) (by omega), show (f : Int) + 1 = ((f + 1 : Nat) : Int) by omega]
          refine ih (f + 1) (by omega) (fun y hy => ?_)
          by_cases e : y = f
          · rw [e]; exact q
          · exact hn y (by omega)
        have hl := hgu_lt (f := f) ok
        have rf := rdy_iff (tt := told tx) (hg := hgu tx) (placed := placed) (f := f)
        have nrdy : ¬ rdy (told tx) (hgu tx) placed f = true → rdy (told tx) (hgu tx) placed f = false := fun q => by
          cases z : rdy (told tx) (hgu tx) placed f with
          | true => exact absurd z q
          | false => rfl
        refine B_X7_layOrder_153 ⟨fun q => by omega, fun _ => ?_⟩
        rw [lg.2, andn_n (by omega)]
        refine c_X7_has (Nat.lt_of_le_of_lt Nat.and_le_left (by omega)) (by omega) (fun q => ⟨fun c => by omega, fun _ => ?_⟩) (fun q => ⟨fun _ => skip (nrdy (fun z => ?_)), fun c => absurd rfl c⟩)
        rw [(lg.1 f f8).2, andn_n (Nat.lt_of_le_of_lt Nat.and_le_left (by omega)), e31]
        refine ⟨by omega, fun c => skip (nrdy (fun z => c ?_)), fun c => ?_⟩
        · have zz := (and_zero (tt := told tx) (placed := placed) hl).mpr (rf.mp z).2.2
          rw [zz]; rfl
        · have zz := (and_zero (tt := told tx) (placed := placed) hl).mp (by omega)
          rw [andn_bit (by omega), Bool.and_eq_true] at q
          have pf : placed.testBit f = false := by simpa using q.2
          have ry : rdy (told tx) (hgu tx) placed f = true := rf.mpr ⟨q.1, pf, zz⟩
          have some8 : lowR (told tx) (hgu tx) placed = some f := find8 f8 ry hn
          simp only [ordS, some8] at hpre
          have p8 : 2 ^ f < 256 := Nat.pow_lt_pow_right (n := 8) (by decide) f8
          have lp : pre.length < 8 := by
            have := ord_len (tx := tx)
            rw [← hpre] at this
            simp at this
            omega
          rw [ishl1 (by omega), ior_n (by omega) (by omega), w32e (by omega) (by omega)]
          refine ⟨by omega, by omega, ihn (placed ||| 2 ^ f) (pre ++ [f]) _ (Nat.or_lt_two_pow (n := 8) hp p8) (by rw [List.append_assoc]; exact hpre) (by have := ct_put placed hp f f8 pf; omega) (fun y hy => ?_) (fY_up (fY_up fg (by omega)) (by omega)) ⟨fun y hy => ?_, ?_⟩ ?_ (fun i hi => ?_)⟩
          · rw [Nat.testBit_or, pow_bit, hpl y hy]
            by_cases e : f = y
            · subst e; simp
            · have e' : ¬ y = f := fun z => e z.symm
              simp [e, e']
          · rw [am_up_ne (by omega), am_up_ne (by omega), am_up_ne (by omega), am_up_ne (by omega)]; exact lg.1 y hy
          · rw [am_up_ne (by omega), am_up_ne (by omega)]; exact lg.2
          · rw [am_up_at]; simp
          · rw [am_up_ne (by omega)]
            by_cases e : i = pre.length
            · subst e
              rw [am_up_at]
              simp
            · rw [am_up_ne (by omega)]
              have hi2 : i < pre.length := by
                simp at hi
                omega
              rw [e307 i hi2]
              congr 1
              rw [List.getD_eq_getElem?_getD, List.getD_eq_getElem?_getD, List.getElem?_append_left hi2]
        · rw [andn_bit (by omega), (rf.mp z).1, (rf.mp z).2.1] at q
          simp at q
    exact scan 8 0 (by omega) (fun y hy => by omega)
end LAY
