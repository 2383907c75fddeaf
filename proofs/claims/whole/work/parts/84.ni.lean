/-! LEVEL 3, pure: what is not looked at changes nothing -/
section NI
variable {t : List Cl} {β β2 : Int → Int} {vo : Bool} {deep base size : Int} {ρ ρ2 : Rd} {S : Nat → Prop}
def insd (S : Nat → Prop) (L : Nat) : Prop := ∀ x, L.testBit x = true → S x
theorem insd_or {a b : Nat} (h : insd S (a ||| b)) : insd S a ∧ insd S b := ⟨fun x q => h x (bit_or_l q), fun x q => h x (bit_or_r q)⟩
theorem insd_mk {a b : Nat} (h : insd S a) (h2 : insd S b) : insd S (a ||| b) := fun x q => by
  rw [Nat.testBit_or] at q
  rcases Bool.or_eq_true_iff.mp q with q | q
  · exact h x q
  · exact h2 x q
/-- the bytes of a set of places are the same -/
def agr (S : Nat → Prop) (β β2 : Int → Int) : Prop := ∀ x : Nat, S x → β x = β2 x
theorem ev_ni {l : Bool} {η : Int → Int} {b : Int} (he : eok l η β b) (hS : agr S β β2) : ∀ e s, ws l e s → insd S (lk η β b e) → ev η β b e = ev η β2 b e ∧ lk η β b e = lk η β2 b e := by
  have one : ∀ (t : Int) (v : Int), insd S (pl1 η b t v) → (t = 7 ∨ t = 8 ∨ t = 9) → un1 η β b t v = un1 η β2 b t v := by
    intro t v hi ht
    unfold un1 pk
    by_cases c7 : t = 7
    · rw [if_pos c7, if_pos c7]
    · rw [if_neg c7, if_neg c7]
      by_cases c8 : t = 8
      · rw [if_pos c8, if_pos c8]
      · rw [if_neg c8, if_neg c8]
        by_cases c : 0 ≤ v ∧ v < η 8
        · rw [if_pos c, if_pos c]
          have e0 := he.1
          unfold pl1 at hi
          rw [if_pos ⟨by omega, c⟩] at hi
          have := hS _ (hi (b + v).toNat Nat.testBit_two_pow_self)
          rw [show (((b + v).toNat : Nat) : Int) = b + v by omega] at this
          exact this
        · rw [if_neg c, if_neg c]
  refine ex_ind (fun v h0 h1 hi => ⟨rfl, rfl⟩) (fun k q hi => ⟨rfl, rfl⟩) (fun t a ht wa ih hi => ?_) (fun a wa ih hi => ?_) (fun t a c _ _ wa wc i1 i2 hi => ?_) (fun t a c _ _ wa wc i1 i2 hi => ?_) (fun t a c _ wa wc i1 i2 hi => ?_) (fun g a e wg wa we i1 i2 i3 hi => ?_)
  · simp only [lk] at hi
    have h2 := insd_or hi
    have i := ih h2.1
    simp only [ev, lk]
    rw [← i.1, ← i.2, one t _ h2.2 (by omega)]
    exact ⟨rfl, rfl⟩
  · simp only [lk] at hi
    have h2 := insd_or hi
    have i := ih h2.1
    simp only [ev, lk]
    rw [← i.1, ← i.2, one 8 _ h2.2 (by omega)]
    exact ⟨rfl, rfl⟩
  · simp only [lk] at hi
    have h2 := insd_or hi
    have a1 := i1 h2.1
    have a2 := i2 h2.2
    simp only [ev, lk]
    rw [a1.1, a1.2, a2.1, a2.2]
    exact ⟨rfl, rfl⟩
  · simp only [lk] at hi
    have h2 := insd_or hi
    have a1 := i1 h2.1
    have a2 := i2 h2.2
    simp only [ev, lk]
    rw [a1.1, a1.2, a2.1, a2.2]
    exact ⟨rfl, rfl⟩
  · simp only [lk] at hi
    have h2 := insd_or hi
    have a1 := i1 h2.1
    have a2 := i2 h2.2
    simp only [ev, lk]
    rw [a1.1, a1.2, a2.1, a2.2]
    exact ⟨rfl, rfl⟩
  · simp only [lk] at hi
    have h2 := insd_or hi
    have a1 := i1 h2.1
    simp only [ev, lk]
    rw [← a1.1, ← a1.2]
    by_cases c : ev η β b g = 0
    · rw [if_pos c] at h2
      have a3 := i3 h2.2
      rw [if_pos c, if_pos c, if_pos c, if_pos c, a3.1, a3.2]
      exact ⟨rfl, rfl⟩
    · rw [if_neg c] at h2
      have a2 := i2 h2.2
      rw [if_neg c, if_neg c, if_neg c, if_neg c, a2.1, a2.2]
      exact ⟨rfl, rfl⟩
/-- two readings are the same at a FIELD, but for RIGHT and WRONG where values alone are asked -/
def rl8 (vo : Bool) (ρ ρ2 : Rd) (g : Nat) : Prop := ρ g 0 = ρ2 g 0 ∧ ρ g 1 = ρ2 g 1 ∧ ρ g 2 = ρ2 g 2 ∧ ρ g 4 = ρ2 g 4 ∧ (ρ g 3 = 1 ↔ ρ2 g 3 = 1) ∧ (vo = false → ρ g 3 = ρ2 g 3)
theorem rl8_refl {g : Nat} : rl8 vo ρ ρ g := ⟨rfl, rfl, rfl, rfl, Iff.rfl, fun _ => rfl⟩
theorem bkn_rl {s : Nat} (h : ∀ g, g < 8 → rl8 vo ρ ρ2 g) : bkn ρ s = bkn ρ2 s := by
  have iff : bkn ρ s = true ↔ bkn ρ2 s = true := by
    rw [bkn_iff, bkn_iff]
    constructor
    · rintro ⟨f, hf, q1, q2⟩; exact ⟨f, hf, q1, (h f hf).2.2.2.2.1.mp q2⟩
    · rintro ⟨f, hf, q1, q2⟩; exact ⟨f, hf, q1, (h f hf).2.2.2.2.1.mpr q2⟩
  cases a : bkn ρ s with
  | true => exact (iff.mp a).symm
  | false =>
    cases b : bkn ρ2 s with
    | false => rfl
    | true => rw [iff.mpr b] at a; cases a
theorem nmR_rl (h : ∀ g, g < 8 → rl8 vo ρ ρ2 g) : nmR ρ deep size = nmR ρ2 deep size := by
  funext k
  unfold nmR
  by_cases c : 0 ≤ k ∧ k < 8
  · rw [if_pos c, if_pos c]
    exact (h k.toNat (by omega)).1
  · rw [if_neg c, if_neg c]
/-- what is nested: the same where it looks -/
def inni (S : Nat → Prop) (vo : Bool) (inn inn2 : Int → Int → Option Rd) : Prop := ∀ b s : Int, 0 ≤ b → 0 ≤ s → b + s ≤ 40 → (inn b s = none ∧ inn2 b s = none) ∨ ∃ ι ι2, inn b s = some ι ∧ inn2 b s = some ι2 ∧ (insd S (nlk ι) → (∀ g, g < 8 → rl8 vo ι ι2 g) ∧ ι 8 1 = ι2 8 1 ∧ ι 8 4 = ι2 8 4)
theorem nval_rl {ι ι2 : Rd} (h : ∀ g, g < 8 → rl8 vo ι ι2 g) : nval t ι = nval t ι2 := by
  unfold nval
  congr 1
  refine sumN_congr 8 (fun g hg => ?_)
  have r := h g hg
  rw [r.1]
  by_cases c : ι g 3 = 1
  · have c2 := r.2.2.2.2.1.mp c
    rw [if_neg (fun z => z.2 c), if_neg (fun z => z.2 c2)]
  · have c2 : ¬ ι2 g 3 = 1 := fun z => c (r.2.2.2.2.1.mpr z)
    by_cases k : kdf t g = 2
    · rw [if_pos ⟨k, c⟩, if_pos ⟨k, c2⟩]
    · rw [if_neg (fun z => k z.1), if_neg (fun z => k z.1)]
theorem nlk_rl {ι ι2 : Rd} (h : ∀ g, g < 8 → rl8 vo ι ι2 g) (h4 : ι 8 4 = ι2 8 4) : nlk ι = nlk ι2 := by
  unfold nlk
  rw [h4]
  congr 1
  exact orN_congr 8 (fun g hg => by rw [(h g hg).2.2.2.1])
theorem snd_rl {ι ι2 : Rd} (h : ∀ g, g < 8 → rl8 false ι ι2 g) (h1 : ι 8 1 = ι2 8 1) : sndR ι = sndR ι2 := by
  have iff : sndR ι = true ↔ sndR ι2 = true := by
    rw [snd_iff, snd_iff, h1]
    constructor
    · rintro ⟨a, b⟩; exact ⟨fun f hf => by rw [← (h f hf).2.2.2.2.2 rfl]; exact a f hf, b⟩
    · rintro ⟨a, b⟩; exact ⟨fun f hf => by rw [(h f hf).2.2.2.2.2 rfl]; exact a f hf, b⟩
  cases a : sndR ι with
  | true => exact (iff.mp a).symm
  | false =>
    cases b : sndR ι2 with
    | false => rfl
    | true => rw [iff.mpr b] at a; cases a
theorem sval_but {p o z : Int} (oz : o ≤ z) : sval β p o z = sm (fun x => if x = p then 0 else β x) o (z - o).toNat % 256 := by
  have e := sm_but (β := β) (b := 0) (p := p) (z - o).toNat o
  rw [Int.zero_add, Int.zero_add] at e
  have f : (fun x => if x = p then 0 else β (0 + x)) = (fun x => if x = p then 0 else β x) := by
    funext x
    rw [Int.zero_add]
  rw [f] at e
  rw [e]
  unfold sval
  congr 2
  by_cases c : o ≤ p ∧ p < z
  · rw [if_pos c, if_pos (by omega)]
  · rw [if_neg c, if_neg (by omega)]
theorem rl8_set {f l : Nat} {v a z w w2 : Int} {g : Nat} (h : rl8 vo ρ ρ2 g) (hw : (w = 1 ↔ w2 = 1) ∧ (vo = false → w = w2)) : rl8 vo (setR ρ f v a z w l) (setR ρ2 f v a z w2 l) g := by
  by_cases e : g = f
  · subst e
    unfold rl8
    obtain ⟨s0, s1, s2, s3, s4⟩ := setR_at (ρ := ρ) (f := g) (v := v) (a := a) (z := z) (w := w) (l := l)
    obtain ⟨t0, t1, t2, t3, t4⟩ := setR_at (ρ := ρ2) (f := g) (v := v) (a := a) (z := z) (w := w2) (l := l)
    rw [s0, s1, s2, s3, s4, t0, t1, t2, t3, t4]
    exact ⟨rfl, rfl, rfl, rfl, hw.1, hw.2⟩
  · unfold rl8
    rw [setR_ne e, setR_ne e, setR_ne e, setR_ne e, setR_ne e, setR_ne e, setR_ne e, setR_ne e, setR_ne e, setR_ne e]
    exact h
theorem rl8_put4 {f : Nat} {v : Int} {g : Nat} (h : rl8 vo ρ ρ2 g) : rl8 vo (putR ρ f 4 v) (putR ρ2 f 4 v) g := by
  have ne : ∀ (r : Rd) c, c ≠ 4 → putR r f 4 v g c = r g c := fun r c hc => putR_ne (by omega)
  unfold rl8
  rw [ne ρ 0 (by omega), ne ρ 1 (by omega), ne ρ 2 (by omega), ne ρ 3 (by omega), ne ρ2 0 (by omega), ne ρ2 1 (by omega), ne ρ2 2 (by omega), ne ρ2 3 (by omega)]
  refine ⟨h.1, h.2.1, h.2.2.1, ?_, h.2.2.2.2.1, h.2.2.2.2.2⟩
  by_cases e : g = f
  · subst e; rw [putR_at, putR_at]
  · rw [putR_ne (by omega), putR_ne (by omega)]; exact h.2.2.2.1
theorem rl8_put8 {g : Nat} {c : Nat} {v w : Int} (hg : g < 8) (h : rl8 vo ρ ρ2 g) : rl8 vo (putR ρ 8 c v) (putR ρ2 8 c w) g := by
  have ne : ∀ (r : Rd) e (x : Int), putR r 8 c x g e = r g e := fun r e x => putR_ne (by omega)
  unfold rl8
  rw [ne ρ, ne ρ, ne ρ, ne ρ, ne ρ, ne ρ2, ne ρ2, ne ρ2, ne ρ2, ne ρ2]
  exact h
theorem stepV_ni {inn inn2 : Int → Int → Option Rd} {f L : Nat} {a z o : Int} (v : 0 ≤ base ∧ 0 ≤ size ∧ base + size ≤ 40) (hS : agr S β β2) (hi : inni S vo inn inn2) (h : ∀ g, g < 8 → rl8 vo ρ ρ2 g) (hf : f < 8) (ho : ¬ kdf t f = 1 → o = a) (hl : insd S (stepV t β vo base size inn ρ f a z o L f 4).toNat) : ∀ g, g < 8 → rl8 vo (stepV t β vo base size inn ρ f a z o L) (stepV t β2 vo base size inn2 ρ2 f a z o L) g := by
  intro g hg
  have bad := rl8_put4 (f := f) (v := (L : Int)) (h g hg)
  unfold stepV at hl ⊢
  by_cases w : 0 ≤ o ∧ o ≤ z ∧ z ≤ size ∧ 0 ≤ a ∧ a ≤ size
  · rw [if_pos w] at hl ⊢
    rw [if_pos w]
    obtain ⟨w1, w2, w3, w4, w5⟩ := w
    by_cases k0 : kdf t f = 0
    · rw [if_pos k0] at hl ⊢
      rw [if_pos k0]
      by_cases q : z - a ≤ 3
      · rw [if_pos q] at hl ⊢
        rw [if_pos q]
        rw [setR_at.2.2.2.2, Int.toNat_natCast] at hl
        have hs := (insd_or hl).2
        have oa := ho (by omega)
        have en : nb β 0 (base + a) (z - a).toNat = nb β2 0 (base + a) (z - a).toNat := nb_congr _ _ _ _ (fun j j0 j1 => by
          have := hS (base + a + j).toNat (hs _ (by rw [spn_bit (by omega)]; exact decide_eq_true (by omega)))
          rw [show (((base + a + j).toNat : Nat) : Int) = base + a + j by omega] at this
          exact this)
        rw [en]
        exact rl8_set (h g hg) ⟨Iff.rfl, fun _ => rfl⟩
      · rw [if_neg q]
        rw [if_neg q]
        exact bad
    · rw [if_neg k0] at hl ⊢
      rw [if_neg k0]
      by_cases k1 : kdf t f = 1
      · rw [if_pos k1] at hl ⊢
        rw [if_pos k1]
        by_cases q : a < size
        · rw [if_pos q] at hl ⊢
          rw [if_pos q]
          rw [setR_at.2.2.2.2, Int.toNat_natCast] at hl
          have hs := (insd_or hl).2
          unfold slk at hs
          have ho2 := insd_or hs
          have es : sval β (base + a) (base + o) (base + z) = sval β2 (base + a) (base + o) (base + z) := by
            rw [sval_but (by omega), sval_but (by omega)]
            congr 1
            refine sm_congr _ _ _ (fun j j0 j1 => ?_)
            by_cases c : base + o + j = base + a
            · rw [if_pos c, if_pos c]
            · rw [if_neg c, if_neg c]
              have := hS (base + o + j).toNat (ho2.1 _ (by
                rw [bset_bit, spn_bit (by omega), spn_bit (by omega)]
                have d1 : decide ((base + o + j).toNat < 40) = true := decide_eq_true (by omega)
                have d2 : decide ((base + o).toNat ≤ (base + o + j).toNat ∧ (base + o + j).toNat < (base + z).toNat) = true := decide_eq_true (by omega)
                have d3 : decide ((base + a).toNat ≤ (base + o + j).toNat ∧ (base + o + j).toNat < (base + a + 1).toNat) = false := decide_eq_false (by omega)
                rw [d1, d2, d3]
                rfl))
              rw [show (((base + o + j).toNat : Nat) : Int) = base + o + j by omega] at this
              exact this
          rw [← es]
          refine rl8_set (h g hg) ⟨⟨fun z => ?_, fun z => ?_⟩, fun vf => ?_⟩
          · split at z <;> omega
          · split at z <;> omega
          · rw [vf, if_neg (by decide)] at ho2
            have := hS (base + a).toNat (ho2.2 _ (by rw [spn_bit (by omega)]; exact decide_eq_true (by omega)))
            rw [show (((base + a).toNat : Nat) : Int) = base + a by omega] at this
            rw [this]
        · rw [if_neg q]
          rw [if_neg q]
          exact bad
      · rw [if_neg k1] at hl ⊢
        rw [if_neg k1]
        have oa := ho k1
        by_cases q : z - a < size
        · rw [if_pos q] at hl ⊢
          rw [if_pos q]
          rcases hi (base + a) (z - a) (by omega) (by omega) (by omega) with ⟨n1, n2⟩ | ⟨ι, ι2, n1, n2, hn⟩
          · rw [n1, n2]; exact bad
          · rw [n1] at hl ⊢
            rw [n2]
            dsimp only at hl ⊢
            rw [putR_ne (by omega), setR_at.2.2.2.2, Int.toNat_natCast] at hl
            have hs := hn (insd_or hl).2
            rw [nval_rl (t := t) hs.1, nlk_rl hs.1 hs.2.2]
            refine rl8_put8 hg (rl8_set (h g hg) ⟨⟨fun z => ?_, fun z => ?_⟩, fun vf => ?_⟩)
            · split at z <;> omega
            · split at z <;> omega
            · subst vf
              rw [snd_rl hs.1 hs.2.1]
        · rw [if_neg q]
          rw [if_neg q]
          exact bad
  · rw [if_neg w]
    rw [if_neg w]
    exact bad
end NI
