/-! LEVEL 3, pure: a reading of some FIELDS is the reading of all, where these need no other -/
section PURE
variable {tx : List Cl} {β : Int → Int} {vo : Bool} {deep base size : Int} {ρ : Rd}
theorem bit_or_l {a b i : Nat} (h : a.testBit i = true) : (a ||| b).testBit i = true := by rw [Nat.testBit_or, h]; rfl
theorem bit_or_r {a b i : Nat} (h : b.testBit i = true) : (a ||| b).testBit i = true := by rw [Nat.testBit_or, h]; exact Bool.or_true _
theorem ev_congr {η η2 : Int → Int} {b : Int} (e8 : η 8 = η2 8) (e9 : η 9 = η2 9) : ∀ e s, ws false e s → (∀ k : Nat, k < 8 → (nx e).testBit k = true → η k = η2 k) → ev η β b e = ev η2 β b e ∧ lk η β b e = lk η2 β b e := by
  refine ex_ind (fun v h0 h1 hn => ⟨rfl, rfl⟩) (fun k q hn => ⟨?_, rfl⟩) (fun t a ht wa ih hn => ?_) (fun a wa ih hn => ?_) (fun t a c _ _ wa wc i1 i2 hn => ?_) (fun t a c _ _ wa wc i1 i2 hn => ?_) (fun t a c _ wa wc i1 i2 hn => ?_) (fun g a e wg wa we i1 i2 i3 hn => ?_)
  · simp only [ev]
    unfold al at q
    simp at q
    by_cases c : k < 8
    · refine hn k c ?_
      simp only [nx]
      rw [if_pos c]
      exact Nat.testBit_two_pow_self
    · by_cases c8 : k = 8
      · subst c8; exact e8
      · have : k = 9 := by omega
        subst this; exact e9
  · have i := ih hn
    simp only [ev, lk]
    rw [i.1, i.2]
    unfold un1 pl1 pk
    rw [e8]
    exact ⟨rfl, rfl⟩
  · have i := ih hn
    simp only [ev, lk]
    rw [i.1, i.2]
    unfold un1 pl1 pk
    rw [e8]
    exact ⟨rfl, rfl⟩
  · have a1 := i1 (fun k k0 q => hn k k0 (bit_or_l q))
    have a2 := i2 (fun k k0 q => hn k k0 (bit_or_r q))
    simp only [ev, lk]
    rw [a1.1, a1.2, a2.1, a2.2]
    exact ⟨rfl, rfl⟩
  · have a1 := i1 (fun k k0 q => hn k k0 (bit_or_l q))
    have a2 := i2 (fun k k0 q => hn k k0 (bit_or_r q))
    simp only [ev, lk]
    rw [a1.1, a1.2, a2.1, a2.2]
    exact ⟨rfl, rfl⟩
  · have a1 := i1 (fun k k0 q => hn k k0 (bit_or_l q))
    have a2 := i2 (fun k k0 q => hn k k0 (bit_or_r q))
    simp only [ev, lk]
    rw [a1.1, a1.2, a2.1, a2.2]
    exact ⟨rfl, rfl⟩
  · have a1 := i1 (fun k k0 q => hn k k0 (bit_or_l (bit_or_l q)))
    have a2 := i2 (fun k k0 q => hn k k0 (bit_or_l (bit_or_r q)))
    have a3 := i3 (fun k k0 q => hn k k0 (bit_or_r q))
    simp only [ev, lk]
    rw [a1.1, a1.2, a2.1, a2.2, a3.1, a3.2]
    exact ⟨rfl, rfl⟩
theorem bkn_congr {ρ2 : Rd} {s : Nat} (h : ∀ g, g < 8 → s.testBit g = true → ρ g 3 = ρ2 g 3) : bkn ρ s = bkn ρ2 s := by
  have iff : bkn ρ s = true ↔ bkn ρ2 s = true := by
    rw [bkn_iff, bkn_iff]
    constructor
    · rintro ⟨f, hf, q1, q2⟩; exact ⟨f, hf, q1, by rw [← h f hf q1]; exact q2⟩
    · rintro ⟨f, hf, q1, q2⟩; exact ⟨f, hf, q1, by rw [h f hf q1]; exact q2⟩
  cases a : bkn ρ s with
  | true => exact (iff.mp a).symm
  | false =>
    cases b : bkn ρ2 s with
    | false => rfl
    | true => rw [iff.mpr b] at a; cases a
/-- what a FIELD hangs on -/
theorem hgu_f {f : Nat} (hc : 0 ≤ co tx f) : hgu tx f = nx (fcl tx f).2.2.2.1 ||| nx (fcl tx f).2.2.2.2.1 ||| nx (fcl tx f).2.2.2.2.2 := by
  unfold hgu
  rw [if_neg (by omega)]
  rfl
theorem nm_agree {ρ2 : Rd} {s : Nat} (h : ∀ g, g < 8 → s.testBit g = true → ρ g 0 = ρ2 g 0) : ∀ k : Nat, k < 8 → s.testBit k = true → nmR ρ deep size k = nmR ρ2 deep size k := fun k k0 q => by rw [nmR_k k0, nmR_k k0]; exact h k k0 q
theorem parts_congr {ρ2 : Rd} {f : Nat} (ok : okx tx) (hc : 0 ≤ co tx f) (h : ∀ g, g < 8 → (hgu tx f).testBit g = true → ρ g 0 = ρ2 g 0) : fa tx β deep base size ρ f = fa tx β deep base size ρ2 f ∧ fz tx β deep base size ρ f = fz tx β deep base size ρ2 f ∧ fo tx β deep base size ρ f = fo tx β deep base size ρ2 f ∧ fL tx β deep base size ρ f = fL tx β deep base size ρ2 f := by
  have w := fcl_ws ok hc
  have hh := hgu_f hc
  have n8 : nmR ρ deep size 8 = nmR ρ2 deep size 8 := by rw [nmR_8, nmR_8]
  have n9 : nmR ρ deep size 9 = nmR ρ2 deep size 9 := by rw [nmR_9, nmR_9]
  have a := ev_congr (β := β) (b := base) n8 n9 _ _ w.1 (nm_agree (fun g hg q => h g hg (by rw [hh]; exact bit_or_l (bit_or_l q))))
  have z := ev_congr (β := β) (b := base) n8 n9 _ _ w.2.1 (nm_agree (fun g hg q => h g hg (by rw [hh]; exact bit_or_l (bit_or_r q))))
  have o := ev_congr (β := β) (b := base) n8 n9 _ _ w.2.2.1 (nm_agree (fun g hg q => h g hg (by rw [hh]; exact bit_or_r q)))
  unfold fa fz fo fL
  unfold fa
  rw [a.1, a.2, z.1, z.2, o.1, o.2]
  exact ⟨rfl, rfl, rfl, rfl⟩
/-- a step is the same for both, at its FIELD -/
theorem stepV_row {inn : Int → Int → Option Rd} {ρ2 : Rd} {f L : Nat} {a z o : Int} (hf : f < 8) (h : ∀ c, ρ f c = ρ2 f c) : ∀ c, stepV tx β vo base size inn ρ f a z o L f c = stepV tx β vo base size inn ρ2 f a z o L f c := by
  intro c
  have p : ∀ v : Int, putR ρ f 4 v f c = putR ρ2 f 4 v f c := fun v => by
    unfold putR
    split
    · rfl
    · exact h c
  have s : ∀ (v a z w : Int) (l : Nat), setR ρ f v a z w l f c = setR ρ2 f v a z w l f c := fun v a z w l => by
    unfold setR
    rw [if_pos rfl, if_pos rfl, h c]
  unfold stepV
  repeat' split
  all_goals first | exact p _ | exact s _ _ _ _ _ | (cases inn (base + a) (z - a) with
    | none => exact p _
    | some ι => (dsimp only; rw [putR_ne (by omega), putR_ne (by omega)]; exact s _ _ _ _ _))
theorem stepV_other {inn : Int → Int → Option Rd} {f g L : Nat} {a z o : Int} (hg : g < 8) (gf : g ≠ f) (c : Nat) : stepV tx β vo base size inn ρ f a z o L g c = ρ g c := by
  unfold stepV
  repeat' split
  all_goals first | exact putR_ne (by omega) | exact setR_ne gf | (cases inn (base + a) (z - a) with
    | none => exact putR_ne (by omega)
    | some ι => (dsimp only; rw [putR_ne (by omega)]; exact setR_ne gf))
theorem stepF_other {inn : Int → Int → Option Rd} {f g : Nat} (hg : g < 8) (gf : g ≠ f) (c : Nat) : stepF tx β vo deep base size inn ρ f g c = ρ g c := by
  unfold stepF
  split
  · rfl
  · exact stepV_other hg gf c
theorem stepF_row {inn : Int → Int → Option Rd} {ρ2 : Rd} {f : Nat} (ok : okx tx) (hf : f < 8) (hc : 0 ≤ co tx f) (hself : ∀ c, ρ f c = ρ2 f c) (h : ∀ g, g < 8 → (hgu tx f).testBit g = true → ∀ c, ρ g c = ρ2 g c) : ∀ c, stepF tx β vo deep base size inn ρ f f c = stepF tx β vo deep base size inn ρ2 f f c := by
  intro c
  have p := parts_congr (β := β) (deep := deep) (base := base) (size := size) ok hc (fun g hg q => h g hg q 0)
  have b := bkn_congr (s := hgu tx f) (fun g hg q => h g hg q 3)
  unfold stepF
  rw [b]
  split
  · exact hself c
  · rw [p.1, p.2.1, p.2.2.1, p.2.2.2]
    exact stepV_row hf hself c
/-- some FIELDS read, and all read: the same, where the ones need no other -/
theorem flds_part {inn : Int → Int → Option Rd} {W : Nat} (ok : okx tx) (cl : ∀ f, f ∈ ord tx → W.testBit f = true → ∀ g, g < 8 → (hgu tx f).testBit g = true → g ∈ ord tx → W.testBit g = true) : ∀ (l : List Nat) (ρ ρ2 : Rd), (∀ f, f ∈ l → f ∈ ord tx) → (∀ g, g < 8 → (W.testBit g = true ∨ g ∉ ord tx) → ∀ c, ρ g c = ρ2 g c) → ∀ g, g < 8 → (W.testBit g = true ∨ g ∉ ord tx) → ∀ c, flds tx β vo deep base size inn W l ρ g c = flds tx β vo deep base size inn 255 l ρ2 g c
  | [], ρ, ρ2, _, h, g, hg, q, c => h g hg q c
  | f :: l, ρ, ρ2, hl, h, g, hg, q, c => by
    have hf := hl f List.mem_cons_self
    have om := ord_mem hf
    have f255 : (255 : Nat).testBit f = true := by
      rw [show (255 : Nat) = 2 ^ 8 - 1 from rfl, Nat.testBit_two_pow_sub_one]
      exact decide_eq_true om.1
    simp only [flds]
    rw [if_pos f255]
    refine flds_part ok cl l _ _ (fun x hx => hl x (List.mem_cons_of_mem _ hx)) (fun x hx qx cc => ?_) g hg q c
    by_cases w : W.testBit f = true
    · rw [if_pos w]
      by_cases e : x = f
      · subst e
        refine stepF_row ok hx om.2 (fun c => h x hx (Or.inl w) c) (fun y hy qy c => h y hy ?_ c) cc
        by_cases m : y ∈ ord tx
        · exact Or.inl (cl x hf w y hy qy m)
        · exact Or.inr m
      · rw [stepF_other hx e, stepF_other hx e]
        exact h x hx qx cc
    · rw [if_neg w]
      have e : x ≠ f := fun e => by
        subst e
        rcases qx with qx | qx
        · exact w qx
        · exact qx hf
      rw [stepF_other hx e]
      exact h x hx qx cc
theorem mst1_row {k : Int} {c0 : Cl} {g : Nat} (hg : g < 8) (c : Nat) : mst1 β deep base size ρ k c0 g c = ρ g c := by
  unfold mst1
  try dsimp only
  repeat' split
  all_goals first | rfl | exact putR_ne (by omega) | (rw [putR_ne (by omega)]; exact putR_ne (by omega))
theorem msts_row {g : Nat} (hg : g < 8) (c : Nat) : ∀ (l : List Cl) (k : Int) (ρ : Rd), msts β deep base size l k ρ g c = ρ g c
  | [], _, _ => rfl
  | c0 :: l, k, ρ => by
    simp only [msts]
    rw [msts_row hg c l]
    split
    · exact mst1_row hg c
    · rfl
theorem lvl_part {inn : Int → Int → Option Rd} {W : Nat} (ok : okx tx) (cl : ∀ f, f ∈ ord tx → W.testBit f = true → ∀ g, g < 8 → (hgu tx f).testBit g = true → g ∈ ord tx → W.testBit g = true) {g : Nat} (hg : g < 8) (q : W.testBit g = true ∨ g ∉ ord tx) (c : Nat) : lvl tx β vo deep inn W base size g c = lvl tx β vo deep inn 255 base size g c := by
  have z := flds_part (β := β) (vo := vo) (deep := deep) (base := base) (size := size) (inn := inn) ok cl (ord tx) (rd0 tx deep) (rd0 tx deep) (fun f hf => hf) (fun _ _ _ _ => rfl) g hg q c
  unfold lvl
  rw [if_pos rfl, msts_row hg]
  split
  · rw [msts_row hg]; exact z
  · exact z
/-- what is in RING, or not told, is as at first -/
theorem flds_out {inn : Int → Int → Option Rd} {W g : Nat} (hg : g < 8) (c : Nat) : ∀ (l : List Nat) (ρ : Rd), g ∉ l → flds tx β vo deep base size inn W l ρ g c = ρ g c
  | [], _, _ => rfl
  | f :: l, ρ, h => by
    simp only [flds]
    rw [flds_out hg c l _ (fun z => h (List.mem_cons_of_mem _ z))]
    split
    · exact stepF_other hg (fun e => h (e ▸ List.mem_cons_self)) c
    · rfl
theorem lvl_out {inn : Int → Int → Option Rd} {W g : Nat} (hg : g < 8) (h : g ∉ ord tx) (c : Nat) : lvl tx β vo deep inn W base size g c = rd0 tx deep g c := by
  unfold lvl
  split
  · rw [msts_row hg, flds_out hg c _ _ h]
  · rw [flds_out hg c _ _ h]
/-! what a FIELD needs -/
theorem ordS_hang : ∀ (n placed : Nat) (pre : List Nat), (∀ f, f < 8 → placed.testBit f = true → f ∈ pre) → ∀ (l1 l2 : List Nat) (f : Nat), ordS (told tx) (hgu tx) n placed = l1 ++ f :: l2 → ∀ g, g < 8 → (hgu tx f).testBit g = true → 0 ≤ co tx g → g ∈ pre ++ l1
  | 0, placed, pre, hp, l1, l2, f, e, g, hg, q, hc => by
    simp only [ordS] at e
    cases l1 <;> cases e
  | n + 1, placed, pre, hp, l1, l2, f, e, g, hg, q, hc => by
    simp only [ordS] at e
    cases lo : lowR (told tx) (hgu tx) placed with
    | none =>
      rw [lo] at e
      cases l1 <;> cases e
    | some x =>
      rw [lo] at e
      have ls := low_some lo
      have ri := rdy_iff.mp ls.2
      cases l1 with
      | nil =>
        cases e
        rw [List.append_nil]
        exact hp g hg (ri.2.2 g hg q (by rw [told_bit hg]; exact decide_eq_true hc))
      | cons y l1 =>
        simp only [List.cons_append, List.cons.injEq] at e
        obtain ⟨rfl, e⟩ := e
        have i := ordS_hang n (placed ||| 2 ^ x) (pre ++ [x]) (fun w hw qw => by
          rw [Nat.testBit_or, pow_bit] at qw
          rcases Bool.or_eq_true_iff.mp qw with qw | qw
          · exact List.mem_append_left _ (hp w hw qw)
          · have : x = w := by simpa using qw
            subst this
            exact List.mem_append_right _ List.mem_cons_self) l1 l2 f e g hg q hc
        rw [List.append_assoc] at i
        exact i
theorem ord_hang {l1 l2 : List Nat} {f : Nat} (e : ord tx = l1 ++ f :: l2) {g : Nat} (hg : g < 8) (q : (hgu tx f).testBit g = true) (hc : 0 ≤ co tx g) : g ∈ l1 := by
  have z := ordS_hang (tx := tx) 8 0 [] (fun f _ q => by rw [Nat.zero_testBit] at q; cases q) l1 l2 f e g hg q hc
  simpa using z
theorem orN_bit {g : Nat → Nat} {i : Nat} : ∀ n, (orN g n).testBit i = true ↔ ∃ j, j < n ∧ (g j).testBit i = true
  | 0 => by simp [orN]
  | n + 1 => by
    simp only [orN, Nat.testBit_or, Bool.or_eq_true, orN_bit n]
    constructor
    · rintro (⟨j, hj, q⟩ | q)
      · exact ⟨j, by omega, q⟩
      · exact ⟨n, by omega, q⟩
    · rintro ⟨j, hj, q⟩
      by_cases e : j = n
      · subst e; exact Or.inr q
      · exact Or.inl ⟨j, by omega, q⟩
/-- what is gathered, up to a place of ORDER -/
def gok (tx : List Cl) (pre : List Nat) (G : Nat → Nat) : Prop := (∀ f, f ∉ pre → G f = 0) ∧ (∀ f, f ∈ pre → (G f).testBit f = true) ∧ (∀ f x, (G f).testBit x = true → x ∈ pre ∧ ∀ g, g < 8 → (hgu tx x).testBit g = true → g ∈ ord tx → (G f).testBit g = true) ∧ ∀ (f : Nat) (S : Nat → Prop), S f → (∀ x g, S x → g < 8 → (hgu tx x).testBit g = true → g ∈ ord tx → S g) → ∀ x, (G f).testBit x = true → S x
theorem gok_step {pre l2 : List Nat} {f : Nat} {G : Nat → Nat} (e : ord tx = pre ++ f :: l2) (h : gok tx pre G) : gok tx (pre ++ [f]) (fun x => if x = f then 2 ^ f ||| orN (fun y => if (hgu tx f).testBit y = true then G y else 0) 8 else G x) := by
  obtain ⟨h1, h2, h3, h4⟩ := h
  have nd : f ∉ pre := by
    have n := ord_nodup (tx := tx)
    rw [e] at n
    intro hm
    have := (List.nodup_append.mp n).2.2 f hm f List.mem_cons_self
    exact this rfl
  have bit : ∀ x, (2 ^ f ||| orN (fun y => if (hgu tx f).testBit y = true then G y else 0) 8).testBit x = true ↔ x = f ∨ ∃ y, y < 8 ∧ (hgu tx f).testBit y = true ∧ (G y).testBit x = true := by
    intro x
    rw [Nat.testBit_or, Bool.or_eq_true, orN_bit, pow_bit]
    constructor
    · rintro (q | ⟨y, hy, q⟩)
      · exact Or.inl (by simpa using q : f = x).symm
      · by_cases c : (hgu tx f).testBit y = true
        · rw [if_pos c] at q; exact Or.inr ⟨y, hy, c, q⟩
        · rw [if_neg c, Nat.zero_testBit] at q; cases q
    · rintro (rfl | ⟨y, hy, c, q⟩)
      · exact Or.inl (by simp)
      · exact Or.inr ⟨y, hy, by rw [if_pos c]; exact q⟩
  have omem : ∀ g, g ∈ ord tx → g < 8 ∧ 0 ≤ co tx g := fun g hg => ord_mem hg
  refine ⟨fun x hx => ?_, fun x hx => ?_, fun x y hy => ?_, fun x S hS hcl y hy => ?_⟩
  · have x1 : x ≠ f := fun z => hx (by rw [z]; exact List.mem_append_right _ List.mem_cons_self)
    dsimp only
    rw [if_neg x1]
    exact h1 x (fun z => hx (List.mem_append_left _ z))
  · dsimp only
    by_cases c : x = f
    · rw [if_pos c, bit, c]; exact Or.inl rfl
    · rw [if_neg c]
      refine h2 x ?_
      rcases List.mem_append.mp hx with z | z
      · exact z
      · exact absurd (by simpa using z) c
  · dsimp only at hy ⊢
    by_cases c : x = f
    · rw [if_pos c] at hy ⊢
      rw [bit] at hy
      rcases hy with rfl | ⟨w, hw, q1, q2⟩
      · refine ⟨List.mem_append_right _ List.mem_cons_self, fun g hg qg mg => ?_⟩
        rw [bit]
        exact Or.inr ⟨g, hg, qg, h2 g (ord_hang e hg qg (omem g mg).2)⟩
      · have i := h3 w y q2
        refine ⟨List.mem_append_left _ i.1, fun g hg qg mg => ?_⟩
        rw [bit]
        exact Or.inr ⟨w, hw, q1, i.2 g hg qg mg⟩
    · rw [if_neg c] at hy ⊢
      have i := h3 x y hy
      exact ⟨List.mem_append_left _ i.1, i.2⟩
  · dsimp only at hy
    by_cases c : x = f
    · rw [if_pos c, bit] at hy
      subst c
      rcases hy with rfl | ⟨w, hw, q1, q2⟩
      · exact hS
      · have wm : w ∈ ord tx := by
          have wp : w ∈ pre := by
            by_cases z : w ∈ pre
            · exact z
            · rw [h1 w z, Nat.zero_testBit] at q2; cases q2
          rw [e]; exact List.mem_append_left _ wp
        exact h4 w S (hcl x w hS hw q1 wm) hcl y q2
    · rw [if_neg c] at hy
      exact h4 x S hS hcl y hy
theorem ndA_gok : ∀ (l2 pre : List Nat) (G : Nat → Nat), ord tx = pre ++ l2 → gok tx pre G → gok tx (ord tx) (ndA tx l2 G)
  | [], pre, G, e, h => by
    rw [List.append_nil] at e
    rw [e]
    exact h
  | f :: l2, pre, G, e, h => by
    simp only [ndA]
    exact ndA_gok l2 (pre ++ [f]) _ (by rw [List.append_assoc]; exact e) (gok_step e h)
theorem need_ok : gok tx (ord tx) (needF tx) := ndA_gok (ord tx) [] (fun _ => 0) rfl ⟨fun _ _ => rfl, (fun f hf => by cases hf), (fun f x hx => by rw [Nat.zero_testBit] at hx; cases hx), fun f S _ _ x hx => by rw [Nat.zero_testBit] at hx; cases hx⟩
/-- what is needed needs no other -/
theorem need_cl (f0 : Nat) : ∀ f, f ∈ ord tx → (needF tx f0).testBit f = true → ∀ g, g < 8 → (hgu tx f).testBit g = true → g ∈ ord tx → (needF tx f0).testBit g = true :=
  fun f _ q g hg qg mg => (need_ok (tx := tx)).2.2.1 f0 f q |>.2 g hg qg mg
theorem needK_bit {k : Int} {x : Nat} : (needK tx k).testBit x = true ↔ ∃ f, f < 8 ∧ f ∈ ord tx ∧ kdf tx f = k ∧ (needF tx f).testBit x = true := by
  unfold needK
  rw [orN_bit]
  constructor
  · rintro ⟨f, hf, q⟩
    by_cases c : f ∈ ord tx ∧ kdf tx f = k
    · rw [if_pos c] at q; exact ⟨f, hf, c.1, c.2, q⟩
    · rw [if_neg c, Nat.zero_testBit] at q; cases q
  · rintro ⟨f, hf, c1, c2, q⟩
    exact ⟨f, hf, by rw [if_pos ⟨c1, c2⟩]; exact q⟩
theorem needK_cl (k : Int) : ∀ f, f ∈ ord tx → (needK tx k).testBit f = true → ∀ g, g < 8 → (hgu tx f).testBit g = true → g ∈ ord tx → (needK tx k).testBit g = true := by
  intro f hf q g hg qg mg
  obtain ⟨x, hx, m, e, q2⟩ := needK_bit.mp q
  exact needK_bit.mpr ⟨x, hx, m, e, need_cl x f hf q2 g hg qg mg⟩
end PURE
