/-! LEVEL 3, SUMS and EITHERS: trees (a tree of core Lean's, used for its shape alone): num a NUMBER, var a NAME (0 .. 7 FIELDS, 8 size, 9 deep, 10 day, 11 place, 12 old), mulL one of one (7 minus, 8 not, 9 peek), mulR of a pair one of two (10 .. 21), sub if -/
abbrev Ex : Type := Int.Internal.Linear.Expr
abbrev xN (v : Int) : Ex := Int.Internal.Linear.Expr.num v
abbrev xV (k : Nat) : Ex := Int.Internal.Linear.Expr.var k
abbrev xU (t : Int) (a : Ex) : Ex := Int.Internal.Linear.Expr.mulL t a
abbrev xB (t : Int) (a c : Ex) : Ex := Int.Internal.Linear.Expr.mulR (Int.Internal.Linear.Expr.add a c) t
abbrev xI (c a e : Ex) : Ex := Int.Internal.Linear.Expr.sub c (Int.Internal.Linear.Expr.add a e)
/-- the byte that a peek sees -/
def pk (η β : Int → Int) (b v : Int) : Int := if 0 ≤ v ∧ v < η 8 then β (b + v) else 0
def un1 (η β : Int → Int) (b t v : Int) : Int := if t = 7 then -v else if t = 8 then (if v = 0 then 1 else 0) else pk η β b v
/-- the place that a peek looks at -/
def pl1 (η : Int → Int) (b t v : Int) : Nat := if t = 9 ∧ 0 ≤ v ∧ v < η 8 then 2 ^ (b + v).toNat else 0
def ev (η β : Int → Int) (b : Int) : Ex → Int
  | .num v => v
  | .var k => η k
  | .mulL t a => un1 η β b t (ev η β b a)
  | .mulR (.add a c) t => op2 t (ev η β b a) (ev η β b c)
  | .sub c (.add a e) => if ev η β b c = 0 then ev η β b e else ev η β b a
  | _ => 0
/-- the places of THE FILE that are looked at -/
def lk (η β : Int → Int) (b : Int) : Ex → Nat
  | .mulL t a => lk η β b a ||| pl1 η b t (ev η β b a)
  | .mulR (.add a c) _ => lk η β b a ||| lk η β b c
  | .sub c (.add a e) => lk η β b c ||| (if ev η β b c = 0 then lk η β b e else lk η β b a)
  | _ => 0
/-- how many steps: of the class, of the reference -/
def lx : Ex → Nat
  | .num _ => 1
  | .var _ => 1
  | .mulL _ a => lx a + 1
  | .mulR (.add a c) _ => lx a + lx c + 1
  | .sub c (.add a e) => lx c + lx a + lx e + 2
  | _ => 0
def ly : Ex → Nat
  | .num _ => 1
  | .var _ => 1
  | .mulL _ a => ly a + 1
  | .mulR (.add a c) _ => ly a + ly c + 1
  | .sub c (.add a e) => ly c + ly a + ly e + 1
  | _ => 0
/-- how many places of the class's stack -/
def sx : Ex → Nat
  | .num _ => 1
  | .var _ => 1
  | .mulL _ a => sx a
  | .mulR (.add a c) _ => max (sx a) (1 + sx c)
  | .sub c (.add a e) => max (sx c) (max (sx a) (sx e))
  | _ => 0
/-- the FIELDS that are named, as bits -/
def nx : Ex → Nat
  | .num _ => 0
  | .var k => if k < 8 then 2 ^ k else 0
  | .mulL _ a => nx a
  | .mulR (.add a c) _ => nx a ||| nx c
  | .sub c (.add a e) => nx c ||| nx a ||| nx e
  | _ => 0
/-- whether deep is named, or something peeks -/
def px : Ex → Bool
  | .num _ => false
  | .var k => k == 9
  | .mulL t a => px a || t == 9
  | .mulR (.add a c) _ => px a || px c
  | .sub c (.add a e) => px c || px a || px e
  | _ => false
/-- the NAMES of a law (rots), of a FORMAT -/
def al (l : Bool) (k : Nat) : Prop := k ≤ 12 ∧ if l = true then k = 8 ∨ 10 ≤ k else k ≤ 9
/-- what it is: a SUM (false), an EITHER (true) -/
def ws (l : Bool) : Ex → Bool → Prop
  | .num v, s => s = false ∧ 0 ≤ v ∧ v ≤ 9999
  | .var k, s => s = false ∧ al l k
  | .mulL t a, s => (s = false ∧ (t = 7 ∨ t = 9) ∧ ws l a false) ∨ (s = true ∧ t = 8 ∧ ws l a true)
  | .mulR (.add a c) t, s => (s = false ∧ (10 ≤ t ∧ t ≤ 13) ∧ ws l a false ∧ ws l c false) ∨ (s = true ∧ (14 ≤ t ∧ t ≤ 19) ∧ ws l a false ∧ ws l c false) ∨ (s = true ∧ (t = 20 ∨ t = 21) ∧ ws l a true ∧ ws l c true)
  | .sub c (.add a e), s => s = false ∧ ws l c true ∧ ws l a false ∧ ws l e false
  | _, _ => False
theorem ex_ind {l : Bool} {P : Ex → Bool → Prop} (hn : ∀ v : Int, 0 ≤ v → v ≤ 9999 → P (xN v) false) (hk : ∀ k : Nat, al l k → P (xV k) false)
    (h7 : ∀ t a, t = 7 ∨ t = 9 → ws l a false → P a false → P (xU t a) false) (h8 : ∀ a, ws l a true → P a true → P (xU 8 a) true)
    (ha : ∀ t a c, 10 ≤ t → t ≤ 13 → ws l a false → ws l c false → P a false → P c false → P (xB t a c) false)
    (hc : ∀ t a c, 14 ≤ t → t ≤ 19 → ws l a false → ws l c false → P a false → P c false → P (xB t a c) true)
    (hj : ∀ t a c, t = 20 ∨ t = 21 → ws l a true → ws l c true → P a true → P c true → P (xB t a c) true)
    (hi : ∀ c a e, ws l c true → ws l a false → ws l e false → P c true → P a false → P e false → P (xI c a e) false) : ∀ e s, ws l e s → P e s := by
  have key : ∀ e : Ex, (∀ s, ws l e s → P e s) ∧ ∀ a c, e = Int.Internal.Linear.Expr.add a c → (∀ s, ws l a s → P a s) ∧ ∀ s, ws l c s → P c s := by
    intro e
    induction e with
    | num v => exact ⟨fun s q => by obtain ⟨rfl, q1, q2⟩ := q; exact hn v q1 q2, fun a c q => by cases q⟩
    | var k => exact ⟨fun s q => by obtain ⟨rfl, q1⟩ := q; exact hk k q1, fun a c q => by cases q⟩
    | add a b iha ihb => exact ⟨fun s q => q.elim, fun a2 c2 q => by cases q; exact ⟨iha.1, ihb.1⟩⟩
    | sub a b iha ihb =>
      refine ⟨fun s q => ?_, fun a c q => by cases q⟩
      cases b with
      | add x y =>
        obtain ⟨rfl, q1, q2, q3⟩ := q
        have i := ihb.2 x y rfl
        exact hi a x y q1 q2 q3 (iha.1 _ q1) (i.1 _ q2) (i.2 _ q3)
      | num v => exact q.elim
      | var v => exact q.elim
      | sub x y => exact q.elim
      | neg x => exact q.elim
      | mulL x y => exact q.elim
      | mulR x y => exact q.elim
    | neg a iha => exact ⟨fun s q => q.elim, fun a c q => by cases q⟩
    | mulL t a iha =>
      refine ⟨fun s q => ?_, fun a c q => by cases q⟩
      rcases q with ⟨rfl, q1, q2⟩ | ⟨rfl, rfl, q2⟩
      · exact h7 t a q1 q2 (iha.1 _ q2)
      · exact h8 a q2 (iha.1 _ q2)
    | mulR b t ihb =>
      refine ⟨fun s q => ?_, fun a c q => by cases q⟩
      cases b with
      | add x y =>
        have i := ihb.2 x y rfl
        rcases q with ⟨rfl, q1, q2, q3⟩ | ⟨rfl, q1, q2, q3⟩ | ⟨rfl, q1, q2, q3⟩
        · exact ha t x y q1.1 q1.2 q2 q3 (i.1 _ q2) (i.2 _ q3)
        · exact hc t x y q1.1 q1.2 q2 q3 (i.1 _ q2) (i.2 _ q3)
        · exact hj t x y q1 q2 q3 (i.1 _ q2) (i.2 _ q3)
      | num v => exact q.elim
      | var v => exact q.elim
      | sub x y => exact q.elim
      | neg x => exact q.elim
      | mulL x y => exact q.elim
      | mulR x y => exact q.elim
  exact fun e => (key e).1
/-- a world that SUMS are asked in: an interval of THE FILE, bytes, NAMES in their bounds -/
def eok (l : Bool) (η β : Int → Int) (b : Int) : Prop := 0 ≤ b ∧ (0 ≤ η 8 ∧ b + η 8 ≤ 40) ∧ (∀ j : Int, 0 ≤ j → j < 40 → 0 ≤ β j ∧ β j ≤ 255) ∧ ∀ k : Nat, al l k → -16777215 ≤ η k ∧ η k ≤ 16777215
theorem pk_bd {l : Bool} {η β : Int → Int} {b v : Int} (h : eok l η β b) : 0 ≤ pk η β b v ∧ pk η β b v ≤ 255 := by
  unfold pk
  by_cases c : 0 ≤ v ∧ v < η 8
  · rw [if_pos c]
    exact h.2.2.1 _ (by have := h.1; omega) (by have := h.2.1; omega)
  · rw [if_neg c]; omega
theorem op2_bd {o x y : Int} : -1000000 ≤ op2 o x y ∧ op2 o x y ≤ 1000000 := by
  have a := clp_rng (x + y)
  have b := clp_rng (x - y)
  have c := clp_rng (x * y)
  have e := clp_rng (x.tdiv y)
  have f := cmp2_01 o x y
  unfold op2
  repeat' split
  all_goals omega
/-- what comes of it stays in its bounds -/
theorem ev_bd {l : Bool} {η β : Int → Int} {b : Int} (h : eok l η β b) : ∀ e s, ws l e s → (-16777215 ≤ ev η β b e ∧ ev η β b e ≤ 16777215) ∧ (s = true → ev η β b e = 0 ∨ ev η β b e = 1) := by
  refine ex_ind (fun v h0 h1 => ⟨by simp only [ev]; omega, fun q => by cases q⟩) (fun k q => ⟨h.2.2.2 k q, fun q => by cases q⟩) (fun t a ht _ ih => ⟨?_, fun q => by cases q⟩) (fun a _ ih => ?_) (fun t a c _ _ _ _ _ _ => ⟨?_, fun q => by cases q⟩) (fun t a c h0 h1 _ _ _ _ => ?_) (fun t a c ht _ _ _ _ => ?_) (fun c a e _ _ _ _ i2 i3 => ⟨?_, fun q => by cases q⟩)
  · have := ih.1
    have p := pk_bd (v := ev η β b a) h
    simp only [ev, un1]
    rcases ht with rfl | rfl
    · rw [if_pos rfl]; omega
    · rw [if_neg (by decide), if_neg (by decide)]; omega
  · simp only [ev, un1]
    rw [if_neg (by decide), if_pos trivial]
    by_cases c : ev η β b a = 0
    · rw [if_pos c]; exact ⟨by omega, fun _ => Or.inr rfl⟩
    · rw [if_neg c]; exact ⟨by omega, fun _ => Or.inl rfl⟩
  · have := op2_bd (o := t) (x := ev η β b a) (y := ev η β b c)
    simp only [ev]
    omega
  · have e : op2 t (ev η β b a) (ev η β b c) = cmp2 t (ev η β b a) (ev η β b c) := op2_c (by omega)
    have f := cmp2_01 t (ev η β b a) (ev η β b c)
    simp only [ev]
    rw [e]
    exact ⟨by omega, fun _ => f⟩
  · have f : op2 t (ev η β b a) (ev η β b c) = 0 ∨ op2 t (ev η β b a) (ev η β b c) = 1 := by
      unfold op2
      rcases ht with rfl | rfl
      · rw [if_neg (by decide), if_neg (by decide), if_neg (by decide), if_neg (by decide), if_pos rfl]
        split <;> omega
      · rw [if_neg (by decide), if_neg (by decide), if_neg (by decide), if_neg (by decide), if_neg (by decide), if_pos rfl]
        split <;> omega
    simp only [ev]
    exact ⟨by omega, fun _ => f⟩
  · simp only [ev]
    split
    · exact i3.1
    · exact i2.1
theorem pl1_lt {l : Bool} {η β : Int → Int} {b t v : Int} (h : eok l η β b) : pl1 η b t v < 2 ^ 40 := by
  unfold pl1
  by_cases c : t = 9 ∧ 0 ≤ v ∧ v < η 8
  · rw [if_pos c]
    exact Nat.pow_lt_pow_right (by decide) (by have := h.2.1; omega)
  · rw [if_neg c]; decide
theorem lk_lt {l : Bool} {η β : Int → Int} {b : Int} (h : eok l η β b) : ∀ e s, ws l e s → lk η β b e < 2 ^ 40 := by
  refine ex_ind (fun v h0 h1 => by simp [lk]) (fun k q => by simp [lk]) (fun t a ht _ ih => ?_) (fun a _ ih => ?_) (fun t a c _ _ _ _ i1 i2 => ?_) (fun t a c h0 h1 _ _ i1 i2 => ?_) (fun t a c ht _ _ i1 i2 => ?_) (fun c a e _ _ _ i1 i2 i3 => ?_)
  · simp only [lk]; exact Nat.or_lt_two_pow ih (pl1_lt h)
  · simp only [lk]; exact Nat.or_lt_two_pow ih (pl1_lt h)
  · simp only [lk]; exact Nat.or_lt_two_pow i1 i2
  · simp only [lk]; exact Nat.or_lt_two_pow i1 i2
  · simp only [lk]; exact Nat.or_lt_two_pow i1 i2
  · simp only [lk]
    refine Nat.or_lt_two_pow i1 ?_
    split
    · exact i3
    · exact i2
theorem lx_pos {l : Bool} : ∀ e s, ws l e s → 1 ≤ lx e ∧ 1 ≤ ly e ∧ 1 ≤ sx e := by
  refine ex_ind (fun v h0 h1 => by simp [lx, ly, sx]) (fun k q => by simp [lx, ly, sx]) (fun t a ht _ ih => ?_) (fun a _ ih => ?_) (fun t a c _ _ _ _ i1 i2 => ?_) (fun t a c h0 h1 _ _ i1 i2 => ?_) (fun t a c ht _ _ i1 i2 => ?_) (fun c a e _ _ _ i1 i2 i3 => ?_) <;> (simp only [lx, ly, sx]; omega)
