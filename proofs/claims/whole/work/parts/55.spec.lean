/-! LEVEL 3, what a TEXT is (a row of CLAUSES), and what it is to read by it: pure. A CLAUSE: kind, two numbers (FIELD; place, byte), three trees (at, to, of; of a must, of rots the first) -/
abbrev Cl : Type := Int × Int × Int × Ex × Ex × Ex
abbrev Rd : Type := Nat → Nat → Int
def cl0 : Cl := (9, 0, 0, xN 0, xN 0, xN 0)
def cl (tx : List Cl) (k : Int) : Cl := tx.getD k.toNat cl0
/-- by which CLAUSE a FIELD is told -/
def coA : List Cl → Int → (Int → Int) → Int → Int
  | [], _, γ => γ
  | c :: r, k, γ => coA r (k + 1) (if c.1 ≤ 2 then up1 γ c.2.1 k else γ)
def co (tx : List Cl) : Int → Int := coA tx 0 (fun _ => -1)
def fcl (tx : List Cl) (f : Nat) : Cl := cl tx (co tx f)
def kdf (tx : List Cl) (f : Nat) : Int := if co tx f < 0 then -1 else (fcl tx f).1
/-- the FIELDS that a CLAUSE names -/
def ncl (c : Cl) : Nat := nx c.2.2.2.1 ||| nx c.2.2.2.2.1 ||| nx c.2.2.2.2.2
def hgu (tx : List Cl) (f : Nat) : Nat := if co tx f < 0 then 0 else ncl (fcl tx f)
def bset (p : Nat → Bool) : Nat → Nat
  | 0 => 0
  | n + 1 => bset p n ||| (if p n then 2 ^ n else 0)
theorem bset_bit {p : Nat → Bool} : ∀ (n i : Nat), (bset p n).testBit i = (decide (i < n) && p i)
  | 0, i => by simp [bset]
  | n + 1, i => by
    simp only [bset, Nat.testBit_or, bset_bit n i]
    by_cases c : p n = true
    · rw [if_pos c, Nat.testBit_two_pow]
      by_cases e : n = i
      · subst e; simp [c]
      · have : decide (i < n + 1) = decide (i < n) := by
          by_cases q : i < n
          · simp [q]; omega
          · simp [q]; omega
        simp [e, this]
    · rw [if_neg c]
      by_cases e : n = i
      · subst e; simp [c]
      · have : decide (i < n + 1) = decide (i < n) := by
          by_cases q : i < n
          · simp [q]; omega
          · simp [q]; omega
        simp [this]
theorem bset_lt {p : Nat → Bool} : ∀ n, bset p n < 2 ^ n
  | 0 => by simp [bset]
  | n + 1 => by
    simp only [bset]
    have i := bset_lt (p := p) n
    have e : 2 ^ (n + 1) = 2 ^ n * 2 := Nat.pow_succ 2 n
    refine Nat.or_lt_two_pow (by omega) ?_
    split
    · exact Nat.pow_lt_pow_right (by decide) (by omega)
    · exact Nat.pow_pos (by decide)
def told (tx : List Cl) : Nat := bset (fun f => decide (0 ≤ co tx f)) 8
theorem told_bit {tx : List Cl} {f : Nat} (h : f < 8) : (told tx).testBit f = decide (0 ≤ co tx f) := by
  unfold told
  rw [bset_bit]
  simp [h]
theorem told_lt {tx : List Cl} : told tx < 256 := bset_lt 8
/-! ORDER -/
def rdy (t : Nat) (hg : Nat → Nat) (placed f : Nat) : Bool := t.testBit f && !placed.testBit f && (List.range 8).all (fun g => !((hg f).testBit g && t.testBit g) || placed.testBit g)
def lowR (t : Nat) (hg : Nat → Nat) (placed : Nat) : Option Nat := (List.range 8).find? (rdy t hg placed)
def ordS (t : Nat) (hg : Nat → Nat) : Nat → Nat → List Nat
  | 0, _ => []
  | n + 1, placed => match lowR t hg placed with
    | none => []
    | some f => f :: ordS t hg n (placed ||| 2 ^ f)
def ord (tx : List Cl) : List Nat := ordS (told tx) (hgu tx) 8 0
theorem low_some {t : Nat} {hg : Nat → Nat} {placed f : Nat} (h : lowR t hg placed = some f) : f < 8 ∧ rdy t hg placed f = true :=
  ⟨List.mem_range.mp (List.mem_of_find?_eq_some h), List.find?_some h⟩
theorem ordS_mem {t : Nat} {hg : Nat → Nat} : ∀ (n placed f : Nat), f ∈ ordS t hg n placed → f < 8 ∧ t.testBit f = true ∧ placed.testBit f = false
  | 0, placed, f, h => by simp [ordS] at h
  | n + 1, placed, f, h => by
    simp only [ordS] at h
    cases q : lowR t hg placed with
    | none => rw [q] at h; simp at h
    | some g =>
      rw [q] at h
      have r := low_some q
      have r2 := r.2
      unfold rdy at r2
      rw [Bool.and_eq_true, Bool.and_eq_true] at r2
      rcases List.mem_cons.mp h with rfl | h
      · refine ⟨r.1, r2.1.1, ?_⟩
        have := r2.1.2
        simpa using this
      · have i := ordS_mem n _ f h
        refine ⟨i.1, i.2.1, ?_⟩
        have := i.2.2
        rw [Nat.testBit_or] at this
        exact (Bool.or_eq_false_iff.mp this).1
theorem ordS_nodup {t : Nat} {hg : Nat → Nat} : ∀ (n placed : Nat), (ordS t hg n placed).Nodup
  | 0, placed => by simp [ordS]
  | n + 1, placed => by
    simp only [ordS]
    cases q : lowR t hg placed with
    | none => simp
    | some g =>
      refine List.nodup_cons.mpr ⟨fun h => ?_, ordS_nodup n _⟩
      have i := ordS_mem n _ g h
      have := i.2.2
      rw [Nat.testBit_or, Nat.testBit_two_pow_self] at this
      simp at this
theorem ord_mem {tx : List Cl} {f : Nat} (h : f ∈ ord tx) : f < 8 ∧ 0 ≤ co tx f := by
  have i := ordS_mem _ _ _ h
  refine ⟨i.1, ?_⟩
  have := i.2.1
  rw [told_bit i.1] at this
  simpa using this
theorem ord_nodup {tx : List Cl} : (ord tx).Nodup := ordS_nodup 8 0
/-! READING. A reading: of each FIELD 0 value, 1 FROM, 2 TO, 3 how it is, 4 what it looks at; row 8: 0 the deepest, 1 the first must that is not, 4 what the musts look at -/
def bkn (ρ : Rd) (s : Nat) : Bool := (List.range 8).any (fun f => s.testBit f && decide (ρ f 3 = 1))
theorem bkn_iff {ρ : Rd} {s : Nat} : bkn ρ s = true ↔ ∃ f, f < 8 ∧ s.testBit f = true ∧ ρ f 3 = 1 := by
  unfold bkn
  rw [List.any_eq_true]
  constructor
  · rintro ⟨f, hf, q⟩
    rw [Bool.and_eq_true] at q
    exact ⟨f, List.mem_range.mp hf, q.1, by simpa using q.2⟩
  · rintro ⟨f, hf, q1, q2⟩
    exact ⟨f, List.mem_range.mpr hf, by rw [q1, q2]; rfl⟩
def nmR (ρ : Rd) (deep size : Int) : Int → Int := fun k => if 0 ≤ k ∧ k < 8 then ρ k.toNat 0 else if k = 8 then size else if k = 9 then deep else 0
def setR (ρ : Rd) (f : Nat) (v a z w : Int) (l : Nat) : Rd := fun g c => if g = f then (if c = 0 then v else if c = 1 then a else if c = 2 then z else if c = 3 then w else if c = 4 then (l : Int) else ρ g c) else ρ g c
def putR (ρ : Rd) (f c : Nat) (v : Int) : Rd := fun g e => if g = f ∧ e = c then v else ρ g e
def sndR (ρ : Rd) : Bool := (List.range 8).all (fun f => decide (ρ f 3 = 0 ∨ ρ f 3 = 3)) && decide (ρ 8 1 = -1)
def sumN (g : Nat → Int) : Nat → Int
  | 0 => 0
  | n + 1 => sumN g n + g n
def orN (g : Nat → Nat) : Nat → Nat
  | 0 => 0
  | n + 1 => orN g n ||| g n
/-- the value of a nest, what it looks at -/
def nval (tx : List Cl) (ι : Rd) : Int := 1 + sumN (fun f => if kdf tx f = 2 ∧ ι f 3 ≠ 1 then ι f 0 else 0) 8
def nlk (ι : Rd) : Nat := orN (fun f => (ι f 4).toNat) 8 ||| (ι 8 4).toNat
/-- what a sum is -/
def sval (β : Int → Int) (p o z : Int) : Int := (sm β o (z - o).toNat - (if o ≤ p ∧ p < z then β p else 0)) % 256
/-- of a FIELD: at, to, of, and what they look at -/
def fa (tx : List Cl) (β : Int → Int) (deep base size : Int) (ρ : Rd) (f : Nat) : Int := ev (nmR ρ deep size) β base (fcl tx f).2.2.2.1
def fz (tx : List Cl) (β : Int → Int) (deep base size : Int) (ρ : Rd) (f : Nat) : Int := ev (nmR ρ deep size) β base (fcl tx f).2.2.2.2.1
def fo (tx : List Cl) (β : Int → Int) (deep base size : Int) (ρ : Rd) (f : Nat) : Int := if kdf tx f = 1 then ev (nmR ρ deep size) β base (fcl tx f).2.2.2.2.2 else fa tx β deep base size ρ f
def fL (tx : List Cl) (β : Int → Int) (deep base size : Int) (ρ : Rd) (f : Nat) : Nat := (lk (nmR ρ deep size) β base (fcl tx f).2.2.2.1 ||| (if kdf tx f = 1 then lk (nmR ρ deep size) β base (fcl tx f).2.2.2.2.2 else 0)) ||| lk (nmR ρ deep size) β base (fcl tx f).2.2.2.2.1
/-- the places that a sum looks at -/
def slk (vo : Bool) (p o z : Int) : Nat := bset (fun i => (spn o.toNat z.toNat).testBit i && !(spn p.toNat (p + 1).toNat).testBit i) 40 ||| (if vo = true then 0 else spn p.toNat (p + 1).toNat)
/-- a FIELD whose at, to, of are a, z, o -/
def stepV (tx : List Cl) (β : Int → Int) (vo : Bool) (base size : Int) (inn : Int → Int → Option Rd) (ρ : Rd) (f : Nat) (a z o : Int) (L : Nat) : Rd :=
  if 0 ≤ o ∧ o ≤ z ∧ z ≤ size ∧ 0 ≤ a ∧ a ≤ size then
    if kdf tx f = 0 then
      if z - a ≤ 3 then setR ρ f (nb β 0 (base + a) (z - a).toNat) a z 0 (L ||| spn (base + a).toNat (base + z).toNat) else putR ρ f 4 (L : Int)
    else if kdf tx f = 1 then
      if a < size then setR ρ f (sval β (base + a) (base + o) (base + z)) a (a + 1) (if β (base + a) = sval β (base + a) (base + o) (base + z) then 0 else 2) (L ||| slk vo (base + a) (base + o) (base + z))
      else putR ρ f 4 (L : Int)
    else if z - a < size then
      match inn (base + a) (z - a) with
      | some ι => putR (setR ρ f (nval tx ι) a z (if sndR ι = true then 0 else 2) (L ||| nlk ι)) 8 0 (max (ρ 8 0) (ι 8 0))
      | none => putR ρ f 4 (L : Int)
    else putR ρ f 4 (L : Int)
  else putR ρ f 4 (L : Int)
def stepF (tx : List Cl) (β : Int → Int) (vo : Bool) (deep base size : Int) (inn : Int → Int → Option Rd) (ρ : Rd) (f : Nat) : Rd :=
  if bkn ρ (hgu tx f) = true then ρ else stepV tx β vo base size inn ρ f (fa tx β deep base size ρ f) (fz tx β deep base size ρ f) (fo tx β deep base size ρ f) (fL tx β deep base size ρ f)
def flds (tx : List Cl) (β : Int → Int) (vo : Bool) (deep base size : Int) (inn : Int → Int → Option Rd) (wanted : Nat) : List Nat → Rd → Rd
  | [], ρ => ρ
  | f :: r, ρ => flds tx β vo deep base size inn wanted r (if wanted.testBit f = true then stepF tx β vo deep base size inn ρ f else ρ)
def mst1 (β : Int → Int) (deep base size : Int) (ρ : Rd) (k : Int) (c : Cl) : Rd :=
  let η := nmR ρ deep size
  let bad := bkn ρ (ncl c) = true
  let ρ2 := if bad then ρ else putR ρ 8 4 (((ρ 8 4).toNat ||| lk η β base c.2.2.2.1 : Nat) : Int)
  if (bad ∨ ev η β base c.2.2.2.1 = 0) ∧ ρ 8 1 = -1 then putR ρ2 8 1 k else ρ2
def msts (β : Int → Int) (deep base size : Int) : List Cl → Int → Rd → Rd
  | [], _, ρ => ρ
  | c :: r, k, ρ => msts β deep base size r (k + 1) (if c.1 = 3 then mst1 β deep base size ρ k c else ρ)
def rd0 (tx : List Cl) (deep : Int) : Rd := fun f c =>
  if f < 8 then
    let t := 0 ≤ co tx f
    if c = 3 then (if t then 1 else 3) else if c = 4 then 0 else if t then -1 else 0
  else if c = 0 then deep else if c = 1 then -1 else 0
/-- the FIELDS that the nests outside RING need -/
def ndA (tx : List Cl) : List Nat → (Nat → Nat) → Nat → Nat
  | [], g => g
  | f :: r, g => ndA tx r (fun x => if x = f then 2 ^ f ||| orN (fun y => if (hgu tx f).testBit y = true then g y else 0) 8 else g x)
def needF (tx : List Cl) : Nat → Nat := ndA tx (ord tx) (fun _ => 0)
def needK (tx : List Cl) (kind : Int) : Nat := orN (fun f => if f ∈ ord tx ∧ kdf tx f = kind then needF tx f else 0) 8
/-- which FIELDS of a NEST are read -/
def wI (tx : List Cl) (vo : Bool) (deep : Int) : Nat := if vo = true then (if deep + 1 < 2 then needK tx 2 else 0) else 255
/-- an interval is read at a depth -/
def lvl (tx : List Cl) (β : Int → Int) (vo : Bool) (deep : Int) (inn : Int → Int → Option Rd) (wanted : Nat) (base size : Int) : Rd :=
  if wanted = 255 then msts β deep base size tx 0 (flds tx β vo deep base size inn wanted (ord tx) (rd0 tx deep)) else flds tx β vo deep base size inn wanted (ord tx) (rd0 tx deep)
def rdA (tx : List Cl) (β : Int → Int) (vo : Bool) : Nat → Int → Int → Rd := lvl tx β vo 2 (fun _ _ => none)
def rdB (tx : List Cl) (β : Int → Int) (vo : Bool) : Nat → Int → Int → Rd := lvl tx β vo 1 (fun b s => some (rdA tx β vo (wI tx vo 1) b s))
def rdC (tx : List Cl) (β : Int → Int) (vo : Bool) : Nat → Int → Int → Rd := lvl tx β vo 0 (fun b s => some (rdB tx β vo (wI tx vo 0) b s))
