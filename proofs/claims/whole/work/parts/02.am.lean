/-! AN ABSTRACT MACHINE OVER THE KIT: values are whole numbers, cells are rows of whole numbers at addresses 1 .. 321 in the order in which they are made; below 0 lie what was there before (texts, the script). -/
/-- an int, a long, a reference (0: null) -/
abbrev am_V : Type := Int ⊕ (Int ⊕ Int)
/-- what the cells hold: address, place -/
abbrev am_H : Type := Int → Int → Int
/-- a method: name, code, locals, what it answers -/
abbrev am_M : Type := MethodName × ByteArray × Nat × Option FieldType
abbrev am_cl : List vw_C := [(RX0, TX0, 6), (RX1, TX1, 14), (RX2, TX2, 14), (RX3, TX3, 12), (RX4, TX4, 9), (RX5, TX5, 20), (RX6, TX6, 10), (RX7, TX7, 55)]
def am_nf (c : Nat) : Nat := match c with
  | 0 => 6
  | 1 => 14
  | 2 => 14
  | 3 => 12
  | 4 => 9
  | 5 => 20
  | 6 => 10
  | _ => 55
def am_ty (c : Nat) : Nat → FieldType := match c with
  | 0 => tyX0
  | 1 => tyX1
  | 2 => tyX2
  | 3 => tyX3
  | 4 => tyX4
  | 5 => tyX5
  | 6 => tyX6
  | _ => tyX7
/-- each cell: kind (0 ints, 1 longs, 2 booleans, 3 Moments, 4 Texts, 10 and more objects), length -/
def am_SH : List (Nat × Nat) := [(16, 10), (0, 300), (4, 4), (14, 9), (10, 6), (0, 40), (0, 25), (3, 30), (0, 8), (0, 8), (10, 6), (0, 40), (0, 25), (10, 6), (0, 40), (0, 25), (10, 6), (0, 40), (0, 25), (10, 6), (0, 40), (0, 25), (10, 6), (0, 40), (0, 25), (10, 6), (0, 40), (0, 25), (10, 6), (0, 40), (0, 25), (10, 6), (0, 40), (0, 25), (10, 6), (0, 40), (0, 25), (10, 6), (0, 40), (0, 25), (10, 6), (0, 40), (0, 25), (10, 6), (0, 40), (0, 25), (10, 6), (0, 40), (0, 25), (10, 6), (0, 40), (0, 25), (10, 6), (0, 40), (0, 25), (10, 6), (0, 40), (0, 25), (10, 6), (0, 40), (0, 25), (10, 6), (0, 40), (0, 25), (10, 6), (0, 40), (0, 25), (10, 6), (0, 40), (0, 25), (10, 6), (0, 40), (0, 25), (10, 6), (0, 40), (0, 25), (10, 6), (0, 40), (0, 25), (10, 6), (0, 40), (0, 25), (10, 6), (0, 40), (0, 25), (10, 6), (0, 40), (0, 25), (10, 6), (0, 40), (0, 25), (10, 6), (0, 40), (0, 25), (10, 6), (0, 40), (0, 25), (10, 6), (0, 40), (0, 25), (14, 9), (10, 6), (0, 40), (0, 25), (3, 30), (0, 8), (0, 8), (10, 6), (0, 40), (0, 25), (10, 6), (0, 40), (0, 25), (10, 6), (0, 40), (0, 25), (10, 6), (0, 40), (0, 25), (10, 6), (0, 40), (0, 25), (10, 6), (0, 40), (0, 25), (10, 6), (0, 40), (0, 25), (10, 6), (0, 40), (0, 25), (10, 6), (0, 40), (0, 25), (10, 6), (0, 40), (0, 25), (10, 6), (0, 40), (0, 25), (10, 6), (0, 40), (0, 25), (10, 6), (0, 40), (0, 25), (10, 6), (0, 40), (0, 25), (10, 6), (0, 40), (0, 25), (10, 6), (0, 40), (0, 25), (10, 6), (0, 40), (0, 25), (10, 6), (0, 40), (0, 25), (10, 6), (0, 40), (0, 25), (10, 6), (0, 40), (0, 25), (10, 6), (0, 40), (0, 25), (10, 6), (0, 40), (0, 25), (10, 6), (0, 40), (0, 25), (10, 6), (0, 40), (0, 25), (10, 6), (0, 40), (0, 25), (10, 6), (0, 40), (0, 25), (10, 6), (0, 40), (0, 25), (10, 6), (0, 40), (0, 25), (10, 6), (0, 40), (0, 25), (10, 6), (0, 40), (0, 25), (10, 6), (0, 40), (0, 25), (11, 14), (0, 301), (0, 301), (0, 301), (15, 20), (0, 24), (0, 24), (0, 24), (0, 300), (0, 8), (0, 8), (0, 8), (0, 8), (0, 8), (0, 8), (0, 8), (0, 8), (12, 14), (0, 64), (13, 12), (0, 8), (0, 8), (0, 8), (1, 8), (13, 12), (0, 8), (0, 8), (0, 8), (1, 8), (13, 12), (0, 8), (0, 8), (0, 8), (1, 8), (13, 12), (0, 8), (0, 8), (0, 8), (1, 8), (0, 40), (0, 40), (15, 20), (0, 24), (0, 24), (0, 24), (0, 300), (0, 8), (0, 8), (0, 8), (0, 8), (0, 8), (0, 8), (0, 8), (0, 8), (15, 20), (0, 24), (0, 24), (0, 24), (0, 300), (0, 8), (0, 8), (0, 8), (0, 8), (0, 8), (0, 8), (0, 8), (0, 8), (15, 20), (0, 24), (0, 24), (0, 24), (0, 300), (0, 8), (0, 8), (0, 8), (0, 8), (0, 8), (0, 8), (0, 8), (0, 8), (15, 20), (0, 24), (0, 24), (0, 24), (0, 300), (0, 8), (0, 8), (0, 8), (0, 8), (0, 8), (0, 8), (0, 8), (0, 8), (17, 55), (0, 2159), (0, 2159), (0, 3300), (0, 300), (0, 160), (0, 13), (1, 330), (1, 330), (2, 330), (1, 330), (0, 8), (0, 8), (0, 8), (0, 3), (0, 3), (0, 3), (1, 3), (0, 24), (0, 24), (0, 24), (0, 24), (1, 24), (0, 40), (0, 40), (0, 44), (0, 8), (0, 8)]
def am_sh (k : Nat) : Nat × Nat := am_SH.getD k (99, 0)
def am_kd (n : Nat) (a : Int) : Nat := if 1 ≤ a ∧ a ≤ n then (am_sh (a.toNat - 1)).1 else 99
def am_ln (a : Int) : Int := ((am_sh (a.toNat - 1)).2 : Nat)
/-- where a final reference leads: the class, the slot, how far behind -/
def am_off (c k : Nat) : Option Int := match c, k with
  | 0, 0 => some 1
  | 0, 1 => some 2
  | 1, 0 => some 1
  | 1, 1 => some 2
  | 1, 2 => some 3
  | 2, 0 => some 1
  | 2, 1 => some 2
  | 2, 2 => some 7
  | 2, 3 => some 12
  | 2, 4 => some 17
  | 2, 5 => some 22
  | 2, 6 => some 23
  | 3, 6 => some 1
  | 3, 7 => some 2
  | 3, 8 => some 3
  | 3, 9 => some 4
  | 4, 0 => some 1
  | 4, 1 => some 4
  | 4, 6 => some 5
  | 4, 7 => some 6
  | 5, 1 => some 1
  | 5, 2 => some 2
  | 5, 3 => some 3
  | 5, 4 => some 4
  | 5, 7 => some 5
  | 5, 8 => some 6
  | 5, 9 => some 7
  | 5, 10 => some 8
  | 5, 11 => some 9
  | 5, 12 => some 10
  | 5, 13 => some 11
  | 5, 16 => some 12
  | 6, 0 => some 1
  | 6, 4 => some 2
  | 6, 5 => some 3
  | 6, 6 => some 100
  | 6, 7 => some 197
  | 6, 8 => some 200
  | 6, 9 => some 217
  | 7, 0 => some 1
  | 7, 1 => some 2
  | 7, 2 => some 3
  | 7, 3 => some 4
  | 7, 15 => some 5
  | 7, 21 => some 6
  | 7, 24 => some 7
  | 7, 25 => some 8
  | 7, 26 => some 9
  | 7, 27 => some 10
  | 7, 28 => some 11
  | 7, 29 => some 12
  | 7, 30 => some 13
  | 7, 34 => some 14
  | 7, 35 => some 15
  | 7, 36 => some 16
  | 7, 37 => some 17
  | 7, 38 => some 18
  | 7, 39 => some 19
  | 7, 40 => some 20
  | 7, 41 => some 21
  | 7, 42 => some 22
  | 7, 48 => some 23
  | 7, 49 => some 24
  | 7, 52 => some 25
  | 7, 53 => some 26
  | 7, 54 => some 27
  | _, _ => none
/-- the tables' words that any callee may be given; those of nest mates and of rows of objects go along by themselves -/
def am_gw : List Cond := lw_tbl.filter goodWord
def am_isN : Cond → Bool
  | .fieldLinkNest .. => true
  | .methodLinkNest .. => true
  | .arrayOver (.object _) => true
  | _ => false
/-- a place is another one -/
def am_up (h : am_H) (a i v : Int) : am_H := fun b j => if b = a ∧ j = i then v else h b j
/-- a reference's address -/
def am_rf (ρ : Int → Nat) (a : Int) : Option Nat := if a = 0 ∨ (a = -9 ∧ ρ (-10) = 0) then none else some (ρ a)
def am_cv (ρ : Int → Nat) : am_V → Value
  | .inl z => .int (Int32.ofInt z)
  | .inr (.inl z) => .long (Int64.ofInt z)
  | .inr (.inr a) => va_rf (am_rf ρ a)
def am_ft (ρ : Int → Nat) (ty : FieldType) (z : Int) : Value := match ty with
  | .long => .long (Int64.ofInt z)
  | .object _ => va_rf (am_rf ρ z)
  | .array _ => va_rf (am_rf ρ z)
  | _ => .int (Int32.ofInt z)
def am_cell (ρ : Int → Nat) (cA : Nat → ClassId) (h : am_H) (k : Nat) : va_E :=
  if (am_sh k).1 = 0 ∨ (am_sh k).1 = 2 then .inl (cA k, (am_sh k).2, .inl (fun j => Int32.ofInt (h (k + 1) j)))
  else if (am_sh k).1 = 1 then .inl (cA k, (am_sh k).2, .inr (.inl (fun j => Int64.ofInt (h (k + 1) j))))
  else if (am_sh k).1 < 10 then .inl (cA k, (am_sh k).2, .inr (.inr (.inr (.inr (fun j => am_rf ρ (h (k + 1) j))))))
  else .inr ((am_sh k).1 - 10, (List.range (am_nf ((am_sh k).1 - 10))).map (fun j => am_ft ρ (am_ty ((am_sh k).1 - 10) j) (h (k + 1) j)))
def am_wld (ρ : Int → Nat) (cA : Nat → ClassId) (h : am_H) (n : Nat) : va_W := (List.range n).map (fun k : Nat => (ρ ((k : Int) + 1), am_cell ρ cA h k))
/-- of an array: what its places are -/
def am_aty (k : Nat) : FieldType := match (am_sh k).1 with
  | 0 => .int
  | 1 => .long
  | 2 => .boolean
  | 3 => .object RX0
  | _ => .object RX5
def am_i32 (z : Int) : Prop := -2147483648 ≤ z ∧ z ≤ 2147483647
def am_i64 (z : Int) : Prop := -9223372036854775808 ≤ z ∧ z ≤ 9223372036854775807
def am_in (n : Nat) (ty : FieldType) (z : Int) : Prop := match ty with
  | .long => am_i64 z
  | .boolean => z = 0 ∨ z = 1
  | .object _ => z ≤ n
  | .array _ => z ≤ n
  | _ => am_i32 z
def am_t (kind : Nat) (i : Int) : FieldType := match kind with
  | 0 => .int
  | 1 => .long
  | 2 => .boolean
  | 3 => .object RX0
  | 4 => .object RX5
  | k => am_ty (k - 10) i.toNat
def am_okV (n : Nat) : am_V → Prop
  | .inl z => am_i32 z
  | .inr (.inl z) => am_i64 z
  | .inr (.inr a) => a ≤ n
def am_Rg (n : Nat) (h : am_H) : Prop := ∀ a i : Int, am_kd n a ≠ 99 → am_in n (am_t (am_kd n a) i) (h a i)
/-- behind the constructors: final references, and rows of references, are where they were laid -/
def am_Fin (n : Nat) (h : am_H) : Prop := (∀ (a : Int) (c k : Nat) (o : Int), am_kd n a = 10 + c → am_off c k = some o → h a k = a + o) ∧ (∀ a i : Int, am_kd n a = 3 → 0 ≤ i → i < am_ln a → h a i = a + 3 + 3 * i) ∧ (∀ a i : Int, am_kd n a = 4 → 0 ≤ i → i < am_ln a → h a i = a + 239 + 13 * i)
def am_tW : String := "num sum nest must rots set size mend day at of to peek if then else end or and not deep place old "
def am_tS : String := "<>=#+-*/();"
def am_bW : List Int32 := [110, 117, 109, 32, 115, 117, 109, 32, 110, 101, 115, 116, 32, 109, 117, 115, 116, 32, 114, 111, 116, 115, 32, 115, 101, 116, 32, 115, 105, 122, 101, 32, 109, 101, 110, 100, 32, 100, 97, 121, 32, 97, 116, 32, 111, 102, 32, 116, 111, 32, 112, 101, 101, 107, 32, 105, 102, 32, 116, 104, 101, 110, 32, 101, 108, 115, 101, 32, 101, 110, 100, 32, 111, 114, 32, 97, 110, 100, 32, 110, 111, 116, 32, 100, 101, 101, 112, 32, 112, 108, 97, 99, 101, 32, 111, 108, 100, 32]
def am_bS : List Int32 := [60, 62, 61, 35, 43, 45, 42, 47, 40, 41, 59]
/-- what was there before and stays: the two texts, two statics, the script -/
def am_SX (ρ : Int → Nat) (h : am_H) (A : Nat → Prop) (U : State) (H : Heap) : Prop :=
  vk_S 2 [am_bW.length, am_bS.length] [am_bW, am_bS] (fun i => ρ (-1 - 2 * i)) (fun i => ρ (-2 - 2 * i)) A U H ∧ vk_R "ByteIntervals$Parser" 111 am_tW (ρ (-1)) U ∧ vk_R "ByteIntervals$Parser" 101 am_tS (ρ (-3)) U ∧
  va_Z "java/lang/String" "COMPACT_STRINGS" "Z" (.int 1) A U H ∧ va_Z "jdk/internal/util/Preconditions" "SIOOBE_FORMATTER" "Ljava/util/function/BiFunction;" (va_rf (am_rf ρ (-9))) A U H ∧
  (∀ w ∈ lw_tbl, am_isN w = true → va_Nw w U) ∧
  va_X (ρ (-5)) (h (-6) 0).toNat (fun j => Int32.ofInt (h (-5) j)) U H ∧ ¬ A (ρ (-5)) ∧ 0 ≤ h (-6) 0 ∧ h (-6) 0 ≤ 3072 ∧ ∀ j : Int, am_i32 (h (-5) j)
def am_R (fin : Bool) (n : Nat) (h : am_H) (ρ : Int → Nat) (cA : Nat → ClassId) (D : va_G) (A : Nat → Prop) (U : State) (H : Heap) : Prop :=
  (∀ (c : Nat) (q : vw_C), am_cl[c]? = some q → u_Kn U q.1 q.2.1 q.2.2 (D.1 c) (D.2 c)) ∧ (∀ k : Nat, k < n → (am_sh k).1 < 10 → ArrOfT U (cA k) (am_aty k) ∧ va_RA U (cA k) (am_aty k)) ∧
  va_P D am_cl (am_wld ρ cA h n) H ∧ va_D A (am_wld ρ cA h n) ∧ am_Rg n h ∧ (fin = true → am_Fin n h)
def am_B (M : am_M) (p : Program) (s : State) (m : MethodId) (meth : Method) (c : Code) (args : Array Value) : Prop :=
  p.tables.exec = Jvm.exec ∧ c.code = M.2.1 ∧ c.maxLocals = M.2.2.1 ∧ meth.sig.returnType = M.2.2.2 ∧ s.vm.findClass M.1.cls = some m.cls ∧ (∀ w ∈ am_gw, w.before args s = true) ∧ meth.locks = false ∧ (M.1.name = "<init>" → meth.name = "<init>")
/-- how many slots the first cells have -/
def am_sz : Nat → Nat
  | 0 => 0
  | k + 1 => am_sz k + (am_sh k).2
def am_rm (d n0 n1 : Nat) : Room := { frames := 4 * (d + 1), cells := n1 - n0, slots := am_sz n1 - am_sz n0, locals := 100 * (d + 1) }
def am_X (fin : Bool) (M : am_M) (n0 n1 n : Nat) (h : am_H) (ρ ρ0 : Int → Nat) (cA cA0 : Nat → ClassId) (D : va_G) (A : Nat → Prop) (p : Program) (s : State) (m : MethodId) (meth : Method) (c : Code) (args : Array Value) (H : Heap) (locs : List Loc) : Prop :=
  am_B M p s m meth c args ∧ am_R fin n h ρ cA D A s H ∧ va_S A s.heap H locs ∧ (∀ q, s.heap.size ≤ q → A q) ∧ am_SX ρ h A s s.heap ∧ (∀ k : Int, k ≤ n0 → ρ k = ρ0 k) ∧ (∀ k : Nat, k < n0 → cA k = cA0 k) ∧ n0 ≤ n ∧ n ≤ n1
def am_rv (ρ : Int → Nat) (ty : Option FieldType) (r : Int) : Option Value := ty.map fun t => am_ft ρ t r
def am_rok (n : Nat) (ty : Option FieldType) (r : Int) : Prop := match ty with
  | none => True
  | some t => am_in n t r
def am_Q (fin : Bool) (ret : Option FieldType) (n0 n1 : Nat) (Q : Int → am_H → Prop) (h0 : am_H) (ρ0 : Int → Nat) (cA0 : Nat → ClassId) (D : va_G) (A : Nat → Prop) : Array Value → State → Outcome → State → Prop := fun _ st oc t =>
  (∃ (r : Int) (h : am_H) (ρ : Int → Nat) (cA : Nat → ClassId), oc = .returned (am_rv ρ ret r) ∧ am_rok n1 ret r ∧ Q r h ∧ (∀ k : Int, k ≤ n0 → ρ k = ρ0 k) ∧ (∀ k : Nat, k < n0 → cA k = cA0 k) ∧ (∀ a i : Int, a < 0 → h a i = h0 a i) ∧ am_R fin n1 h ρ cA D A t t.heap) ∧ va_F A st t
def am_ll (ρ : Int → Nat) (ls : List (Option am_V)) : List (Nat × Value) := ls.zipIdx.filterMap (fun q => q.1.map (fun v => (q.2, am_cv ρ v)))
def am_Wp (fin : Bool) (d : Nat) (M : am_M) (n0 n1 : Nat) (h0 : am_H) (Q : Int → am_H → Prop) (pc : Nat) (ls : List (Option am_V)) (st : List am_V) (n : Nat) (h : am_H) : Prop :=
  ∀ (p : Program) (l : Launch) (e : Env) (s : State) (m : MethodId) (args : Array Value) (below : List Frame) (meth : Method) (c : Code) (H : Heap) (locs : List Loc) (ρ ρ0 : Int → Nat) (cA cA0 : Nat → ClassId) (D : va_G) (A : Nat → Prop) (lm : Array Slot),
    am_X fin M n0 n1 n h ρ ρ0 cA cA0 D A p s m meth c args H locs → (∀ a i : Int, a < 0 → h a i = h0 a i) → lv_has lm M.2.2.1 (am_ll ρ ls) → (∀ v ∈ st, am_okV n v) → (∀ v, some v ∈ ls → am_okV n v) →
    W p l e (am_rm d n0 n1) s m args below meth c H locs (n - n0) (am_sz n - am_sz n0) (MQ below (am_Q fin M.2.2.2 n0 n1 Q h0 ρ0 cA0 D A) args s (n1 - n0) (am_sz n1 - am_sz n0) A) (F0 m pc lm (st.map (am_cv ρ)))
def am_ws (M : am_M) : List Cond := .code M.1 M.2.1 M.2.2.1 M.2.2.2 :: am_gw
/-- a call of M: from every heap that holds h it returns, with Q -/
def am_Cl (fin : Bool) (d : Nat) (M : am_M) (n0 n1 : Nat) (as : List am_V) (h : am_H) (Q : Int → am_H → Prop) : Prop :=
  (∀ v ∈ as, am_okV n0 v) → ∀ (l : Launch) (ρ : Int → Nat) (cA : Nat → ClassId) (D : va_G) (sz : Nat),
    Met l M.1 (am_ws M) (am_rm d n0 n1) (va_Pc (as.map (am_cv ρ)) (fun U => U.heap.size = sz ∧ am_R fin n0 h ρ cA D (fun _ => True) U U.heap ∧ am_SX ρ h (va_A (am_wld ρ cA h n0) sz) U U.heap))
      (am_Q fin M.2.2.2 n0 n1 Q h ρ cA D (va_A (am_wld ρ cA h n0) sz)) (n1 - n0) (am_sz n1 - am_sz n0) (va_A (am_wld ρ cA h n0) sz)
