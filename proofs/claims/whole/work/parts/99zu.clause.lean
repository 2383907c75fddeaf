/-! LEVEL 3, CLAUSES out of TOKENS: pure -/
abbrev Rc : Type := (Int × Nat) ⊕ (Cl × Nat)
def pS (K V : Nat → Int) (l : Bool) (i : Nat) : Rs := prs K V l 5000 3 0 i (xN 0)
def pE (K V : Nat → Int) (l : Bool) (i : Nat) : Rs := prs K V l 5000 8 0 i (xN 0)
def bnc (r : Rs) (k : Ex → Nat → Rc) : Rc := match r with
  | .inl x => .inl x
  | .inr x => k x.1 x.2
def bcc (r : Rc) (k : Cl → Nat → Rc) : Rc := match r with
  | .inl x => .inl x
  | .inr x => k x.1 x.2
def tkc (K : Nat → Int) (t : Int) (j : Nat) (r : Rc) : Rc := if K j = t then r else .inl (1, j)
def nuc (K V : Nat → Int) (lo hi : Int) (i : Nat) (k : Int → Nat → Rc) : Rc := if K i = 64 then (if V i < lo ∨ hi < V i then .inl (2, i) else k (V i) (i + 1)) else .inl (1, i)
def hasR (tx : List Cl) : Bool := tx.any (fun c => decide (c.1 = 4))
/-- a SUM behind a word -/
def prt1 (K V : Nat → Int) (t : Int) (j : Nat) (k : Ex → Nat → Rc) : Rc := tkc K t j (bnc (pS K V false (j + 1)) k)
def fdc (K V : Nat → Int) (tx : List Cl) (kd : Int) (i : Nat) : Rc :=
  if K i < 32 ∨ 39 < K i then .inl (1, i) else if (told tx).testBit (K i - 32).toNat = true then .inl (4, i) else
  prt1 K V 9 (i + 1) fun a j => if kd = 1 then (prt1 K V 10 j fun o j2 => prt1 K V 11 j2 fun z j3 => .inr ((kd, K i - 32, 0, a, z, o), j3)) else prt1 K V 11 j fun z j3 => .inr ((kd, K i - 32, 0, a, z, xN 0), j3)
def bdc (K V : Nat → Int) (tx : List Cl) (kd : Int) (i : Nat) : Rc :=
  if kd = 3 then bnc (pE K V false i) fun e j => .inr ((3, 0, 0, e, xN 0, xN 0), j)
  else if kd = 4 then bnc (pS K V true i) fun e j => .inr ((4, 0, 0, e, xN 0, xN 0), j)
  else if kd = 5 then nuc K V 0 39 i fun v j => tkc K 11 j (nuc K V 0 255 (j + 1) fun v2 j2 => .inr ((5, v, v2, xN 0, xN 0, xN 0), j2))
  else if kd = 6 then nuc K V 0 40 i fun v j => .inr ((6, v, 0, xN 0, xN 0, xN 0), j)
  else if kd = 7 then .inr ((7, 0, 0, xN 0, xN 0, xN 0), i)
  else if kd = 8 then nuc K V 1 60 i fun v j => .inr ((8, v, 0, xN 0, xN 0, xN 0), j)
  else fdc K V tx kd i
def clB (K V : Nat → Int) (tx : List Cl) (i : Nat) : Rc :=
  if K i < 0 ∨ 8 < K i then .inl (1, i) else if K i = 4 ∧ hasR tx = true then .inl (4, i) else if tx.length = 24 then .inl (6, i) else
  bcc (bdc K V tx (K i) (i + 1)) fun c j => tkc K 187 j (.inr (c, j + 1))
def pTx (K V : Nat → Int) : Nat → List Cl → Nat → (Int × Nat) ⊕ List Cl
  | 0, _, i => .inl (1, i)
  | n + 1, tx, i => if K i = 66 then .inr tx else match clB K V tx i with
    | .inl x => .inl x
    | .inr x => pTx K V n (tx ++ [x.1]) x.2
/-! a TEXT with one CLAUSE more -/
section SNOC
variable {tx : List Cl} {c : Cl} {K V : Nat → Int} {N i : Nat} {l : Bool}
theorem cl_snoc {k : Int} (h : k < tx.length) (h0 : 0 ≤ k) : cl (tx ++ [c]) k = cl tx k := by
  unfold cl
  rw [List.getD_eq_getElem?_getD, List.getD_eq_getElem?_getD, List.getElem?_append_left (by omega)]
theorem cl_last : cl (tx ++ [c]) tx.length = c := by
  unfold cl
  rw [List.getD_eq_getElem?_getD]
  simp
theorem coA_app : ∀ (a b : List Cl) (k : Int) (γ : Int → Int), coA (a ++ b) k γ = coA b (k + a.length) (coA a k γ)
  | [], b, k, γ => by simp [coA]
  | x :: r, b, k, γ => by
    simp only [List.cons_append, coA, coA_app r b, List.length_cons]
    rw [show k + 1 + (r.length : Int) = k + ((r.length + 1 : Nat) : Int) by omega]
theorem co_snoc {f : Int} : co (tx ++ [c]) f = if c.1 ≤ 2 ∧ f = c.2.1 then (tx.length : Int) else co tx f := by
  unfold co
  rw [coA_app]
  simp only [coA]
  by_cases q : c.1 ≤ 2
  · rw [if_pos q]
    by_cases q2 : f = c.2.1
    · subst q2
      rw [up1_at, if_pos ⟨q, rfl⟩]
      omega
    · rw [up1_ne q2, if_neg (fun z => q2 z.2)]
  · rw [if_neg q, if_neg (fun z => q z.1)]
theorem co_lt {f : Int} : co tx f < tx.length ∧ -1 ≤ co tx f := by
  by_cases q : 0 ≤ co tx f
  · obtain ⟨i, i0, e, _⟩ := co_spec q
    omega
  · have : co tx f = -1 ∨ ∃ i : Nat, i < tx.length ∧ co tx f = 0 + i ∧ (tx.getD i cl0).1 ≤ 2 ∧ (tx.getD i cl0).2.1 = f := coA_spec tx 0 (fun _ => -1) f
    rcases this with z | ⟨i, _, z, _⟩ <;> omega
theorem fcl_same {f : Nat} (q : ¬ (c.1 ≤ 2 ∧ (f : Int) = c.2.1)) : co (tx ++ [c]) f = co tx f ∧ (0 ≤ co tx f → fcl (tx ++ [c]) f = fcl tx f) := by
  have e : co (tx ++ [c]) f = co tx f := by rw [co_snoc, if_neg q]
  refine ⟨e, fun h0 => ?_⟩
  unfold fcl
  rw [e]
  exact cl_snoc co_lt.1 h0
theorem fcl_new {f : Nat} (q : c.1 ≤ 2 ∧ (f : Int) = c.2.1) : co (tx ++ [c]) f = tx.length ∧ fcl (tx ++ [c]) f = c := by
  have e : co (tx ++ [c]) f = tx.length := by rw [co_snoc, if_pos q]
  refine ⟨e, ?_⟩
  unfold fcl
  rw [e]
  exact cl_last
theorem kdf_same {f : Nat} (q : ¬ (c.1 ≤ 2 ∧ (f : Int) = c.2.1)) : kdf (tx ++ [c]) f = kdf tx f ∧ hgu (tx ++ [c]) f = hgu tx f := by
  have e := fcl_same q (tx := tx)
  unfold kdf hgu
  rw [e.1]
  by_cases z : co tx f < 0
  · rw [if_pos z, if_pos z, if_pos z, if_pos z]; exact ⟨rfl, rfl⟩
  · rw [if_neg z, if_neg z, if_neg z, if_neg z, e.2 (by omega)]; exact ⟨rfl, rfl⟩
theorem kdf_new {f : Nat} (q : c.1 ≤ 2 ∧ (f : Int) = c.2.1) : kdf (tx ++ [c]) f = c.1 ∧ hgu (tx ++ [c]) f = ncl c := by
  have e := fcl_new q (tx := tx)
  unfold kdf hgu
  rw [e.1, if_neg (by omega), if_neg (by omega), e.2]
  exact ⟨rfl, rfl⟩
theorem told_same (q : ¬ c.1 ≤ 2) : told (tx ++ [c]) = told tx := by
  refine bits_ext (n := 8) told_lt told_lt (fun f hf => ?_)
  rw [told_bit hf, told_bit hf, co_snoc, if_neg (fun z => q z.1)]
theorem told_new {f : Nat} (hf : f < 8) (q : c.1 ≤ 2 ∧ (f : Int) = c.2.1) : told (tx ++ [c]) = told tx ||| 2 ^ f := by
  refine bits_ext (n := 8) told_lt (Nat.or_lt_two_pow told_lt (Nat.pow_lt_pow_right (by decide) hf)) (fun y hy => ?_)
  rw [told_bit hy, Nat.testBit_or, told_bit hy, pow_bit]
  by_cases z : f = y
  · subst z
    rw [co_snoc, if_pos q]
    simp
  · rw [co_snoc, if_neg (fun w => z (by have := w.2; omega))]
    simp [z]
theorem hasR_iff : hasR tx = true ↔ ∃ k : Nat, k < tx.length ∧ (cl tx k).1 = 4 := by
  unfold hasR
  rw [List.any_eq_true]
  constructor
  · rintro ⟨x, hx, q⟩
    obtain ⟨k, hk, e⟩ := List.getElem_of_mem hx
    refine ⟨k, hk, ?_⟩
    unfold cl
    rw [show ((k : Nat) : Int).toNat = k by omega, List.getD_eq_getElem?_getD, List.getElem?_eq_getElem hk, Option.getD_some, e]
    simpa using q
  · rintro ⟨k, hk, q⟩
    exact ⟨cl tx k, cl_mem hk, by simpa using q⟩
theorem okx_snoc (ok : okx tx) (oc : okc c) (h24 : tx.length < 24) (hf : c.1 ≤ 2 → co tx c.2.1 < 0) (hr : c.1 = 4 → hasR tx = false) : okx (tx ++ [c]) := by
  obtain ⟨o1, o2, o3, o4⟩ := ok
  have len : (tx ++ [c]).length = tx.length + 1 := by simp
  have old : ∀ k : Nat, k < tx.length → cl (tx ++ [c]) k = cl tx k := fun k hk => cl_snoc (by omega) (by omega)
  have new : cl (tx ++ [c]) tx.length = c := cl_last
  have nof : ∀ k : Nat, k < tx.length → (cl tx k).1 ≤ 2 → c.1 ≤ 2 → (cl tx k).2.1 = c.2.1 → False := by
    intro k hk q1 q2 q3
    have h := hf q2
    have z : ∀ (r : List Cl) (m : Int) (γ : Int → Int) (k : Nat), 0 ≤ m → k < r.length → (r.getD k cl0).1 ≤ 2 → (r.getD k cl0).2.1 = c.2.1 → 0 ≤ coA r m γ c.2.1 := by
      intro r
      induction r with
      | nil => intro m γ k _ hk; simp at hk
      | cons x s ih =>
        intro m γ k hm hk q1 q2
        simp only [coA]
        cases k with
        | succ k =>
          rw [List.getD_cons_succ] at q1 q2
          exact ih (m + 1) _ k (by omega) (by simpa using hk) q1 q2
        | zero =>
          rw [List.getD_cons_zero] at q1 q2
          rcases coA_spec s (m + 1) (if x.1 ≤ 2 then up1 γ x.2.1 m else γ) c.2.1 with e | ⟨i, _, e, _⟩
          · rw [e, if_pos q1, q2, up1_at]; exact hm
          · rw [e]; omega
    have := z tx 0 (fun _ => -1) k (by omega) hk q1 q3
    unfold co at h
    omega
  have nor : ∀ k : Nat, k < tx.length → (cl tx k).1 = 4 → c.1 = 4 → False := fun k hk q1 q2 => by
    have := hasR_iff.2 ⟨k, hk, q1⟩
    rw [hr q2] at this
    simp at this
  refine ⟨by omega, fun x hx => ?_, fun a b ha hb qa qb e => ?_, fun a b ha hb qa qb => ?_⟩
  · rcases List.mem_append.mp hx with z | z
    · exact o2 x z
    · rw [List.mem_singleton.mp z]; exact oc
  · rw [len] at ha hb
    by_cases a1 : a < tx.length
    · by_cases b1 : b < tx.length
      · rw [old a a1] at qa e
        rw [old b b1] at qb e
        exact o3 a b a1 b1 qa qb e
      · have eb : b = tx.length := by omega
        subst eb
        rw [old a a1] at qa e
        rw [new] at qb e
        exact (nof a a1 qa qb e).elim
    · have ea : a = tx.length := by omega
      by_cases b1 : b < tx.length
      · subst ea
        rw [new] at qa e
        rw [old b b1] at qb e
        exact (nof b b1 qb qa e.symm).elim
      · omega
  · rw [len] at ha hb
    by_cases a1 : a < tx.length
    · by_cases b1 : b < tx.length
      · rw [old a a1] at qa
        rw [old b b1] at qb
        exact o4 a b a1 b1 qa qb
      · have eb : b = tx.length := by omega
        subst eb
        rw [old a a1] at qa
        rw [new] at qb
        exact (nor a a1 qa qb).elim
    · have ea : a = tx.length := by omega
      by_cases b1 : b < tx.length
      · subst ea
        rw [new] at qa
        rw [old b b1] at qb
        exact (nor b b1 qb qa).elim
      · omega
/-- what a SUM, an EITHER from the i-th TOKEN on is -/
theorem pS_ok (tk : tkok K V N) (hi : i ≤ N) : okR N l i 0 false 43 (pS K V l i) := by
  have n300 := tk.1
  exact (prs_ok (l := l) tk 5000 0 i (xN 0) (by omega) hi).2.2.2.1 (by omega)
theorem pE_ok (tk : tkok K V N) (hi : i ≤ N) : okR N l i 0 true 46 (pE K V l i) := by
  have n300 := tk.1
  exact (prs_ok (l := l) tk 5000 0 i (xN 0) (by omega) hi).2.2.2.2.2.2.2.2.1 (by omega)
end SNOC
