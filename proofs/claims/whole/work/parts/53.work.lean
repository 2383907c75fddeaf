/-! LEVEL 3, the reference's steps of a tree, and what work makes of them -/
def o2r (t : Int) : Int := if t ≤ 19 then t - 4 else t + 1
def o1r (t : Int) : Int := if t = 7 then 5 else if t = 8 then 20 else 2
/-- the steps of a tree stand from the i-th on -/
def rat (κ : Int → Int) (c i : Int) : Ex → Prop
  | .num v => κ (c + 2 * i) = 0 ∧ κ (c + 2 * i + 1) = v
  | .var k => κ (c + 2 * i) = 1 ∧ κ (c + 2 * i + 1) = k
  | .mulL t a => rat κ c i a ∧ κ (c + 2 * (i + ly a)) = o1r t
  | .mulR (.add a e) t => rat κ c i a ∧ rat κ c (i + ly a) e ∧ κ (c + 2 * (i + ly a + ly e)) = o2r t
  | .sub e (.add a f) => rat κ c i e ∧ rat κ c (i + ly e) a ∧ rat κ c (i + ly e + ly a) f ∧ κ (c + 2 * (i + ly e + ly a + ly f)) = 3
  | _ => False
/-- the reference's world -/
def rce (l : Bool) (h : am_H) (η β : Int → Int) (b : Int) : Prop := h 294 22 = b ∧ h 294 23 = η 8 ∧ (∀ k : Nat, al l k → h 300 k = η k) ∧ ∀ j : Int, 0 ≤ j → j < 40 → h 295 (8 + j) = β j
/-- only the values from n, the truths from m on are other -/
def fB (h h2 : am_H) (n m : Int) : Prop := (∀ b : Int, b < 301 ∨ 304 < b → h2 b = h b) ∧ (∀ j : Int, j < n → h2 301 j = h 301 j ∧ h2 302 j = h 302 j) ∧ ∀ j : Int, j < m → h2 303 j = h 303 j ∧ h2 304 j = h 304 j
theorem fB_refl {h : am_H} {n m : Int} : fB h h n m := ⟨fun _ _ => rfl, fun _ _ => ⟨rfl, rfl⟩, fun _ _ => ⟨rfl, rfl⟩⟩
theorem fB_trans {h h2 h3 : am_H} {n m n2 m2 : Int} (a : fB h h2 n m) (b : fB h2 h3 n2 m2) (q : n ≤ n2) (q2 : m ≤ m2) : fB h h3 n m :=
  ⟨fun c q1 => (b.1 c q1).trans (a.1 c q1), fun j q1 => ⟨(b.2.1 j (by omega)).1.trans (a.2.1 j q1).1, (b.2.1 j (by omega)).2.trans (a.2.1 j q1).2⟩, fun j q1 => ⟨(b.2.2 j (by omega)).1.trans (a.2.2 j q1).1, (b.2.2 j (by omega)).2.trans (a.2.2 j q1).2⟩⟩
theorem fB_up {h : am_H} {n m r i v : Int} (q : ((r = 301 ∨ r = 302) ∧ n ≤ i) ∨ ((r = 303 ∨ r = 304) ∧ m ≤ i)) : fB h (am_up h r i v) n m := by
  refine ⟨fun b q1 => ?_, fun j q1 => ⟨am_up_ne (by omega), am_up_ne (by omega)⟩, fun j q1 => ⟨am_up_ne (by omega), am_up_ne (by omega)⟩⟩
  funext j
  exact am_up_ne (by omega)
theorem rce_fB {l : Bool} {h h2 : am_H} {η β : Int → Int} {b n m : Int} (c : rce l h η β b) (f : fB h h2 n m) : rce l h2 η β b := by
  obtain ⟨c0, c1, c2, c3⟩ := c
  have e : h2 294 = h 294 := f.1 _ (by omega)
  exact ⟨by rw [e]; exact c0, by rw [e]; exact c1, fun k q => by rw [f.1 300 (by omega)]; exact c2 k q, fun j j0 j1 => by rw [f.1 295 (by omega)]; exact c3 j j0 j1⟩
section WORK
variable {d : Nat} {Q : Int → am_H → Prop} {l : Bool} {η β : Int → Int} {b : Int}
abbrev wR (d : Nat) (Q : Int → am_H → Prop) (z c n m i : Int) (h : am_H) : Prop := wf (d + 2) M_X7_work Q 20 [some (.inr (.inr 294)), none, none, some (.inl z), some (.inl c), some (.inl n), some (.inl m), some (.inl i), none, none] [] h
theorem wR_next {z c n m i : Int} {h : am_H} (i0 : 0 ≤ i ∧ i < 400) (k : wR d Q z c n m (i + 1) h) : wf (d + 2) M_X7_work Q 426 [some (.inr (.inr 294)), none, none, some (.inl z), some (.inl c), some (.inl n), some (.inl m), some (.inl i), none, none] [] h := by
  refine B_X7_work_426 ?_
  rw [w32e (by omega) (by omega)]
  exact k
theorem c_X7_two {o x y : Int} {h : am_H} (ho : 10 ≤ o ∧ o ≤ 13) (hx : -20000000 ≤ x ∧ x ≤ 20000000) (hy : -20000000 ≤ y ∧ y ≤ 20000000) (k : Q (op2 o x y) h) : cf (d + 1) M_X7_two [.inl (o - 4), .inr (.inl x), .inr (.inl y)] h Q := by
  have m := mul_bd hx hy
  have t := tdiv_bd (y := y) hx
  unfold op2 at k
  refine cf_of pX7 (Nat.le_of_ble_eq_true rfl) rfl (fun _ => B_X7_two_0 ⟨fun c => ?_, fun c => ?_, fun c => ?_, fun c => ?_⟩)
  · rw [if_neg (by omega), if_neg (by omega), if_neg (by omega), if_pos (by omega)] at k
    refine ⟨fun c2 => ?_, fun c2 => ?_⟩
    · have y0 : ¬ y = 0 := fun q => c2 (by rw [q]; rfl)
      rw [if_neg y0] at k
      refine ⟨y0, ?_⟩
      rw [w64e (by omega) (by omega)]
      exact c_X7_clip k
    · have y0 : y = 0 := by
        unfold am_lcmp at c2
        split at c2
        · omega
        · split at c2 <;> omega
      rw [if_pos y0] at k
      exact k
  · rw [if_pos (by omega)] at k
    rw [w64e (by omega) (by omega)]
    exact c_X7_clip k
  · rw [if_neg (by omega), if_pos (by omega)] at k
    rw [w64e (by omega) (by omega)]
    exact c_X7_clip k
  · rw [if_neg (by omega), if_neg (by omega), if_pos (by omega)] at k
    rw [w64e (by omega) (by omega)]
    exact c_X7_clip k
theorem lcmp_z {x y : Int} (h : am_lcmp x y = 0) : x = y := by
  unfold am_lcmp at h
  split at h
  · omega
  · split at h <;> omega
theorem lcmp_nz {x y : Int} (h : ¬ am_lcmp x y = 0) : ¬ x = y := fun q => h (by subst q; unfold am_lcmp; rw [if_neg (by omega), if_pos rfl])
theorem c_X7_isAsked {o x y : Int} {h : am_H} (ho : 14 ≤ o ∧ o ≤ 19) (k : Q (cmp2 o x y) h) : cf d M_X7_isAsked [.inl (o - 4), .inr (.inl x), .inr (.inl y)] h Q := by
  unfold cmp2 at k
  refine cf_of pX7 (Nat.le_of_ble_eq_true rfl) rfl (fun _ => B_X7_isAsked_0 ⟨fun c => ⟨fun c2 => ⟨fun c3 => ⟨fun c4 => ⟨fun c5 => ?_, fun c5 => ?_⟩, fun c4 => ?_⟩, fun c3 => ?_⟩, fun c2 => ?_⟩, fun c => ?_⟩)
  · rw [if_neg (by omega), if_neg (by omega), if_neg (by omega), if_neg (by omega), if_neg (by omega)] at k
    exact ⟨fun q => by rw [if_pos (lcmp_z q)] at k; exact k, fun q => by rw [if_neg (lcmp_nz q)] at k; exact k⟩
  · rw [if_neg (by omega), if_neg (by omega), if_neg (by omega), if_neg (by omega), if_pos (by omega)] at k
    exact ⟨fun q => by rw [if_neg (lcmp_nz q)] at k; exact k, fun q => by rw [if_pos (lcmp_z q)] at k; exact k⟩
  · rw [if_neg (by omega), if_neg (by omega), if_neg (by omega), if_pos (by omega)] at k
    exact ⟨fun q => by have := lcmp_neg q; rw [if_neg (by omega)] at k; exact k, fun q => by have := lcmp_nn q; rw [if_pos (by omega)] at k; exact k⟩
  · rw [if_neg (by omega), if_neg (by omega), if_pos (by omega)] at k
    exact ⟨fun q => by have := lcmp_np q; rw [if_neg (by omega)] at k; exact k, fun q => by have := lcmp_pos q; rw [if_pos (by omega)] at k; exact k⟩
  · rw [if_neg (by omega), if_pos (by omega)] at k
    exact ⟨fun q => by have := lcmp_pos q; rw [if_neg (by omega)] at k; exact k, fun q => by have := lcmp_np q; rw [if_pos (by omega)] at k; exact k⟩
  · rw [if_pos (by omega)] at k
    exact ⟨fun q => by have := lcmp_nn q; rw [if_neg (by omega)] at k; exact k, fun q => by have := lcmp_neg q; rw [if_pos (by omega)] at k; exact k⟩
theorem c_X7_joined {o x y : Int} {h : am_H} (ho : o = 20 ∨ o = 21) (k : Q (op2 o x y) h) : cf d M_X7_joined [.inl (o + 1), .inl x, .inl y] h Q := by
  unfold op2 at k
  rw [if_neg (by omega), if_neg (by omega), if_neg (by omega), if_neg (by omega)] at k
  refine cf_of pX7 (Nat.le_of_ble_eq_true rfl) rfl (fun _ => B_X7_joined_0 ⟨fun c => ?_, fun c => ?_⟩)
  · rw [if_neg (by omega), if_pos (by omega)] at k
    exact ⟨fun q => B_X7_joined_30 (by rw [if_pos (Or.inl q)] at k; exact k), fun q => ⟨fun q2 => by rw [if_neg (by omega)] at k; exact k, fun q2 => B_X7_joined_30 (by rw [if_pos (Or.inr q2)] at k; exact k)⟩⟩
  · rw [if_pos (by omega)] at k
    exact ⟨fun q => B_X7_joined_18 (by rw [if_neg (by omega)] at k; exact k), fun q => ⟨fun q2 => B_X7_joined_18 (by rw [if_neg (by omega)] at k; exact k), fun q2 => by rw [if_pos ⟨q, q2⟩] at k; exact k⟩⟩
theorem c_X7_isInside {v : Int} {h : am_H} (k1 : 0 ≤ v → v < h 294 23 → Q 1 h) (k0 : ¬ (0 ≤ v ∧ v < h 294 23) → Q 0 h) : cf d M_X7_isInside [.inr (.inr 294), .inr (.inl v)] h Q :=
  cf_of pX7 (Nat.le_of_ble_eq_true rfl) rfl (fun _ => B_X7_isInside_0 ⟨fun c => k0 (by have := lcmp_neg c; omega), fun c => ⟨fun c2 => k0 (by have := lcmp_nn c2; omega), fun c2 => k1 (lcmp_nn c) (lcmp_neg c2)⟩⟩)
/-- one of what is worked out last -/
theorem c_X7_ofOne {t n v : Int} {q : Nat} {h : am_H} (he : eok l η β b) (hc : rce l h η β b) (ht : t = 7 ∨ t = 9) (n0 : 0 ≤ n ∧ n < 330) (e1 : h 301 n = v) (hv : -20000000 ≤ v ∧ v ≤ 20000000) (e2 : h 302 n = (q : Int)) (hq : q < 2 ^ 40) (k : ∀ h2, (∀ m, fB h h2 n m) → h2 301 n = un1 η β b t v → h2 302 n = ((q ||| pl1 η b t v : Nat) : Int) → Q 0 h2) : cf (d + 1) M_X7_ofOne [.inr (.inr 294), .inl (o1r t), .inl n] h Q := by
  have eb := he.1
  have es := he.2.1
  obtain ⟨c0, c1, c2, c3⟩ := hc
  rcases ht with rfl | rfl
  · rw [show o1r 7 = 5 from rfl]
    refine cf_of pX7 (Nat.le_of_ble_eq_true rfl) rfl (fun _ => B_X7_ofOne_0 ⟨fun c => by omega, fun _ => ⟨n0.1, n0.2, ?_⟩⟩)
    rw [e1, w64e (by omega) (by omega)]
    refine k _ (fun m => fB_up (by omega)) (by rw [am_up_at]; rfl) ?_
    rw [am_up_ne (by omega), e2]
    simp [pl1]
  · rw [show o1r 9 = 2 from rfl]
    refine cf_of pX7 (Nat.le_of_ble_eq_true rfl) rfl (fun _ => B_X7_ofOne_0 ⟨fun _ => ⟨n0.1, n0.2, ?_⟩, fun c => by omega⟩)
    rw [e1]
    refine c_X7_isInside (fun a1 a2 => ⟨fun c => by omega, fun _ => ?_⟩) (fun a => ⟨fun _ => ?_, fun c => absurd rfl c⟩)
    · rw [c1] at a2
      rw [e1, c0, l2i_id (by omega) (by omega), w32e (by omega) (by omega)]
      refine B_X7_ofOne_50 ⟨fun c => by omega, fun _ => ?_⟩
      rw [w32e (by omega) (by omega)]
      refine ⟨by omega, by omega, B_X7_ofOne_76 ⟨n0.1, n0.2, fun c => by omega, fun _ => ⟨n0.1, n0.2, ?_⟩⟩⟩
      have p := p40 (k := (b + v).toNat) (by omega)
      rw [e2, show b + v = (((b + v).toNat : Nat) : Int) by omega, show (1 : Int) = ((1 : Nat) : Int) from rfl, lshl_n (by omega) (by omega), Nat.one_mul, lor_n (by omega) (by omega), show (((b + v).toNat : Nat) : Int) = b + v by omega]
      refine k _ (fun m => fB_trans (fB_up (by omega)) (fB_up (by omega)) (Int.le_refl _) (Int.le_refl _)) ?_ ?_
      · rw [am_up_ne (by omega), am_up_at, c3 _ (by omega) (by omega)]
        unfold un1 pk
        rw [if_neg (by decide), if_neg (by decide), if_pos ⟨a1, a2⟩]
      · rw [am_up_at]
        unfold pl1
        rw [if_pos ⟨rfl, a1, a2⟩]
    · rw [c1] at a
      refine B_X7_ofOne_50 ⟨fun _ => B_X7_ofOne_76 ⟨n0.1, n0.2, fun _ => ?_, fun c => absurd rfl c⟩, fun c => absurd rfl c⟩
      refine k _ (fun m => fB_up (by omega)) ?_ ?_
      · rw [am_up_at]
        unfold un1 pk
        rw [if_neg (by decide), if_neg (by decide), if_neg a]
      · rw [am_up_ne (by omega), e2]
        unfold pl1
        rw [if_neg (fun z => a z.2), Nat.or_zero]
end WORK
