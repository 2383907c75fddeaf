/-! LEVEL 3, the reference asks of the TOKEN at hand -/
section RTOK
variable {d : Nat} {g h h2 : am_H} {Q : Int → am_H → Prop} {K V P E : Nat → Int} {N : Nat} {c t : Int} {l : Bool} {i o : Nat} {w : Int} {σ : List Int} {wh : Bool}
theorem or8 {a b : Nat} (hb : b < 256) : a * 2 ^ 8 ||| b = a * 256 + b := by
  have := Nat.two_pow_add_eq_or_of_lt (i := 8) (b := b) (by omega) a
  rw [Nat.mul_comm a (2 ^ 8), ← this]
theorem lor8 {a b : Int} (ha : 0 ≤ a ∧ a < 1000000000000000) (hb : 0 ≤ b ∧ b < 256) : am_lor (am_lshl a 8) b = a * 256 + b := by
  have e := lshl_n (a := a.toNat) (k := 8) (by omega) (by omega)
  rw [show ((8 : Nat) : Int) = 8 from rfl, show ((a.toNat : Nat) : Int) = a by omega] at e
  rw [e, show b = ((b.toNat : Nat) : Int) by omega, lor_n (by omega) (by omega), or8 (by omega)]
  omega
theorem c_w2 {x y r : Int} (hx : 0 ≤ x ∧ x < 256) (hy : 0 ≤ y ∧ y < 256) (e : r = x * 256 + y) (k : Q r h) : cf d M_X7_w2 [.inl x, .inl y] h Q := by
  refine cf_of pX7 (Nat.le_of_ble_eq_true rfl) rfl (fun _ => B_X7_w2_0 ?_)
  rw [lor8 (by omega) hy, ← e]
  exact k
theorem c_w3 {x y z r : Int} (hx : 0 ≤ x ∧ x < 256) (hy : 0 ≤ y ∧ y < 256) (hz : 0 ≤ z ∧ z < 256) (e : r = (x * 256 + y) * 256 + z) (k : Q r h) : cf (d + 1) M_X7_w3 [.inl x, .inl y, .inl z] h Q := by
  refine cf_of pX7 (Nat.le_of_ble_eq_true rfl) rfl (fun _ => B_X7_w3_0 (c_w2 hx hy rfl ?_))
  rw [lor8 (by omega) hz, ← e]
  exact k
theorem c_w4 {x y z u r : Int} (hx : 0 ≤ x ∧ x < 256) (hy : 0 ≤ y ∧ y < 256) (hz : 0 ≤ z ∧ z < 256) (hu : 0 ≤ u ∧ u < 256) (e : r = ((x * 256 + y) * 256 + z) * 256 + u) (k : Q r h) : cf (d + 2) M_X7_w4 [.inl x, .inl y, .inl z, .inl u] h Q := by
  refine cf_of pX7 (Nat.le_of_ble_eq_true rfl) rfl (fun _ => B_X7_w4_0 (c_w3 hx hy hz rfl ?_))
  rw [lor8 (by omega) hu, ← e]
  exact k
theorem c_w5 {x y z u v r : Int} (hx : 0 ≤ x ∧ x < 256) (hy : 0 ≤ y ∧ y < 256) (hz : 0 ≤ z ∧ z < 256) (hu : 0 ≤ u ∧ u < 256) (hv : 0 ≤ v ∧ v < 256) (e : r = (((x * 256 + y) * 256 + z) * 256 + u) * 256 + v) (k : Q r h) : cf (d + 3) M_X7_w5 [.inl x, .inl y, .inl z, .inl u, .inl v] h Q := by
  refine cf_of pX7 (Nat.le_of_ble_eq_true rfl) rfl (fun _ => B_X7_w5_0 (c_w4 hx hy hz hu rfl ?_))
  rw [lor8 (by omega) hv, ← e]
  exact k
theorem lcmp_eq0 {x y : Int} : am_lcmp x y = 0 ↔ x = y := by
  unfold am_lcmp
  split
  · omega
  · split <;> omega
/-- is it the word? -/
theorem c_isW {x : Int} (S : rL h K V P E i) (u : Int) (hu : 0 ≤ u ∧ u ≤ 22) (e : x = wdv u) (k1 : K i = u → Q 1 h) (k0 : K i ≠ u → Q 0 h) : cf d M_X7_isWord [.inr (.inr 294), .inr (.inl x)] h Q := by
  have W := rtk_w S.2.2.1 hu
  subst e
  refine cf_of pX7 (Nat.le_of_ble_eq_true rfl) rfl (fun _ => B_X7_isWord_0 ⟨fun q => k0 (fun z => q (W.2 z).1), fun q => ⟨fun q2 => k0 (fun z => q2 (lcmp_eq0.2 (W.2 z).2)), fun q2 => k1 (W.1 ⟨q, lcmp_eq0.1 q2⟩)⟩⟩)
/-- the FIELD that is named -/
theorem c_fieldNamed (S : rL h K V P E i) (k1 : 32 ≤ K i → K i ≤ 39 → Q (K i - 32) h) (k0 : ¬ (32 ≤ K i ∧ K i ≤ 39) → Q (-1) h) : cf (d + 1) M_X7_fieldNamed [.inr (.inr 294)] h Q := by
  obtain ⟨s7, s8, sR, sP, sB⟩ := S
  have F := rtk_f sR
  refine cf_of pX7 (Nat.le_of_ble_eq_true rfl) rfl (fun _ => B_X7_fieldNamed_0 ⟨fun q => k0 (fun z => q (F.1.2 z).1), fun q => ?_⟩)
  have p := sP q
  rw [w32e (z := h 294 7 - h 294 8) (by omega) (by omega)]
  have by1 : ∀ Q2 : Int → am_H → Prop, Q2 (h 298 (h 294 8)) h → cf d M_X7_byteAt [.inr (.inr 294), .inl (h 294 8)] h Q2 := fun Q2 kk =>
    cf_of pX7 (Nat.le_of_ble_eq_true rfl) rfl (fun _ => B_X7_byteAt_0 ⟨fun y => by omega, fun y => ⟨by omega, by omega, kk⟩⟩)
  refine ⟨fun q2 => k0 (fun z => q2 (F.1.2 z).2.1), fun q2 => by1 _ (c_X7_isIn (fun a b => ⟨fun y => absurd y (by omega), fun _ => by1 _ ?_⟩) (fun a => ⟨fun _ => k0 (fun z => ?_), fun y => absurd rfl y⟩))⟩
  · have z := F.1.1 ⟨q, q2, a, b⟩
    have e := F.2 z.1 z.2
    rw [w32e (z := h 298 (h 294 8) - 97) (by omega) (by omega), show h 298 (h 294 8) - 97 = K i - 32 by omega]
    exact k1 z.1 z.2
  · have e := F.2 z.1 z.2
    omega
theorem c_nameOf (S : rL h K V P E i) (k : Q (nmK (K i)) h) : cf (d + 4) M_X7_nameOf [.inr (.inr 294)] h Q := by
  have R := S.2.2.1
  refine cf_of pX7 (Nat.le_of_ble_eq_true rfl) rfl (fun _ => B_X7_nameOf_0 ⟨fun q2 => ?_, fun q2 => ?_⟩)
  · have W : ∀ u : Int, 0 ≤ u ∧ u ≤ 22 → (am_lcmp (h 294 11) (wdv u) = 0 ↔ K i = u) := fun u hu => ⟨fun q => (rtk_w R hu).1 ⟨q2, lcmp_eq0.1 q⟩, fun q => lcmp_eq0.2 ((rtk_w R hu).2 q).2⟩
    refine c_fieldNamed S (fun a b => ⟨fun q => by omega, fun _ => c_fieldNamed S (fun _ _ => ?_) (fun q => absurd ⟨a, b⟩ q)⟩) (fun nf => ⟨fun _ => ?_, fun q => absurd rfl q⟩)
    · unfold nmK at k
      rw [if_pos ⟨a, b⟩] at k
      exact k
    · unfold nmK at k
      rw [if_neg nf] at k
      refine c_w4 (by omega) (by omega) (by omega) (by omega) (r := wdv 6) (by decide) ⟨fun q => ?_, fun q => ?_⟩
      · rw [if_neg (fun z => q ((W 6 (by omega)).2 z))] at k
        refine c_w4 (by omega) (by omega) (by omega) (by omega) (r := wdv 20) (by decide) ⟨fun q => ?_, fun q => ?_⟩
        · rw [if_neg (fun z => q ((W 20 (by omega)).2 z))] at k
          refine c_w3 (by omega) (by omega) (by omega) (r := wdv 8) (by decide) ⟨fun q => ?_, fun q => ?_⟩
          · rw [if_neg (fun z => q ((W 8 (by omega)).2 z))] at k
            refine c_w5 (by omega) (by omega) (by omega) (by omega) (by omega) (r := wdv 21) (by decide) ⟨fun q => ?_, fun q => ?_⟩
            · rw [if_neg (fun z => q ((W 21 (by omega)).2 z))] at k
              refine c_w3 (by omega) (by omega) (by omega) (r := wdv 22) (by decide) ⟨fun q => ?_, fun q => ?_⟩
              · rw [if_neg (fun z => q ((W 22 (by omega)).2 z))] at k; exact k
              · rw [if_pos ((W 22 (by omega)).1 q)] at k; exact k
            · rw [if_pos ((W 21 (by omega)).1 q)] at k; exact k
          · rw [if_pos ((W 8 (by omega)).1 q)] at k; exact k
        · rw [if_pos ((W 20 (by omega)).1 q)] at k; exact k
      · rw [if_pos ((W 6 (by omega)).1 q)] at k; exact k
  · have e : nmK (K i) = -1 := by
      unfold nmK
      have w6 := rtk_w R (w := 6) (by omega)
      have w20 := rtk_w R (w := 20) (by omega)
      have w8 := rtk_w R (w := 8) (by omega)
      have w21 := rtk_w R (w := 21) (by omega)
      have w22 := rtk_w R (w := 22) (by omega)
      have f := (rtk_f R).1
      rw [if_neg (fun z => q2 (f.2 z).1), if_neg (fun z => q2 (w6.2 z).1), if_neg (fun z => q2 (w20.2 z).1), if_neg (fun z => q2 (w8.2 z).1), if_neg (fun z => q2 (w21.2 z).1), if_neg (fun z => q2 (w22.2 z).1)]
    rw [e] at k
    exact k
theorem c_isOf {n : Int} (law : h 294 14 = 4 ↔ l = true) (k1 : n = 8 ∨ (l = true ∧ 9 < n) ∨ (l = false ∧ n ≤ 9) → Q 1 h) (k0 : ¬ (n = 8 ∨ (l = true ∧ 9 < n) ∨ (l = false ∧ n ≤ 9)) → Q 0 h) : cf d M_X7_isOf [.inr (.inr 294), .inl n] h Q := by
  have go : ∀ s : Int, n ≠ 8 → (s = if 9 < n then 1 else 0) → wf d M_X7_isOf Q 17 [some (.inr (.inr 294)), none] [.inl s] h := by
    intro s n8 es
    refine B_X7_isOf_17 ⟨fun q => B_X7_isOf_30 ?_, fun q => B_X7_isOf_30 ?_⟩
    · have lf : l = false := by
        cases l with
        | true => exact absurd (law.2 rfl) q
        | false => rfl
      subst lf
      by_cases z : 9 < n
      · rw [if_pos z] at es
        exact ⟨fun _ => k0 (fun y => by rcases y with y | y | y; exact n8 y; exact absurd y.1 (by simp); omega), fun y => by omega⟩
      · rw [if_neg z] at es
        exact ⟨fun y => by omega, fun _ => B_X7_isOf_33 (k1 (Or.inr (Or.inr ⟨rfl, by omega⟩)))⟩
    · have lt := law.1 q
      subst lt
      by_cases z : 9 < n
      · rw [if_pos z] at es
        exact ⟨fun y => by omega, fun _ => B_X7_isOf_33 (k1 (Or.inr (Or.inl ⟨rfl, z⟩)))⟩
      · rw [if_neg z] at es
        exact ⟨fun _ => k0 (fun y => by rcases y with y | y | y; exact n8 y; omega; exact absurd y.1 (by simp)), fun y => by omega⟩
  refine cf_of pX7 (Nat.le_of_ble_eq_true rfl) rfl (fun _ => B_X7_isOf_0 ⟨fun q => B_X7_isOf_33 (k1 (Or.inl q)), fun q => ⟨fun z => go 0 q (by rw [if_neg (by omega)]), fun z => go 1 q (by rw [if_pos z])⟩⟩)
theorem c_compareOf (S : rL h K V P E i) (k : Q (if cmpK (K i) < 0 then -1 else cmpK (K i) - 4) h) : cf d M_X7_compareOf [.inr (.inr 294)] h Q := by
  have R := S.2.2.1
  have n := rtk_n R
  have e60 := rtk_s R (s := 60) (by omega)
  have e61 := rtk_s R (s := 61) (by omega)
  have e62 := rtk_s R (s := 62) (by omega)
  have e35 := rtk_s R (s := 35) (by omega)
  have e4 := n.2.2.1
  have e5 := n.2.2.2.1
  have go : ∀ r : Int, (cmpK (K i) = r + 4 ∧ 0 ≤ r) ∨ (r = -1 ∧ cmpK (K i) = -1) → Q r h := by
    intro r q
    rcases q with ⟨q, q2⟩ | ⟨q, q2⟩
    · rw [if_neg (by omega), q] at k
      rw [show r = r + 4 - 4 by omega]; exact k
    · rw [if_pos (by omega)] at k; rw [q]; exact k
  refine cf_of pX7 (Nat.le_of_ble_eq_true rfl) rfl (fun _ => B_X7_compareOf_0 ⟨fun q1 => ⟨fun q2 => ⟨fun q3 => ⟨fun q4 => ⟨fun q5 => ⟨fun q6 => go _ (Or.inr ⟨rfl, ?_⟩), fun q6 => go _ (Or.inl ⟨?_, by omega⟩)⟩, fun q5 => go _ (Or.inl ⟨?_, by omega⟩)⟩, fun q4 => go _ (Or.inl ⟨?_, by omega⟩)⟩, fun q3 => go _ (Or.inl ⟨?_, by omega⟩)⟩, fun q2 => go _ (Or.inl ⟨?_, by omega⟩)⟩, fun q1 => go _ (Or.inl ⟨?_, by omega⟩)⟩)
  · unfold cmpK
    rw [if_neg (by omega), if_neg (by omega), if_neg (by omega), if_neg (by omega), if_neg (by omega), if_neg (by omega)]
  · rw [e35.1 q6]; decide
  · rw [e61.1 q5]; decide
  · rw [e5.1 q4]; decide
  · rw [e62.1 q3]; decide
  · rw [e4.1 q2]; decide
  · rw [e60.1 q1]; decide
def btw (k : Int) (σ : List Int) (r : Int) : Prop := (k = 171 ∧ r = 6) ∨ (k = 173 ∧ r = 7) ∨ (k = 170 ∧ r = 8) ∨ (k = 175 ∧ r = 9) ∨
  (¬ (k = 171 ∨ k = 173 ∨ k = 170 ∨ k = 175) ∧ ((¬ isA (opw σ) ∧ r = -1) ∨ (isA (opw σ) ∧ cpd σ = false ∧ r = if cmpK k < 0 then -1 else cmpK k - 4) ∨ (isA (opw σ) ∧ cpd σ = true ∧ ((k = 18 ∧ r = 21) ∨ (k = 17 ∧ r = 22) ∨ (¬ k = 18 ∧ ¬ k = 17 ∧ r = -1)))))
theorem c_betweenOf (S : rS g h K V P E c i w o σ wh) (len : σ.length ≤ 160) (k : ∀ r, btw (K i) σ r → Q r h) : cf (d + 3) M_X7_betweenOf [.inr (.inr 294)] h Q := by
  have L := S.2.1
  have R := L.2.2.1
  have e43 := rtk_s R (s := 43) (by omega)
  have e45 := rtk_s R (s := 45) (by omega)
  have e42 := rtk_s R (s := 42) (by omega)
  have e47 := rtk_s R (s := 47) (by omega)
  refine cf_of pX7 (Nat.le_of_ble_eq_true rfl) rfl (fun _ => B_X7_betweenOf_0 ⟨fun q1 => ⟨fun q2 => ⟨fun q3 => ⟨fun q4 => ?_, fun q4 => k _ (Or.inr (Or.inr (Or.inr (Or.inl ⟨e47.1 q4, rfl⟩))))⟩, fun q3 => k _ (Or.inr (Or.inr (Or.inl ⟨e42.1 q3, rfl⟩)))⟩, fun q2 => k _ (Or.inr (Or.inl ⟨e45.1 q2, rfl⟩))⟩, fun q1 => k _ (Or.inl ⟨e43.1 q1, rfl⟩)⟩)
  have nk : ¬ (K i = 171 ∨ K i = 173 ∨ K i = 170 ∨ K i = 175) := by omega
  refine c_openNow S len (c_isAsk (fun a => ⟨fun _ => c_isCompared S len ?_, fun y => absurd y (by omega)⟩) (fun a => ⟨fun y => absurd rfl y, fun _ => k _ (Or.inr (Or.inr (Or.inr (Or.inr ⟨nk, Or.inl ⟨a, rfl⟩⟩))))⟩))
  cases cc : cpd σ with
  | false =>
    refine ⟨fun y => absurd rfl y, fun _ => c_compareOf L (k _ (Or.inr (Or.inr (Or.inr (Or.inr ⟨nk, Or.inr (Or.inl ⟨a, cc, rfl⟩)⟩)))))⟩
  | true =>
    refine ⟨fun _ => c_w3 (by omega) (by omega) (by omega) (r := wdv 18) (by decide) (c_isW L 18 (by omega) rfl (fun z => ⟨fun y => absurd y (by omega), fun _ => k _ (Or.inr (Or.inr (Or.inr (Or.inr ⟨nk, Or.inr (Or.inr ⟨a, cc, Or.inl ⟨z, rfl⟩⟩)⟩))))⟩) (fun z => ⟨fun _ => ?_, fun y => absurd rfl y⟩)), fun y => absurd y (by simp)⟩
    exact c_w2 (by omega) (by omega) (r := wdv 17) (by decide) (c_isW L 17 (by omega) rfl (fun z2 => ⟨fun y => absurd y (by omega), fun _ => k _ (Or.inr (Or.inr (Or.inr (Or.inr ⟨nk, Or.inr (Or.inr ⟨a, cc, Or.inr (Or.inl ⟨z2, rfl⟩)⟩)⟩))))⟩) (fun z2 => ⟨fun _ => k _ (Or.inr (Or.inr (Or.inr (Or.inr ⟨nk, Or.inr (Or.inr ⟨a, cc, Or.inr (Or.inr ⟨z, z2, rfl⟩)⟩)⟩)))), fun y => absurd rfl y⟩))
def prt (k : Int) (b : Bool) (o r : Int) : Prop := (o = 40 ∧ k = 169 ∧ r = 0) ∨ (o = 41 ∧ k = 14 ∧ b = true ∧ r = 42) ∨ (o = 42 ∧ k = 15 ∧ r = 43) ∨ (o = 43 ∧ k = 16 ∧ r = 0) ∨
  (¬ (o = 40 ∧ k = 169) ∧ ¬ (o = 41 ∧ k = 14 ∧ b = true) ∧ ¬ (o = 42 ∧ k = 15) ∧ ¬ (o = 43 ∧ k = 16) ∧ r = -1)
theorem c_partOf {x : Int} (S : rS g h K V P E c i w o σ wh) (len : σ.length ≤ 160) (k : ∀ r, prt (K i) (cpd σ) x r → Q r h) : cf (d + 3) M_X7_partOf [.inr (.inr 294), .inl x] h Q := by
  have L := S.2.1
  have R := L.2.2.1
  have e41 := rtk_s R (s := 41) (by omega)
  have no : ¬ (x = 40 ∧ K i = 169) → ¬ (x = 41 ∧ K i = 14 ∧ cpd σ = true) → ¬ (x = 42 ∧ K i = 15) → ¬ (x = 43 ∧ K i = 16) → Q (-1) h := fun a b c e => k _ (Or.inr (Or.inr (Or.inr (Or.inr ⟨a, b, c, e, rfl⟩))))
  refine cf_of pX7 (Nat.le_of_ble_eq_true rfl) rfl (fun _ => B_X7_partOf_0 ⟨fun q => no (by omega) (by omega) (by omega) (by omega), fun q => ⟨fun z => no (by omega) (by omega) (by omega) (by omega), fun z => k _ (Or.inl ⟨q, e41.1 z, rfl⟩)⟩, fun q => ?_, fun q => ?_, fun q => ?_⟩)
  · refine c_w4 (by omega) (by omega) (by omega) (by omega) (r := wdv 14) (by decide) (c_isW L 14 (by omega) rfl (fun z => ⟨fun y => absurd y (by omega), fun _ => c_isCompared S len ?_⟩) (fun z => ⟨fun _ => no (by omega) (by omega) (by omega) (by omega), fun y => absurd rfl y⟩))
    cases cc : cpd σ with
    | false => exact ⟨fun _ => no (by omega) (fun y => by rw [cc] at y; simp at y) (by omega) (by omega), fun y => absurd rfl y⟩
    | true => exact ⟨fun y => absurd y (by simp), fun _ => k _ (Or.inr (Or.inl ⟨q, z, cc, rfl⟩))⟩
  · exact c_w4 (by omega) (by omega) (by omega) (by omega) (r := wdv 15) (by decide) (c_isW L 15 (by omega) rfl (fun z => ⟨fun y => absurd y (by omega), fun _ => k _ (Or.inr (Or.inr (Or.inl ⟨q, z, rfl⟩)))⟩) (fun z => ⟨fun _ => no (by omega) (by omega) (by omega) (by omega), fun y => absurd rfl y⟩))
  · exact c_w3 (by omega) (by omega) (by omega) (r := wdv 16) (by decide) (c_isW L 16 (by omega) rfl (fun z => ⟨fun y => absurd y (by omega), fun _ => k _ (Or.inr (Or.inr (Or.inr (Or.inl ⟨q, z, rfl⟩))))⟩) (fun z => ⟨fun _ => no (by omega) (by omega) (by omega) (by omega), fun y => absurd rfl y⟩))
theorem c_opened {x : Int} (H : rE g K V P E N c t l) (S : rS g h K V P E c i w o σ wh) (len : σ.length < 160) (ho : o ≤ 8) (hi : i + 1 ≤ N) (k1 : o < 8 → ∀ h2, rS g h2 K V P E c (i + 1) w (o + 1) (x :: σ) wh → h2 297 = h 297 → Q 0 h2) (k0 : ¬ o < 8 → Q 3 h) : cf (d + 3) M_X7_opened [.inr (.inr 294), .inl x] h Q := by
  have h16 := S.2.2.2.1
  have h17 := S.2.2.2.2.1
  refine cf_of pX7 (Nat.le_of_ble_eq_true rfl) rfl (fun _ => B_X7_opened_0 ⟨fun q => ?_, fun q => k0 (by omega)⟩)
  rw [h16, h17, w32e (z := (o : Int) + 1) (by omega) (by omega), w32e (z := (σ.length : Int) + 1) (by omega) (by omega)]
  refine ⟨by omega, by omega, ?_⟩
  refine c_next (σ := x :: σ) (o := o + 1) H (rS_mk S (fun b q q2 q3 => ?_) (fun j q => ?_) (fun q hq => ?_) ?_ ?_ ?_ ?_ ?_) hi (fun h2 S2 R2 => k1 (by omega) h2 S2 ?_)
  · rw [upr (by omega), upr (by omega), upr (by omega)]
  · rw [am_up_ne (by omega), am_up_ne (by omega), am_up_ne (by omega)]
  · rw [am_up_ne (by omega), am_up_ne (by omega), am_up_ne (by omega)]
  · rw [am_up_ne (by omega), am_up_ne (by omega), am_up_ne (by omega)]; exact S.2.2.1
  · rw [am_up_at, List.length_cons]; omega
  · rw [am_up_ne (by omega), am_up_ne (by omega), am_up_at]; omega
  · rw [am_up_ne (by omega), am_up_ne (by omega), am_up_ne (by omega)]; exact S.2.2.2.2.2.1
  · refine ⟨?_, pil_congr σ S.2.2.2.2.2.2 (fun q hq => ?_)⟩
    · rw [am_up_ne (by omega), am_up_at]
    · rw [am_up_ne (by omega), am_up_ne (by omega), am_up_ne (by omega)]
  · rw [R2, upr (by omega), upr (by omega), upr (by omega)]
end RTOK
