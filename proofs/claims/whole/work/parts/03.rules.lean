theorem am_ok32 (x : Int32) : am_i32 x.toInt := by
  have h1 := Int32.le_toInt x
  have h2 := Int32.toInt_lt x
  unfold am_i32
  omega
theorem am_ok64 (x : Int64) : am_i64 x.toInt := by
  have h1 := Int64.le_toInt x
  have h2 := Int64.toInt_lt x
  unfold am_i64
  omega
def am_w32 (z : Int) : Int := (Int32.ofInt z).toInt
def am_w64 (z : Int) : Int := (Int64.ofInt z).toInt
theorem am_w32_e (z : Int) : Int32.ofInt (am_w32 z) = Int32.ofInt z := Int32.ofInt_toInt _
theorem am_w64_e (z : Int) : Int64.ofInt (am_w64 z) = Int64.ofInt z := Int64.ofInt_toInt _
theorem am_w32_id {z : Int} (h : am_i32 z) : am_w32 z = z := Int32.toInt_ofInt_of_le (by unfold am_i32 at h; omega) (by unfold am_i32 at h; omega)
theorem am_w64_id {z : Int} (h : am_i64 z) : am_w64 z = z := Int64.toInt_ofInt_of_le (by unfold am_i64 at h; omega) (by unfold am_i64 at h; omega)
theorem am_32_64 {z : Int} (h : am_i32 z) : am_i64 z := by unfold am_i32 at h; unfold am_i64; omega
theorem am_lt32 {x y : Int} (hx : am_i32 x) (hy : am_i32 y) : (Int32.ofInt x < Int32.ofInt y) ↔ x < y := by
  rw [Int32.lt_iff_toInt_lt]; exact ⟨fun h => by rwa [show (Int32.ofInt x).toInt = x from am_w32_id hx, show (Int32.ofInt y).toInt = y from am_w32_id hy] at h, fun h => by rwa [show (Int32.ofInt x).toInt = x from am_w32_id hx, show (Int32.ofInt y).toInt = y from am_w32_id hy]⟩
theorem am_le32 {x y : Int} (hx : am_i32 x) (hy : am_i32 y) : (Int32.ofInt x ≤ Int32.ofInt y) ↔ x ≤ y := by
  rw [Int32.le_iff_toInt_le]; exact ⟨fun h => by rwa [show (Int32.ofInt x).toInt = x from am_w32_id hx, show (Int32.ofInt y).toInt = y from am_w32_id hy] at h, fun h => by rwa [show (Int32.ofInt x).toInt = x from am_w32_id hx, show (Int32.ofInt y).toInt = y from am_w32_id hy]⟩
theorem am_eq32 {x y : Int} (hx : am_i32 x) (hy : am_i32 y) : (Int32.ofInt x = Int32.ofInt y) ↔ x = y := by
  rw [← Int32.toInt_inj]; exact ⟨fun h => by rwa [show (Int32.ofInt x).toInt = x from am_w32_id hx, show (Int32.ofInt y).toInt = y from am_w32_id hy] at h, fun h => by rw [h]⟩
theorem am_lt64 {x y : Int} (hx : am_i64 x) (hy : am_i64 y) : (Int64.ofInt x < Int64.ofInt y) ↔ x < y := by
  rw [Int64.lt_iff_toInt_lt]; exact ⟨fun h => by rwa [show (Int64.ofInt x).toInt = x from am_w64_id hx, show (Int64.ofInt y).toInt = y from am_w64_id hy] at h, fun h => by rwa [show (Int64.ofInt x).toInt = x from am_w64_id hx, show (Int64.ofInt y).toInt = y from am_w64_id hy]⟩
theorem am_eq64 {x y : Int} (hx : am_i64 x) (hy : am_i64 y) : (Int64.ofInt x = Int64.ofInt y) ↔ x = y := by
  rw [← Int64.toInt_inj]; exact ⟨fun h => by rwa [show (Int64.ofInt x).toInt = x from am_w64_id hx, show (Int64.ofInt y).toInt = y from am_w64_id hy] at h, fun h => by rw [h]⟩
theorem am_c0 : am_i32 0 := by unfold am_i32; omega
theorem am_c0l : am_i64 0 := by unfold am_i64; omega
theorem am_nat {z : Int} (h : am_i32 z) : (Int32.ofInt z).toNatClampNeg = z.toNat := Int32.toNatClampNeg_ofInt_of_le (by unfold am_i32 at h; omega) (by unfold am_i32 at h; omega)
def am_iand (x y : Int) : Int := (Int32.ofInt x &&& Int32.ofInt y).toInt
def am_ior (x y : Int) : Int := (Int32.ofInt x ||| Int32.ofInt y).toInt
def am_ixor (x y : Int) : Int := (Int32.ofInt x ^^^ Int32.ofInt y).toInt
def am_ishl (x y : Int) : Int := (Int32.ofInt x <<< (Int32.ofInt y &&& 31)).toInt
def am_ishr (x y : Int) : Int := (Int32.ofInt x >>> (Int32.ofInt y &&& 31)).toInt
def am_land (x y : Int) : Int := (Int64.ofInt x &&& Int64.ofInt y).toInt
def am_lor (x y : Int) : Int := (Int64.ofInt x ||| Int64.ofInt y).toInt
def am_lxor (x y : Int) : Int := (Int64.ofInt x ^^^ Int64.ofInt y).toInt
def am_lshl (x y : Int) : Int := (Int64.ofInt x <<< ((Int32.ofInt y).toInt64 &&& 63)).toInt
def am_lshr (x y : Int) : Int := (Int64.ofInt x >>> ((Int32.ofInt y).toInt64 &&& 63)).toInt
def am_l2i (x : Int) : Int := ((Int64.ofInt x).toInt32).toInt
def am_i2c (x : Int) : Int := (((Int32.ofInt x).toUInt32 % 65536).toInt32).toInt
def am_lcmp (x y : Int) : Int := if y < x then 1 else if x = y then 0 else -1
/-- the locals, a value of one slot in a place -/
def am_set1 (ls : List (Option am_V)) (i : Nat) (v : am_V) : List (Option am_V) := match i with
  | 0 => ls.set 0 (some v)
  | j + 1 => match ls[j]? with
    | some (some (.inr (.inl _))) => (ls.set j none).set (j + 1) (some v)
    | _ => ls.set (j + 1) (some v)
def am_set2 (ls : List (Option am_V)) (i : Nat) (v : am_V) : List (Option am_V) := (am_set1 ls i v).set (i + 1) none
theorem am_ll_mem {ρ : Int → Nat} {ls : List (Option am_V)} {q : Nat × Value} : q ∈ am_ll ρ ls ↔ ∃ v, ls[q.1]? = some (some v) ∧ q.2 = am_cv ρ v := by
  unfold am_ll
  rw [List.mem_filterMap]
  constructor
  · rintro ⟨⟨a, i⟩, h1, h2⟩
    rw [List.mem_zipIdx_iff_getElem?] at h1
    cases a with
    | none => cases h2
    | some v =>
      cases h2
      exact ⟨v, h1, rfl⟩
  · rintro ⟨v, h1, h2⟩
    refine ⟨(some v, q.1), ?_, ?_⟩
    · rw [List.mem_zipIdx_iff_getElem?]; exact h1
    · obtain ⟨i, w⟩ := q
      cases h2
      rfl
theorem am_at {ρ : Int → Nat} {lm : Array Slot} {nL : Nat} {ls : List (Option am_V)} (hl : lv_has lm nL (am_ll ρ ls)) {i : Nat} {v : am_V} (h : ls[i]? = some (some v)) : lm[i]? = some (.val (am_cv ρ v)) :=
  hl.2.2 (i, am_cv ρ v) (am_ll_mem.mpr ⟨v, h, rfl⟩)
theorem am_cat (ρ : Int → Nat) (v : am_V) : ((am_cv ρ v).category = 2) ↔ ∃ z, v = .inr (.inl z) := by
  rcases v with z | z | a
  · simp [am_cv, Value.category]
  · simp [am_cv, Value.category]
  · simp only [am_cv, am_rf]
    split <;> simp [va_rf, Value.category]
theorem am_fewer {lm : Array Slot} {nL : Nat} {l1 l2 : List (Nat × Value)} (h : lv_has lm nL l1) (hs : ∀ q ∈ l2, q ∈ l1) : lv_has lm nL l2 := ⟨h.1, h.2.1, fun q hq => h.2.2 q (hs q hq)⟩
theorem am_set1_get {ls : List (Option am_V)} {i k : Nat} {v w : am_V} (h : (am_set1 ls i v)[k]? = some (some w)) : (k = i ∧ w = v) ∨ (k ≠ i ∧ ls[k]? = some (some w) ∧ ¬ (k + 1 = i ∧ ∃ z, w = .inr (.inl z))) := by
  unfold am_set1 at h
  by_cases hk : k = i
  · left
    refine ⟨hk, ?_⟩
    subst hk
    split at h
    · rw [List.getElem?_set] at h; simp at h; exact h.2.symm
    · split at h
      · rw [List.getElem?_set] at h; simp at h; exact h.2.symm
      · rw [List.getElem?_set] at h; simp at h; exact h.2.symm
  · right
    refine ⟨hk, ?_⟩
    split at h
    · rw [List.getElem?_set_ne (Ne.symm hk)] at h
      exact ⟨h, fun q => by omega⟩
    · rename_i j
      split at h
      · rename_i z hz
        rw [List.getElem?_set_ne (Ne.symm hk)] at h
        by_cases hj : k = j
        · subst hj
          rw [List.getElem?_set] at h
          simp at h
        · rw [List.getElem?_set_ne (Ne.symm hj)] at h
          exact ⟨h, fun q => by omega⟩
      · rename_i hz
        rw [List.getElem?_set_ne (Ne.symm hk)] at h
        refine ⟨h, ?_⟩
        rintro ⟨q, z, rfl⟩
        have : k = j := by omega
        subst this
        exact hz z h
theorem am_keep1 {ρ : Int → Nat} {lm : Array Slot} {nL i : Nat} {ls : List (Option am_V)} {v : am_V} {x : Value} (hx : x = am_cv ρ v) (h : lv_has lm nL ((i, x) :: (am_ll ρ ls).filter (fun q => !(q.1 == i) && !(q.1 + 1 == i && q.2.category == 2)))) : lv_has lm nL (am_ll ρ (am_set1 ls i v)) := by
  refine am_fewer h fun q hq => ?_
  obtain ⟨w, h1, h2⟩ := am_ll_mem.mp hq
  rcases am_set1_get h1 with ⟨g1, g2⟩ | ⟨g1, g2, g3⟩
  · obtain ⟨k, y⟩ := q
    dsimp only at g1 h2
    subst g1; subst g2; subst hx; subst h2
    exact List.mem_cons_self
  · refine List.mem_cons_of_mem _ (List.mem_filter.mpr ⟨am_ll_mem.mpr ⟨w, g2, h2⟩, ?_⟩)
    simp only [Bool.and_eq_true, Bool.not_eq_true', beq_eq_false_iff_ne, ne_eq, Bool.and_eq_false_iff]
    refine ⟨g1, ?_⟩
    by_cases hk : q.1 + 1 = i
    · right
      intro hc
      rw [h2, am_cat] at hc
      exact g3 ⟨hk, hc⟩
    · exact Or.inl hk
theorem am_keep2 {ρ : Int → Nat} {lm : Array Slot} {nL i : Nat} {ls : List (Option am_V)} {v : am_V} {x : Value} (hx : x = am_cv ρ v) (h : lv_has lm nL ((i, x) :: (am_ll ρ ls).filter (fun q => !(q.1 == i) && (!(q.1 == i + 1) && !(q.1 + 1 == i && q.2.category == 2))))) : lv_has lm nL (am_ll ρ (am_set2 ls i v)) := by
  refine am_fewer h fun q hq => ?_
  obtain ⟨w, h1, h2⟩ := am_ll_mem.mp hq
  have hn : q.1 ≠ i + 1 := by
    intro e
    unfold am_set2 at h1
    rw [e, List.getElem?_set] at h1
    simp at h1
  unfold am_set2 at h1
  rw [List.getElem?_set_ne (Ne.symm hn)] at h1
  rcases am_set1_get h1 with ⟨g1, g2⟩ | ⟨g1, g2, g3⟩
  · obtain ⟨k, y⟩ := q
    dsimp only at g1 h2
    subst g1; subst g2; subst hx; subst h2
    exact List.mem_cons_self
  · refine List.mem_cons_of_mem _ (List.mem_filter.mpr ⟨am_ll_mem.mpr ⟨w, g2, h2⟩, ?_⟩)
    simp only [Bool.and_eq_true, Bool.not_eq_true', beq_eq_false_iff_ne, ne_eq, Bool.and_eq_false_iff]
    refine ⟨g1, hn, ?_⟩
    by_cases hk : q.1 + 1 = i
    · right
      intro hc
      rw [h2, am_cat] at hc
      exact g3 ⟨hk, hc⟩
    · exact Or.inl hk
theorem am_ok_set1 {n : Nat} {ls : List (Option am_V)} {i : Nat} {v : am_V} (ho : ∀ w, some w ∈ ls → am_okV n w) (hv : am_okV n v) : ∀ w, some w ∈ am_set1 ls i v → am_okV n w := by
  intro w hw
  obtain ⟨k, hk⟩ := List.getElem?_of_mem hw
  rcases am_set1_get hk with ⟨-, g2⟩ | ⟨-, g2, -⟩
  · rw [g2]; exact hv
  · exact ho w (List.mem_of_getElem? g2)
theorem am_ok_set2 {n : Nat} {ls : List (Option am_V)} {i : Nat} {v : am_V} (ho : ∀ w, some w ∈ ls → am_okV n w) (hv : am_okV n v) : ∀ w, some w ∈ am_set2 ls i v → am_okV n w := by
  intro w hw
  unfold am_set2 at hw
  rcases List.mem_or_eq_of_mem_set hw with h | h
  · exact am_ok_set1 ho hv w h
  · cases h
theorem am_ok_cons {n : Nat} {v : am_V} {st : List am_V} (hv : am_okV n v) (hs : ∀ w ∈ st, am_okV n w) : ∀ w ∈ v :: st, am_okV n w := by
  intro w hw
  rcases List.mem_cons.mp hw with rfl | hw
  · exact hv
  · exact hs w hw
theorem am_ok_hd {n : Nat} {v : am_V} {st : List am_V} (hs : ∀ w ∈ v :: st, am_okV n w) : am_okV n v := hs v List.mem_cons_self
theorem am_ok_tl {n : Nat} {v : am_V} {st : List am_V} (hs : ∀ w ∈ v :: st, am_okV n w) : ∀ w ∈ st, am_okV n w := fun w hw => hs w (List.mem_cons_of_mem _ hw)
theorem am_ok_ls {n : Nat} {ls : List (Option am_V)} {i : Nat} {v : am_V} (ho : ∀ w, some w ∈ ls → am_okV n w) (h : ls[i]? = some (some v)) : am_okV n v := ho v (List.mem_of_getElem? h)
section AM_RULES
variable {fin : Bool} {d : Nat} {M : am_M} {n0 n1 : Nat} {h0 : am_H} {Q : Int → am_H → Prop} {pc : Nat} {ls : List (Option am_V)} {st : List am_V} {n : Nat} {h : am_H}
theorem ar_iconst {z : Int} (hd : decode M.2.1 pc = .ok (.iconst z, 1)) (hz : am_i32 z) (k : am_Wp fin d M n0 n1 h0 Q (pc + 1) ls (.inl z :: st) n h) : am_Wp fin d M n0 n1 h0 Q pc ls st n h := by
  intro p l e s m args below meth c H locs ρ ρ0 cA cA0 D A lm X hn hl hs ho
  refine lv_iconst X.1.1 X.1.2.1 hd rfl ?_
  exact k p l e s m args below meth c H locs ρ ρ0 cA cA0 D A lm X hn hl (am_ok_cons hz hs) ho
theorem am_i8 {z : Int} (h : -128 ≤ z ∧ z ≤ 127) : (Int8.ofInt z).toInt32 = Int32.ofInt z := by
  rw [← Int32.toInt_inj, show (Int32.ofInt z).toInt = z from am_w32_id (by unfold am_i32; omega)]
  show (Int8.ofInt z).toInt32.toInt = z
  rw [Int8.toInt_toInt32, Int8.toInt_ofInt_of_le (by omega) (by omega)]
theorem am_i16 {z : Int} (h : -32768 ≤ z ∧ z ≤ 32767) : (Int16.ofInt z).toInt32 = Int32.ofInt z := by
  rw [← Int32.toInt_inj, show (Int32.ofInt z).toInt = z from am_w32_id (by unfold am_i32; omega)]
  show (Int16.ofInt z).toInt32.toInt = z
  rw [Int16.toInt_toInt32, Int16.toInt_ofInt_of_le (by omega) (by omega)]
theorem ar_bipush {z : Int} (hd : decode M.2.1 pc = .ok (.bipush z, 2)) (hz : -128 ≤ z ∧ z ≤ 127) (k : am_Wp fin d M n0 n1 h0 Q (pc + 2) ls (.inl z :: st) n h) : am_Wp fin d M n0 n1 h0 Q pc ls st n h := by
  intro p l e s m args below meth c H locs ρ ρ0 cA cA0 D A lm X hn hl hs ho
  refine lv_bipush X.1.1 X.1.2.1 hd (am_i8 hz) ?_
  exact k p l e s m args below meth c H locs ρ ρ0 cA cA0 D A lm X hn hl (am_ok_cons (show am_i32 z by unfold am_i32; omega) hs) ho
theorem ar_sipush {z : Int} (hd : decode M.2.1 pc = .ok (.sipush z, 3)) (hz : -32768 ≤ z ∧ z ≤ 32767) (k : am_Wp fin d M n0 n1 h0 Q (pc + 3) ls (.inl z :: st) n h) : am_Wp fin d M n0 n1 h0 Q pc ls st n h := by
  intro p l e s m args below meth c H locs ρ ρ0 cA cA0 D A lm X hn hl hs ho
  refine lv_sipush X.1.1 X.1.2.1 hd (am_i16 hz) ?_
  exact k p l e s m args below meth c H locs ρ ρ0 cA cA0 D A lm X hn hl (am_ok_cons (show am_i32 z by unfold am_i32; omega) hs) ho
theorem ar_lconst {i : Fin 2} {z : Int} (hd : decode M.2.1 pc = .ok (.lconst i, 1)) (hz : ((i : Nat) : Int) = z) (k : am_Wp fin d M n0 n1 h0 Q (pc + 1) ls (.inr (.inl z) :: st) n h) : am_Wp fin d M n0 n1 h0 Q pc ls st n h := by
  intro p l e s m args below meth c H locs ρ ρ0 cA cA0 D A lm X hn hl hs ho
  subst hz
  refine lv_lconst X.1.1 X.1.2.1 hd (v := Int64.ofInt ((i : Nat) : Int)) (by rw [Int64.ofInt_eq_ofNat]) ?_
  exact k p l e s m args below meth c H locs ρ ρ0 cA cA0 D A lm X hn hl (am_ok_cons (show am_i64 _ by have := i.isLt; unfold am_i64; omega) hs) ho
theorem ar_iload_n {i : Nat} {x : Int} {k0 : Fin 4} (hd : decode M.2.1 pc = .ok (.iload_n k0, 1)) (hi : (k0 : Nat) = i) (hx : ls[i]? = some (some (.inl x))) (k : am_Wp fin d M n0 n1 h0 Q (pc + 1) ls ((.inl x) :: st) n h) : am_Wp fin d M n0 n1 h0 Q pc ls st n h := by
  intro p l e s m args below meth c H locs ρ ρ0 cA cA0 D A lm X hn hl hs ho
  exact lv_iload_n X.1.1 X.1.2.1 hd hi (am_at hl hx) (k p l e s m args below meth c H locs ρ ρ0 cA cA0 D A lm X hn hl (am_ok_cons (am_ok_ls ho hx) hs) ho)
theorem ar_iload {i : Nat} {x : Int} (hd : decode M.2.1 pc = .ok (.iload i, 2)) (hx : ls[i]? = some (some (.inl x))) (k : am_Wp fin d M n0 n1 h0 Q (pc + 2) ls ((.inl x) :: st) n h) : am_Wp fin d M n0 n1 h0 Q pc ls st n h := by
  intro p l e s m args below meth c H locs ρ ρ0 cA cA0 D A lm X hn hl hs ho
  exact lv_iload X.1.1 X.1.2.1 hd (am_at hl hx) (k p l e s m args below meth c H locs ρ ρ0 cA cA0 D A lm X hn hl (am_ok_cons (am_ok_ls ho hx) hs) ho)
theorem ar_lload_n {i : Nat} {x : Int} {k0 : Fin 4} (hd : decode M.2.1 pc = .ok (.lload_n k0, 1)) (hi : (k0 : Nat) = i) (hx : ls[i]? = some (some (.inr (.inl x)))) (k : am_Wp fin d M n0 n1 h0 Q (pc + 1) ls ((.inr (.inl x)) :: st) n h) : am_Wp fin d M n0 n1 h0 Q pc ls st n h := by
  intro p l e s m args below meth c H locs ρ ρ0 cA cA0 D A lm X hn hl hs ho
  exact lv_lload_n X.1.1 X.1.2.1 hd hi (am_at hl hx) (k p l e s m args below meth c H locs ρ ρ0 cA cA0 D A lm X hn hl (am_ok_cons (am_ok_ls ho hx) hs) ho)
theorem ar_lload {i : Nat} {x : Int} (hd : decode M.2.1 pc = .ok (.lload i, 2)) (hx : ls[i]? = some (some (.inr (.inl x)))) (k : am_Wp fin d M n0 n1 h0 Q (pc + 2) ls ((.inr (.inl x)) :: st) n h) : am_Wp fin d M n0 n1 h0 Q pc ls st n h := by
  intro p l e s m args below meth c H locs ρ ρ0 cA cA0 D A lm X hn hl hs ho
  exact lv_lload X.1.1 X.1.2.1 hd (am_at hl hx) (k p l e s m args below meth c H locs ρ ρ0 cA cA0 D A lm X hn hl (am_ok_cons (am_ok_ls ho hx) hs) ho)
theorem ar_aload_n {i : Nat} {x : Int} {k0 : Fin 4} (hd : decode M.2.1 pc = .ok (.aload_n k0, 1)) (hi : (k0 : Nat) = i) (hx : ls[i]? = some (some (.inr (.inr x)))) (k : am_Wp fin d M n0 n1 h0 Q (pc + 1) ls (.inr (.inr x) :: st) n h) : am_Wp fin d M n0 n1 h0 Q pc ls st n h := by
  intro p l e s m args below meth c H locs ρ ρ0 cA cA0 D A lm X hn hl hs ho
  have K := k p l e s m args below meth c H locs ρ ρ0 cA cA0 D A lm X hn hl (am_ok_cons (am_ok_ls ho hx) hs) ho
  have L := am_at hl hx
  simp only [List.map_cons, am_cv] at K L
  cases hr : am_rf ρ x with
  | none => rw [hr] at K L; exact lv_aload_nN X.1.1 X.1.2.1 hd hi L K
  | some y => rw [hr] at K L; exact lv_aload_n X.1.1 X.1.2.1 hd hi L K
theorem ar_aload {i : Nat} {x : Int} (hd : decode M.2.1 pc = .ok (.aload i, 2)) (hx : ls[i]? = some (some (.inr (.inr x)))) (k : am_Wp fin d M n0 n1 h0 Q (pc + 2) ls (.inr (.inr x) :: st) n h) : am_Wp fin d M n0 n1 h0 Q pc ls st n h := by
  intro p l e s m args below meth c H locs ρ ρ0 cA cA0 D A lm X hn hl hs ho
  have K := k p l e s m args below meth c H locs ρ ρ0 cA cA0 D A lm X hn hl (am_ok_cons (am_ok_ls ho hx) hs) ho
  have L := am_at hl hx
  simp only [List.map_cons, am_cv] at K L
  cases hr : am_rf ρ x with
  | none => rw [hr] at K L; exact lv_aloadN X.1.1 X.1.2.1 hd L K
  | some y => rw [hr] at K L; exact lv_aload X.1.1 X.1.2.1 hd L K
end AM_RULES
