section READ4
variable {d : Nat} {h : am_H} {Q : Int → am_H → Prop} {A T : Int} {tx : List Cl} {base size deep : Int} {ρ : Rd} {β : Int → Int} {vo : Bool}
/-- how high a NEST's value is -/
def okn (B : Int) (tx : List Cl) (ρ : Rd) : Prop := ∀ f, f < 8 → kdf tx f = 2 → ¬ ρ f 3 = 1 → 0 ≤ ρ f 0 ∧ ρ f 0 ≤ B
def bD (deep : Int) : Int := if deep = 2 then 0 else if deep = 1 then 1 else 9
/-- reading an interval at a depth comes to F -/
def rfOK (D : Nat) (T : Int) (tx : List Cl) (β : Int → Int) (vo : Bool) (deep : Int) (F : Nat → Int → Int → Rd) : Prop :=
  ∀ (Q : Int → am_H → Prop) (h : am_H) (wanted : Nat) (base size : Int), rpre h T tx β vo deep base size → wanted < 256 →
    (∀ h2, fR h h2 (220 + 5 * deep) → crd h2 (220 + 5 * deep) tx base size deep (F wanted base size) → okr tx (F wanted base size) → okn (bD deep) tx (F wanted base size) → (deep ≤ F wanted base size 8 0 ∧ F wanted base size 8 0 ≤ 2) → h2 218 8 = max (h 218 8) (F wanted base size 8 0) → Q (220 + 5 * deep) h2) →
    cf D M_X2_readFormat [.inr (.inr 218), .inr (.inr T), .inl deep, .inl base, .inl size, .inl (wanted : Int)] h Q
theorem orN_lt8 {g : Nat → Nat} (q : ∀ i, i < 8 → g i < 256) : orN g 8 < 256 := orN_lt (m := 8) 8 q
theorem ndA_lt : ∀ (r : List Nat) (g : Nat → Nat), (∀ f, f ∈ r → f < 8) → (∀ i, g i < 256) → ∀ i, ndA tx r g i < 256
  | [], g, _, hg, i => hg i
  | f :: r, g, hr, hg, i => by
    simp only [ndA]
    refine ndA_lt r _ (fun x hx => hr x (List.mem_cons_of_mem _ hx)) (fun x => ?_) i
    split
    · refine Nat.or_lt_two_pow (n := 8) (Nat.pow_lt_pow_right (n := 8) (by decide) (hr f List.mem_cons_self)) (orN_lt8 (fun y _ => ?_))
      split
      · exact hg y
      · decide
    · exact hg x
theorem needF_lt {f : Nat} : needF tx f < 256 := ndA_lt _ _ (fun x hx => (ord_mem hx).1) (fun _ => by decide) f
theorem needK_lt {k : Int} : needK tx k < 256 := orN_lt8 (fun i _ => by
  split
  · exact needF_lt
  · decide)
theorem wI_lt : wI tx vo deep < 256 := by
  unfold wI
  split
  · split
    · exact needK_lt
    · decide
  · decide
theorem nval_bd {ι : Rd} {B : Int} (B0 : 0 ≤ B) (o : okn B tx ι) : ∀ n, n ≤ 8 → 0 ≤ sumN (fun f => if kdf tx f = 2 ∧ ι f 3 ≠ 1 then ι f 0 else 0) n ∧ sumN (fun f => if kdf tx f = 2 ∧ ι f 3 ≠ 1 then ι f 0 else 0) n ≤ B * n
  | 0, _ => by simp [sumN]
  | n + 1, hn => by
    have i := nval_bd B0 o n (by omega)
    have e : B * ((n + 1 : Nat) : Int) = B * n + B := by
      rw [show ((n + 1 : Nat) : Int) = (n : Int) + 1 by omega, Int.mul_add, Int.mul_one]
    simp only [sumN]
    by_cases c : kdf tx n = 2 ∧ ι n 3 ≠ 1
    · rw [if_pos c]
      have v := o n (by omega) c.1 c.2
      omega
    · rw [if_neg c]; omega
theorem nval_rng {ι : Rd} (hd : deep = 0 ∨ deep = 1) (o : okn (bD (deep + 1)) tx ι) : 1 ≤ nval tx ι ∧ nval tx ι ≤ bD deep := by
  have z := nval_bd (tx := tx) (ι := ι) (B := bD (deep + 1)) (by rcases hd with rfl | rfl <;> decide) o 8 (Nat.le_refl _)
  unfold nval
  rcases hd with rfl | rfl
  · rw [show bD (0 + 1) = 1 from rfl] at z
    rw [show bD 0 = 9 from rfl]
    omega
  · rw [show bD (1 + 1) = 0 from rfl] at z
    rw [show bD 1 = 1 from rfl]
    omega
theorem nlk_lt {ι : Rd} (o : okr tx ι) : nlk ι < 2 ^ 40 := by
  unfold nlk
  refine Nat.or_lt_two_pow (orN_lt 8 (fun i hi => ?_)) ?_
  · have := (o.1 i hi).2.2.2.1
    omega
  · have := o.2.1
    omega
theorem l_X2_readNest {f : Nat} {a z : Int} {ι : Rd} {b2 s2 : Int} (tT : am_kd 321 T = 15) (hd : deep = 0 ∨ deep = 1) (hf : f < 8) (oi : okr tx ι) (on : okn (bD (deep + 1)) tx ι) (hk : ∀ g : Nat, g < 8 → h (T + 5) g = kdf tx g) (ci : crd h (A + 5) tx b2 s2 (deep + 1) ι) (tA5 : am_kd 321 (A + 5) = 13)
    (k : wf (d + 2) M_X2_readNest Q 93 [none, some (.inr (.inr T)), some (.inr (.inr A)), some (.inl (f : Int)), some (.inl a), some (.inl z), none, none, some (.inr (.inr (A + 5))), some (.inl (nval tx ι)), some (.inl 8)] [] h) :
    ∀ (n m : Nat), m + n = 8 → wf (d + 2) M_X2_readNest Q 93 [none, some (.inr (.inr T)), some (.inr (.inr A)), some (.inl (f : Int)), some (.inl a), some (.inl z), none, none, some (.inr (.inr (A + 5))), some (.inl (1 + sumN (fun f => if kdf tx f = 2 ∧ ι f 3 ≠ 1 then ι f 0 else 0) m)), some (.inl (m : Int))] [] h
  | 0, m, hm => by
    have : m = 8 := by omega
    subst this
    exact k
  | n + 1, m, hm => by
    have ih := l_X2_readNest (f := f) (a := a) (z := z) tT hd hf oi on hk ci tA5 k n (m + 1) (by omega)
    have hm8 : m < 8 := by omega
    have bB : 0 ≤ bD (deep + 1) ∧ bD (deep + 1) ≤ 1 := by rcases hd with rfl | rfl <;> decide
    have sb := nval_bd (tx := tx) (ι := ι) bB.1 on m (by omega)
    have sb2 : sumN (fun f => if kdf tx f = 2 ∧ ι f 3 ≠ 1 then ι f 0 else 0) m ≤ 8 := by
      rcases (show bD (deep + 1) = 0 ∨ bD (deep + 1) = 1 by omega) with e | e <;> rw [e] at sb <;> omega
    simp only [sumN] at ih
    have skip : ¬ (kdf tx m = 2 ∧ ι m 3 ≠ 1) → wf (d + 2) M_X2_readNest Q 134 [none, some (.inr (.inr T)), some (.inr (.inr A)), some (.inl (f : Int)), some (.inl a), some (.inl z), none, none, some (.inr (.inr (A + 5))), none, some (.inl (m : Int))] [.inl (1 + sumN (fun f => if kdf tx f = 2 ∧ ι f 3 ≠ 1 then ι f 0 else 0) m)] h := by
      intro c
      rw [if_neg c, Int.add_zero] at ih
      refine B_X2_readNest_134 (B_X2_readNest_135 ?_)
      rw [Int.add_zero, w32e (by omega) (by omega), w32e (by omega) (by omega), show (m : Int) + 1 = ((m + 1 : Nat) : Int) by omega]
      exact ih
    refine B_X2_readNest_93 ⟨fun c => by omega, fun _ => ⟨tT, by omega, fun c => ?_, fun c => ⟨tA5, ?_⟩⟩⟩
    · rw [hk m hm8] at c
      exact skip (fun q => c q.1)
    · rw [hk m hm8] at c
      refine c_X3_isKnown tA5 hm8 ci oi (fun q q2 => ⟨fun c => by omega, fun _ => B_X2_readNest_135 ?_⟩) (fun q => ⟨fun _ => skip (fun y => ?_), fun c => absurd rfl c⟩)
      · rw [if_pos ⟨c, q2⟩] at ih
        have v := on m hm8 c q2
        rw [(ci.2.2.2.1 m hm8).1, w32e (by omega) (by omega), w32e (by omega) (by omega), show (m : Int) + 1 = ((m + 1 : Nat) : Int) by omega, Int.add_assoc]
        exact ih
      · rcases q with q | q
        · have := (oi.1 m hm8).2.1.mpr q
          unfold kdf at c
          rw [if_pos q] at c
          omega
        · exact y.2 q
theorem c_X2_readNest {D f : Nat} {a z : Int} {F : Nat → Int → Int → Rd} (hd : deep = 0 ∨ deep = 1) (eA : A = 220 + 5 * deep) (hF : rfOK (D + 2) T tx β vo (deep + 1) F) (p : rpre h T tx β vo deep base size) (r : okr tx ρ) (c : crd h A tx base size deep ρ) (hf : f < 8) (b3 : ρ f 3 = 1) (hc : 0 ≤ co tx f) (ha : 0 ≤ a ∧ a ≤ z ∧ z ≤ size)
    (k : ∀ h2, fR h h2 A → okr tx (F (wI tx vo deep) (base + a) (z - a)) → okn (bD (deep + 1)) tx (F (wI tx vo deep) (base + a) (z - a)) → (deep + 1 ≤ F (wI tx vo deep) (base + a) (z - a) 8 0 ∧ F (wI tx vo deep) (base + a) (z - a) 8 0 ≤ 2) → h2 218 8 = max (h 218 8) (F (wI tx vo deep) (base + a) (z - a) 8 0) → crd h2 A tx base size deep (setR ρ f (nval tx (F (wI tx vo deep) (base + a) (z - a))) a z (if sndR (F (wI tx vo deep) (base + a) (z - a)) = true then 0 else 2) ((ρ f 4).toNat ||| nlk (F (wI tx vo deep) (base + a) (z - a)))) → Q 0 h2) :
    cf (D + 3) M_X2_readNest [.inr (.inr 218), .inr (.inr T), .inr (.inr A), .inl (f : Int), .inl a, .inl z] h Q := by
  have hA : A = 220 ∨ A = 225 ∨ A = 230 := by omega
  have hA5 : A + 5 = 220 ∨ A + 5 = 225 ∨ A + 5 = 230 := by omega
  have tA := kd_A hA
  have tA5 := kd_A hA5
  have p' := p
  obtain ⟨⟨p1, p2, p3, p4⟩, p9, p7, p10, p11, p12, p13, p14⟩ := p
  generalize eι : F (wI tx vo deep) (base + a) (z - a) = ι at k
  have l4 := (r.1 f hf).2.2.2.1
  refine cf_of pX2 (Nat.le_of_ble_eq_true rfl) rfl (fun _ => B_X2_readNest_0 ⟨tA, c_X6_isField (fun _ _ => ⟨fun q => by omega, fun _ => ?_⟩) (fun q => by omega)⟩)
  rw [c.1.2.2.1, w32e (z := deep + 1) (by omega) (by omega)]
  refine ⟨fun _ => ?_, fun q => by omega⟩
  have fin : ∀ g : am_H, fR h g A → (∀ b : Int, ¬ b = 218 → g b = h b) → (deep + 1 ≤ g 218 8 ∧ g 218 8 ≤ 2) → (∀ y : Int, y = max (g 218 8) (ι 8 0) → deep + 1 ≤ ι 8 0 → y = max (h 218 8) (ι 8 0)) → wf (D + 3) M_X2_readNest Q 82 [none, some (.inr (.inr T)), some (.inr (.inr A)), some (.inl (f : Int)), some (.inl a), some (.inl z), none, none, none, none, none] [.inl ((wI tx vo deep : Nat) : Int), .inl (z - a), .inl (base + a), .inl (deep + 1), .inr (.inr T), .inr (.inr 218)] g := by
    intro g fg og g8 gm
    have pg : rpre g T tx β vo (deep + 1) (base + a) (z - a) := by
      have q := rpre_fR (deep := deep) p' fg (by omega)
      obtain ⟨q1, q2, q3, q4, q5, q6, q7⟩ := q
      exact ⟨q1, q2, q3, q4, by omega, by omega, g8⟩
    refine B_X2_readNest_82 (hF _ g _ _ _ pg wI_lt (fun h2 f2 c2 o2 n2 d2 e8 => ?_))
    rw [eι] at c2 o2 n2 d2 e8
    rw [show (220 : Int) + 5 * (deep + 1) = A + 5 by omega] at f2 c2 ⊢
    have cA : crd h2 A tx base size deep ρ := crd_congr c (fun b q q2 => (f2.1 b (by omega)).trans (og b (by omega)))
    have hT : ∀ j, h2 (T + 5) j = h (T + 5) j := fun j => by rw [f2.1 _ (by omega), og _ (by omega)]
    have nv := nval_rng hd n2
    have nb9 : bD deep ≤ 9 := by rcases hd with rfl | rfl <;> decide
    have nl := nlk_lt o2
    have go := l_X2_readNest (d := D + 1) (Q := Q) (A := A) (f := f) (a := a) (z := z) (ι := ι) p1 hd hf o2 n2 (fun g hg => by rw [hT]; exact (p3.2.2.2.1 g hg).1) c2 tA5 ?_ 8 0 (by omega)
    · exact go
    · refine B_X2_readNest_93 ⟨fun _ => ?_, fun q => by omega⟩
      refine c_X2_know hA hf cA b3 (fun h3 f3 o3 c3 => ⟨tA, by omega, by omega, tA5, ?_⟩) l4.1
      have ci : crd h3 (A + 5) tx (base + a) (z - a) (deep + 1) ι := crd_congr c2 (fun b q q2 => o3 b (by omega))
      refine c_X3_looksOf (s := 255) tA5 (by decide) ci o2 ?_
      have e4 : h3 (A + 4) f = ((ρ f 4).toNat : Nat) := by
        rw [(c3.2.2.2.1 f hf).2.2.2, setR_at.2.2.2.2]
      have el := lkS_lt (s := 255) o2
      have e11 : h3 (A + 5) 11 = (((ι 8 4).toNat : Nat) : Int) := by
        have := o2.2.1
        rw [ci.2.2.2.2.2]; omega
      have en : lkS ι 255 ||| (ι 8 4).toNat = nlk ι := by rw [lkS_all]; rfl
      have o84 := o2.2.1
      rw [e4, e11, lor_n (by omega) (by omega), en, lor_n (by omega) (by omega)]
      have c4 := crd_look (l := (ρ f 4).toNat ||| nlk ι) hf c3
      rw [putset] at c4
      have ci2 : crd (am_up h3 (A + 4) f (((ρ f 4).toNat ||| nlk ι : Nat) : Int)) (A + 5) tx (base + a) (z - a) (deep + 1) ι := crd_congr ci (fun b q q2 => by
        funext j
        exact am_up_ne (by omega))
      have p8 : 2 ^ f < 256 := Nat.pow_lt_pow_right (n := 8) (by decide) hf
      have fgh : fR g h3 A := ⟨fun b q => (f3.1 b (by omega)).trans (f2.1 b (by omega)), fun j q1 q2 => (f3.2 j q1 q2).trans (f2.2 j q1 q2)⟩
      have fr : ∀ y : Int, fR h (am_up (am_up h3 (A + 4) f (((ρ f 4).toNat ||| nlk ι : Nat) : Int)) A 5 y) A := fun y => fR_trans fg (fR_trans fgh (fR_trans (fR_up (by omega)) (fR_up (by omega)) (Int.le_refl _)) (Int.le_refl _)) (Int.le_refl _)
      have e8' : ∀ y : Int, am_up (am_up h3 (A + 4) f (((ρ f 4).toNat ||| nlk ι : Nat) : Int)) A 5 y 218 8 = max (h 218 8) (ι 8 0) := fun y => by
        rw [am_up_ne (by omega), am_up_ne (by omega), o3 218 (by omega)]
        exact gm _ e8 d2.1
      rw [← am_up_ne (h := h3) (a := A + 4) (i := f) (v := (((ρ f 4).toNat ||| nlk ι : Nat) : Int)) (b := A) (j := 5) (by omega)]
      refine c_X3_isSound tA5 ci2 o2 (fun q => ⟨fun y => by omega, fun _ => B_X2_readNest_198 ⟨tA, ?_⟩⟩) (fun q => ⟨fun _ => B_X2_readNest_198 ⟨tA, ?_⟩, fun y => absurd rfl y⟩)
      · have c5 := crd_wrong (w := 0) (s2 := 0) hf c4 (Or.inl ⟨rfl, rfl⟩)
        rw [if_pos q] at k
        exact k _ (fr _) o2 n2 d2 (e8' _) c5
      · have c5 := crd_wrong (w := 2) (s2 := ((2 ^ f : Nat) : Int)) hf c4 (Or.inr ⟨rfl, rfl⟩)
        rw [if_neg q] at k
        rw [ishl1 (by omega)]
        exact k _ (fr _) o2 n2 d2 (e8' _) c5
  have go2 : ∀ r6 : Int, r6 = max (h 218 8) (deep + 1) → (2 ≤ deep + 1 → wf (D + 3) M_X2_readNest Q 49 [some (.inr (.inr 218)), some (.inr (.inr T)), some (.inr (.inr A)), some (.inl (f : Int)), some (.inl a), some (.inl z), some (.inl (deep + 1)), none, none, none, none] [.inl 0] (am_up h 218 8 r6)) ∧ (deep + 1 < 2 → am_kd 321 T = 15 ∧ wf (D + 3) M_X2_readNest Q 49 [some (.inr (.inr 218)), some (.inr (.inr T)), some (.inr (.inr A)), some (.inl (f : Int)), some (.inl a), some (.inl z), some (.inl (deep + 1)), none, none, none, none] [.inl ((am_up h 218 8 r6) T 19)] (am_up h 218 8 r6)) := by
    intro r6 e6
    have m1 : deep + 1 ≤ r6 ∧ r6 ≤ 2 := by rw [e6]; omega
    have F1 := fin (am_up h 218 8 r6) (fR_up (by omega)) (fun b q => by funext j; exact am_up_ne (by omega)) (by rw [am_up_at]; exact m1) (fun y ey q => by rw [am_up_at, e6] at ey; rw [ey]; omega)
    have e9 : am_up h 218 8 r6 218 9 = (if vo = true then 1 else 0) := by rw [am_up_ne (by omega)]; exact p9
    have eA0 : am_up h 218 8 r6 A 0 = base := by rw [am_up_ne (by omega)]; exact c.1.1
    have j : ∀ s0 : Int, (vo = true → s0 = ((wI tx vo deep : Nat) : Int)) → wf (D + 3) M_X2_readNest Q 49 [some (.inr (.inr 218)), some (.inr (.inr T)), some (.inr (.inr A)), some (.inl (f : Int)), some (.inl a), some (.inl z), some (.inl (deep + 1)), none, none, none, none] [.inl s0] (am_up h 218 8 r6) := by
      intro s0 es
      refine B_X2_readNest_49 ⟨tA, ?_⟩
      rw [e9, eA0, w32e (z := z - a) (by omega) (by omega), w32e (z := base + a) (by omega) (by omega)]
      refine ⟨fun q => ?_, fun q => ?_⟩
      · have vf : ¬ vo = true := fun y => by rw [if_pos y] at q; omega
        unfold wI at F1
        rw [if_neg vf] at F1
        exact F1
      · have vt : vo = true := by
          cases vo
          · simp at q
          · rfl
        rw [es vt]
        exact F1
    refine ⟨fun q => j 0 (fun vt => ?_), fun q => ⟨p1, j _ (fun vt => ?_)⟩⟩
    · unfold wI
      rw [if_pos vt, if_neg (by omega)]
      rfl
    · unfold wI
      rw [if_pos vt, if_pos (by omega), am_up_ne (by omega)]
      exact p3.1.2.2.2.2.2.2
  refine c_max (fun q => go2 _ (by omega)) (fun q => go2 _ (by omega))
end READ4
