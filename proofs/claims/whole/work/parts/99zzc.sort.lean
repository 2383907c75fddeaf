/-! LEVEL 3, ORDER by the class, all of it: the Text holds a TEXT -/
section SORT2
variable {d D : Nat} {h h2 : am_H} {Q : Int → am_H → Prop} {T cp : Int} {tx : List Cl}
theorem c_gather (tT : am_kd 321 T = 15) (ok : okx tx) (hl : h T 14 = (ord tx).length) (ho : ∀ i : Nat, i < (ord tx).length → h (T + 11) i = ((ord tx).getD i 0 : Nat)) (s : srt h T tx)
    (k : ∀ g, fSo h g T → g T 14 = h T 14 → g T 15 = h T 15 → g T 17 = (if ∃ f : Nat, f < 8 ∧ kdf tx f = 1 then 1 else 0) → g (T + 11) = h (T + 11) → g T 18 = (needK tx 1 : Nat) → g T 19 = (needK tx 2 : Nat) → (∀ f : Nat, f < 8 → g (T + 12) f = (needF tx f : Nat)) → Q 0 g) : cf (d + 1) M_X5_gatherNeeded [.inr (.inr T)] h Q := by
  have k12 := kX5_16 tT
  have lo : ∀ (m f : Nat) (b : Bool) (g : am_H), f + m = 8 → (b = true ↔ ∃ y : Nat, y < f ∧ kdf tx y = 1) → fSo h g T → (∀ j : Int, j = 14 ∨ j = 15 → g T j = h T j) → g T 18 = 0 → g T 19 = 0 → g T 17 = (if b = true then 1 else 0) → g (T + 11) = h (T + 11) → (∀ y : Nat, y < f → g (T + 12) y = 0) → wf (d + 1) M_X5_gatherNeeded Q 17 [some (.inr (.inr T)), some (.inl (f : Int)), none, none] [] g := by
    intro m
    induction m with
    | zero =>
      intro f b g hf hb fg ej e18 e19 e17 e11 e12
      have f8 : f = 8 := by omega
      subst f8
      refine B_X5_gatherNeeded_17 tT ⟨fun _ => ?_, fun y => by omega⟩
      refine l_gather (h := g) tT ok (by rw [ej 14 (by omega)]; exact hl) (fun i hi => by rw [e11]; exact ho i hi) (srt_f s fg) (fun g2 f2 q14 q15 q17 q11 q18 q19 q12 => ?_) (ord tx) [] (fun _ => 0) 0 0 g rfl fSo_refl (fun _ _ => rfl) rfl ⟨fun _ _ => rfl, (fun f hf => by cases hf), (fun f x hx => by rw [Nat.zero_testBit] at hx; cases hx), fun f S _ _ x hx => by rw [Nat.zero_testBit] at hx; cases hx⟩ (fun _ => by decide) rfl (fun f hf => by rw [e12 f hf]; rfl) (by rw [e18]; rfl) (by rw [e19]; rfl) ⟨by decide, fun x => by simp⟩ ⟨by decide, fun x => by simp⟩
      refine k g2 ⟨fun b z1 z2 z3 => (f2.1 b z1 z2 z3).trans (fg.1 b z1 z2 z3), fun j z => (f2.2 j z).trans (fg.2 j z)⟩ (by rw [q14, ej 14 (by omega)]) (by rw [q15, ej 15 (by omega)]) ?_ (by rw [q11, e11]) q18 q19 q12
      rw [q17, e17]
      by_cases c : ∃ y : Nat, y < 8 ∧ kdf tx y = 1
      · rw [if_pos c, if_pos (hb.2 c)]
      · rw [if_neg c, if_neg (fun z => c (hb.1 z))]
    | succ m ih =>
      intro f b g hf hb fg ej e18 e19 e17 e11 e12
      have kf : g (T + 5) f = kdf tx f := by rw [fg.1 (T + 5) (by omega) (by omega) (by omega)]; exact (s.2 f (by omega)).1
      have next : ∀ (b2 : Bool) (s1 : Int), s1 = (if b2 = true then 1 else 0) → (b2 = true ↔ ∃ y : Nat, y < f + 1 ∧ kdf tx y = 1) → wf (d + 1) M_X5_gatherNeeded Q 53 [some (.inr (.inr T)), some (.inl (f : Int)), none, none] [.inl s1, .inr (.inr T)] (am_up g (T + 12) (f : Int) 0) := by
        intro b2 s1 es hb2
        refine B_X5_gatherNeeded_53 tT ⟨by rw [es]; cases b2 <;> simp, ?_⟩
        rw [w32e (z := (f : Int) + 1) (by omega) (by omega), show (f : Int) + 1 = ((f + 1 : Nat) : Int) by omega]
        refine ih (f + 1) b2 _ (by omega) hb2 (fSo_T (fSo_R fg (Or.inr rfl)) (by omega)) (fun j hj => by rw [am_up_ne (by omega), am_up_ne (by omega)]; exact ej j hj) (by rw [am_up_ne (by omega), am_up_ne (by omega)]; exact e18) (by rw [am_up_ne (by omega), am_up_ne (by omega)]; exact e19) (by rw [am_up_at]; exact es) (by rw [upr (by omega), upr (by omega)]; exact e11) (fun y hy => ?_)
        rw [am_up_ne (by omega)]
        by_cases c : y = f
        · subst c; rw [am_up_at]
        · rw [am_up_ne (by omega)]; exact e12 y (by omega)
      refine B_X5_gatherNeeded_17 tT ⟨fun y => by omega, fun _ => ⟨by omega, fun z => B_X5_gatherNeeded_48 tT (next true 1 rfl ⟨fun _ => ?_, fun _ => rfl⟩), fun z => ⟨fun z2 => next b 0 ?_ ?_, fun z2 => B_X5_gatherNeeded_48 tT (next true 1 rfl ⟨fun _ => ⟨f, by omega, by rw [← kf]; exact z2⟩, fun _ => rfl⟩)⟩⟩⟩
      · rw [e17] at z
        have bt : b = true := by
          cases b with
          | true => rfl
          | false => exact absurd rfl z
        obtain ⟨y, hy, e⟩ := hb.1 bt
        exact ⟨y, by omega, e⟩
      · rw [e17] at z; exact z.symm
      · rw [hb]
        constructor
        · rintro ⟨y, hy, e⟩; exact ⟨y, by omega, e⟩
        · rintro ⟨y, hy, e⟩
          by_cases c : y = f
          · subst c; rw [← kf] at e; exact absurd e z2
          · exact ⟨y, by omega, e⟩
  refine cf_of pX5 (Nat.le_of_ble_eq_true rfl) rfl (fun _ => B_X5_gatherNeeded_0 tT (lo 8 0 false _ rfl (by simp) (fSo_T (fSo_T (fSo_T fSo_refl (by omega)) (by omega)) (by omega)) (fun j hj => by rw [am_up_ne (by omega), am_up_ne (by omega), am_up_ne (by omega)]) ?_ ?_ (by rw [am_up_at]; rfl) (by rw [upr (by omega), upr (by omega), upr (by omega)]) (fun y hy => by omega)))
  · rw [am_up_ne (by omega), am_up_ne (by omega), am_up_at]
  · rw [am_up_ne (by omega), am_up_at]
theorem c_sort (tT : am_kd 321 T = 15) (p : ctp h T tx cp) (ok : okx tx) (k : ∀ h2, (∀ b : Int, b ≠ T → b ≠ T + 11 → b ≠ T + 12 → h2 b = h b) → ctx h2 T tx → Q 0 h2) : cf (D + 3) M_X5_sort [.inr (.inr T)] h Q := by
  have s0 : srt h T tx := ⟨p.1.2, fun f hf => ⟨(p.2.2.2 f hf).1, (p.2.2.2 f hf).2.1⟩⟩
  have tl := told_lt (tx := tx)
  -- the end
  have fin : ∀ (placed : Nat) (g : am_H), placed < 256 → (∀ f, f < 8 → placed.testBit f = (ord tx).contains f) → fSo h g T → g T 14 = (ord tx).length → (∀ i : Nat, i < (ord tx).length → g (T + 11) i = ((ord tx).getD i 0 : Nat)) → cf (D + 2) M_X5_gatherNeeded [.inr (.inr T)] (am_up g T 15 (am_iand (g T 6) (am_ixor (placed : Int) (-1)))) (fun _ h3 => Q 0 h3) := by
    intro placed g hp hpl fg e14 e11
    have s2 := srt_f s0 fg
    rw [s2.1, andn_n (by omega)]
    have fg2 : fSo h (am_up g T 15 ((told tx &&& (placed ^^^ 4294967295) : Nat) : Int)) T := fSo_T fg (by omega)
    refine c_gather (d := D + 1) tT ok (by rw [am_up_ne (by omega)]; exact e14) (fun i hi => by rw [upr (by omega)]; exact e11 i hi) (srt_f s0 fg2) (fun g2 f2 q14 q15 q17 q11 q18 q19 q12 => ?_)
    have F : fSo h g2 T := ⟨fun b z1 z2 z3 => (f2.1 b z1 z2 z3).trans (fg2.1 b z1 z2 z3), fun j z => (f2.2 j z).trans (fg2.2 j z)⟩
    refine k g2 F.1 ?_
    have r : ∀ b : Int, T + 1 ≤ b → b ≤ T + 10 → g2 b = h b := fun b z1 z2 => F.1 b (by omega) (by omega) (by omega)
    have t5 : g2 T 5 = h T 5 := F.2 5 (by omega)
    refine ⟨⟨by rw [F.2 0 (by omega)]; exact p.1.1, by rw [F.2 6 (by omega)]; exact p.1.2, by rw [q14, am_up_ne (by omega)]; exact e14, ?_, q17, q18, q19⟩, fun kk k0 k1 => ?_, fun nr => ?_, fun f hf => ?_, fun i hi => ?_⟩
    · rw [q15, am_up_at]
      congr 1
      refine bits_ext (n := 8) (Nat.lt_of_le_of_lt Nat.and_le_left tl) (bset_lt 8) (fun f hf => ?_)
      rw [andn_bit (by omega), bset_bit, hpl f hf]
      simp [hf]
    · have o := p.2.1 kk k0 k1
      unfold ctpK at o
      rw [r (T + 1) (by omega) (by omega), r (T + 2) (by omega) (by omega), r (T + 3) (by omega) (by omega), r (T + 4) (by omega) (by omega), t5]
      exact ⟨o.1, fun z => ⟨(o.2.1 z).1.1, (o.2.1 z).2⟩, o.2.2.1, o.2.2.2.1, fun z => (o.2.2.2.2 z).1⟩
    · rw [t5]
      refine p.2.2.1 ?_
      cases z : hasR tx with
      | false => rfl
      | true =>
        obtain ⟨y, hy, e⟩ := hasR_iff.1 z
        exact absurd e (nr y (by omega) (by omega))
    · have o := p.2.2.2 f hf
      rw [r (T + 5) (by omega) (by omega), r (T + 9) (by omega) (by omega), r (T + 10) (by omega) (by omega), r (T + 4) (by omega) (by omega), r (T + 6) (by omega) (by omega), r (T + 7) (by omega) (by omega), r (T + 8) (by omega) (by omega)]
      refine ⟨o.1, o.2.1, q12 f hf, fun c0 => ?_⟩
      have o2 := o.2.2 c0
      have kf := (fcl_ok ok c0).2.2
      exact ⟨o2.1, o2.2.1.1, o2.2.2.1.1, fun z => (o2.2.2.2 (by rw [← kf]; exact z)).1⟩
    · rw [q11, upr (by omega)]
      exact e11 i hi
  -- nothing more comes
  have idle : ∀ (m r placed : Nat) (g : am_H), r + m = 8 → placed < 256 → lowR (told tx) (hgu tx) placed = none → (∀ f, f < 8 → placed.testBit f = (ord tx).contains f) → fSo h g T → g T 14 = (ord tx).length → (∀ i : Nat, i < (ord tx).length → g (T + 11) i = ((ord tx).getD i 0 : Nat)) → wf (D + 3) M_X5_sort Q 9 [some (.inr (.inr T)), some (.inl (placed : Int)), some (.inl (r : Int)), none] [] g := by
    intro m
    induction m with
    | zero =>
      intro r placed g hr hp hn hpl fg e14 e11
      exact B_X5_sort_9 tT ⟨fun _ => fin placed g hp hpl fg e14 e11, fun y => by omega⟩
    | succ m ih =>
      intro r placed g hr hp hn hpl fg e14 e11
      refine B_X5_sort_9 tT ⟨fun y => by omega, fun _ => c_lowestReady tT (srt_f s0 fg) ok hp (fun f _ q => by rw [hn] at q; cases q) (fun _ => ⟨fun _ => B_X5_sort_46 tT ?_, fun y => absurd rfl y⟩)⟩
      rw [w32e (z := (r : Int) + 1) (by omega) (by omega), show (r : Int) + 1 = ((r + 1 : Nat) : Int) by omega]
      exact ih (r + 1) placed g (by omega) hp hn hpl fg e14 e11
  have go : ∀ (m placed : Nat) (pre : List Nat) (g : am_H), pre.length + m = 8 → placed < 256 → pre ++ ordS (told tx) (hgu tx) m placed = ord tx → (∀ f, f < 8 → placed.testBit f = pre.contains f) → fSo h g T → g T 14 = pre.length → (∀ i : Nat, i < pre.length → g (T + 11) i = (pre.getD i 0 : Nat)) → wf (D + 3) M_X5_sort Q 9 [some (.inr (.inr T)), some (.inl (placed : Int)), some (.inl (pre.length : Int)), none] [] g := by
    intro m
    induction m with
    | zero =>
      intro placed pre g hr hp he hpl fg e14 e11
      simp only [ordS, List.append_nil] at he
      rw [he] at hpl e14 e11
      exact B_X5_sort_9 tT ⟨fun _ => fin placed g hp hpl fg e14 e11, fun y => by omega⟩
    | succ m ih =>
      intro placed pre g hr hp he hpl fg e14 e11
      cases hl : lowR (told tx) (hgu tx) placed with
      | none =>
        simp only [ordS, hl, List.append_nil] at he
        rw [he] at hpl e14 e11 hr
        rw [he]
        exact idle (m + 1) _ placed g hr hp hl hpl fg e14 e11
      | some f =>
        simp only [ordS, hl] at he
        have ls := low_some hl
        have pf : placed.testBit f = false := (rdy_iff.mp ls.2).2.1
        refine B_X5_sort_9 tT ⟨fun y => by omega, fun _ => c_lowestReady tT (srt_f s0 fg) ok hp (fun f2 f8 q => ?_) (fun q => by rw [hl] at q; cases q)⟩
        have ef : f2 = f := by rw [hl] at q; exact (Option.some.inj q).symm
        subst ef
        refine ⟨fun y => by omega, fun _ => ⟨by omega, B_X5_sort_46 tT ?_⟩⟩
        rw [ishl1 (by omega), ior_n (by omega) (by
          have := Nat.pow_lt_pow_right (a := 2) (m := f2) (n := 8) (by decide) (by omega)
          omega), w32e (z := (pre.length : Int) + 1) (by omega) (by omega), show (pre.length : Int) + 1 = ((pre ++ [f2]).length : Nat) by simp]
        refine ih (placed ||| 2 ^ f2) (pre ++ [f2]) _ (by simp; omega) (Nat.or_lt_two_pow (n := 8) hp (Nat.pow_lt_pow_right (by decide) f8)) (by rw [List.append_assoc]; exact he) (fun y hy => ?_) (fSo_T (fSo_R fg (Or.inl rfl)) (by omega)) (by rw [am_up_at]) (fun i hi => ?_)
        · rw [Nat.testBit_or, hpl y hy, pow_bit]
          by_cases c : f2 = y
          · subst c; simp
          · have : (pre ++ [f2]).contains y = pre.contains y := by
              simp only [List.contains_eq_mem, List.mem_append, List.mem_singleton]
              simp [show ¬ y = f2 from fun z => c z.symm]
            rw [this]; simp [c]
        · rw [am_up_ne (by omega)]
          by_cases c : i = pre.length
          · subst c
            rw [am_up_at]
            simp
          · have i2 : i < pre.length := by simp at hi; omega
            rw [am_up_ne (by omega), e11 i i2]
            congr 1
            rw [List.getD_eq_getElem?_getD, List.getD_eq_getElem?_getD, List.getElem?_append_left i2]
  refine cf_of pX5 (Nat.le_of_ble_eq_true rfl) rfl (fun _ => B_X5_sort_0 tT ?_)
  exact go 8 0 [] _ rfl (by decide) rfl (fun f hf => by rw [Nat.zero_testBit]; rfl) (fSo_T fSo_refl (by omega)) (by rw [am_up_at]; rfl) (fun i hi => by simp at hi)
end SORT2
