/-! LEVEL 3, the next TOKEN, all of it; the TOKENS of both sides as rows of numbers -/
section RNEXT2
variable {d : Nat} {h h0 : am_H} {Q : Int → am_H → Prop} {n p : Nat} {σ τ : Int → Int}
theorem l_next (hb : ∀ j : Nat, j < n → 0 ≤ σ j ∧ σ j ≤ 255) (t : tpe h0 n σ) : ∀ (m p : Nat) (g : am_H), n - p ≤ m → p ≤ n → fTk h0 g → g 294 7 = p → (∀ h2, fTk h0 h2 → hdO h2 n (lxA σ n m p) → Q 0 h2) → wf (d + 1) M_X7_nextToken Q 0 [some (.inr (.inr 294)), none] [] g := by
  have n3 := t.2.2
  intro m
  have atend : ∀ (p : Nat) (g : am_H), p = n → fTk h0 g → g 294 7 = p → (∀ h2, fTk h0 h2 → hdO h2 n [] → Q 0 h2) → wf (d + 1) M_X7_nextToken Q 0 [some (.inr (.inr 294)), none] [] g := by
    intro p g pn fg e7 k
    have tg := tpe_f t fg
    have fg8 : fTk h0 (am_up g 294 8 (g 294 7)) := fTk_up fg (by omega)
    refine B_X7_nextToken_0 (c_byteAt (p := p) tg e7 (fun y => by omega) (fun y => ⟨fun z => by omega, fun _ => c_byteAt (p := p) tg e7 (fun y => by omega) (fun y => ⟨fun _ => c_byteAt (p := p) (tpe_f t fg8) e7 (fun y => by omega) (fun y => ⟨fun z => by omega, fun _ => k _ (fTk_up fg8 (by omega)) ⟨am_up_at _ _ _ _, ?_, ?_⟩⟩), fun z => by omega⟩)⟩))
    · rw [am_up_ne (by omega), am_up_at, e7, pn]
    · rw [am_up_ne (by omega), am_up_ne (by omega), e7, pn]
  induction m with
  | zero =>
    intro p g hm hp fg e7 k
    exact atend p g (by omega) fg e7 k
  | succ m ih =>
    intro p g hm hp fg e7 k
    simp only [lxA] at k
    by_cases c : n ≤ p
    · rw [if_pos c] at k
      exact atend p g (by omega) fg e7 k
    · rw [if_neg c] at k
      have tg := tpe_f t fg
      have bp := hb p (by omega)
      have blank : (σ p = 32 ∨ σ p = 10) → wf (d + 1) M_X7_nextToken Q 26 [some (.inr (.inr 294)), none] [] g := by
        intro q
        rw [if_pos q] at k
        refine B_X7_nextToken_26 ?_
        rw [e7, w32e (z := (p : Int) + 1) (by omega) (by omega), show (p : Int) + 1 = ((p + 1 : Nat) : Int) by omega]
        exact ih (p + 1) _ (by omega) (by omega) (fTk_up fg (by omega)) (am_up_at _ _ _ _) k
      refine B_X7_nextToken_0 (c_byteAt (p := p) tg e7 (fun pn => ⟨fun y => blank (Or.inl y), fun y1 => c_byteAt (p := p) tg e7 (fun _ => ⟨fun y2 => ?_, fun y2 => blank (Or.inr y2)⟩) (fun y => absurd pn y)⟩) (fun y => absurd (by omega) y))
      have nb : ¬ (σ p = 32 ∨ σ p = 10) := by omega
      rw [if_neg nb] at k
      have fg8 : fTk h0 (am_up g 294 8 (g 294 7)) := fTk_up fg (by omega)
      generalize hg : am_up g 294 8 (g 294 7) = g8 at fg8
      have e87 : g8 294 7 = p := by rw [← hg, am_up_ne (by omega)]; exact e7
      have e88 : g8 294 8 = p := by rw [← hg, am_up_at]; exact e7
      refine c_byteAt (p := p) (tpe_f t fg8) e7 (fun _ => ⟨fun _ => ?_, fun y => by omega⟩) (fun y => absurd pn y)
      refine c_X7_isDg (fun q2 => ⟨fun z => by omega, fun _ => ?_⟩) (fun q2 => ⟨fun _ => c_X7_isLt (fun q1 => ⟨fun z => by omega, fun _ => ?_⟩) (fun q1 => ⟨fun _ => ?_, fun z => absurd rfl z⟩), fun z => absurd rfl z⟩)
      · -- figures
        have dg := of_decide_eq_true (show decide (48 ≤ σ p ∧ σ p ≤ 57) = true from q2)
        have q1 : isLt (σ p) = false := decide_eq_false (by omega)
        have et : tkA σ n p = (64, p, vlC σ p (rnE isDg σ n p - p), rnE isDg σ n p) := by unfold tkA; rw [if_neg (by simp [q1]), if_pos q2]
        rw [et] at k
        refine l_fig t pn (fun h2 f2 a9 a8 a7 aR => k h2 f2 ⟨a7, a8, Or.inr (Or.inl ⟨rfl, a9, ?_⟩)⟩) n p _ (by omega) (by omega) (by omega) (fTk_up (fTk_up fg8 (by omega)) (by omega)) ?_ ?_ ?_ rfl ?_
        · unfold fgR at aR
          simp only
          omega
        · rw [am_up_ne (by omega), am_up_at]
        · rw [am_up_ne (by omega), am_up_ne (by omega)]; exact e88
        · rw [am_up_ne (by omega), am_up_ne (by omega)]; exact e87
        · rw [am_up_at, show p - p = 0 by omega]
          exact Or.inl ⟨by simp [vlC], rfl⟩
      · -- letters
        have et : tkA σ n p = (wkT σ p (rnE isLt σ n p), p, 0, rnE isLt σ n p) := by unfold tkA; rw [if_pos q1]
        rw [et] at k
        have gt := rnE_gt (n := n) (p := p) pn q1
        refine l_word t pn (fun h2 f2 a9 a8 a7 aR => k h2 f2 ⟨a7, a8, ?_⟩) n p _ (by omega) (by omega) (by omega) (fTk_up (fTk_up fg8 (by omega)) (by omega)) ?_ ?_ ?_ rfl ?_
        · have t2 := tpe_f t f2
          have by1 := blR_by (τ := σ) (p := p) (rnE isLt σ n p - p) (fun j a b => by
            have := rnE_all (f := isLt) (τ := σ) (n := n) (p := p) (j := j) a (by omega)
            have := of_decide_eq_true (show decide ((97 ≤ σ j ∧ σ j ≤ 122) ∨ (65 ≤ σ j ∧ σ j ≤ 90)) = true from this)
            omega)
          have ln := blR_len (τ := σ) (p := p) (rnE isLt σ n p - p)
          have W : ∀ w : Int, 0 ≤ w → w ≤ 22 → (h2 294 11 = wdv w ↔ wlk w.toNat = blR σ p (rnE isLt σ n p - p)) := fun w w0 w1 => by
            have := wrd_iff aR by1 (k := w.toNat) (by omega)
            rw [show ((w.toNat : Nat) : Int) = w by omega] at this
            exact this
          have fn : fnm h2 ↔ rnE isLt σ n p = p + 1 ∧ 97 ≤ σ p ∧ σ p ≤ 104 := by
            unfold fnm
            rw [a7, a8, t2.1]
            constructor
            · intro z; exact ⟨by omega, z.2⟩
            · intro z; exact ⟨by omega, z.2⟩
          unfold wkT
          by_cases cf1 : rnE isLt σ n p = p + 1 ∧ 97 ≤ σ p ∧ σ p ≤ 104
          · rw [if_pos cf1]
            refine Or.inr (Or.inr (Or.inr (Or.inl ⟨by simp only; omega, a9, by rw [a7, a8]; omega, by rw [a8, t2.1]; simp only; omega, fun w w0 w1 e => ?_⟩)))
            have := (W w w0 w1).1 e
            have l2 := (wlk_ne w.toNat (by omega)).1
            rw [this, ln] at l2
            omega
          · rw [if_neg cf1]
            rcases widx_rng (bs := blR σ p (rnE isLt σ n p - p)) with ⟨x0, x1, x2⟩ | ⟨x0, x1⟩
            · exact Or.inr (Or.inr (Or.inl ⟨⟨x0, x1⟩, a9, (W _ x0 x1).2 x2, fun z => cf1 (fn.1 z)⟩))
            · exact Or.inr (Or.inr (Or.inr (Or.inr (Or.inl ⟨x0, Or.inr (Or.inr ⟨a9, fun z => cf1 (fn.1 z), fun w w0 w1 e => x1 w.toNat (by omega) ((W w w0 w1).1 e)⟩)⟩))))
        · rw [am_up_ne (by omega), am_up_at]
        · rw [am_up_ne (by omega), am_up_ne (by omega)]; exact e88
        · rw [am_up_ne (by omega), am_up_ne (by omega)]; exact e87
        · rw [am_up_at, show p - p = 0 by omega]
          exact Or.inl ⟨by simp [blR], by simp [blR, nmW]⟩
      · -- signs
        have nl : ¬ ((97 ≤ σ p ∧ σ p ≤ 122) ∨ (65 ≤ σ p ∧ σ p ≤ 90)) := of_decide_eq_false q1
        have nd : ¬ (48 ≤ σ p ∧ σ p ≤ 57) := of_decide_eq_false q2
        have at247 : ∀ s : Int, (s = σ p ∧ (σ p = 35 ∨ (40 ≤ σ p ∧ σ p ≤ 43) ∨ σ p = 45 ∨ σ p = 47 ∨ (58 ≤ σ p ∧ σ p ≤ 62))) ∨ (s = 3 ∧ ¬ (σ p = 35 ∨ (40 ≤ σ p ∧ σ p ≤ 43) ∨ σ p = 45 ∨ σ p = 47 ∨ (58 ≤ σ p ∧ σ p ≤ 62))) → wf (d + 1) M_X7_nextToken Q 247 [some (.inr (.inr 294)), some (.inl (σ p))] [.inl s, .inr (.inr 294)] g8 := by
          intro s es
          have fs : fTk h0 (am_up (am_up g8 294 9 s) 294 7 ((p + 1 : Nat) : Int)) := fTk_up (fTk_up fg8 (by omega)) (by omega)
          have single : ¬ ((σ p = 60 ∨ σ p = 62) ∧ p + 1 < n ∧ σ ((p + 1 : Nat) : Int) = 61) → Q 0 (am_up (am_up g8 294 9 s) 294 7 ((p + 1 : Nat) : Int)) := by
            intro q3
            have et : tkA σ n p = (sgK (σ p), p, 0, p + 1) := by unfold tkA; rw [if_neg (by simp [q1]), if_neg (by simp [q2]), if_neg q3]
            rw [et] at k
            refine k _ fs ⟨am_up_at _ _ _ _, by rw [am_up_ne (by omega), am_up_ne (by omega)]; exact e88, ?_⟩
            have a9 : (am_up (am_up g8 294 9 s) 294 7 ((p + 1 : Nat) : Int)) 294 9 = s := by rw [am_up_ne (by omega), am_up_at]
            unfold rtk
            rw [a9]
            simp only
            by_cases z : σ p = 35 ∨ (40 ≤ σ p ∧ σ p ≤ 43) ∨ σ p = 45 ∨ σ p = 47 ∨ (59 ≤ σ p ∧ σ p ≤ 62)
            · have e1 : sgK (σ p) = 128 + σ p := if_pos z
              rw [e1]
              exact Or.inr (Or.inr (Or.inr (Or.inr (Or.inr (Or.inl ⟨by omega, by omega⟩)))))
            · have e1 : sgK (σ p) = 65 := if_neg z
              rw [e1]
              refine Or.inr (Or.inr (Or.inr (Or.inr (Or.inl ⟨rfl, ?_⟩))))
              rcases es with ⟨y, y2⟩ | ⟨y, _⟩
              · exact Or.inr (Or.inl (by omega))
              · exact Or.inl y
          have at272 : (σ p = 60 ∨ σ p = 62) → wf (d + 1) M_X7_nextToken Q 272 [some (.inr (.inr 294)), some (.inl (σ p))] [] (am_up (am_up g8 294 9 s) 294 7 ((p + 1 : Nat) : Int)) := by
            intro q3
            have e17 : (am_up (am_up g8 294 9 s) 294 7 ((p + 1 : Nat) : Int)) 294 7 = ((p + 1 : Nat) : Int) := am_up_at _ _ _ _
            have two : ∀ s2 : Int, (s2 = if σ p = 60 then 4 else 5) → p + 1 < n → σ ((p + 1 : Nat) : Int) = 61 → wf (d + 1) M_X7_nextToken Q 297 [some (.inr (.inr 294)), none] [.inl s2, .inr (.inr 294)] (am_up (am_up g8 294 9 s) 294 7 ((p + 1 : Nat) : Int)) := by
              intro s2 es2 y1 y2
              refine B_X7_nextToken_297 ?_
              rw [e17, w32e (z := ((p + 1 : Nat) : Int) + 1) (by omega) (by omega)]
              have et : tkA σ n p = (256 + σ p, p, 0, p + 2) := by unfold tkA; rw [if_neg (by simp [q1]), if_neg (by simp [q2]), if_pos ⟨q3, y1, y2⟩]
              rw [et] at k
              refine k _ (fTk_up (fTk_up fs (by omega)) (by omega)) ⟨by rw [am_up_at]; simp only; omega, ?_, ?_⟩
              · rw [am_up_ne (by omega), am_up_ne (by omega), am_up_ne (by omega), am_up_ne (by omega)]; exact e88
              · have a9 : ∀ x : Int, (am_up (am_up (am_up (am_up g8 294 9 s) 294 7 ((p + 1 : Nat) : Int)) 294 9 s2) 294 7 x) 294 9 = s2 := fun x => by rw [am_up_ne (by omega), am_up_at]
                unfold rtk
                rw [a9]
                simp only
                rcases q3 with q3 | q3
                · rw [if_pos q3] at es2
                  exact Or.inr (Or.inr (Or.inr (Or.inr (Or.inr (Or.inr (Or.inl ⟨by omega, es2⟩))))))
                · rw [if_neg (by omega)] at es2
                  exact Or.inr (Or.inr (Or.inr (Or.inr (Or.inr (Or.inr (Or.inr ⟨by omega, es2⟩))))))
            refine B_X7_nextToken_272 (c_byteAt (p := p + 1) (tpe_f t fs) e17 (fun y1 => ⟨fun y => single (fun z => y z.2.2), fun y => ⟨fun z => two 5 (by rw [if_neg z]) y1 y, fun z => two 4 (by rw [if_pos z]) y1 y⟩⟩) (fun y1 => ⟨fun _ => single (fun z => y1 z.2.1), fun y => by omega⟩))
          refine B_X7_nextToken_247 ?_
          rw [e87, w32e (z := (p : Int) + 1) (by omega) (by omega), show (p : Int) + 1 = ((p + 1 : Nat) : Int) by omega]
          exact ⟨fun z => at272 (Or.inl z), fun z => ⟨fun z2 => single (fun w => by have := w.1; omega), fun z2 => at272 (Or.inr z2)⟩⟩
        exact c_X7_isSign (fun z => ⟨fun y => by omega, fun _ => at247 _ (Or.inl ⟨rfl, z⟩)⟩) (fun z => ⟨fun _ => at247 _ (Or.inr ⟨rfl, z⟩), fun y => absurd rfl y⟩)
/-! the TOKENS, by their numbers -/
def dfT (n : Nat) : Tk := (66, n, 0, n)
def tK (L : List Tk) (n j : Nat) : Int := (L.getD j (dfT n)).1
def tP (L : List Tk) (n j : Nat) : Int := ((L.getD j (dfT n)).2.1 : Nat)
def tV (L : List Tk) (n j : Nat) : Int := (L.getD j (dfT n)).2.2.1
def tEn (L : List Tk) (n j : Nat) : Int := ((L.getD j (dfT n)).2.2.2 : Nat)
theorem getD_mem {L : List Tk} {d0 : Tk} {j : Nat} (h : j < L.length) : L.getD j d0 ∈ L := by
  rw [List.getD_eq_getElem?_getD, List.getElem?_eq_getElem h]
  exact List.getElem_mem h
theorem getD_out {L : List Tk} {d0 : Tk} {j : Nat} (h : L.length ≤ j) : L.getD j d0 = d0 := by
  rw [List.getD_eq_getElem?_getD, List.getElem?_eq_none h]
  rfl
theorem lx_tkok (hn : n ≤ 300) (hb : ∀ j : Nat, j < n → 0 ≤ σ j ∧ σ j ≤ 255) : tkok (tK (lxA σ n n 0) n) (tV (lxA σ n n 0) n) (lxA σ n n 0).length := by
  have ln := lxA_len (τ := σ) (n := n) n 0 (by omega)
  have al := lxA_all (τ := σ) (n := n) (F := fun x => (x.1 ≠ 66 ∧ x.1 < 400 ∧ 0 ≤ x.1) ∧ 0 ≤ x.2.2.1 ∧ x.2.2.1 ≤ 10000) (fun p hp _ => tkA_k hp hb) n 0
  refine ⟨by omega, ?_, fun j hj => ?_, fun j => ?_⟩
  · unfold tK; rw [getD_out (Nat.le_refl _)]; rfl
  · have := (al _ (getD_mem (d0 := dfT n) hj)).1
    exact ⟨this.1, this.2.1, this.2.2⟩
  · by_cases c : j < (lxA σ n n 0).length
    · exact (al _ (getD_mem (d0 := dfT n) c)).2
    · unfold tV; rw [getD_out (by omega)]; unfold dfT; exact ⟨by simp, by simp⟩
/-- from the TOKEN list to the state of the reference -/
theorem hd_rL {h2 : am_H} {m q i : Nat} {done : List Tk} (hn : n ≤ 300) (e : lxA σ n n 0 = done ++ lxA σ n m q) (ei : done.length = i) (H : hdO h2 n (lxA σ n m q)) (e4 : h2 294 4 = n) : rL h2 (tK (lxA σ n n 0) n) (tV (lxA σ n n 0) n) (tP (lxA σ n n 0) n) (tEn (lxA σ n n 0) n) i := by
  have al := lxA_all (τ := σ) (n := n) (F := fun x => x.2.1 < n ∧ x.2.2.2 ≤ n) (fun p hp _ => by have := tkA_end (τ := σ) (n := n) hp; exact ⟨by rw [this.2.2]; exact hp, this.2.1⟩) n 0
  unfold rL tK tV tP tEn
  cases hl : lxA σ n m q with
  | nil =>
    rw [hl] at H e
    have e0 : (lxA σ n n 0).getD i (dfT n) = dfT n := getD_out (by rw [e]; simp; omega)
    rw [e0]
    unfold dfT
    exact ⟨H.2.2, H.2.1, Or.inl ⟨rfl, H.1⟩, fun z => by rw [H.1] at z; omega, by simp only; omega⟩
  | cons x r =>
    rw [hl] at H e
    have e0 : (lxA σ n n 0).getD i (dfT n) = x := by rw [e, ← ei]; simp
    have mx : x ∈ lxA σ n n 0 := by rw [e]; simp
    have b := al x mx
    rw [e0]
    exact ⟨H.1, H.2.1, H.2.2, fun _ => ⟨by omega, by rw [e4]; omega, by rw [e4]; omega⟩, by omega⟩
theorem lx_rNx {g : am_H} (t : tpe g n σ) (hb : ∀ j : Nat, j < n → 0 ≤ σ j ∧ σ j ≤ 255) : rNx g (tK (lxA σ n n 0) n) (tV (lxA σ n n 0) n) (tP (lxA σ n n 0) n) (tEn (lxA σ n n 0) n) (lxA σ n n 0).length := by
  intro d i h Q hi e298 e4 e7 k
  obtain ⟨m2, done, e1, e2, e3, e5⟩ := lxA_suf (τ := σ) (n := n) n 0 (by omega) i (by omega)
  have th : tpe h n σ := ⟨e298.trans t.1, e4.trans t.2.1, t.2.2⟩
  refine cf_of pX7 (Nat.le_of_ble_eq_true rfl) rfl (fun _ => l_next hb th m2 _ h e3 e5 fTk_refl e7 (fun h2 f H => k h2 f ?_))
  exact hd_rL t.2.2 e1 e2 H (by rw [f.2 4 (by omega)]; exact th.2.1)
theorem c_first {g : am_H} (t : tpe g n σ) (hb : ∀ j : Nat, j < n → 0 ≤ σ j ∧ σ j ≤ 255) (e7 : g 294 7 = 0) (k : ∀ h2, fTk g h2 → rL h2 (tK (lxA σ n n 0) n) (tV (lxA σ n n 0) n) (tP (lxA σ n n 0) n) (tEn (lxA σ n n 0) n) 0 → Q 0 h2) : cf (d + 2) M_X7_nextToken [.inr (.inr 294)] g Q :=
  cf_of pX7 (Nat.le_of_ble_eq_true rfl) rfl (fun _ => l_next hb t n 0 g (by omega) (by omega) fTk_refl e7 (fun h2 f H => k h2 f (hd_rL (done := []) t.2.2 rfl rfl H (by rw [f.2 4 (by omega)]; exact t.2.1))))
/-! alike tapes give alike TOKENS -/
theorem rnF_congr {f : Int → Bool} (e : ∀ j : Nat, j < n → τ j = σ j) : ∀ m p, rnF f τ n m p = rnF f σ n m p
  | 0, _ => rfl
  | m + 1, p => by
    simp only [rnF]
    by_cases c : p < n
    · rw [e p c, rnF_congr e m (p + 1)]
    · rw [if_neg (fun z => c z.1), if_neg (fun z => c z.1)]
theorem rnE_congr {f : Int → Bool} (e : ∀ j : Nat, j < n → τ j = σ j) : rnE f τ n p = rnE f σ n p := rnF_congr e _ _
theorem blR_congr (e : ∀ j : Nat, j < n → τ j = σ j) : ∀ m, p + m ≤ n → blR τ p m = blR σ p m
  | 0, _ => rfl
  | m + 1, h => by simp only [blR]; rw [e _ (by omega), blR_congr e m (by omega)]
theorem vlC_congr (e : ∀ j : Nat, j < n → τ j = σ j) : ∀ m, p + m ≤ n → vlC τ p m = vlC σ p m
  | 0, _ => rfl
  | m + 1, h => by simp only [vlC]; rw [e _ (by omega), vlC_congr e m (by omega)]
theorem tkA_congr (e : ∀ j : Nat, j < n → τ j = σ j) (hp : p < n) : tkA τ n p = tkA σ n p := by
  have l1 := rnE_le (f := isLt) (τ := σ) (n := n) (p := p) (by omega)
  have l2 := rnE_le (f := isDg) (τ := σ) (n := n) (p := p) (by omega)
  unfold tkA wkT
  rw [e p hp, rnE_congr e, rnE_congr e, blR_congr e _ (by omega), vlC_congr e _ (by omega)]
  by_cases c : p + 1 < n
  · rw [e (p + 1) c]
  · rw [if_neg (fun z : (σ p = 60 ∨ σ p = 62) ∧ p + 1 < n ∧ τ ((p + 1 : Nat) : Int) = 61 => c z.2.1), if_neg (fun z : (σ p = 60 ∨ σ p = 62) ∧ p + 1 < n ∧ σ ((p + 1 : Nat) : Int) = 61 => c z.2.1)]
theorem lxA_congr (e : ∀ j : Nat, j < n → τ j = σ j) : ∀ m p, lxA τ n m p = lxA σ n m p
  | 0, _ => rfl
  | m + 1, p => by
    simp only [lxA]
    by_cases c : n ≤ p
    · rw [if_pos c, if_pos c]
    · rw [if_neg c, if_neg c, e p (by omega), tkA_congr e (by omega), lxA_congr e m (p + 1), lxA_congr e m _]
end RNEXT2
