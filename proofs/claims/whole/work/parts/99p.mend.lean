section MEND5
variable {d D : Nat} {h : am_H} {Q : Int → am_H → Prop} {t : List Cl} {β : Int → Int} {size ru : Int} {R : Rd}
theorem coA_ge : ∀ (r : List Cl) (k : Int) (γ : Int → Int) (f : Int), (∃ i : Nat, i < r.length ∧ (r.getD i cl0).1 ≤ 2 ∧ (r.getD i cl0).2.1 = f) → k ≤ coA r k γ f
  | [], _, _, _, ⟨i, hi, _⟩ => by simp at hi
  | c :: r, k, γ, f, ⟨i, hi, q1, q2⟩ => by
    simp only [coA]
    cases i with
    | zero =>
      rw [List.getD_cons_zero] at q1 q2
      rw [if_pos q1, q2]
      rcases coA_spec r (k + 1) (up1 γ f k) f with e | ⟨j, _, e, _⟩
      · rw [e, up1_at]; omega
      · rw [e]; omega
    | succ i =>
      rw [List.getD_cons_succ] at q1 q2
      have := coA_ge r (k + 1) (if c.1 ≤ 2 then up1 γ c.2.1 k else γ) f ⟨i, by simpa using hi, q1, q2⟩
      omega
theorem co_is (ok : okx t) {i : Nat} (hi : i < t.length) (k2 : (cl t i).1 ≤ 2) : co t (cl t i).2.1 = i := by
  have c0 : 0 ≤ co t (cl t i).2.1 := coA_ge t 0 (fun _ => -1) _ ⟨i, hi, k2, rfl⟩
  obtain ⟨j, hj, e, q2, q3⟩ := co_spec c0
  have := ok.2.2.1 j i hj hi q2 k2 q3
  rw [e, this]
theorem hasSum_iff (ok : okx t) : (∃ i : Nat, i < t.length ∧ (cl t i).1 = 1) ↔ ∃ f : Nat, f < 8 ∧ kdf t f = 1 := by
  constructor
  · rintro ⟨i, hi, k1⟩
    have oc := (ok.2.1 (cl t i) (cl_mem hi)).2.1 (by omega)
    have e := co_is ok hi (by omega)
    refine ⟨(cl t i).2.1.toNat, by omega, ?_⟩
    unfold kdf fcl
    rw [show (((cl t i).2.1.toNat : Nat) : Int) = (cl t i).2.1 by omega, e, if_neg (by omega)]
    exact k1
  · rintro ⟨f, hf, k1⟩
    by_cases c : 0 ≤ co t f
    · obtain ⟨i, hi, e, q2, q3⟩ := co_spec c
      refine ⟨i, hi, ?_⟩
      unfold kdf fcl at k1
      rw [if_neg (by omega), e] at k1
      exact k1
    · unfold kdf at k1
      rw [if_pos (by omega)] at k1
      omega
theorem l_hasSum (r : rtx h ru t) (ok : okx t) (k1 : (∃ i : Nat, i < t.length ∧ (cl t i).1 = 1) → Q 1 h) (k0 : ¬ (∃ i : Nat, i < t.length ∧ (cl t i).1 = 1) → Q 0 h) : ∀ (n i : Nat), i + n = t.length → (∀ j : Nat, j < i → ¬ (cl t j).1 = 1) → wf (d + 1) M_X7_hasSum Q 2 [some (.inr (.inr 294)), some (.inl ru), some (.inl (i : Int))] [] h
  | 0, i, hn, a => B_X7_hasSum_2 (c_X7_clauses r ⟨fun _ => k0 (fun ⟨j, hj, e⟩ => a j (by omega) e), fun q => by omega⟩)
  | n + 1, i, hn, a => by
    have t0 := r.1
    have l24 := ok.1
    have ce := (r.2.2 i (by omega) (by omega)).1
    refine B_X7_hasSum_2 (c_X7_clauses r ⟨fun q => by omega, fun _ => c_X7_clauseAt t0 (by omega) ⟨by omega, by omega, ?_⟩⟩)
    rw [ce]
    refine ⟨fun q => ?_, fun q => k1 ⟨i, by omega, q⟩⟩
    rw [w32e (by omega) (by omega), show (i : Int) + 1 = ((i + 1 : Nat) : Int) by omega]
    refine l_hasSum r ok k1 k0 n (i + 1) (by omega) (fun j hj => ?_)
    by_cases e : j = i
    · rw [e]; exact q
    · exact a j (by omega)
theorem c_X7_hasSum (r : rtx h ru t) (ok : okx t) (k1 : (∃ f : Nat, f < 8 ∧ kdf t f = 1) → Q 1 h) (k0 : ¬ (∃ f : Nat, f < 8 ∧ kdf t f = 1) → Q 0 h) : cf (d + 1) M_X7_hasSum [.inr (.inr 294), .inl ru] h Q :=
  cf_of pX7 (Nat.le_of_ble_eq_true rfl) rfl (fun _ => B_X7_hasSum_0 (l_hasSum r ok (fun e => k1 ((hasSum_iff ok).mp e)) (fun e => k0 (fun y => e ((hasSum_iff ok).mpr y))) t.length 0 (by omega) (fun j hj => by omega)))
/-- a round of the reference -/
def fMR (h g : am_H) : Prop := (∀ b : Int, b < 294 ∨ (296 ≤ b ∧ b ≤ 298) ∨ b = 317 → g b = h b) ∧ (∀ j : Int, j < 8 ∨ 48 ≤ j → g 295 j = h 295 j) ∧ ∀ j : Int, j < 22 ∨ (23 < j ∧ j < 43) ∨ 47 < j → g 294 j = h 294 j
theorem fMR_refl : fMR h h := ⟨fun _ _ => rfl, fun _ _ => rfl, fun _ _ => rfl⟩
theorem fMR_trans {g g2 : am_H} (a : fMR h g) (b : fMR g g2) : fMR h g2 := ⟨fun c q => (b.1 c q).trans (a.1 c q), fun j q => (b.2.1 j q).trans (a.2.1 j q), fun j q => (b.2.2 j q).trans (a.2.2 j q)⟩
theorem fMR_fV {g : am_H} (f : fV h g) : fMR h g := ⟨fun b q => f.1 b (by omega) (by omega), fun j _ => by rw [f.1 295 (by omega) (by omega)], fun j q => f.2 j (by omega)⟩
theorem l_mr_7 (k : ∀ g, (∀ b : Int, b ≠ 318 → g b = h b) → (∀ j : Int, 0 ≤ j → j < 40 → g 318 j = h 295 (8 + j)) → wf (d + 1) M_X7_mendRound Q 36 [some (.inr (.inr 294)), some (.inl ru), some (.inl 0), none] [] g) : ∀ (n i : Nat) (g : am_H), i + n = 40 → (∀ b : Int, b ≠ 318 → g b = h b) → (∀ j : Int, 0 ≤ j → j < i → g 318 j = h 295 (8 + j)) → wf (d + 1) M_X7_mendRound Q 7 [some (.inr (.inr 294)), some (.inl ru), some (.inl (i : Int)), none] [] g
  | 0, i, g, hn, f, e => B_X7_mendRound_7 ⟨fun _ => k g f (fun j j0 j1 => e j j0 (by omega)), fun q => by omega⟩
  | n + 1, i, g, hn, f, e => by
    refine B_X7_mendRound_7 ⟨fun q => by omega, fun _ => ?_⟩
    rw [w32e (z := 8 + (i : Int)) (by omega) (by omega), w32e (z := (i : Int) + 1) (by omega) (by omega), show (i : Int) + 1 = ((i + 1 : Nat) : Int) by omega]
    refine ⟨by omega, by omega, by omega, l_mr_7 k n (i + 1) _ (by omega) (fun b q => ?_) (fun j j0 j1 => ?_)⟩
    · rw [← f b q]; funext j; exact am_up_ne (by omega)
    · by_cases z : j = i
      · rw [z, am_up_at, f 295 (by omega)]
      · rw [am_up_ne (by omega)]; exact e j j0 (by omega)
/-- the reference puts the sums -/
theorem l_mr_36 {γ : Int → Int} (r : rdone h ru t size R) (ok : okx t) (o : okr t R) (iI : okI size R) (aA : okA size t R) (s40 : size ≤ 40) (k : ∀ g, (∀ b : Int, b ≠ 295 → g b = h b) → (∀ j : Int, 0 ≤ j → j < 40 → g 295 (8 + j) = putS t R (ord t) γ j) → (∀ j : Int, j < 8 ∨ 48 ≤ j → g 295 j = h 295 j) → wf (d + 1) M_X7_mendRound Q 108 [some (.inr (.inr 294)), none, some (.inl 0), none] [] g) : ∀ (n i : Nat) (δ : Int → Int) (g : am_H), i + n = (ord t).length → (∀ b : Int, b ≠ 295 → g b = h b) → (∀ j : Int, 0 ≤ j → j < 40 → g 295 (8 + j) = δ j) → (∀ j : Int, j < 8 ∨ 48 ≤ j → g 295 j = h 295 j) → putS t R (ord t) γ = putS t R ((ord t).drop i) δ → wf (d + 1) M_X7_mendRound Q 36 [some (.inr (.inr 294)), some (.inl ru), some (.inl (i : Int)), none] [] g
  | 0, i, δ, g, hn, f, e, e2, ep => by
    have l8 := ord_len (tx := t)
    have e31 : g 294 31 = (ord t).length := by rw [f 294 (by omega)]; exact r.2.1.2.1
    rw [List.drop_eq_nil_of_le (by omega)] at ep
    refine B_X7_mendRound_36 ?_
    rw [e31]
    exact ⟨fun _ => k g f (fun j j0 j1 => by rw [ep]; exact e j j0 j1) e2, fun q => by omega⟩
  | n + 1, i, δ, g, hn, f, e, e2, ep => by
    have l8 := ord_len (tx := t)
    have hi : i < (ord t).length := by omega
    have e31 : g 294 31 = (ord t).length := by rw [f 294 (by omega)]; exact r.2.1.2.1
    have e307 : g 307 i = ((ord t).getD i 0 : Nat) := by rw [f 307 (by omega)]; exact r.2.1.2.2.2.1 i hi
    have mem : (ord t).getD i 0 ∈ ord t := by
      rw [List.getD_eq_getElem?_getD, List.getElem?_eq_getElem hi]
      exact List.getElem_mem hi
    have om := ord_mem mem
    rw [drop_ord hi] at ep
    generalize (ord t).getD i 0 = x at *
    simp only [putS] at ep
    have t0 := r.1.1
    obtain ⟨ci, ci0, eci, ci2, ci3⟩ := co_spec om.2
    have l24 := ok.1
    have ec := (r.1.2.2 (co t x) om.2 (by omega)).1
    have kx : kdf t x = (cl t (co t x)).1 := by unfold kdf fcl; rw [if_neg (by omega)]
    have e305 : g 305 x = co t x := by rw [f 305 (by omega)]; exact (r.2.1.1 x om.1).1
    have rl := r.2.2.1.2.2 x om.1
    rw [show 8 * (0 : Int) + (x : Int) = x by omega] at rl
    have next : ∀ (g2 : am_H) (δ2 : Int → Int), (∀ b : Int, b ≠ 295 → g2 b = h b) → (∀ j : Int, 0 ≤ j → j < 40 → g2 295 (8 + j) = δ2 j) → (∀ j : Int, j < 8 ∨ 48 ≤ j → g2 295 j = h 295 j) → putS t R (ord t) γ = putS t R ((ord t).drop (i + 1)) δ2 → wf (d + 1) M_X7_mendRound Q 100 [some (.inr (.inr 294)), some (.inl ru), some (.inl (i : Int)), none] [] g2 := fun g2 δ2 f2 a1 a2 p2 => by
      refine B_X7_mendRound_100 ?_
      rw [w32e (by omega) (by omega), show (i : Int) + 1 = ((i + 1 : Nat) : Int) by omega]
      exact l_mr_36 r ok o iI aA s40 k n (i + 1) δ2 g2 (by omega) f2 a1 a2 p2
    refine B_X7_mendRound_36 ?_
    rw [e31, e307, e305]
    refine ⟨fun q => by omega, fun _ => ⟨by omega, by omega, by omega, by omega, c_X7_clauseAt t0 (by omega) ⟨by omega, by omega, ?_⟩⟩⟩
    rw [f 297 (by omega), ec, ← kx]
    refine ⟨fun q => next g δ f e e2 (by rw [if_neg (fun z => q z.1)] at ep; exact ep), fun k1 => ⟨by omega, ?_⟩⟩
    rw [f 315 (by omega), rl.1]
    refine ⟨fun q => next g δ f e e2 (by rw [if_neg (fun z => z.2 q)] at ep; exact ep), fun n3 => ?_⟩
    have ox := o.1 x om.1
    have ii := iI x om.1 (by omega)
    have ai := aA x om.1 k1 n3
    have ft := rl.2.2.2 om.2
    rw [if_pos ⟨k1, n3⟩] at ep
    rw [f 313 (by omega), ft.1, f 312 (by omega), rl.2.1, w32e (z := 8 + R x 1) (by omega) (by omega)]
    refine ⟨by omega, by omega, next _ (up1 δ (R x 1) (R x 0)) (fun b qb => by rw [← f b qb]; funext j; exact am_up_ne (by omega)) (fun j j0 j1 => ?_) (fun j q => by rw [am_up_ne (by omega)]; exact e2 j q) ep⟩
    by_cases z : j = R x 1
    · rw [z, am_up_at, up1_at]
    · rw [am_up_ne (by omega), up1_ne z]; exact e j j0 j1
end MEND5
