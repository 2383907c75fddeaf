section ROTS
variable {d D : Nat} {h : am_H} {Q : Int → am_H → Prop} {tx : Nat → List Cl} {t : List Cl} {α : Int → Int}
/-- the NAMES of a law -/
def nR (size day p b : Int) : Int → Int := fun k => if k = 8 then size else if k = 10 then day else if k = 11 then p else if k = 12 then b else 0
/-- how often a place rots, by a TEXT -/
def rtv (t : List Cl) (η β : Int → Int) : Int := match t.find? (fun c => decide (c.1 = 4)) with
  | none => 3
  | some c => hld (ev η β 0 c.2.2.2.1) 0 10
def rots (tx : Nat → List Cl) (α : Int → Int) (p : Int) : Int := if α 1 < 0 then 3 else rtv (tx (α 1).toNat) (nR (α 6) (α 4) p (α (8 + p))) (fB8 α)
theorem nR_ok {p : Int} (om : okm (cur α)) (p0 : 0 ≤ p ∧ p < 40) : eok true (nR (α 6) (α 4) p (α (8 + p))) (fB8 α) 0 := by
  obtain ⟨m0, m1, m2, m3, m4, m5⟩ := om
  rw [cur_lo (by omega)] at m0 m2
  have e0 : α (4 + 0) = α 4 := rfl
  have e2 : α (4 + 2) = α 6 := rfl
  rw [e0] at m0
  rw [e2] at m2
  have mb : ∀ j : Int, 0 ≤ j → j < 40 → 0 ≤ α (8 + j) ∧ α (8 + j) ≤ 255 := fun j j0 j1 => by
    have := m4 j j0 j1
    rw [cur_lo (by omega), show 4 + (4 + j) = 8 + j by omega] at this
    exact this
  refine ⟨Int.le_refl _, ?_, mb, fun k hk => ?_⟩
  · unfold nR; rw [if_pos rfl]; omega
  · have b := mb p p0.1 p0.2
    unfold nR
    split
    · omega
    · split
      · omega
      · split
        · omega
        · split <;> omega
/-- asking how a place rots leaves the file, and the texts -/
def fQ (h h2 : am_H) (m : Int) : Prop := (∀ b : Int, b < 218 ∨ 225 ≤ b → h2 b = h b) ∧ (∀ j : Int, j ≠ 7 → j < 10 ∨ 13 < j → h2 218 j = h 218 j) ∧ (h2 218 7 = h 218 7 ∨ h2 218 7 = m + 1)
theorem fQ_refl {m : Int} : fQ h h m := ⟨fun _ _ => rfl, fun _ _ _ => rfl, Or.inl rfl⟩
theorem find_at {c : Cl} (e : t.find? (fun c => decide (c.1 = 4)) = some c) : ∃ i : Nat, i < t.length ∧ cl t i = c ∧ c.1 = 4 := by
  have m := List.mem_of_find?_eq_some e
  have p := List.find?_some e
  obtain ⟨i, hi, ei⟩ := List.getElem_of_mem m
  refine ⟨i, hi, ?_, by simpa using p⟩
  unfold cl
  rw [show ((i : Int)).toNat = i by omega, List.getD_eq_getElem?_getD, List.getElem?_eq_getElem hi]
  exact ei
theorem c_X2_rots {T m p : Int} (hm : m = 5 ∨ m = 198) (tT : am_kd 321 T = 15) (hT : 242 ≤ T) (cx : ctx h T t) (ok : okx t) (mr : mrep h m (cur α)) (om : okm (cur α)) (p0 : 0 ≤ p ∧ p < 40) (k : ∀ h2, fQ h h2 m → Q (rtv t (nR (α 6) (α 4) p (α (8 + p))) (fB8 α)) h2) : cf (d + 4) M_X2_rots [.inr (.inr 218), .inr (.inr T), .inr (.inr m), .inl p] h Q := by
  have km : am_kd 321 m = 10 := by
    rcases hm with rfl | rfl
    · exact k_5
    · exact k_198
  have km1 := kX0_0 km
  unfold rtv at k
  refine cf_of pX2 (Nat.le_of_ble_eq_true rfl) rfl (fun _ => B_X2_rots_0 ⟨by omega, fun q => by omega, fun _ => ⟨tT, ?_⟩⟩)
  cases ef : t.find? (fun c => decide (c.1 = 4)) with
  | none =>
    rw [ef] at k
    have h5 : h T 5 = -1 := cx.2.2.1 (fun j j0 j1 q => by
      have n := List.find?_eq_none.mp ef (cl t j) (by
        have := cl_mem (tx := t) (i := j.toNat) (by omega)
        rw [show ((j.toNat : Nat) : Int) = j by omega] at this
        exact this)
      simp [q] at n)
    exact ⟨fun _ => k h fQ_refl, fun q => absurd h5 q⟩
  | some c =>
    rw [ef] at k
    obtain ⟨i, hi, ei, e4⟩ := find_at ef
    have cd := (cx.2.1 i (by omega) (by omega)).2.2.2.2 (by rw [ei]; exact e4)
    rw [ei] at cd
    have oc := ok.2.1 c (by rw [← ei]; exact cl_mem hi)
    have w := oc.2.2.2.1 e4
    have sx64 := oc.2.2.2.2.1.1
    obtain ⟨q0, q1, q2, q3, q4, q5⟩ := mr
    rw [cur_lo (by omega)] at q0 q2
    have e0 : α (4 + 0) = α 4 := rfl
    have e2 : α (4 + 2) = α 6 := rfl
    rw [e0] at q0
    rw [e2] at q2
    refine ⟨fun q => by rw [q] at cd; have := cd.2.2.1; omega, fun _ => ⟨fun q => by omega, fun _ => ⟨fun _ => ⟨km, ?_⟩, fun q => by omega⟩⟩⟩
    rw [show am_up h 218 7 (m + 1) m 3 = α 6 by rw [am_up_ne (by omega)]; exact q2]
    refine c_X3_begin (d := d + 2) (tx := ([] : List Cl)) (A := 220) (deep := 0) (base := 0) (size := α 6) (Or.inl rfl) (fun h9 _ g9 c9 => ?_)
    have a9 : ∀ b : Int, b < 218 ∨ 225 ≤ b → h9 b = h b := fun b q => by rw [g9 b (by omega)]; funext j; exact am_up_ne (by omega)
    have b9 : ∀ j : Int, j ≠ 7 → h9 218 j = h 218 j := fun j q => by rw [g9 218 (by omega), am_up_ne (by omega)]
    have b97 : h9 218 7 = m + 1 := by rw [g9 218 (by omega), am_up_at]
    have n218 : ∀ x y z b j : Int, b ≠ 218 → am_up (am_up (am_up h9 218 11 x) 218 12 y) 218 13 z b j = h9 b j := fun x y z b j q => by rw [am_up_ne (by omega), am_up_ne (by omega), am_up_ne (by omega)]
    have e13 : am_up (am_up h9 218 11 (h9 m 4)) 218 12 p (m + 1) p = α (8 + p) := by
      rw [am_up_ne (by omega), am_up_ne (by omega), a9 _ (by omega), q4 p p0.1 p0.2, cur_lo (by omega), show 4 + (4 + p) = 8 + p by omega]
    rw [e13, n218 _ _ _ T 5 (by omega), a9 T (by omega), show h9 m 4 = α 4 by rw [a9 m (by omega)]; exact q0]
    generalize hg : am_up (am_up (am_up h9 218 11 (α 4)) 218 12 p) 218 13 (α (8 + p)) = g
    have g0 : ∀ b : Int, b ≠ 218 → g b = h9 b := fun b q => by rw [← hg]; funext j; exact n218 _ _ _ b j q
    have ce2 : ce true g 220 (nR (α 6) (α 4) p (α (8 + p))) (fB8 α) 0 := by
      refine ⟨by rw [g0 220 (by omega)]; exact c9.1.1, by rw [g0 220 (by omega)]; exact c9.1.2.1, (fun q => by cases q), fun _ => ⟨?_, ?_, ?_⟩, ?_, ?_, ?_, fun j j0 j1 => ?_⟩
      · rw [← hg, am_up_ne (by omega), am_up_ne (by omega), am_up_at]; rfl
      · rw [← hg, am_up_ne (by omega), am_up_at]; rfl
      · rw [← hg, am_up_at]; rfl
      · rw [show g 218 7 = m + 1 by rw [← hg, am_up_ne (by omega), am_up_ne (by omega), am_up_ne (by omega)]; exact b97]; exact km1.1
      · rw [show g 218 7 = m + 1 by rw [← hg, am_up_ne (by omega), am_up_ne (by omega), am_up_ne (by omega)]; exact b97]; exact km1.2
      · rw [show g 218 7 = m + 1 by rw [← hg, am_up_ne (by omega), am_up_ne (by omega), am_up_ne (by omega)]; exact b97]; omega
      · rw [show g 218 7 = m + 1 by rw [← hg, am_up_ne (by omega), am_up_ne (by omega), am_up_ne (by omega)]; exact b97, g0 _ (by omega), a9 _ (by omega), q4 j j0 j1, cur_lo (by omega), show 4 + (4 + j) = 8 + j by omega]
        rfl
    have gT : g (T + 4) = h (T + 4) := by rw [g0 _ (by omega), a9 _ (by omega)]
    refine c_answerV (d := d) tT hT k_220 (by omega) (nR_ok om p0) w sx64 (by rw [gT]; exact cd.1) (by rw [gT]; exact cd.2.1) cd.2.2.1 cd.2.2.2 ce2 (fun h2 f2 => ?_)
    have fq : fQ h h2 m := by
      refine ⟨fun b q => by rw [f2.1 b (by omega) (by omega), g0 b (by omega)]; exact a9 b q, fun j q1 q2 => ?_, Or.inr ?_⟩
      · rw [f2.2.1 j (by omega), ← hg, am_up_ne (by omega), am_up_ne (by omega), am_up_ne (by omega)]; exact b9 j q1
      · rw [f2.2.1 7 (by omega), ← hg, am_up_ne (by omega), am_up_ne (by omega), am_up_ne (by omega)]; exact b97
    have kk : Q (hld (ev (nR (α 6) (α 4) p (α (8 + p))) (fB8 α) 0 c.2.2.2.1) 0 10) h2 := k h2 fq
    unfold hld at kk
    generalize ev (nR (α 6) (α 4) p (α (8 + p))) (fB8 α) 0 c.2.2.2.1 = v at kk ⊢
    refine c_min (fun q => c_max (fun q2 => ?_) (fun q2 => ?_)) (fun q => c_max (fun q2 => ?_) (fun q2 => ?_))
    · rw [if_neg (by omega), if_neg (by omega)] at kk; exact kk
    · by_cases z : v = 0
      · subst z; exact kk
      · rw [if_pos (by omega)] at kk; exact kk
    · by_cases z : v = 10
      · subst z; exact kk
      · rw [if_neg (by omega), if_pos (by omega)] at kk; exact kk
    · omega
/-- the reference asks how a place rots -/
def fP (h g : am_H) : Prop := (∀ b : Int, b ≠ 294 → b < 300 ∨ 304 < b → g b = h b) ∧ ∀ j : Int, j ≠ 22 → j ≠ 23 → g 294 j = h 294 j
theorem l_X7_rotsNow {ru p : Int} (r : rtx h ru t) (ok : okx t) (he : eok true (nR (α 6) (α 4) p (α (8 + p))) (fB8 α) 0) (hc : rce true h (nR (α 6) (α 4) p (α (8 + p))) (fB8 α) 0) (k : ∀ h2, fB h h2 0 0 → Q (rtv t (nR (α 6) (α 4) p (α (8 + p))) (fB8 α)) h2) : ∀ (n i : Nat), i + n = t.length → t.find? (fun c => decide (c.1 = 4)) = (t.drop i).find? (fun c => decide (c.1 = 4)) → wf (d + 4) M_X7_rotsNow Q 76 [some (.inr (.inr 294)), none, some (.inl ru), some (.inl (i : Int))] [] h
  | 0, i, hn, e => by
    have t0 := r.1
    have kk := k h fB_refl
    unfold rtv at kk
    rw [e, List.drop_eq_nil_of_le (by omega)] at kk
    exact B_X7_rotsNow_76 ⟨fun q => by omega, fun _ => c_X7_clauses r ⟨fun _ => kk, fun q => by omega⟩⟩
  | n + 1, i, hn, e => by
    have t0 := r.1
    have l24 := ok.1
    have hi : i < t.length := by omega
    have ce := (r.2.2 i (by omega) (by omega))
    have ci : t.drop i = cl t i :: t.drop (i + 1) := by
      rw [List.drop_eq_getElem_cons hi]
      unfold cl
      rw [show ((i : Int)).toNat = i by omega, List.getD_eq_getElem?_getD, List.getElem?_eq_getElem hi]
      rfl
    rw [ci, List.find?_cons] at e
    refine B_X7_rotsNow_76 ⟨fun q => by omega, fun _ => c_X7_clauses r ⟨fun q => by omega, fun _ => c_X7_clauseAt t0 (by omega) ⟨by omega, by omega, ?_⟩⟩⟩
    rw [ce.1]
    refine ⟨fun q => ?_, fun q => ?_⟩
    · rw [decide_eq_false q] at e
      rw [w32e (by omega) (by omega), show (i : Int) + 1 = ((i + 1 : Nat) : Int) by omega]
      exact l_X7_rotsNow r ok he hc k n (i + 1) (by omega) e
    · rw [decide_eq_true q] at e
      have oc := ok.2.1 (cl t i) (cl_mem hi)
      have w := oc.2.2.2.1 q
      refine c_X7_sumOf (d := d) (b := true) (η := nR (α 6) (α 4) p (α (8 + p))) (β := fB8 α) (base := 0) (c := i) (i := 0) t0 (by omega) (by omega) (ce.2.2.1 (by omega)) w he hc (fun h2 f2 _ _ => ?_)
      have kk := k h2 f2
      unfold rtv at kk
      rw [e] at kk
      exact c_X7_held (by decide) (by decide) kk
theorem c_X7_rotsNow {p : Int} (e295 : h 295 = α) (a1 : -1 ≤ α 1 ∧ α 1 ≤ 3) (om : okm (cur α)) (p0 : 0 ≤ p ∧ p < 40) (r : 0 ≤ α 1 → rtx h (α 1) (tx (α 1).toNat) ∧ okx (tx (α 1).toNat)) (k : ∀ g, fP h g → Q (rots tx α p) g) : cf (d + 4) M_X7_rotsNow [.inr (.inr 294), .inl p] h Q := by
  have he := nR_ok om p0
  refine cf_of pX7 (Nat.le_of_ble_eq_true rfl) rfl (fun _ => B_X7_rotsNow_0 ?_)
  rw [w32e (z := 8 + p) (by omega) (by omega), e295]
  refine ⟨by omega, by omega, ?_⟩
  generalize hg : am_up (am_up (am_up (am_up (am_up (am_up h 294 22 0) 294 23 (α 6)) 300 8 (α 6)) 300 10 (α 4)) 300 11 p) 300 12 (α (8 + p)) = g
  have g0 : ∀ b : Int, b ≠ 294 → b ≠ 300 → g b = h b := fun b q q2 => by rw [← hg]; funext j; rw [am_up_ne (by omega), am_up_ne (by omega), am_up_ne (by omega), am_up_ne (by omega), am_up_ne (by omega), am_up_ne (by omega)]
  have g1 : ∀ j : Int, j ≠ 22 → j ≠ 23 → g 294 j = h 294 j := fun j q q2 => by rw [← hg, am_up_ne (by omega), am_up_ne (by omega), am_up_ne (by omega), am_up_ne (by omega), am_up_ne (by omega), am_up_ne (by omega)]
  have fp : ∀ h2, fB g h2 0 0 → fP h h2 := fun h2 f2 => ⟨fun b q q2 => by rw [f2.1 b (by omega)]; exact g0 b q (by omega), fun j q q2 => by rw [f2.1 294 (by omega)]; exact g1 j q q2⟩
  unfold rots at k
  by_cases neg : α 1 < 0
  · have kk := k g (fp g fB_refl)
    rw [if_pos neg] at kk
    exact B_X7_rotsNow_76 ⟨fun _ => kk, fun q => by omega⟩
  · rw [if_neg neg] at k
    have rr := r (by omega)
    have hc : rce true g (nR (α 6) (α 4) p (α (8 + p))) (fB8 α) 0 := by
      refine ⟨?_, ?_, fun x hx => ?_, fun j j0 j1 => by rw [g0 295 (by omega) (by omega), e295]; rfl⟩
      · rw [← hg, am_up_ne (by omega), am_up_ne (by omega), am_up_ne (by omega), am_up_ne (by omega), am_up_ne (by omega), am_up_at]
      · rw [← hg, am_up_ne (by omega), am_up_ne (by omega), am_up_ne (by omega), am_up_ne (by omega), am_up_at]; rfl
      · unfold al at hx
        have x12 := hx.1
        have x2 := hx.2
        simp at x2
        rcases (show x = 8 ∨ x = 10 ∨ x = 11 ∨ x = 12 by omega) with rfl | rfl | rfl | rfl
        · rw [← hg, am_up_ne (by omega), am_up_ne (by omega), am_up_ne (by omega)]; exact am_up_at _ _ _ _
        · rw [← hg, am_up_ne (by omega), am_up_ne (by omega)]; exact am_up_at _ _ _ _
        · rw [← hg, am_up_ne (by omega)]; exact am_up_at _ _ _ _
        · rw [← hg]; exact am_up_at _ _ _ _
    exact l_X7_rotsNow (d := d) (h := g) (ru := α 1) (rtx_congr rr.1 (g0 297 (by omega) (by omega))) rr.2 he hc (fun h2 f2 => k h2 (fp h2 f2)) (tx (α 1).toNat).length 0 (by omega) rfl
end ROTS
