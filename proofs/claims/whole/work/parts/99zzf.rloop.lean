/-! LEVEL 3, the reference reads CLAUSE by CLAUSE -/
def rtp (h : am_H) (t : Int) (tx : List Cl) (w : Int) : Prop := h 297 (825 * t) = tx.length ∧ ∀ k : Int, 0 ≤ k → k < tx.length → h 297 (825 * t + 1 + 9 * k) = (cl tx k).1 ∧ rtpB h t (825 * t + 1 + 9 * k) (cl tx k) w
section RLOOP2
variable {d D : Nat} {g h h2 : am_H} {Q : Int → am_H → Prop} {K V P E : Nat → Int} {N : Nat} {t : Int} {i : Nat} {w w2 kd x : Int} {hr : Bool} {td : Nat} {tx : List Cl} {c : Cl}
/-- a CLAUSE that is read is as it can be -/
theorem bdc_okc (tk : tkok K V N) (hi : i ≤ N) (hk : 0 ≤ kd ∧ kd ≤ 8) {y : Cl × Nat} (e : bdc K V tx kd i = .inr y) : okc y.1 ∧ y.1.1 = kd ∧ (y.1.1 ≤ 2 → co tx y.1.2.1 < 0) := by
  have tkg : ∀ (u : Int) (i : Nat) (r : Rc) (F : Cl → Prop), u ≠ 66 → i ≤ N → (i + 1 ≤ N → ∀ y, r = .inr y → F y.1) → ∀ y, tkc K u i r = .inr y → F y.1 := by
    intro u i r F hu hi hr y e
    unfold tkc at e
    split at e
    · rename_i c
      exact hr (tk_lt tk hi (by rw [c]; exact hu)) y e
    · cases e
  have nug : ∀ (lo hi2 : Int) (i : Nat) (k : Int → Nat → Rc) (F : Cl → Prop), i ≤ N → (i + 1 ≤ N → ∀ v, lo ≤ v → v ≤ hi2 → ∀ y, k v (i + 1) = .inr y → F y.1) → ∀ y, nuc K V lo hi2 i k = .inr y → F y.1 := by
    intro lo hi2 i k F hi hk y e
    unfold nuc at e
    split at e
    · rename_i c
      split at e
      · cases e
      · rename_i c2
        exact hk (tk_lt tk hi (by omega)) _ (by omega) (by omega) y e
    · cases e
  have sug : ∀ (l : Bool) (i : Nat) (k : Ex → Nat → Rc) (F : Cl → Prop), i ≤ N → (∀ e j, j ≤ N → ws l e false → sx e ≤ 43 → ∀ y, k e j = .inr y → F y.1) → ∀ y, bnc (pS K V l i) k = .inr y → F y.1 := by
    intro l i k F hi hk y e
    have ok := pS_ok (l := l) tk hi
    cases hr : pS K V l i with
    | inl z => rw [hr] at e; cases e
    | inr z => rw [hr] at e ok; exact hk z.1 z.2 ok.1.2 ok.2.1 ok.2.2.2 y e
  have eug : ∀ (l : Bool) (i : Nat) (k : Ex → Nat → Rc) (F : Cl → Prop), i ≤ N → (∀ e j, j ≤ N → ws l e true → sx e ≤ 46 → ∀ y, k e j = .inr y → F y.1) → ∀ y, bnc (pE K V l i) k = .inr y → F y.1 := by
    intro l i k F hi hk y e
    have ok := pE_ok (l := l) tk hi
    cases hr : pE K V l i with
    | inl z => rw [hr] at e; cases e
    | inr z => rw [hr] at e ok; exact hk z.1 z.2 ok.1.2 ok.2.1 ok.2.2.2 y e
  have pag : ∀ (u : Int) (i : Nat) (k : Ex → Nat → Rc) (F : Cl → Prop), u ≠ 66 → i ≤ N → (∀ e j, j ≤ N → ws false e false → sx e ≤ 43 → ∀ y, k e j = .inr y → F y.1) → ∀ y, prt1 K V u i k = .inr y → F y.1 := fun u i k F hu hi hk => tkg u i _ F hu hi (fun i1 => sug false (i + 1) k F i1 hk)
  let F : Cl → Prop := fun z => okc z ∧ z.1 = kd ∧ (z.1 ≤ 2 → co tx z.2.1 < 0)
  have w0 : ws false (xN 0) false := ⟨rfl, by omega, by omega⟩
  have s0 : sx (xN 0) ≤ 64 := by simp [sx]
  show F y.1
  unfold bdc at e
  split at e
  · rename_i k3
    exact eug false i _ F hi (fun e j _ we se y q => by
      cases q
      exact ⟨⟨by simp only; omega, fun z => by simp only at z; omega, fun _ => we, fun z => by simp only at z; omega, ⟨by simp only; omega, s0, s0⟩, fun _ => rfl, fun _ => rfl, fun z => by simp only at z; omega, fun z => by simp only at z; omega, fun z => by simp only at z; omega⟩, k3.symm, fun z => by simp only at z; omega⟩) y e
  · split at e
    · rename_i k3 k4
      exact sug true i _ F hi (fun e j _ we se y q => by
        cases q
        exact ⟨⟨by simp only; omega, fun z => by simp only at z; omega, fun z => by simp only at z; omega, fun _ => we, ⟨by simp only; omega, s0, s0⟩, fun _ => rfl, fun _ => rfl, fun z => by simp only at z; omega, fun z => by simp only at z; omega, fun z => by simp only at z; omega⟩, k4.symm, fun z => by simp only at z; omega⟩) y e
    · split at e
      · rename_i k3 k4 k5
        exact nug 0 39 i _ F hi (fun i1 v v0 v1 => tkg 11 (i + 1) _ F (by decide) i1 (fun i2 => nug 0 255 (i + 1 + 1) _ F i2 (fun i3 v2 u0 u1 y q => by
          cases q
          exact ⟨⟨by simp only; omega, fun z => by simp only at z; omega, fun z => by simp only at z; omega, fun z => by simp only at z; omega, ⟨s0, s0, s0⟩, fun _ => rfl, fun _ => rfl, fun _ => ⟨⟨v0, v1⟩, u0, u1⟩, fun z => by simp only at z; omega, fun z => by simp only at z; omega⟩, k5.symm, fun z => by simp only at z; omega⟩))) y e
      · split at e
        · rename_i k3 k4 k5 k6
          exact nug 0 40 i _ F hi (fun i3 v v0 v1 y q => by
            cases q
            exact ⟨⟨by simp only; omega, fun z => by simp only at z; omega, fun z => by simp only at z; omega, fun z => by simp only at z; omega, ⟨s0, s0, s0⟩, fun _ => rfl, fun _ => rfl, fun z => by simp only at z; omega, fun _ => ⟨v0, v1⟩, fun z => by simp only at z; omega⟩, k6.symm, fun z => by simp only at z; omega⟩) y e
        · split at e
          · rename_i k3 k4 k5 k6 k7
            cases e
            exact ⟨⟨by simp only; omega, fun z => by simp only at z; omega, fun z => by simp only at z; omega, fun z => by simp only at z; omega, ⟨s0, s0, s0⟩, fun _ => rfl, fun _ => rfl, fun z => by simp only at z; omega, fun z => by simp only at z; omega, fun z => by simp only at z; omega⟩, k7.symm, fun z => by simp only at z; omega⟩
          · split at e
            · rename_i k3 k4 k5 k6 k7 k8
              exact nug 1 60 i _ F hi (fun i3 v v0 v1 y q => by
                cases q
                exact ⟨⟨by simp only; omega, fun z => by simp only at z; omega, fun z => by simp only at z; omega, fun z => by simp only at z; omega, ⟨s0, s0, s0⟩, fun _ => rfl, fun _ => rfl, fun z => by simp only at z; omega, fun z => by simp only at z; omega, fun _ => ⟨v0, v1⟩⟩, k8.symm, fun z => by simp only at z; omega⟩) y e
            · rename_i k3 k4 k5 k6 k7 k8
              unfold fdc at e
              split at e
              · cases e
              · split at e
                · cases e
                · rename_i c1 c2
                  have i1 := tk_lt tk hi (by omega)
                  have ct : co tx (K i - 32) < 0 := by
                    have tb := told_bit (tx := tx) (f := (K i - 32).toNat) (by omega)
                    rw [show (((K i - 32).toNat : Nat) : Int) = K i - 32 by omega] at tb
                    have t2 : ¬ 0 ≤ co tx (K i - 32) := fun z => c2 (by rw [tb]; exact decide_eq_true z)
                    omega
                  refine pag 9 (i + 1) _ F (by decide) i1 (fun a j hj wa sa y q => ?_) y e
                  by_cases k1 : kd = 1
                  · rw [if_pos k1] at q
                    exact pag 10 j _ F (by decide) hj (fun o j2 hj2 wo so => pag 11 j2 _ F (by decide) hj2 (fun z j3 hj3 wz sz y q => by
                      cases q
                      exact ⟨⟨by simp only; omega, fun _ => ⟨by simp only; omega, wa, wz, wo⟩, fun z => by simp only at z; omega, fun z => by simp only at z; omega, ⟨by simp only; omega, by simp only; omega, by simp only; omega⟩, fun z => by simp only at z; omega, fun z => by simp only at z; omega, fun z => by simp only at z; omega, fun z => by simp only at z; omega, fun z => by simp only at z; omega⟩, rfl, fun _ => ct⟩)) y q
                  · rw [if_neg k1] at q
                    exact pag 11 j _ F (by decide) hj (fun z j3 hj3 wz sz y q => by
                      cases q
                      exact ⟨⟨by simp only; omega, fun _ => ⟨by simp only; omega, wa, wz, w0⟩, fun z => by simp only at z; omega, fun z => by simp only at z; omega, ⟨by simp only; omega, by simp only; omega, s0⟩, fun _ => rfl, fun z => by simp only at z; omega, fun z => by simp only at z; omega, fun z => by simp only at z; omega, fun z => by simp only at z; omega⟩, rfl, fun _ => ct⟩) y q
theorem rtpB_same (o : okc c) (r : rtpB h t x c w) (q : w ≤ w2) (hx : 825 * t < x ∧ x + 9 ≤ 825 * t + 217) (f : ∀ q : Int, x < q → q < x + 9 ∨ (825 * t + 217 ≤ q ∧ q < 825 * t + 217 + 2 * w) → h2 297 q = h 297 q) : rtpB h2 t x c w2 := by
  have e : ∀ y : Int, x < y → y < x + 9 → h2 297 y = h 297 y := fun y z1 z2 => f y z1 (Or.inl z2)
  have fc : ∀ q : Int, 825 * t + 217 ≤ q → q < 825 * t + 217 + 2 * w → h2 297 q = h 297 q := fun q q0 q1 => f q (by omega) (Or.inr ⟨q0, q1⟩)
  obtain ⟨r1, r2, r3, r4, r5⟩ := r
  refine ⟨fun z => ⟨by rw [e _ (by omega) (by omega)]; exact (r1 z).1, rsp_congr (o.2.1 z).2.2.1 (r1 z).2 q (by omega) (e _ (by omega) (by omega)) (e _ (by omega) (by omega)) fc⟩, fun z => ?_, fun z => rsp_congr (o.2.1 (by omega)).2.2.2 (r3 z) q (by omega) (e _ (by omega) (by omega)) (e _ (by omega) (by omega)) fc, fun z => by rw [e _ (by omega) (by omega)]; exact r4 z, fun z => by rw [e _ (by omega) (by omega)]; exact r5 z⟩
  rcases (show c.1 ≤ 2 ∨ c.1 = 3 ∨ c.1 = 4 by omega) with y | y | y
  · exact rsp_congr (o.2.1 y).2.1 (r2 z) q (by omega) (e _ (by omega) (by omega)) (e _ (by omega) (by omega)) fc
  · exact rsp_congr (o.2.2.1 y) (r2 z) q (by omega) (e _ (by omega) (by omega)) (e _ (by omega) (by omega)) fc
  · exact rsp_congr (o.2.2.2.1 y) (r2 z) q (by omega) (e _ (by omega) (by omega)) (e _ (by omega) (by omega)) fc
theorem rtp_snoc (p : rtp h t tx w) (ok : okx tx) (q : w ≤ w2) (h24 : tx.length < 24) (e0 : h2 297 (825 * t) = (tx.length : Int) + 1) (fr : ∀ q : Int, 825 * t < q → q < 825 * t + 217 + 2 * w → q < 825 * t + 1 + 9 * tx.length ∨ 825 * t + 1 + 9 * tx.length + 9 ≤ q → h2 297 q = h 297 q) (ex : h2 297 (825 * t + 1 + 9 * tx.length) = c.1) (b : rtpB h2 t (825 * t + 1 + 9 * tx.length) c w2) (w0 : 0 ≤ w) : rtp h2 t (tx ++ [c]) w2 := by
  have len : (tx ++ [c]).length = tx.length + 1 := by simp
  refine ⟨by rw [e0, len]; omega, fun k k0 k1 => ?_⟩
  by_cases z : k < tx.length
  · have ck : cl tx k = cl tx (k.toNat : Nat) := by rw [show ((k.toNat : Nat) : Int) = k by omega]
    have o := ok.2.1 (cl tx (k.toNat : Nat)) (cl_mem (by omega))
    rw [← ck] at o
    have pk := p.2 k k0 z
    rw [cl_snoc z k0]
    refine ⟨by rw [fr _ (by omega) (by omega) (by omega)]; exact pk.1, rtpB_same o pk.2 q (by omega) (fun y y0 y1 => fr y (by omega) (by omega) (by omega))⟩
  · have ek : k = tx.length := by rw [len] at k1; omega
    rw [ek, cl_last]
    exact ⟨ex, b⟩
theorem rtx_of (p : rtp h t tx w) (t3 : 0 ≤ t ∧ t ≤ 3) : rtx h t tx :=
  ⟨t3, p.1, fun k k0 k1 => by
    have pk := p.2 k k0 k1
    obtain ⟨r1, r2, r3, r4, r5⟩ := pk.2
    exact ⟨pk.1, fun z => ⟨(r1 z).1, (r1 z).2.1⟩, fun z => (r2 z).1, fun z => (r3 z).1, r4, r5⟩⟩
/-- the state between CLAUSES -/
def rT (g h : am_H) (K V P E : Nat → Int) (t : Int) (i : Nat) (w : Int) (tx : List Cl) : Prop := ∃ kd : Int, rC g h K V P E t i w kd (hasR tx) (told tx) ∧ rtp h t tx w ∧ okx tx ∧ 0 ≤ w ∧ w ≤ i
theorem hasR_snoc : hasR (tx ++ [c]) = (hasR tx || decide (c.1 = 4)) := by unfold hasR; simp [List.any_append]
theorem c_clause (H : rG g K V P E N t) (S : rT g h K V P E t i w tx) (hi : i ≤ N) (bad : ∀ y, clB K V tx i = .inl y → ∀ h2, rX g h2 t P y.2 → Q y.1 h2) (good : ∀ y, clB K V tx i = .inr y → i < y.2 → y.2 ≤ N → ∀ h2 w2, rT g h2 K V P E t y.2 w2 (tx ++ [y.1]) → Q 0 h2) : cf (D + 12) M_X7_clause [.inr (.inr 294)] h Q := by
  obtain ⟨kd, C, p, ok, w0, w1⟩ := S
  have n300 := H.1.1
  have t3 := H.2.1
  have l24 := ok.1
  have e12 : h 294 12 = 825 * t := by rw [C.1.2.1 12 (by omega)]; exact t3.1
  have e19 := C.2.2.2.2.1
  refine cf_of pX7 (Nat.le_of_ble_eq_true rfl) rfl (fun _ => B_X7_clause_0 (c_sortOf C.2.1 (fun k0 k1 => ⟨fun _ => ?_, fun y => by omega⟩) (fun k0 => ⟨fun y => by omega, fun _ => ?_⟩)))
  · have at25 : ¬ (K i = 4 ∧ hasR tx = true) → wf (D + 12) M_X7_clause Q 25 [some (.inr (.inr 294)), some (.inl (K i)), none, none, none] [] h := by
      intro n4
      refine B_X7_clause_25 ?_
      rw [e12, p.1]
      refine ⟨by omega, by omega, fun y => ?_, fun y => ?_⟩
      · have i1 := tk_lt H.1 hi (by omega)
        have cb : clB K V tx i = bcc (bdc K V tx (K i) (i + 1)) fun c j => tkc K 187 j (.inr (c, j + 1)) := by unfold clB; rw [if_neg (by omega), if_neg n4, if_neg (by omega)]
        have at62 : ∀ s : Int, s = (if (hasR tx || decide (K i = 4)) = true then 1 else 0) → wf (D + 12) M_X7_clause Q 62 [some (.inr (.inr 294)), some (.inl (K i)), some (.inl (tx.length : Int)), none, none] [.inl s, .inr (.inr 294)] h := by
          intro s es
          refine B_X7_clause_62 ⟨by rw [es]; split <;> omega, ?_⟩
          have C1 : rC g (am_up (am_up h 294 19 s) 294 14 (K i)) K V P E t i w (K i) (hasR tx || decide (K i = 4)) (told tx) := by
            obtain ⟨⟨c1, c2, c3⟩, c4, c5, c6, c7, c8⟩ := C
            refine ⟨⟨fun b q q2 q3 => by rw [upr q, upr q]; exact c1 b q q2 q3, fun j q => by rw [am_up_ne (by omega), am_up_ne (by omega)]; exact c2 j q, fun q hq => by rw [upr (by omega), upr (by omega)]; exact c3 q hq⟩, rL_congr c4 (fun j q => by rw [am_up_ne (by omega), am_up_ne (by omega)]) (by rw [upr (by omega), upr (by omega)]), ?_, am_up_at _ _ _ _, ?_, ?_⟩
            · rw [am_up_ne (by omega), am_up_ne (by omega)]; exact c5
            · rw [am_up_ne (by omega), am_up_at]; exact es
            · rw [am_up_ne (by omega), am_up_ne (by omega)]; exact c8
          refine c_nextC H C1 i1 (fun h3 C3 R3 => ?_)
          have e12' : h3 294 12 = 825 * t := by rw [C3.1.2.1 12 (by omega)]; exact t3.1
          rw [e12', w32e (z := 825 * t + 1) (by omega) (by omega), w32e (z := 9 * (tx.length : Int)) (by omega) (by omega), w32e (z := 825 * t + 1 + 9 * (tx.length : Int)) (by omega) (by omega)]
          have r3 : h3 297 = h 297 := by rw [R3, upr (by omega), upr (by omega)]
          have C4 := rC_up (a := 825 * t + 1 + 9 * (tx.length : Int)) (v := K i) C3 (by omega)
          refine ⟨by omega, by omega, c_body (D := D) H C4 ⟨k0, k1⟩ rfl i1 w0 (by omega) (by omega) ?_⟩
          cases hb : bdc K V tx (K i) (i + 1) with
          | inl y1 =>
            intro h7 X
            refine ⟨fun z => ?_, fun _ => bad y1 (by rw [cb, hb]; rfl) h7 X⟩
            have f0 := fault_pos rfl (show clB K V tx i = .inl y1 by rw [cb, hb]; rfl) H.1 hi
            exact absurd z f0
          | inr y1 =>
            intro h7 w7 td7 C7 z0 z1 z2 F7 B7 t7 t7n
            refine ⟨fun _ => ?_, fun z => absurd rfl z⟩
            have e12b : h7 294 12 = 825 * t := by rw [C7.1.2.1 12 (by omega)]; exact t3.1
            have le := bdc_le H.1 i1 hb
            obtain ⟨oc, ck, cf1⟩ := bdc_okc H.1 i1 ⟨k0, k1⟩ hb
            have nR : y1.1.1 = 4 → hasR tx = false := fun z => by
              cases q : hasR tx with
              | false => rfl
              | true => exact absurd ⟨by omega, q⟩ n4
            have ok2 := okx_snoc ok oc (by omega) cf1 nR
            have n7 : h7 297 (825 * t) = tx.length := by
              rw [F7 _ (by omega) (by omega), am_up_ne (by omega), r3]; exact p.1
            rw [e12b, n7, w32e (z := (tx.length : Int) + 1) (by omega) (by omega)]
            have tok : (h7 294 9 = 59 ↔ K y1.2 = 187) := rtk_s C7.2.1.2.2.1 (s := 59) (by omega)
            have C8 := rC_up (a := 825 * t) (v := (tx.length : Int) + 1) C7 (by omega)
            refine ⟨by omega, by omega, fun q => ?_, fun q => ?_⟩
            · have j1 := tk_lt H.1 z2 (by rw [tok.1 q]; decide)
              refine c_nextC H C8 j1 (fun h9 C9 R9 => good (y1.1, y1.2 + 1) (by rw [cb, hb]; show tkc K 187 y1.2 _ = _; unfold tkc; rw [if_pos (tok.1 q)]) (by simp only; omega) j1 h9 w7 ⟨K i, ?_, ?_, ok2, by omega, by simp only; omega⟩)
              · have e1 : hasR (tx ++ [y1.1]) = (hasR tx || decide (K i = 4)) := by rw [hasR_snoc, ck]
                have e2 : told (tx ++ [y1.1]) = td7 := by
                  by_cases z : y1.1.1 ≤ 2
                  · have f8 := (oc.2.1 z).1
                    rw [t7 z, told_new (f := y1.1.2.1.toNat) (by omega) ⟨z, by omega⟩]
                  · rw [t7n z, told_same z]
                rw [e1, e2]
                exact C9
              · refine rtp_snoc p ok z0 (by omega) (by rw [R9, am_up_at]) (fun q2 q3 q4 q5 => ?_) ?_ ?_ w0
                · rw [R9, am_up_ne (by omega), F7 q2 q4 (by omega), am_up_ne (by omega), r3]
                · rw [R9, am_up_ne (by omega), F7 _ (by omega) (by omega), am_up_at]; exact ck.symm
                · refine rtpB_same oc B7 (Int.le_refl _) (by omega) (fun q2 q3 q4 => by rw [R9, am_up_ne (by omega)])
            · exact bad (1, y1.2) (by rw [cb, hb]; show tkc K 187 y1.2 _ = _; unfold tkc; rw [if_neg (fun z => q (tok.2 z))]) _ (rC_X C8)
        refine ⟨fun z => B_X7_clause_57 (at62 1 ?_), fun z => ⟨fun z2 => at62 0 ?_, fun z2 => B_X7_clause_57 (at62 1 ?_)⟩⟩
        · rw [e19] at z
          have : hasR tx = true := by
            cases q : hasR tx with
            | true => rfl
            | false => rw [q] at z; exact absurd rfl z
          rw [this]; rfl
        · rw [e19] at z
          have : hasR tx = false := by
            cases q : hasR tx with
            | false => rfl
            | true => rw [q] at z; exact absurd z (by decide)
          rw [this]
          simp [z2]
        · simp [z2]
      · refine bad (6, i) ?_ h (rC_X C)
        unfold clB
        rw [if_neg (by omega), if_neg n4, if_pos (by omega)]
    refine ⟨fun y => at25 (fun z => y z.1), fun y => ⟨fun z => at25 (fun q => ?_), fun z => ?_⟩⟩
    · rw [e19, q.2] at z; exact absurd z (by decide)
    · have hh : hasR tx = true := by
        rw [e19] at z
        cases q : hasR tx with
        | true => rfl
        | false => rw [q] at z; exact absurd rfl z
      refine bad (4, i) ?_ h (rC_X C)
      unfold clB
      rw [if_neg (by omega), if_pos ⟨y, hh⟩]
  · refine bad (1, i) ?_ h (rC_X C)
    unfold clB
    rw [if_pos k0]
theorem c_rloop (H : rG g K V P E N t) : ∀ (n : Nat) (tx : List Cl) (i : Nat) (h : am_H) (w : Int), N - i < n → i ≤ N → rT g h K V P E t i w tx → (∀ y, pTx K V n tx i = .inl y → ∀ h2, rX g h2 t P y.2 → Q y.1 h2) → (∀ tx2, pTx K V n tx i = .inr tx2 → ∀ (h2 : am_H) (w2 : Int), rC0 g h2 t → rtp h2 t tx2 w2 → okx tx2 → Q 0 h2) → wf (D + 13) M_X7_readText Q 48 [some (.inr (.inr 294)), none] [] h := by
  intro n
  induction n with
  | zero => intro tx i h w hn; omega
  | succ n ih =>
    intro tx i h w hn hi S bad good
    have S' := S
    obtain ⟨kd, C, p, ok, w0, w1⟩ := S'
    have R := rtk_n C.2.1.2.2.1
    simp only [pTx] at bad good
    refine B_X7_readText_48 ⟨fun q => ?_, fun q => ?_⟩
    · rw [if_pos (R.1.1 q)] at good
      exact good tx rfl h w C.1 p ok
    · rw [if_neg (fun z => q (R.1.2 z))] at bad good
      refine c_clause (D := D) H S hi (fun y e h2 X => ⟨fun z => absurd z (fault_pos rfl e H.1 hi), fun _ => ?_⟩) (fun y e j0 j1 h2 w2 S2 => ⟨fun _ => ?_, fun z => absurd rfl z⟩)
      · rw [e] at bad; exact bad y rfl h2 X
      · rw [e] at bad good
        exact ih (tx ++ [y.1]) y.2 h2 w2 (by omega) j1 S2 bad good
end RLOOP2
