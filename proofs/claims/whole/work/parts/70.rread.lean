section RREAD6
variable {d : Nat} {h : am_H} {Q : Int → am_H → Prop} {t l : Int} {tx : List Cl} {base size : Int} {ρ : Rd} {β : Int → Int}
/-- what a look at the musts changes -/
def fM (h g : am_H) (l : Int) : Prop := (∀ b : Int, b ≠ 294 → b ≠ 311 → b < 300 ∨ 304 < b → g b = h b) ∧ (∀ j : Int, j ≠ 22 → j ≠ 23 → j ≠ 45 → j ≠ 46 → g 294 j = h 294 j) ∧ ∀ j : Int, j ≠ l → g 311 j = h 311 j
theorem fM_fI {g : am_H} (f : fM h g l) : fI h g l := ⟨fun b q1 q2 q3 q4 => f.1 b q1 (by omega) (by omega), fun j q1 q2 q3 q4 q5 q6 => f.2.1 j q1 q2 q5 q6, fun b j q1 q2 q3 => by
  by_cases e : b = 311
  · rw [e]; exact f.2.2 j (by omega)
  · rw [f.1 b (by omega) e (by omega)], fun b j q1 q2 _ => by rw [f.1 b (by omega) (by omega) (by omega)]⟩
theorem fM_fB {g g2 : am_H} (f : fM h g l) (b : fB g g2 0 0) : fM h g2 l := ⟨fun c q1 q2 q3 => (b.1 c (by omega)).trans (f.1 c q1 q2 q3), fun j q1 q2 q3 q4 => by rw [b.1 294 (by omega)]; exact f.2.1 j q1 q2 q3 q4, fun j q => by rw [b.1 311 (by omega)]; exact f.2.2 j q⟩
theorem fM_up {g : am_H} {r i v : Int} (f : fM h g l) (q : (r = 294 ∧ (i = 45 ∨ i = 46)) ∨ (r = 311 ∧ i = l)) : fM h (am_up g r i v) l := by
  refine ⟨fun b q1 q2 q3 => ?_, fun j q1 q2 q3 q4 => ?_, fun j q1 => ?_⟩
  · rw [← f.1 b q1 q2 q3]; funext j; exact am_up_ne (by omega)
  · rw [am_up_ne (by omega)]; exact f.2.1 j q1 q2 q3 q4
  · rw [am_up_ne (by omega)]; exact f.2.2 j q1
theorem rlv_fM {g : am_H} (r : rlv h l tx base size ρ) (f : fM h g l) {ρ2 : Rd} (e : ∀ x, x < 8 → ∀ c, ρ2 x c = ρ x c) : rlv g l tx base size ρ2 := by
  obtain ⟨r0, r1, r2⟩ := r
  refine ⟨by rw [f.1 308 (by omega) (by omega) (by omega)]; exact r0, by rw [f.1 309 (by omega) (by omega) (by omega)]; exact r1, fun x hx => ?_⟩
  rw [f.1 315 (by omega) (by omega) (by omega), f.1 312 (by omega) (by omega) (by omega), f.1 316 (by omega) (by omega) (by omega), f.1 313 (by omega) (by omega) (by omega), f.1 314 (by omega) (by omega) (by omega), e x hx, e x hx, e x hx, e x hx, e x hx]
  exact r2 x hx
theorem rst_fM {g : am_H} (s : rst h t tx β) (f : fM h g l) : rst g t tx β := rst_fI s (fM_fI f)
theorem l_X7_readMusts (s : rst h t tx β) (e43 : h 294 43 = l) (l0 : 0 ≤ l ∧ l ≤ 2) (r : rlv h l tx base size ρ) (he : eok false (nmR ρ l size) β base)
    (k : ∀ g ρm, ρm = msts β l base size tx 0 ρ → okM tx ρ ρm → fM h g l → g 311 l = ρm 8 4 → g 294 46 = (if ρm 8 1 = -1 then 1 else 0) → (l = 0 → g 294 45 = if ρm 8 1 = -1 then h 294 45 else ρm 8 1) → (¬ l = 0 → g 294 45 = h 294 45) → Q 0 g) :
    ∀ (n i : Nat) (g : am_H) (ρ1 : Rd), i + n = tx.length → fM h g l → rce false g (nmR ρ l size) β base → msts β l base size (tx.drop i) i ρ1 = msts β l base size tx 0 ρ → okM tx ρ ρ1 → g 311 l = ρ1 8 4 → g 294 46 = (if ρ1 8 1 = -1 then 1 else 0) → (l = 0 → g 294 45 = if ρ1 8 1 = -1 then h 294 45 else ρ1 8 1) → (¬ l = 0 → g 294 45 = h 294 45) → wf (d + 4) M_X7_readMusts Q 11 [some (.inr (.inr 294)), some (.inl t), some (.inl (i : Int)), none, none] [] g
  | 0, i, g, ρ1, hi, fg, cg, eg, og, a1, a2, a3, a4 => by
    have sg := rst_fM s fg
    refine B_X7_readMusts_11 (c_X7_clauses sg.1 ⟨fun _ => ?_, fun q => by omega⟩)
    rw [List.drop_eq_nil_of_le (by omega)] at eg
    exact k g ρ1 eg og fg a1 a2 a3 a4
  | n + 1, i, g, ρ1, hi, fg, cg, eg, og, a1, a2, a3, a4 => by
    have sg := rst_fM s fg
    have ok := s.2.1
    have l24 := ok.1
    have hi' : i < tx.length := by omega
    have t0 := s.1.1
    have g43 : g 294 43 = l := by rw [fg.2.1 43 (by omega) (by omega) (by omega) (by omega)]; exact e43
    have rc := sg.1.2.2 i (by omega) (by omega)
    have okc := ok.2.1 _ (cl_mem hi')
    have eη : nmR ρ1 l size = nmR ρ l size := nmR_M og.2.1
    rw [drop_cl hi'] at eg
    simp only [msts] at eg
    rw [show (i : Int) + 1 = ((i + 1 : Nat) : Int) by omega] at eg
    have next : ∀ (g2 : am_H) (ρ2 : Rd), fM h g2 l → rce false g2 (nmR ρ l size) β base → (if (cl tx i).1 = 3 then mst1 β l base size ρ1 i (cl tx i) else ρ1) = ρ2 → okM tx ρ ρ2 → g2 311 l = ρ2 8 4 → g2 294 46 = (if ρ2 8 1 = -1 then 1 else 0) → (l = 0 → g2 294 45 = if ρ2 8 1 = -1 then h 294 45 else ρ2 8 1) → (¬ l = 0 → g2 294 45 = h 294 45) → wf (d + 4) M_X7_readMusts Q 161 [some (.inr (.inr 294)), some (.inl t), some (.inl (i : Int)), none, none] [] g2 := by
      intro g2 ρ2 f2 c2 e2 o2 b1 b2 b3 b4
      rw [e2] at eg
      refine B_X7_readMusts_161 ?_
      rw [w32e (by omega) (by omega), show (i : Int) + 1 = ((i + 1 : Nat) : Int) by omega]
      exact l_X7_readMusts s e43 l0 r he k n (i + 1) g2 ρ2 (by omega) f2 c2 eg o2 b1 b2 b3 b4
    refine B_X7_readMusts_11 (c_X7_clauses sg.1 ⟨fun q => by omega, fun _ => c_X7_clauseAt t0 (by omega) ⟨by omega, by omega, fun q => ?_, fun q => ?_⟩⟩)
    · rw [rc.1] at q
      rw [if_pos q] at next
      have w3 := okc.2.2.1 q
      have nl : ncl (cl tx i) < 256 := by
        unfold ncl
        have e1 := okc.2.2.2.2.2.2.1 (by omega)
        have e2 := okc.2.2.2.2.2.1 (by omega)
        rw [e1, e2]
        exact Nat.or_lt_two_pow (n := 8) (Nat.or_lt_two_pow (n := 8) (nx_lt _ _ w3) (by decide)) (by decide)
      have tl := told_lt (tx := tx)
      have out : ∀ (g2 : am_H) (met : Int) (ρ2 : Rd), fM h g2 l → rce false g2 (nmR ρ l size) β base → okM tx ρ ρ2 → g2 311 l = ρ2 8 4 → (∀ j, j ≠ 22 → j ≠ 23 → g2 294 j = g 294 j) → ρ2 8 1 = ρ1 8 1 → mst1 β l base size ρ1 i (cl tx i) = (if met = 0 ∧ ρ1 8 1 = -1 then putR ρ2 8 1 i else ρ2) → wf (d + 4) M_X7_readMusts Q 116 [some (.inr (.inr 294)), some (.inl t), some (.inl (i : Int)), none, some (.inl met)] [] g2 := by
        intro g2 met ρ2 f2 c2 o2 b1 b2 b81 em
        have g246 : g2 294 46 = (if ρ1 8 1 = -1 then 1 else 0) := by rw [b2 46 (by omega) (by omega)]; exact a2
        have g245 : g2 294 45 = g 294 45 := b2 45 (by omega) (by omega)
        have g243 : g2 294 43 = l := by rw [b2 43 (by omega) (by omega)]; exact g43
        have rup : ∀ (u : am_H) (j v : Int), rce false u (nmR ρ l size) β base → j = 45 ∨ j = 46 → rce false (am_up u 294 j v) (nmR ρ l size) β base := fun u j v c hj => ⟨by rw [am_up_ne (by omega)]; exact c.1, by rw [am_up_ne (by omega)]; exact c.2.1, fun kk a => by rw [am_up_ne (by omega)]; exact c.2.2.1 kk a, fun jj j0 j1 => by rw [am_up_ne (by omega)]; exact c.2.2.2 jj j0 j1⟩
        have last : ∀ (u : am_H) (s1 : Int) (ρ3 : Rd), fM h u l → rce false u (nmR ρ l size) β base → okM tx ρ ρ3 → u 311 l = ρ3 8 4 → mst1 β l base size ρ1 i (cl tx i) = ρ3 → s1 = (if ρ3 8 1 = -1 then 1 else 0) → (l = 0 → u 294 45 = if ρ3 8 1 = -1 then h 294 45 else ρ3 8 1) → (¬ l = 0 → u 294 45 = h 294 45) → wf (d + 4) M_X7_readMusts Q 158 [some (.inr (.inr 294)), some (.inl t), some (.inl (i : Int)), none, none] [.inl s1, .inr (.inr 294)] u := by
          intro u s1 ρ3 f3 c3 o3 d1 d2 d3 d4 d5
          refine B_X7_readMusts_158 ⟨by rw [d3]; split <;> omega, next _ ρ3 (fM_up f3 (by omega)) (rup u 46 s1 c3 (Or.inr rfl)) d2 o3 (by rw [am_up_ne (by omega)]; exact d1) (by rw [am_up_at]; exact d3) (fun z => by rw [am_up_ne (by omega)]; exact d4 z) (fun z => by rw [am_up_ne (by omega)]; exact d5 z)⟩
        by_cases hm : met = 0
        · by_cases h1 : ρ1 8 1 = -1
          · rw [if_pos ⟨hm, h1⟩] at em
            rw [if_pos h1] at g246 a3
            have o3 := okM_put (j := 1) (m := (i : Int)) o2 (Or.inl ⟨rfl, by omega, by omega⟩)
            have e31 : putR ρ2 8 1 (i : Int) 8 1 = i := putR_at
            have go : ∀ u : am_H, fM h u l → rce false u (nmR ρ l size) β base → u 311 l = ρ2 8 4 → u 294 46 = 1 → (l = 0 → u 294 45 = i) → (¬ l = 0 → u 294 45 = h 294 45) → wf (d + 4) M_X7_readMusts Q 140 [some (.inr (.inr 294)), some (.inl t), some (.inl (i : Int)), none, some (.inl met)] [] u := by
              intro u f3 c3 d1 d2 d3 d4
              refine B_X7_readMusts_140 ⟨fun z => by omega, fun _ => ⟨fun _ => B_X7_readMusts_157 (last u 0 (putR ρ2 8 1 i) f3 c3 o3 (by rw [putR_ne (by omega)]; exact d1) em (by rw [e31, if_neg (by omega)]) (fun z => by rw [e31, if_neg (by omega)]; exact d3 z) d4), fun z => absurd hm z⟩⟩
            refine B_X7_readMusts_116 ⟨fun z => absurd hm z, fun _ => ⟨fun z => by omega, fun _ => ⟨fun z => ?_, fun z => ?_⟩⟩⟩
            · rw [g243] at z
              exact go g2 f2 c2 b1 g246 (fun y => absurd y z) (fun y => by rw [g245]; exact a4 y)
            · rw [g243] at z
              refine go _ (fM_up f2 (by omega)) (rup g2 45 i c2 (Or.inl rfl)) ?_ ?_ (fun _ => am_up_at _ _ _ _) (fun y => absurd z y)
              · rw [am_up_ne (by omega)]; exact b1
              · rw [am_up_ne (by omega)]; exact g246
          · rw [if_neg (fun z => h1 z.2)] at em
            rw [if_neg h1] at g246 a3
            refine B_X7_readMusts_116 ⟨fun z => absurd hm z, fun _ => ⟨fun _ => B_X7_readMusts_140 ⟨fun _ => B_X7_readMusts_157 (last g2 0 ρ2 f2 c2 o2 b1 em (by rw [b81, if_neg h1]) (fun z => by rw [b81, if_neg h1, g245]; exact a3 z) (fun z => by rw [g245]; exact a4 z)), fun z => absurd g246 z⟩, fun z => absurd g246 z⟩⟩
        · rw [if_neg (fun z => hm z.1)] at em
          refine B_X7_readMusts_116 ⟨fun _ => B_X7_readMusts_140 ⟨fun z => ?_, fun z => ⟨fun y => absurd y hm, fun _ => ?_⟩⟩, fun z => absurd z hm⟩
          · have h1 : ¬ ρ1 8 1 = -1 := fun y => by rw [if_pos y] at g246; omega
            rw [if_neg h1] at a3
            exact B_X7_readMusts_157 (last g2 0 ρ2 f2 c2 o2 b1 em (by rw [b81, if_neg h1]) (fun z => by rw [b81, if_neg h1, g245]; exact a3 z) (fun z => by rw [g245]; exact a4 z))
          · have h1 : ρ1 8 1 = -1 := by
              by_cases y : ρ1 8 1 = -1
              · exact y
              · rw [if_neg y] at g246; exact absurd g246 z
            rw [if_pos h1] at a3
            exact last g2 1 ρ2 f2 c2 o2 b1 em (by rw [b81, if_pos h1]) (fun z => by rw [b81, if_pos h1, g245]; exact a3 z) (fun z => by rw [g245]; exact a4 z)
      refine c_X7_namesOf (d := d + 2) sg.1 ok (by omega) (by omega) ?_
      rw [sg.2.2.1.2.2.1, iand_n (by omega)]
      have rg := rlv_fM r fg (ρ2 := ρ1) og.2.1
      refine c_X7_isAnyBroken (d := d + 2) (Nat.lt_of_le_of_lt Nat.and_le_left nl) g43 l0 rg (fun y => ⟨fun _ => ?_, fun z => by omega⟩) (fun y => ⟨fun z => absurd rfl z, fun _ => ?_⟩)
      · rw [bkn_told og.1] at y
        refine B_X7_readMusts_62 ⟨fun _ => out g 0 ρ1 fg cg og a1 (fun _ _ _ => rfl) rfl ?_, fun z => absurd rfl z⟩
        unfold mst1
        simp [y]
      · rw [bkn_told og.1] at y
        refine B_X7_readMusts_62 ⟨fun z => by omega, fun _ => ?_⟩
        obtain ⟨w1, w2, w4, w5⟩ := rc.2.2.1 (by omega)
        rw [w32e (z := 825 * t + 1 + 9 * (i : Int) + 3) (by omega) (by omega), w32e (z := 825 * t + 1 + 9 * (i : Int) + 4) (by omega) (by omega), show 825 * t + 1 + 9 * (i : Int) + 4 = 825 * t + 1 + 9 * (i : Int) + 3 + 1 by omega, w2]
        refine ⟨by omega, by omega, by omega, by omega, c_X7_work (d := d + 1) t0 he w3 w1 w4 w5 cg (fun g2 f2 _ v2 => ?_)⟩
        have v := v2 rfl
        have g243 : g2 294 43 = l := by rw [f2.1 294 (by omega)]; exact g43
        have ll := lk_lt he _ _ w3
        have o84 := og.1.2.1
        rw [g243, v.1, v.2, f2.1 311 (by omega), a1, show ρ1 8 4 = (((ρ1 8 4).toNat : Nat) : Int) by omega, lor_n (by omega) (by omega)]
        have lo := Nat.or_lt_two_pow (n := 40) (x := (ρ1 8 4).toNat) (by omega) ll
        refine ⟨by omega, by omega, out _ _ (putR ρ1 8 4 (((ρ1 8 4).toNat ||| lk (nmR ρ l size) β base (cl tx i).2.2.2.1 : Nat) : Int)) (fM_up (fM_fB fg f2) (by omega)) ?_ (okM_put og (Or.inr ⟨rfl, by omega⟩)) ?_ (fun j j1 j2 => ?_) (putR_ne (by omega)) ?_⟩
        · have c2 := rce_fB cg f2
          exact ⟨by rw [am_up_ne (by omega)]; exact c2.1, by rw [am_up_ne (by omega)]; exact c2.2.1, fun kk a => by rw [am_up_ne (by omega)]; exact c2.2.2.1 kk a, fun jj j0 j1 => by rw [am_up_ne (by omega)]; exact c2.2.2.2 jj j0 j1⟩
        · rw [am_up_at, putR_at]
        · rw [am_up_ne (by omega), f2.1 294 (by omega)]
        · unfold mst1
          simp [y, eη]
    · rw [rc.1] at q
      rw [if_neg q] at next
      exact next g ρ1 fg cg rfl og a1 a2 a3 a4
theorem eok_lv (s : rst h t tx β) (o : okr tx ρ) (hb : 0 ≤ base ∧ 0 ≤ size ∧ base + size ≤ 40) (l0 : 0 ≤ l ∧ l ≤ 2) : eok false (nmR ρ l size) β base := by
  refine ⟨hb.1, by rw [nmR_8]; omega, s.2.2.2.2.1, fun j aj => ?_⟩
  unfold al at aj
  simp at aj
  by_cases c : j < 8
  · rw [nmR_k c]
    have := (o.1 j c).2.2.1
    omega
  · by_cases c8 : j = 8
    · subst c8
      rw [show ((8 : Nat) : Int) = 8 from rfl, nmR_8]; omega
    · have : j = 9 := by omega
      subst this
      rw [show ((9 : Nat) : Int) = 9 from rfl, nmR_9]; omega
theorem c_X7_readMusts (s : rst h t tx β) (e43 : h 294 43 = l) (l0 : 0 ≤ l ∧ l ≤ 2) (r : rlv h l tx base size ρ) (o : okr tx ρ) (hb : 0 ≤ base ∧ 0 ≤ size ∧ base + size ≤ 40) (e311 : h 311 l = ρ 8 4) (e81 : ρ 8 1 = -1)
    (k : ∀ g ρm, ρm = msts β l base size tx 0 ρ → okM tx ρ ρm → fM h g l → rlv g l tx base size ρm → g 311 l = ρm 8 4 → g 294 46 = (if ρm 8 1 = -1 then 1 else 0) → (l = 0 → g 294 45 = if ρm 8 1 = -1 then h 294 45 else ρm 8 1) → (¬ l = 0 → g 294 45 = h 294 45) → Q 0 g) : cf (d + 4) M_X7_readMusts [.inr (.inr 294), .inl t] h Q := by
  have f1 : fM h (am_up h 294 46 1) l := fM_up ⟨fun _ _ _ _ => rfl, fun _ _ _ _ _ => rfl, fun _ _ => rfl⟩ (by omega)
  have s1 := rst_fM s f1
  have r1 := rlv_fM r f1 (ρ2 := ρ) (fun _ _ _ => rfl)
  refine cf_of pX7 (Nat.le_of_ble_eq_true rfl) rfl (fun _ => B_X7_readMusts_0 (c_X7_nameLevel s1 (by rw [am_up_ne (by omega)]; exact e43) l0 r1 (fun g fg cg => ?_)))
  have f2 : fM h g l := ⟨fun b q1 q2 q3 => by rw [fg.1 b q1 (by omega)]; exact f1.1 b q1 q2 q3, fun j q1 q2 q3 q4 => by rw [fg.2 j q1 q2]; exact f1.2.1 j q1 q2 q3 q4, fun j q => by rw [fg.1 311 (by omega) (by omega)]; exact f1.2.2 j q⟩
  refine l_X7_readMusts (h := h) s e43 l0 r (eok_lv s o hb l0) (fun g2 ρm em om f3 b1 b2 b3 b4 => k g2 ρm em om f3 (rlv_fM r f3 om.2.1) b1 b2 b3 b4) tx.length 0 g ρ (by omega) f2 cg rfl (okM_refl o) ?_ ?_ (fun _ => ?_) (fun _ => ?_)
  · rw [fg.1 311 (by omega) (by omega), am_up_ne (by omega)]; exact e311
  · rw [fg.2 46 (by omega) (by omega), am_up_at, if_pos e81]
  · rw [fg.2 45 (by omega) (by omega), am_up_ne (by omega), if_pos e81]
  · rw [fg.2 45 (by omega) (by omega), am_up_ne (by omega)]
end RREAD6
