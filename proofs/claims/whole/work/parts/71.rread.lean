section RREAD7
variable {d : Nat} {h : am_H} {Q : Int → am_H → Prop} {t l : Int} {tx : List Cl} {base size : Int} {ρ ι : Rd} {β : Int → Int}
/-- whether each must is, and each FIELD up to one is RIGHT -/
def flg (ι : Rd) : Nat → Bool
  | 0 => decide (ι 8 1 = -1)
  | m + 1 => flg ι m && decide (ι m 3 = 0 ∨ ι m 3 = 3)
theorem flg_iff : ∀ m, flg ι m = true ↔ ι 8 1 = -1 ∧ ∀ g, g < m → ι g 3 = 0 ∨ ι g 3 = 3
  | 0 => by simp [flg]
  | m + 1 => by
    simp only [flg, Bool.and_eq_true, flg_iff m, decide_eq_true_eq]
    constructor
    · rintro ⟨⟨a, b⟩, c⟩
      exact ⟨a, fun g hg => by
        by_cases e : g = m
        · rw [e]; exact c
        · exact b g (by omega)⟩
    · rintro ⟨a, b⟩
      exact ⟨⟨a, fun g hg => b g (by omega)⟩, b m (by omega)⟩
theorem flg_snd : flg ι 8 = sndR ι := by
  have a := flg_iff (ι := ι) 8
  have b := snd_iff (ρ := ι)
  cases x : flg ι 8 with
  | true => exact (b.mpr ⟨(a.mp x).2, (a.mp x).1⟩).symm
  | false =>
    cases y : sndR ι with
    | false => rfl
    | true =>
      have := a.mpr ⟨(b.mp y).2, (b.mp y).1⟩
      rw [x] at this
      cases this
def bit01 (b : Bool) : Int := if b = true then 1 else 0
/-- what stays while a level is ended -/
def fL2 (h g : am_H) (m : Int) : Prop := (∀ b : Int, b ≠ 311 → g b = h b) ∧ ∀ j : Int, j ≠ m → g 311 j = h 311 j
theorem l_X7_endLevel {b2 s2 : Int} (s : rst h t tx β) (hl : l = 0 ∨ l = 1) (e43 : h 294 43 = l + 1) (ri : rlv h (l + 1) tx b2 s2 ι) (oi : okr tx ι) (on : okn (bD (l + 1)) tx ι)
    (k : ∀ g, fL2 h g (l + 1) → g 311 (l + 1) = ((nlk ι : Nat) : Int) → wf (d + 1) M_X7_endLevel Q 9 [some (.inr (.inr 294)), some (.inl (nval tx ι)), some (.inl (bit01 (sndR ι))), some (.inl 8), none, none] [] g) :
    ∀ (n m : Nat) (g : am_H), m + n = 8 → fL2 h g (l + 1) → g 311 (l + 1) = (((ι 8 4).toNat ||| orN (fun f => (ι f 4).toNat) m : Nat) : Int) → wf (d + 1) M_X7_endLevel Q 9 [some (.inr (.inr 294)), some (.inl (1 + sumN (fun f => if kdf tx f = 2 ∧ ι f 3 ≠ 1 then ι f 0 else 0) m)), some (.inl (bit01 (flg ι m))), some (.inl (m : Int)), none, none] [] g
  | 0, m, g, hm, fg, eg => by
    have : m = 8 := by omega
    subst this
    have := k g fg (by rw [eg, Nat.or_comm]; rfl)
    rw [← flg_snd] at this
    exact this
  | n + 1, m, g, hm, fg, eg => by
    have ih := l_X7_endLevel s hl e43 ri oi on k n (m + 1)
    have m8 : m < 8 := by omega
    have sg : rst g t tx β := by
      obtain ⟨r1, r2, r3, r4, r5, r6⟩ := s
      exact ⟨rtx_congr r1 (fg.1 _ (by omega)), r2, rlay_congr r3 (fun b q q2 => fg.1 b (by omega)) (fun j _ _ => by rw [fg.1 294 (by omega)]), fun j j0 j1 => by rw [fg.1 295 (by omega)]; exact r4 j j0 j1, r5, by rw [fg.1 294 (by omega)]; exact r6⟩
    have g43 : g 294 43 = l + 1 := by rw [fg.1 294 (by omega)]; exact e43
    have g47 : g 294 47 = t := sg.2.2.2.2.2
    have e32 := sg.2.2.1.2.2.1
    have tl := told_lt (tx := tx)
    have om := oi.1 m m8
    have rm := ri.2.2 m m8
    have e315 : g 315 (8 * (l + 1) + m) = ι m 3 := by rw [fg.1 315 (by omega)]; exact rm.1
    have e312 : g 312 (8 * (l + 1) + m) = ι m 0 := by rw [fg.1 312 (by omega)]; exact rm.2.1
    have e316 : g 316 (8 * (l + 1) + m) = ι m 4 := by rw [fg.1 316 (by omega)]; exact rm.2.2.1
    have o84 := oi.2.1
    have lo : orN (fun f => (ι f 4).toNat) m < 2 ^ 40 := orN_lt m (fun i hi => by
      have := (oi.1 i (by omega)).2.2.2.1
      omega)
    have lo2 := Nat.or_lt_two_pow (n := 40) (x := (ι 8 4).toNat) (by omega) lo
    have bB : 0 ≤ bD (l + 1) ∧ bD (l + 1) ≤ 1 := by rcases hl with rfl | rfl <;> decide
    have sb := nval_bd (tx := tx) (ι := ι) bB.1 on m (by omega)
    have sb2 : sumN (fun f => if kdf tx f = 2 ∧ ι f 3 ≠ 1 then ι f 0 else 0) m ≤ 8 := by
      rcases (show bD (l + 1) = 0 ∨ bD (l + 1) = 1 by omega) with e | e <;> rw [e] at sb <;> omega
    simp only [sumN, orN, flg] at ih
    have next : ∀ (u : am_H) (v : Int) (b : Bool), fL2 h u (l + 1) → u 311 (l + 1) = (((ι 8 4).toNat ||| (orN (fun f => (ι f 4).toNat) m ||| (ι m 4).toNat) : Nat) : Int) → v = (if kdf tx m = 2 ∧ ι m 3 ≠ 1 then ι m 0 else 0) → b = (flg ι m && decide (ι m 3 = 0 ∨ ι m 3 = 3)) → wf (d + 1) M_X7_endLevel Q 122 [some (.inr (.inr 294)), some (.inl (1 + sumN (fun f => if kdf tx f = 2 ∧ ι f 3 ≠ 1 then ι f 0 else 0) m + v)), some (.inl (bit01 b)), some (.inl (m : Int)), none, none] [] u := by
      intro u v b fu eu ev eb
      refine B_X7_endLevel_122 ?_
      rw [w32e (by omega) (by omega), show (m : Int) + 1 = ((m + 1 : Nat) : Int) by omega, ev, eb, Int.add_assoc]
      exact ih u (by omega) fu eu
    refine B_X7_endLevel_9 ⟨fun c => by omega, fun _ => ?_⟩
    rw [e32]
    refine c_X7_has (by omega) (by omega) (fun q => ⟨fun _ => ?_, fun c => by omega⟩) (fun q => ⟨fun c => absurd rfl c, fun _ => ?_⟩)
    · have hc := (told_bit2 m8).1 q
      have hk := kdf_or sg.2.1 hc
      rw [g43, w32e (z := 8 * (l + 1)) (by omega) (by omega), w32e (z := 8 * (l + 1) + m) (by omega) (by omega), eg, e316, e315, show ι m 4 = (((ι m 4).toNat : Nat) : Int) by omega, lor_n (by omega) (by omega), Nat.or_assoc]
      generalize hu : am_up g 311 (l + 1) (((ι 8 4).toNat ||| (orN (fun f => (ι f 4).toNat) m ||| (ι m 4).toNat) : Nat) : Int) = u
      have fu : fL2 h u (l + 1) := by
        rw [← hu]
        refine ⟨fun b qb => ?_, fun j qj => ?_⟩
        · rw [← fg.1 b qb]; funext j; exact am_up_ne (by omega)
        · rw [am_up_ne (by omega)]; exact fg.2 j qj
      have eu : u 311 (l + 1) = (((ι 8 4).toNat ||| (orN (fun f => (ι f 4).toNat) m ||| (ι m 4).toNat) : Nat) : Int) := by rw [← hu, am_up_at]
      have u0 : ∀ b j, b ≠ 311 → u b j = g b j := fun b j qb => by rw [← hu]; exact am_up_ne (by omega)
      have go : ∀ b : Bool, b = (flg ι m && decide (ι m 3 = 0 ∨ ι m 3 = 3)) → wf (d + 1) M_X7_endLevel Q 78 [some (.inr (.inr 294)), some (.inl (1 + sumN (fun f => if kdf tx f = 2 ∧ ι f 3 ≠ 1 then ι f 0 else 0) m)), none, some (.inl (m : Int)), some (.inl (8 * (l + 1) + m)), none] [.inl (bit01 b)] u := by
        intro b hb
        have n0 := next u 0 b fu eu
        rw [Int.add_zero] at n0
        refine B_X7_endLevel_78 ⟨by omega, by omega, ?_⟩
        rw [u0 315 _ (by omega), e315, u0 294 _ (by omega), g47, u0 305 _ (by omega), (sg.2.2.1.1 m m8).1]
        refine ⟨fun y => n0 (by rw [if_neg (fun z => z.2 y)]) hb, fun y => ⟨by omega, by omega, ?_⟩⟩
        have rf := rtx_f sg m8 hc
        refine c_X7_clauseAt rf.1 (by omega) ⟨by omega, by omega, ?_⟩
        rw [u0 297 _ (by omega), rf.2.2.1, u0 312 _ (by omega), e312]
        refine ⟨fun y2 => n0 (by rw [if_neg (fun z => y2 z.1)]) hb, fun y2 => ?_⟩
        have v := on m m8 y2 y
        rw [w32e (by omega) (by omega)]
        exact next u (ι m 0) b fu eu (by rw [if_pos ⟨y2, y⟩]) hb
      refine ⟨by omega, by omega, by omega, by omega, fun y => B_X7_endLevel_77 ?_, fun y => ⟨fun y2 => B_X7_endLevel_77 ?_, fun y2 => ?_⟩⟩
      · have fz : flg ι m = false := by
          cases z : flg ι m with
          | false => rfl
          | true => rw [z] at y; exact absurd y (by decide)
        exact go false (by rw [fz]; rfl)
      · refine go false ?_
        have : decide (ι m 3 = 0 ∨ ι m 3 = 3) = false := by
          have := om.2.1
          simp
          omega
        rw [this, Bool.and_false]
      · have fz : flg ι m = true := by
          cases z : flg ι m with
          | true => rfl
          | false => rw [z] at y; exact absurd rfl y
        refine go true ?_
        rw [fz, y2]
        rfl
    · have hc := (told_bit2 m8).2 q
      have h3 : ι m 3 = 3 := om.2.1.mpr hc
      have hk : kdf tx m = -1 := by unfold kdf; rw [if_pos hc]
      have h4 := om.2.2.2.2.2 hc
      have n0 := next g 0 (flg ι m) fg (by rw [eg, h4]; simp) (by rw [if_neg (fun z => by omega)]) (by rw [h3]; simp)
      rw [Int.add_zero] at n0
      exact n0
theorem c_X7_endLevel {b2 s2 : Int} {i f : Nat} {a z : Int} {L : Nat} (s : rst h t tx β) (hl : l = 0 ∨ l = 1) (e43 : h 294 43 = l + 1) (ri : rlv h (l + 1) tx b2 s2 ι) (oi : okr tx ι) (on : okn (bD (l + 1)) tx ι) (e311 : h 311 (l + 1) = ι 8 4) (e46 : h 294 46 = if ι 8 1 = -1 then 1 else 0) (e310 : h 310 l = (i : Int)) (hi : i < (ord tx).length) (ef : (ord tx).getD i 0 = f) (hL : L < 2 ^ 40) (m : rmid h l tx base size ρ f a z L)
    (k : ∀ g, fI h g l → g 294 43 = l → g 310 l = ((i + 1 : Nat) : Int) → g 311 l = h 311 l → (∀ j, j ≠ 43 → g 294 j = h 294 j) → rlv g l tx base size (setR ρ f (nval tx ι) a z (if sndR ι = true then 0 else 2) (L ||| nlk ι)) → Q 0 g) : cf (d + 1) M_X7_endLevel [.inr (.inr 294)] h Q := by
  have l8 := ord_len (tx := tx)
  have e307 := s.2.2.1.2.2.2.1 i hi
  rw [ef] at e307
  have mem : f ∈ ord tx := by
    rw [← ef, List.getD_eq_getElem?_getD, List.getElem?_eq_getElem hi]
    exact List.getElem_mem hi
  have om := ord_mem mem
  have f8 := om.1
  have o84 := oi.2.1
  have nl := nlk_lt oi
  refine cf_of pX7 (Nat.le_of_ble_eq_true rfl) rfl (fun _ => B_X7_endLevel_0 ?_)
  have go := l_X7_endLevel (d := d) (Q := Q) s hl e43 ri oi on ?_ 8 0 h (by omega) ⟨fun _ _ => rfl, fun _ _ => rfl⟩ (by rw [e311]; simp [orN]; omega)
  · have eb : bit01 (flg ι 0) = h 294 46 := by
      rw [e46]
      unfold bit01 flg
      by_cases q : ι 8 1 = -1
      · simp [q]
      · simp [q]
    rw [eb] at go
    exact go
  intro g fg eg
  have g43 : g 294 43 = l + 1 := by rw [fg.1 294 (by omega)]; exact e43
  have g310 : g 310 l = (i : Int) := by rw [fg.1 310 (by omega)]; exact e310
  have g307 : g 307 i = (f : Int) := by rw [fg.1 307 (by omega)]; exact e307
  refine B_X7_endLevel_9 ⟨fun _ => ?_, fun c => by omega⟩
  rw [g43, w32e (z := l + 1 - 1) (by omega) (by omega), show l + 1 - 1 = l by omega, g310, g307, w32e (z := 8 * l) (by omega) (by omega), w32e (z := 8 * l + f) (by omega) (by omega), eg]
  have fin : ∀ s1 : Int, s1 = (if sndR ι = true then 0 else 2) → wf (d + 1) M_X7_endLevel Q 195 [some (.inr (.inr 294)), none, none, some (.inr (.inl ((nlk ι : Nat) : Int))), none, some (.inl (8 * l + f))] [.inl s1, .inl (8 * l + f), .inr (.inr 315)] (am_up (am_up g 294 43 l) 312 (8 * l + f) (nval tx ι)) := by
    intro s1 hs
    obtain ⟨⟨m0, m1⟩, ⟨m2, m3, m4⟩, m5⟩ := m
    have q0 : ∀ b j, ¬ (b = 294 ∧ j = 43) → ¬ (b = 312 ∧ j = 8 * l + f) → am_up (am_up g 294 43 l) 312 (8 * l + f) (nval tx ι) b j = g b j := fun b j q1 q2 => by rw [am_up_ne q2, am_up_ne q1]
    refine B_X7_endLevel_195 ⟨by omega, by omega, by omega, by omega, ?_⟩
    have e43' : am_up (am_up g 294 43 l) 312 (8 * l + f) (nval tx ι) 294 43 = l := by rw [am_up_ne (by omega), am_up_at]
    rw [e43', q0 316 _ (by omega) (by omega), q0 310 _ (by omega) (by omega), fg.1 316 (by omega), m4, g310, lor_n (by omega) (by omega), w32e (by omega) (by omega)]
    generalize hu : am_up (am_up (am_up (am_up (am_up g 294 43 l) 312 (8 * l + f) (nval tx ι)) 315 (8 * l + f) s1) 316 (8 * l + f) ((L ||| nlk ι : Nat) : Int)) 310 l ((i : Int) + 1) = u
    have u0 : ∀ b j, ¬ (b = 294 ∧ j = 43) → ¬ ((b = 312 ∨ b = 315 ∨ b = 316) ∧ j = 8 * l + f) → ¬ (b = 310 ∧ j = l) → u b j = g b j := fun b j q1 q2 q3 => by
      rw [← hu, am_up_ne (by omega), am_up_ne (by omega), am_up_ne (by omega), am_up_ne (by omega), am_up_ne (by omega)]
    have ua : u 312 (8 * l + f) = nval tx ι := by rw [← hu, am_up_ne (by omega), am_up_ne (by omega), am_up_ne (by omega), am_up_at]
    have ub : u 315 (8 * l + f) = s1 := by rw [← hu, am_up_ne (by omega), am_up_ne (by omega), am_up_at]
    have uc : u 316 (8 * l + f) = ((L ||| nlk ι : Nat) : Int) := by rw [← hu, am_up_ne (by omega), am_up_at]
    have ud : u 310 l = ((i + 1 : Nat) : Int) := by rw [← hu, am_up_at]; omega
    have ue : u 294 43 = l := by rw [← hu, am_up_ne (by omega), am_up_ne (by omega), am_up_ne (by omega), am_up_ne (by omega), am_up_at]
    refine ⟨by omega, by omega, k u ⟨fun b q1 q2 q3 q4 => ?_, fun j q1 q2 q3 q4 q5 q6 => ?_, fun b j q1 q2 q3 => ?_, fun b j q1 q2 q3 => ?_⟩ ue ud ?_ (fun j q => ?_) ⟨?_, ?_, fun x hx => ?_⟩⟩
    · rw [← fg.1 b (by omega)]; funext j; exact u0 b j (by omega) (by omega) (by omega)
    · rw [u0 294 j (by omega) (by omega) (by omega), fg.1 294 (by omega)]
    · rw [u0 b j (by omega) (by omega) (by omega)]
      by_cases e : b = 311
      · rw [e]; exact fg.2 j (by omega)
      · rw [fg.1 b e]
    · rw [u0 b j (by omega) (by omega) (by omega), fg.1 b (by omega)]
    · rw [u0 311 l (by omega) (by omega) (by omega)]; exact fg.2 l (by omega)
    · rw [u0 294 j (by omega) (by omega) (by omega), fg.1 294 (by omega)]
    · rw [u0 308 l (by omega) (by omega) (by omega), fg.1 308 (by omega)]; exact m0
    · rw [u0 309 l (by omega) (by omega) (by omega), fg.1 309 (by omega)]; exact m1
    · by_cases e : x = f
      · subst e
        obtain ⟨s0, s1', s2', s3, s4⟩ := setR_at (ρ := ρ) (f := x) (v := nval tx ι) (a := a) (z := z) (w := if sndR ι = true then 0 else 2) (l := L ||| nlk ι)
        rw [s0, s1', s2', s3, s4, ua, ub, uc, u0 313 _ (by omega) (by omega) (by omega), u0 314 _ (by omega) (by omega) (by omega), fg.1 313 (by omega), fg.1 314 (by omega)]
        exact ⟨hs, rfl, rfl, fun _ => ⟨m2, m3⟩⟩
      · rw [setR_ne e, setR_ne e, setR_ne e, setR_ne e, setR_ne e, u0 312 _ (by omega) (by omega) (by omega), u0 315 _ (by omega) (by omega) (by omega), u0 316 _ (by omega) (by omega) (by omega), u0 313 _ (by omega) (by omega) (by omega), u0 314 _ (by omega) (by omega) (by omega), fg.1 312 (by omega), fg.1 313 (by omega), fg.1 314 (by omega), fg.1 315 (by omega), fg.1 316 (by omega)]
        exact m5 x hx e
  refine ⟨by omega, by omega, by omega, by omega, by omega, by omega, by omega, by omega, fun c => fin 2 ?_, fun c => fin 0 ?_⟩
  · have : ¬ sndR ι = true := fun y => by rw [y] at c; exact absurd c (by decide)
    rw [if_neg this]
  · have : sndR ι = true := by
      cases y : sndR ι with
      | true => rfl
      | false => rw [y] at c; exact absurd rfl c
    rw [if_pos this]
end RREAD7
