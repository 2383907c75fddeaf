section INSIDE3
variable {d D : Nat} {h : am_H} {Q : Int → am_H → Prop} {t : Int} {tx : List Cl} {size : Int} {β : Int → Int}
theorem c_X7_readUpTo {f : Nat} (r : rtx h t tx) (ok : okx tx) (y : rlay h tx) (h6 : 0 ≤ h 295 6 ∧ h 295 6 ≤ 40) (hB : ∀ j : Int, 0 ≤ j → j < 40 → h 295 (8 + j) = β j) (hb : ∀ j : Int, 0 ≤ j → j < 40 → 0 ≤ β j ∧ β j ≤ 255) (h44 : 0 ≤ h 294 44 ∧ h 294 44 ≤ 2) (hf : f < 8) (k2 : kdf tx f = 2) (n1 : ¬ rdX tx β (h 295 6) f 3 = 1)
    (k : ∀ g b s, fV h g → rlv g 1 tx b s (rdI tx β (rdX tx β (h 295 6)) f) → Q 0 g) : cf (D + 6) M_X7_readUpTo [.inr (.inr 294), .inl t, .inl (f : Int)] h Q := by
  refine cf_of pX7 (Nat.le_of_ble_eq_true rfl) rfl (fun _ => B_X7_readUpTo_0 ?_)
  have e0 : am_up h 294 47 t 294 32 = h 294 32 := am_up_ne (by omega)
  refine c_X7_beginLevel (d := D + 4) (tx := tx) (by omega) (by rw [e0]; exact y.2.2.1) (fun g fg a43 a44 a310 a311 rg => ?_)
  have f0 : fV h g := by
    refine ⟨fun b q1 q2 => ?_, fun j q => ?_⟩
    · rw [fg.1 b q1 (by omega)]; funext j; exact am_up_ne (by omega)
    · rw [fg.2.1 j (by omega) (by omega), am_up_ne (by omega)]
  have g47 : g 294 47 = t := by rw [fg.2.1 47 (by omega) (by omega), am_up_at]
  have g44 : g 294 44 = max (h 294 44) 0 := by rw [a44, am_up_ne (by omega)]
  have sg : rst g t tx β := ⟨rtx_fV r f0, ok, rlay_fV y f0, fun j j0 j1 => by rw [f0.1 295 (by omega) (by omega)]; exact hB j j0 j1, hb, g47⟩
  have ctl : ∀ g6 : am_H, (g6 294 43 = 1 → (0 ≤ g6 310 0 ∧ g6 310 0 < 8) ∧ ¬ g6 307 (g6 310 0) = (f : Int)) → cf (D + 5) M_X7_endLevel [.inr (.inr 294)] g6 (fun _ g3 => wf (D + 6) M_X7_readUpTo Q 20 [some (.inr (.inr 294)), some (.inl t), some (.inl (f : Int)), some (.inl 0)] [] g3) → (¬ g6 294 43 = 1 → wf (D + 6) M_X7_readUpTo Q 96 [some (.inr (.inr 294)), some (.inl t), some (.inl (f : Int)), none] [] g6) ∧ (g6 294 43 = 1 → (0 ≤ g6 310 0) ∧ ((g6 310 0 < 8) ∧ ((¬ g6 307 (g6 310 0) = (f : Int) → wf (D + 6) M_X7_readUpTo Q 96 [some (.inr (.inr 294)), some (.inl t), some (.inl (f : Int)), none] [] g6) ∧ (g6 307 (g6 310 0) = (f : Int) → wf (D + 6) M_X7_readUpTo Q 97 [some (.inr (.inr 294)), some (.inl t), some (.inl (f : Int)), none] [.inl 1] g6)))) := fun g6 c e => by
    have go : wf (D + 6) M_X7_readUpTo Q 96 [some (.inr (.inr 294)), some (.inl t), some (.inl (f : Int)), none] [] g6 := B_X7_readUpTo_96 (B_X7_readUpTo_97 ⟨fun q => absurd rfl q, fun _ => e⟩)
    exact ⟨fun _ => go, fun q => ⟨(c q).1.1, (c q).1.2, fun _ => go, fun q2 => absurd q2 (c q).2⟩⟩
  have LP : loopOK (D + 5) t (ord tx).length (fun g => wf (D + 6) M_X7_readUpTo Q 20 [some (.inr (.inr 294)), some (.inl t), some (.inl (f : Int)), some (.inl 0)] [] g) (fun g6 => g6 294 43 = 1 → (0 ≤ g6 310 0 ∧ g6 310 0 < 8) ∧ ¬ g6 307 (g6 310 0) = (f : Int)) := by
    refine ⟨fun g i l l0 e43 e310 e31 hi z => ?_, fun g l l0 e43 e310 e31 z => ?_⟩
    · refine B_X7_readUpTo_20 ⟨fun q => absurd rfl q, fun _ => ?_⟩
      rw [e43, e310, e31]
      exact ⟨by omega, by omega, fun q => by omega, fun _ => z⟩
    · refine B_X7_readUpTo_20 ⟨fun q => absurd rfl q, fun _ => ?_⟩
      rw [e43, e310, e31]
      exact ⟨by omega, by omega, fun _ => cf_mono z (fun r2 h2 q => ctl h2 q.1 q.2), fun q => by omega⟩
  have v : ivl β 0 (h 295 6) := ⟨hb, by omega⟩
  have l8 := ord_len (tx := tx)
  have n0 := nest0 (E := fun x => ¬ x = f) LP hb ok (fun g6 q => fun q2 => by omega) (fun g6 i f2 q q2 q3 q4 q5 q6 => fun _ => by
    rw [q2]
    refine ⟨by omega, fun e => q6 ?_⟩
    rw [q5] at e
    omega)
  have iP : inP tx 0 (fun b s => some (rdB tx β false (wI tx false 0) b s)) := inP_0 (vo := false) ok hb
  have mem : f ∈ ord tx := by
    by_cases m : f ∈ ord tx
    · exact m
    · exfalso
      have e : rdX tx β (h 295 6) f 3 = rd0 tx 0 f 3 := by unfold rdX rdC; exact lvl_out hf m 3
      have v := rd0_v (tx := tx) (deep := 0) hf
      by_cases c : 0 ≤ co tx f
      · exact n1 (e.trans (v.1 c).2.2.2)
      · unfold kdf at k2
        rw [if_pos (by omega)] at k2
        omega
  have om := ord_mem mem
  obtain ⟨i, hi, ei⟩ := List.getElem_of_mem mem
  have gi : (ord tx).getD i 0 = f := by rw [List.getD_eq_getElem?_getD, List.getElem?_eq_getElem hi]; exact ei
  have tk : ((ord tx).drop 0).take i = (ord tx).take i := by rw [List.drop_zero]
  have nf : f ∉ (ord tx).take i := by
    intro hm
    have nd := ord_nodup (tx := tx)
    have e : ord tx = (ord tx).take i ++ ((ord tx).getD i 0 :: (ord tx).drop (i + 1)) := by rw [← drop_ord hi, List.take_append_drop]
    rw [e] at nd
    exact (List.nodup_append.mp nd).2.2 f hm f (by rw [gi]; exact List.mem_cons_self) rfl
  refine lvA (E := fun x => ¬ x = f) LP (Or.inl rfl) v iP (Or.inr ⟨by decide, rdB tx β false 255, rfl, n0⟩) i 0 g (rd0 tx 0) (h 294 44) (by omega) ⟨sg, ⟨a43, a310, a311⟩, rg, okr_0, okn_0, by rw [rd0_8.1]; omega, rd0_8.2.1, rd0_8.2.2⟩ (fun x hx => ?_) (by rw [rd0_8.1, g44]) (by omega) (fun g2 s2 f2 e44 e45 => ?_)
  · rw [tk] at hx
    have mm := ord_mem (List.mem_of_mem_take hx)
    exact ⟨((rd0_v (deep := 0) mm.1).1 mm.2).2.2.2, fun _ e => nf (e ▸ hx)⟩
  · rw [tk] at s2 e44
    rw [Nat.zero_add] at s2
    have at_ : ∀ c, rdX tx β (h 295 6) f c = stepF tx β false 0 0 (h 295 6) (fun b s => some (rdB tx β false (wI tx false 0) b s)) (flds tx β false 0 0 (h 295 6) (fun b s => some (rdB tx β false (wI tx false 0) b s)) 255 ((ord tx).take i) (rd0 tx 0)) f f c := fun c => by
      have z := flds_at (tx := tx) (β := β) (base := 0) (size := h 295 6) (vo := false) (deep := 0) (inn := fun b s => some (rdB tx β false (wI tx false 0) b s)) hi c
      rw [gi] at z
      rw [← z]
      unfold rdX rdC lvl
      rw [if_pos rfl]
      exact msts_row hf c _ _ _
    have f3 : flds tx β false 0 0 (h 295 6) (fun b s => some (rdB tx β false (wI tx false 0) b s)) 255 ((ord tx).take i) (rd0 tx 0) f 3 = 1 := by
      rw [flds_out om.1 3 _ _ nf]
      exact ((rd0_v (deep := 0) om.1).1 om.2).2.2.2
    generalize hρ : flds tx β false 0 0 (h 295 6) (fun b s => some (rdB tx β false (wI tx false 0) b s)) 255 ((ord tx).take i) (rd0 tx 0) = ρ3 at *
    obtain ⟨s21, ⟨s22, s23, s24⟩, s25, s26, s27, s28, s29, s210⟩ := s2
    refine B_X7_readUpTo_20 ⟨fun q => absurd rfl q, fun _ => ?_⟩
    rw [s22, s23, s21.2.2.1.2.1]
    refine ⟨by omega, by omega, fun q => by omega, fun _ => ?_⟩
    refine c_readNest (d := D) (inn := fun b s => some (rdB tx β false (wI tx false 0) b s)) s21 s22 (by omega) s23 hi s25 s26 (by omega) (fun q => by omega) (by rw [gi]; exact k2) (by rw [gi]; exact f3) (by rw [gi, ← at_ 3]; exact n1) (fun fx ef l2 kk nb w lL h2 fi2 c310 c311 m2 b2 c44 c45 => ⟨fun _ => ?_, fun q => by omega⟩)
    rw [gi] at ef
    subst ef
    have st : ∀ c, c < 5 → ¬ c = 0 → ¬ c = 3 → ¬ c = 4 → rdX tx β (h 295 6) fx c = (if c = 1 then fa tx β 0 0 (h 295 6) ρ3 fx else fz tx β 0 0 (h 295 6) ρ3 fx) := fun c c5 c0 c3 c4 => by
      rw [at_ c]
      unfold stepF
      rw [if_neg nb]
      unfold stepV
      have eo : fo tx β 0 0 (h 295 6) ρ3 fx = fa tx β 0 0 (h 295 6) ρ3 fx := by unfold fo; rw [if_neg (by omega)]
      rw [eo, if_pos (by omega), if_neg (by omega), if_neg (by omega), if_pos w.2.2.2]
      dsimp only
      rw [putR_ne (by omega)]
      rcases (show c = 1 ∨ c = 2 by omega) with rfl | rfl
      · rw [setR_at.2.1, if_pos rfl]
      · rw [setR_at.2.2.1, if_neg (by decide)]
    have e1 := st 1 (by decide) (by decide) (by decide) (by decide)
    have e2 := st 2 (by decide) (by decide) (by decide) (by decide)
    rw [if_pos rfl] at e1
    rw [if_neg (by decide)] at e2
    obtain ⟨b21, b22, b23, b24⟩ := b2
    rw [Int.zero_add (fa tx β 0 0 (h 295 6) ρ3 fx)] at b24
    have sh2 : rst h2 t tx β := rst_fI s21 fi2
    have v2 : ivl β (fa tx β 0 0 (h 295 6) ρ3 fx) (fz tx β 0 0 (h 295 6) ρ3 fx - fa tx β 0 0 (h 295 6) ρ3 fx) := ⟨hb, by omega⟩
    have full : ((ord tx).drop 0).take (ord tx).length = ord tx := by rw [List.drop_zero, List.take_length]
    have nx1 : nestOK t tx β 1 (rdA tx β false 255) (fun g => wf (D + 6) M_X7_readUpTo Q 20 [some (.inr (.inr 294)), some (.inl t), some (.inl (fx : Int)), some (.inl 0)] [] g) (fun _ => True) := nest1 LP hb ok (fun g6 q => fun q2 => by omega)
    have iP1 : inP tx 1 (fun b s => some (rdA tx β false (wI tx false 1) b s)) := inP_1 (vo := false) ok hb
    refine lvA (E := fun _ => True) LP (Or.inr (Or.inl rfl)) v2 iP1 (Or.inr ⟨by decide, rdA tx β false 255, rfl, nx1⟩) (ord tx).length 0 h2 (rd0 tx 1) (h2 294 44) (by omega) ⟨sh2, ⟨b21, b22, b23⟩, b24, okr_0, okn_0, by rw [rd0_8.1]; omega, rd0_8.2.1, rd0_8.2.2⟩ (fun x hx => ?_) (by rw [rd0_8.1, c44]; omega) (by rw [c44, e44]; omega) (fun g3 s3 f3 d44 d45 => ?_)
    · rw [full] at hx
      have mm := ord_mem hx
      exact ⟨((rd0_v (deep := 1) mm.1).1 mm.2).2.2.2, fun _ => trivial⟩
    · rw [full] at s3
      rw [Nat.zero_add] at s3
      have el : rdB tx β false 255 (fa tx β 0 0 (h 295 6) ρ3 fx) (fz tx β 0 0 (h 295 6) ρ3 fx - fa tx β 0 0 (h 295 6) ρ3 fx) = msts β 1 (fa tx β 0 0 (h 295 6) ρ3 fx) (fz tx β 0 0 (h 295 6) ρ3 fx - fa tx β 0 0 (h 295 6) ρ3 fx) tx 0 (flds tx β false 1 (fa tx β 0 0 (h 295 6) ρ3 fx) (fz tx β 0 0 (h 295 6) ρ3 fx - fa tx β 0 0 (h 295 6) ρ3 fx) (fun b s => some (rdA tx β false (wI tx false 1) b s)) 255 (ord tx) (rd0 tx 1)) := by
        unfold rdB lvl
        rw [if_pos rfl]
      generalize hρ4 : flds tx β false 1 (fa tx β 0 0 (h 295 6) ρ3 fx) (fz tx β 0 0 (h 295 6) ρ3 fx - fa tx β 0 0 (h 295 6) ρ3 fx) (fun b s => some (rdA tx β false (wI tx false 1) b s)) 255 (ord tx) (rd0 tx 1) = ρ4 at *
      obtain ⟨t1, ⟨t2, t3, t4⟩, t5, t6, t7, t8, t9, t10⟩ := s3
      refine B_X7_readUpTo_20 ⟨fun q => absurd rfl q, fun _ => ?_⟩
      rw [t2, t3, t1.2.2.1.2.1]
      refine ⟨by omega, by omega, fun _ => c_X7_readMusts (d := D + 1) t1 t2 (by omega) t5 t6 (by omega) (by rw [t4, t10]) t9 (fun g4 ρm em om3 f4 r4 c3 c46 c450 c45' => ?_), fun q => by omega⟩
      have g43 : g4 294 43 = 1 := by rw [f4.2.1 43 (by omega) (by omega) (by omega) (by omega)]; exact t2
      have f24 : fI h2 g4 1 := fI_trans f3 (fM_fI f4) (Int.le_refl _)
      have g310 : g4 310 0 = (i : Int) := by rw [f24.2.2.1 310 0 (by omega) (by omega) (by omega), c310]; exact s23
      have s4 := rst_fM t1 f4
      have g307 : g4 307 i = (fx : Int) := by rw [s4.2.2.1.2.2.2.1 i hi, gi]
      rw [g43, g310, g307]
      refine ⟨fun q => absurd rfl q, fun _ => ⟨by omega, by omega, fun q => absurd rfl q, fun _ => B_X7_readUpTo_97 ⟨fun _ => B_X7_readUpTo_20 ⟨fun _ => ?_, fun q => by omega⟩, fun q => by omega⟩⟩⟩
      refine k g4 (fa tx β 0 0 (h 295 6) ρ3 fx) (fz tx β 0 0 (h 295 6) ρ3 fx - fa tx β 0 0 (h 295 6) ρ3 fx) (fV_fI (fV_fI (fV_fI (fV_fI f0 f2) fi2) f3) (fM_fI f4)) ?_
      unfold rdI
      rw [e1, e2, el, ← em]
      exact r4
end INSIDE3
