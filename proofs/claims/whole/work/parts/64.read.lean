section READ7
variable {d : Nat} {h : am_H} {Q : Int → am_H → Prop} {A T : Int} {tx : List Cl} {base size deep : Int} {ρ : Rd} {β : Int → Int} {vo : Bool}
theorem nmR_M {ρ2 : Rd} (e : ∀ g, g < 8 → ∀ c, ρ2 g c = ρ g c) : nmR ρ2 deep size = nmR ρ deep size := by
  funext k
  unfold nmR
  by_cases c : 0 ≤ k ∧ k < 8
  · rw [if_pos c, if_pos c, e _ (by omega)]
  · rw [if_neg c, if_neg c]
theorem l_X2_askMusts {D : Nat} (hA : A = 220 ∨ A = 225 ∨ A = 230) (k : ∀ g ρ2, fR h g A → crd g A tx base size deep ρ2 → ρ2 = msts β deep base size tx 0 ρ → okM tx ρ ρ2 → g 218 8 = h 218 8 → Q 0 g) :
    ∀ (n i : Nat) (g : am_H) (ρ1 : Rd), i + n = tx.length → fR h g A → rpre g T tx β vo deep base size → crd g A tx base size deep ρ1 → msts β deep base size (tx.drop i) i ρ1 = msts β deep base size tx 0 ρ → okM tx ρ ρ1 → g 218 8 = h 218 8 → wf (D + 4) M_X2_askMusts Q 2 [some (.inr (.inr 218)), some (.inr (.inr T)), some (.inr (.inr A)), some (.inl (i : Int)), none] [] g
  | 0, i, g, ρ1, hi, fg, pg, cg, eg, og, e8 => by
    have tT := pg.1.1
    have e0 := pg.1.2.2.1.1.1
    refine B_X2_askMusts_2 ⟨tT, fun _ => k g ρ1 fg cg ?_ og e8, fun q => by omega⟩
    rw [← eg, List.drop_eq_nil_of_le (by omega)]
    rfl
  | n + 1, i, g, ρ1, hi, fg, pg, cg, eg, og, e8 => by
    have tT := pg.1.1
    have tA := kd_A hA
    have ok := pg.1.2.2.2
    have e0 := pg.1.2.2.1.1.1
    have l24 := ok.1
    have hi' : i < tx.length := by omega
    have ci := pg.1.2.2.1.2.1 i (by omega) (by omega)
    have okc := ok.2.1 _ (cl_mem hi')
    rw [drop_cl hi'] at eg
    simp only [msts] at eg
    rw [show (i : Int) + 1 = ((i + 1 : Nat) : Int) by omega] at eg
    have next : ∀ (g2 : am_H) (ρ2 : Rd), fR h g2 A → rpre g2 T tx β vo deep base size → crd g2 A tx base size deep ρ2 → (if (cl tx i).1 = 3 then mst1 β deep base size ρ1 i (cl tx i) else ρ1) = ρ2 → okM tx ρ ρ2 → g2 218 8 = h 218 8 → wf (D + 4) M_X2_askMusts Q 108 [some (.inr (.inr 218)), some (.inr (.inr T)), some (.inr (.inr A)), some (.inl (i : Int)), none] [] g2 := by
      intro g2 ρ2 f2 p2 c2 e2 o2 e82
      rw [e2] at eg
      refine B_X2_askMusts_108 ?_
      rw [w32e (by omega) (by omega), show (i : Int) + 1 = ((i + 1 : Nat) : Int) by omega]
      exact l_X2_askMusts hA k n (i + 1) g2 ρ2 (by omega) f2 p2 c2 eg o2 e82
    refine B_X2_askMusts_2 ⟨tT, fun q => by omega, fun _ => ⟨fun q => by omega, fun _ => ⟨by omega, fun q => ?_, fun q => ⟨tA, ?_⟩⟩⟩⟩
    · rw [ci.1] at q
      exact next g ρ1 fg pg cg (if_neg q) og e8
    · rw [ci.1] at q
      obtain ⟨bk, b1, b2, bb⟩ := cg.2.1
      have ba := bk_and (s := ncl (cl tx i)) b1 bb
      have cod := ci.2.1 q
      have w3 := okc.2.2.1 q
      have sx3 := okc.2.2.2.2.1.1
      have nl : ncl (cl tx i) < 256 := by
        unfold ncl
        have e1 := okc.2.2.2.2.2.2.1 (by omega)
        have e2 := okc.2.2.2.2.2.1 (by omega)
        rw [e1, e2]
        exact Nat.or_lt_two_pow (n := 8) (Nat.or_lt_two_pow (n := 8) (nx_lt _ _ w3) (by decide)) (by decide)
      rw [cod.2, b2, iand_n (by omega)]
      have eη : nmR ρ1 deep size = nmR ρ deep size := nmR_M og.2.1
      have out : ∀ (g2 : am_H) (met : Int) (ρ2 : Rd), fR h g2 A → rpre g2 T tx β vo deep base size → crd g2 A tx base size deep ρ2 → okM tx ρ ρ2 → g2 218 8 = h 218 8 → ρ2 8 1 = ρ1 8 1 → mst1 β deep base size ρ1 i (cl tx i) = (if met = 0 ∧ ρ1 8 1 = -1 then putR ρ2 8 1 i else ρ2) → wf (D + 4) M_X2_askMusts Q 83 [some (.inr (.inr 218)), some (.inr (.inr T)), some (.inr (.inr A)), some (.inl (i : Int)), some (.inl met)] [] g2 := by
        intro g2 met ρ2 f2 p2 c2 o2 e82 e81 em
        have put : ∀ m : Int, (-1 ≤ m ∧ m ≤ 24) → mst1 β deep base size ρ1 i (cl tx i) = putR ρ2 8 1 m → wf (D + 4) M_X2_askMusts Q 105 [some (.inr (.inr 218)), some (.inr (.inr T)), some (.inr (.inr A)), some (.inl (i : Int)), none] [.inl m, .inr (.inr A)] g2 := by
          intro m hm e
          have f3 : fR h (am_up g2 A 10 m) A := fR_trans f2 (fR_up (by omega)) (Int.le_refl _)
          refine B_X2_askMusts_105 ⟨tA, next _ (putR ρ2 8 1 m) f3 ?_ (crd_put (Or.inl ⟨rfl, rfl⟩) c2) ?_ (okM_put o2 (Or.inl ⟨rfl, hm⟩)) ?_⟩
          · have e8u : am_up g2 A 10 m 218 8 = g2 218 8 := am_up_ne (by omega)
            exact rpre_fR p2 (fR_up (by omega) : fR g2 (am_up g2 A 10 m) A) (by rw [e8u]; exact p2.2.2.2.2.2.2)
          · rw [if_pos q]; exact e
          · rw [am_up_ne (by omega)]; exact e82
        have same : ¬ (met = 0 ∧ ρ1 8 1 = -1) → wf (D + 4) M_X2_askMusts Q 101 [some (.inr (.inr 218)), some (.inr (.inr T)), some (.inr (.inr A)), some (.inl (i : Int)), none] [.inr (.inr A)] g2 := by
          intro hn
          rw [if_neg hn] at em
          refine B_X2_askMusts_101 ⟨tA, ?_⟩
          rw [c2.2.2.2.2.1]
          refine put _ o2.1.2.2 ?_
          rw [em]
          funext x y
          unfold putR
          by_cases c : x = 8 ∧ y = 1
          · rw [if_pos c, c.1, c.2]
          · rw [if_neg c]
        refine B_X2_askMusts_83 ⟨fun y => same (fun z => y z.1), fun y => ⟨tA, fun y2 => same (fun z => y2 ?_), fun y2 => ?_⟩⟩
        · rw [c2.2.2.2.2.1, e81]; exact z.2
        · rw [c2.2.2.2.2.1, e81] at y2
          rw [if_pos ⟨y, y2⟩] at em
          exact put i (by omega) em
      refine ⟨fun y => ?_, fun y => ?_⟩
      · have bt : bkn ρ1 (ncl (cl tx i)) = true := by
          cases z : bkn ρ1 (ncl (cl tx i)) with
          | true => rfl
          | false => exact absurd (ba.2 (by rw [z]; decide)) (by omega)
        refine out g 0 ρ1 fg pg cg og e8 rfl ?_
        unfold mst1
        simp [bt]
      · have bf : ¬ bkn ρ1 (ncl (cl tx i)) = true := fun z => ba.1 z (by omega)
        have f0 : fA g (am_up g 218 10 0) 0 := fA_pk
        have p0 := rpre_fA pg f0
        have c0 := crd_fA hA cg f0
        have q0 : am_up g 218 10 0 218 10 = ((0 : Nat) : Int) := am_up_at _ _ _ _
        have cod0 := (p0.1.2.2.1.2.1 i (by omega) (by omega)).2.1 q
        refine c_ask (D := D) hA p0 og.1 c0 cod0.1 w3 sx3 q0 (by decide) (fun h2 f2 q2 l2 p2 c2 => ?_)
        rw [Nat.zero_or] at q2 l2
        have f02 : fA g h2 0 := fA_trans f0 f2 (Int.le_refl _)
        have o84 := og.1.2.1
        have go : ∀ met : Int, (met = 0 ↔ ev (nmR ρ1 deep size) β base (cl tx i).2.2.2.1 = 0) → wf (D + 4) M_X2_askMusts Q 68 [some (.inr (.inr 218)), some (.inr (.inr T)), some (.inr (.inr A)), some (.inl (i : Int)), none] [.inl met] h2 := by
          intro met hm
          refine B_X2_askMusts_68 ⟨tA, ?_⟩
          rw [c2.2.2.2.2.2, q2, show ρ1 8 4 = (((ρ1 8 4).toNat : Nat) : Int) by omega, lor_n (by omega) (by omega)]
          have lo := Nat.or_lt_two_pow (n := 40) (x := (ρ1 8 4).toNat) (by omega) l2
          have f3 : fR h (am_up h2 A 11 (((ρ1 8 4).toNat ||| lk (nmR ρ1 deep size) β base (cl tx i).2.2.2.1 : Nat) : Int)) A := fR_trans fg (fR_trans (fR_fA f02) (fR_up (by omega)) (Int.le_refl _)) (Int.le_refl _)
          have e8u : am_up h2 A 11 (((ρ1 8 4).toNat ||| lk (nmR ρ1 deep size) β base (cl tx i).2.2.2.1 : Nat) : Int) 218 8 = h2 218 8 := am_up_ne (by omega)
          refine out _ met (putR ρ1 8 4 (((ρ1 8 4).toNat ||| lk (nmR ρ1 deep size) β base (cl tx i).2.2.2.1 : Nat) : Int)) f3 (rpre_fR p2 (fR_up (by omega) : fR h2 (am_up h2 A 11 (((ρ1 8 4).toNat ||| lk (nmR ρ1 deep size) β base (cl tx i).2.2.2.1 : Nat) : Int)) A) (by rw [e8u]; exact p2.2.2.2.2.2.2)) (crd_put (Or.inr ⟨rfl, rfl⟩) c2) (okM_put og (Or.inr ⟨rfl, by omega⟩)) ?_ (putR_ne (by omega)) ?_
          · rw [e8u, f02.2.1 8 (by omega)]; exact e8
          · unfold mst1
            simp [bf, hm]
        exact ⟨fun y2 => go 0 ⟨fun _ => y2, fun _ => rfl⟩, fun y2 => go 1 ⟨fun z => by omega, fun z => absurd z y2⟩⟩
theorem c_X2_askMusts {D : Nat} (hA : A = 220 ∨ A = 225 ∨ A = 230) (p : rpre h T tx β vo deep base size) (r : okr tx ρ) (c : crd h A tx base size deep ρ) (k : ∀ g ρ2, fR h g A → crd g A tx base size deep ρ2 → ρ2 = msts β deep base size tx 0 ρ → okM tx ρ ρ2 → g 218 8 = h 218 8 → Q 0 g) : cf (D + 4) M_X2_askMusts [.inr (.inr 218), .inr (.inr T), .inr (.inr A)] h Q :=
  cf_of pX2 (Nat.le_of_ble_eq_true rfl) rfl (fun _ => B_X2_askMusts_0 (l_X2_askMusts (h := h) (ρ := ρ) hA k tx.length 0 h ρ (by omega) fR_refl p c rfl (okM_refl r) rfl))
theorem drop_ord {i : Nat} (hi : i < (ord tx).length) : (ord tx).drop i = (ord tx).getD i 0 :: (ord tx).drop (i + 1) := by
  rw [List.drop_eq_getElem_cons hi, List.getD_eq_getElem?_getD, List.getElem?_eq_getElem hi]
  rfl
theorem ord_len : (ord tx).length ≤ 8 := by
  have key : ∀ (n placed : Nat), (ordS (told tx) (hgu tx) n placed).length ≤ n := by
    intro n
    induction n with
    | zero => intro p; simp [ordS]
    | succ n ih =>
      intro p
      simp only [ordS]
      cases lowR (told tx) (hgu tx) p with
      | none => simp
      | some g => simp; exact ih _
  exact key 8 0
theorem l_X2_readFormat {D wanted : Nat} {inn : Int → Int → Option Rd} {D0 : Int} (hd : deep = 0 ∨ deep = 1 ∨ deep = 2) (eA : A = 220 + 5 * deep) (hin : inOK (D + 2) T tx β vo deep inn) (hw : wanted < 256) (ρ3 : Rd)
    (k : ∀ g, fR h g A → rpre g T tx β vo deep base size → crd g A tx base size deep ρ3 → okr tx ρ3 → okn (bD deep) tx ρ3 → (deep ≤ ρ3 8 0 ∧ ρ3 8 0 ≤ 2) → g 218 8 = max D0 (ρ3 8 0) → wf (D + 5) M_X2_readFormat Q 81 [some (.inr (.inr 218)), some (.inr (.inr T)), none, none, none, some (.inl (wanted : Int)), some (.inr (.inr A)), none, none] [] g) :
    ∀ (n i : Nat) (g : am_H) (ρ1 : Rd), i + n = (ord tx).length → fR h g A → rpre g T tx β vo deep base size → crd g A tx base size deep ρ1 → okr tx ρ1 → okn (bD deep) tx ρ1 → (deep ≤ ρ1 8 0 ∧ ρ1 8 0 ≤ 2) → g 218 8 = max D0 (ρ1 8 0) → flds tx β vo deep base size inn wanted ((ord tx).drop i) ρ1 = ρ3 → (∀ f, f ∈ (ord tx).drop i → ρ1 f 3 = 1) → wf (D + 5) M_X2_readFormat Q 23 [some (.inr (.inr 218)), some (.inr (.inr T)), none, none, none, some (.inl (wanted : Int)), some (.inr (.inr A)), some (.inl (i : Int)), none] [] g
  | 0, i, g, ρ1, hi, fg, pg, cg, rg, ng, dg, e8, eg, bg => by
    have e14 := pg.1.2.2.1.1.2.2.1
    rw [List.drop_eq_nil_of_le (by omega)] at eg
    subst eg
    exact B_X2_readFormat_23 ⟨pg.1.1, fun _ => k g fg pg cg rg ng dg e8, fun q => by omega⟩
  | n + 1, i, g, ρ1, hi, fg, pg, cg, rg, ng, dg, e8, eg, bg => by
    have e14 := pg.1.2.2.1.1.2.2.1
    have hi' : i < (ord tx).length := by omega
    have l8 := ord_len (tx := tx)
    have es := pg.1.2.2.1.2.2.2.2 i hi'
    rw [drop_ord hi'] at eg bg
    generalize hfd : (ord tx).getD i 0 = f at eg bg es
    have mem : f ∈ ord tx := by
      rw [← hfd, List.getD_eq_getElem?_getD, List.getElem?_eq_getElem hi']
      exact List.getElem_mem hi'
    have om := ord_mem mem
    have nd : f ∉ (ord tx).drop (i + 1) := by
      have := List.Sublist.nodup (List.drop_sublist i (ord tx)) ord_nodup
      rw [drop_ord hi', hfd] at this
      exact (List.nodup_cons.mp this).1
    simp only [flds] at eg
    have next : ∀ (g2 : am_H) (ρ2 : Rd), fR h g2 A → rpre g2 T tx β vo deep base size → crd g2 A tx base size deep ρ2 → okr tx ρ2 → okn (bD deep) tx ρ2 → (deep ≤ ρ2 8 0 ∧ ρ2 8 0 ≤ 2) → g2 218 8 = max D0 (ρ2 8 0) → (if wanted.testBit f = true then stepF tx β vo deep base size inn ρ1 f else ρ1) = ρ2 → (∀ x, x < 8 → x ≠ f → ρ2 x 3 = ρ1 x 3) → wf (D + 5) M_X2_readFormat Q 75 [some (.inr (.inr 218)), some (.inr (.inr T)), none, none, none, some (.inl (wanted : Int)), some (.inr (.inr A)), some (.inl (i : Int)), none] [] g2 := by
      intro g2 ρ2 f2 p2 c2 r2 n2 d2 e82 e2 o2
      rw [e2] at eg
      refine B_X2_readFormat_75 ?_
      rw [w32e (by omega) (by omega), show (i : Int) + 1 = ((i + 1 : Nat) : Int) by omega]
      refine l_X2_readFormat hd eA hin hw ρ3 k n (i + 1) g2 ρ2 (by omega) f2 p2 c2 r2 n2 d2 e82 eg (fun x hx => ?_)
      rw [o2 x (ord_mem (List.mem_of_mem_drop hx)).1 (fun z => nd (z ▸ hx))]
      exact bg x (List.mem_cons_of_mem _ hx)
    refine B_X2_readFormat_23 ⟨pg.1.1, fun q => by omega, fun _ => ⟨fun q => by omega, fun _ => ⟨by omega, ?_⟩⟩⟩
    rw [es]
    refine c_X6_isField (fun _ _ => ⟨fun q => by omega, fun _ => ?_⟩) (fun q => by omega)
    refine c_X6_hasBit (by omega) (by omega) (fun q => ⟨fun y => by omega, fun _ => ?_⟩) (fun q => ⟨fun _ => ?_, fun y => absurd rfl y⟩)
    · rw [if_pos q] at next
      refine c_X2_readField hd eA hin pg rg ng cg om.1 (bg f List.mem_cons_self) om.2 dg e8 (fun h2 f2 c2 o2 e82 => ?_)
      have p2 : rpre h2 T tx β vo deep base size := rpre_fR pg f2 (by
        have := pg.2.2.2.2.2.2
        rw [e82]
        have := o2.2.2.1
        omega)
      exact next h2 _ (fR_trans fg f2 (Int.le_refl _)) p2 c2 o2.1 o2.2.1 o2.2.2.1 e82 rfl (fun x hx hn => o2.2.2.2.1 x hx hn 3)
    · rw [if_neg (by rw [q]; decide)] at next
      exact next g ρ1 fg pg cg rg ng dg e8 rfl (fun _ _ _ => rfl)
/-- one level of reading -/
theorem rfOK_lvl {D : Nat} {inn : Int → Int → Option Rd} (hd : deep = 0 ∨ deep = 1 ∨ deep = 2) (hin : inOK (D + 2) T tx β vo deep inn) : rfOK (D + 5) T tx β vo deep (lvl tx β vo deep inn) := by
  intro Q h wanted base size p hw k
  generalize eA : 220 + 5 * deep = A at k
  have hA : A = 220 ∨ A = 225 ∨ A = 230 := by omega
  unfold lvl at k
  refine cf_of pX2 (Nat.le_of_ble_eq_true rfl) rfl (fun _ => B_X2_readFormat_0 (c_X2_readingAt hd ?_))
  rw [eA]
  refine ⟨p.1.1, kd_A hA, ?_⟩
  rw [p.1.2.2.1.1.2.1]
  refine c_X3_begin (d := D + 3) hA (fun h2 f2 o2 c2 => ?_)
  have e8 : h2 218 8 = h 218 8 := by rw [o2 218 (by omega)]
  have p13 := p.2.2.2.2.2.2
  have p2 := rpre_fR p f2 (by rw [e8]; exact p13)
  refine l_X2_readFormat (h := h) (D0 := h 218 8) hd eA.symm hin hw (flds tx β vo deep base size inn wanted (ord tx) (rd0 tx deep)) ?_ (ord tx).length 0 h2 (rd0 tx deep) (by omega) f2 p2 c2 okr_0 ?_ ?_ ?_ rfl ?_
  · intro g fg pg cg rg ng dg eg
    refine B_X2_readFormat_81 ⟨fun q => ?_, fun q => ?_⟩
    · have q' : ¬ wanted = 255 := fun z => q (by rw [z]; rfl)
      rw [if_neg q'] at k
      exact k g fg cg rg ng dg eg
    · have q' : wanted = 255 := by omega
      rw [if_pos q'] at k
      refine c_X2_askMusts hA pg rg cg (fun g2 ρ2 f3 c3 e3 o3 e83 => ?_)
      rw [e3] at c3 o3
      refine k g2 (fR_trans fg f3 (Int.le_refl _)) c3 o3.1 (fun x hx k1 k2 => ?_) (by rw [o3.2.2]; exact dg) (by rw [o3.2.2, e83]; exact eg)
      rw [o3.2.1 x hx] at k2 ⊢
      exact ng x hx k1 k2
  · intro x hx k1 k2
    have v := rd0_v (tx := tx) (deep := deep) hx
    by_cases c : 0 ≤ co tx x
    · exact absurd (v.1 c).2.2.2 k2
    · unfold kdf at k1
      rw [if_pos (by omega)] at k1
      omega
  · rw [rd0_8.1]; omega
  · rw [rd0_8.1, e8]; omega
  · intro f hf
    have m := ord_mem (List.mem_of_mem_drop hf)
    exact ((rd0_v (deep := deep) m.1).1 m.2).2.2.2
/-- the class reads as it is meant to be read -/
theorem rfOK_2 {D : Nat} : rfOK (D + 5) T tx β vo 2 (rdA tx β vo) :=
  rfOK_lvl (Or.inr (Or.inr rfl)) (Or.inl ⟨rfl, rfl⟩)
theorem rfOK_1 {D : Nat} : rfOK (D + 8) T tx β vo 1 (rdB tx β vo) :=
  rfOK_lvl (D := D + 3) (inn := fun b s => some (rdA tx β vo (wI tx vo 1) b s)) (Or.inr (Or.inl rfl)) (Or.inr ⟨Or.inr rfl, rdA tx β vo, rfl, rfOK_2⟩)
theorem rfOK_0 {D : Nat} : rfOK (D + 11) T tx β vo 0 (rdC tx β vo) :=
  rfOK_lvl (D := D + 6) (inn := fun b s => some (rdB tx β vo (wI tx vo 0) b s)) (Or.inl rfl) (Or.inr ⟨Or.inl rfl, rdB tx β vo, rfl, rfOK_1⟩)
end READ7
