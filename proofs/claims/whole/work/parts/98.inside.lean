section INSIDE
variable {d : Nat} {h : am_H} {Q : Int → am_H → Prop} {t l : Int} {tx : List Cl} {base size : Int} {ρ : Rd} {β : Int → Int}
theorem c_readNest {i : Nat} {inn : Int → Int → Option Rd} (s : rst h t tx β) (e43 : h 294 43 = l) (l0 : 0 ≤ l ∧ l ≤ 2) (e310 : h 310 l = (i : Int)) (hi : i < (ord tx).length) (r : rlv h l tx base size ρ) (o : okr tx ρ) (hb : 0 ≤ base ∧ 0 ≤ size ∧ base + size ≤ 40) (hin : l = 2 → inn = fun _ _ => none)
    (hk : kdf tx ((ord tx).getD i 0) = 2) (h1 : ρ ((ord tx).getD i 0) 3 = 1) (hn : ¬ stepF tx β false l base size inn ρ ((ord tx).getD i 0) ((ord tx).getD i 0) 3 = 1)
    (k1 : ∀ f, f = (ord tx).getD i 0 → l < 2 → kdf tx f = 2 → ¬ bkn ρ (hgu tx f) = true → (0 ≤ fa tx β l base size ρ f ∧ fa tx β l base size ρ f ≤ fz tx β l base size ρ f ∧ fz tx β l base size ρ f ≤ size ∧ fz tx β l base size ρ f - fa tx β l base size ρ f < size) → fL tx β l base size ρ f < 2 ^ 40 → ∀ h2, fI h h2 l → h2 310 l = h 310 l → h2 311 l = h 311 l → rmid h2 l tx base size ρ f (fa tx β l base size ρ f) (fz tx β l base size ρ f) (fL tx β l base size ρ f) → rbeg h2 (l + 1) tx (base + fa tx β l base size ρ f) (fz tx β l base size ρ f - fa tx β l base size ρ f) → h2 294 44 = max (h 294 44) (l + 1) → h2 294 45 = h 294 45 → Q 1 h2) : cf (d + 5) M_X7_readField [.inr (.inr 294), .inl t] h Q := by
  have ok := s.2.1
  have lay := s.2.2.1
  have e307 := lay.2.2.2.1 i hi
  have l8 := ord_len (tx := tx)
  have mem : (ord tx).getD i 0 ∈ ord tx := by
    rw [List.getD_eq_getElem?_getD, List.getElem?_eq_getElem hi]
    exact List.getElem_mem hi
  generalize (ord tx).getD i 0 = f at *
  have om := ord_mem mem
  have hg := hgu_lt (f := f) ok
  have tl := told_lt (tx := tx)
  refine cf_of pX7 (Nat.le_of_ble_eq_true rfl) rfl (fun _ => B_X7_readField_0 ?_)
  rw [e43, e310, e307, (lay.1 f om.1).2]
  refine ⟨by omega, by omega, by omega, by omega, by omega, by omega, c_X7_isAnyBroken (d := d + 3) (Nat.lt_of_le_of_lt Nat.and_le_left hg) e43 l0 r (fun q => ⟨fun y => by omega, fun _ => ?_⟩) (fun q => ⟨fun _ => ?_, fun y => absurd rfl y⟩)⟩
  · rw [bkn_told o] at q
    have es : stepF tx β false l base size inn ρ f = ρ := by unfold stepF; rw [if_pos q]
    rw [es] at hn
    exact absurd h1 hn
  · rw [bkn_told o] at q
    have es : stepF tx β false l base size inn ρ f = stepV tx β false base size inn ρ f (fa tx β l base size ρ f) (fz tx β l base size ρ f) (fo tx β l base size ρ f) (fL tx β l base size ρ f) := by unfold stepF; rw [if_neg q]
    rw [es] at hn
    refine c_X7_nameLevel s e43 l0 r (fun g fg cg => ?_)
    have fi : fI h g l := fI_fN fg
    have sg := rst_fI s fi
    have g43 : g 294 43 = l := by rw [fg.2 43 (by omega) (by omega)]; exact e43
    have rg : rlv g l tx base size ρ := by
      unfold rlv at r ⊢
      rw [fg.1 308 (by omega) (by omega), fg.1 309 (by omega) (by omega), fg.1 312 (by omega) (by omega), fg.1 313 (by omega) (by omega), fg.1 314 (by omega) (by omega), fg.1 315 (by omega) (by omega), fg.1 316 (by omega) (by omega)]
      exact r
    have he : eok false (nmR ρ l size) β base := by
      refine ⟨hb.1, by rw [nmR_8]; omega, s.2.2.2.2.1, fun j aj => ?_⟩
      unfold al at aj
      simp at aj
      by_cases c : j < 8
      · rw [nmR_k c]
        have := (o.1 j c).2.2.1
        omega
      · by_cases c8 : j = 8
        · subst c8
          rw [show ((8 : Nat) : Int) = 8 from rfl, nmR_8]; omega
        · have : j = 9 := by omega
          subst this
          rw [show ((9 : Nat) : Int) = 9 from rfl, nmR_9]; omega
    have rf := rtx_f sg om.1 om.2
    have e5 : g 305 f = co tx f := (sg.2.2.1.1 f om.1).1
    rw [e5]
    refine c_X7_clauseAt rf.1 (by omega) ⟨by omega, by omega, ?_⟩
    rw [rf.2.2.1]
    have k8 := kdf_or ok om.2
    have w := fcl_ws ok om.2
    refine ⟨fun y => ⟨fun y2 => by omega, fun y2 => by omega⟩, fun y => ?_⟩
    · have lL : fL tx β l base size ρ f < 2 ^ 40 := by
        unfold fL
        rw [if_neg (by omega), Nat.or_zero]
        exact Nat.or_lt_two_pow (lk_lt he _ _ w.1) (lk_lt he _ _ w.2.1)
      refine c_X7_isNestBegun (d := d) (inn := inn) sg g43 l0 rg o hb cg he om.1 om.2 y hin (fun h2 f2 r2 e2 => ⟨Or.inl rfl, ?_⟩) (fun l2 w2 h2 f2 a310 a311 m2 b2 a44 a45 => ⟨Or.inr rfl, ?_⟩)
      · rw [e2, putR_ne (by omega)] at hn
        exact absurd h1 hn
      · exact k1 f rfl l2 y q w2 lL h2 (fI_trans fi f2 (Int.le_refl _)) (by rw [a310, fg.1 310 (by omega) (by omega)]) (by rw [a311, fg.1 311 (by omega) (by omega)]) m2 b2 (by rw [a44, fg.2 44 (by omega) (by omega)]) (by rw [a45, fg.2 45 (by omega) (by omega)])

theorem flds_app {vo : Bool} {deep : Int} {W : Nat} : ∀ (l l2 : List Nat) (ρ : Rd) (inn : Int → Int → Option Rd), flds tx β vo deep base size inn W (l ++ l2) ρ = flds tx β vo deep base size inn W l2 (flds tx β vo deep base size inn W l ρ)
  | [], l2, ρ, inn => rfl
  | f :: l, l2, ρ, inn => flds_app l l2 _ inn
/-- of a FIELD, what is read is what its own step makes of the FIELDS before it -/
theorem flds_at {vo : Bool} {deep : Int} {inn : Int → Int → Option Rd} {i : Nat} (hi : i < (ord tx).length) (c : Nat) : flds tx β vo deep base size inn 255 (ord tx) (rd0 tx deep) ((ord tx).getD i 0) c = stepF tx β vo deep base size inn (flds tx β vo deep base size inn 255 ((ord tx).take i) (rd0 tx deep)) ((ord tx).getD i 0) ((ord tx).getD i 0) c := by
  have mem : (ord tx).getD i 0 ∈ ord tx := by
    rw [List.getD_eq_getElem?_getD, List.getElem?_eq_getElem hi]
    exact List.getElem_mem hi
  have om := ord_mem mem
  have f8 : (255 : Nat).testBit ((ord tx).getD i 0) = true := by
    rw [show (255 : Nat) = 2 ^ 8 - 1 from rfl, Nat.testBit_two_pow_sub_one]
    exact decide_eq_true om.1
  have nd : (ord tx).getD i 0 ∉ (ord tx).drop (i + 1) := by
    intro h
    have := List.Sublist.nodup (List.drop_sublist i (ord tx)) ord_nodup
    rw [drop_ord hi] at this
    exact (List.nodup_cons.mp this).1 h
  have e : ord tx = (ord tx).take i ++ ((ord tx).getD i 0 :: (ord tx).drop (i + 1)) := by
    rw [← drop_ord hi, List.take_append_drop]
  have e2 : flds tx β vo deep base size inn 255 (ord tx) (rd0 tx deep) = flds tx β vo deep base size inn 255 ((ord tx).take i ++ ((ord tx).getD i 0 :: (ord tx).drop (i + 1))) (rd0 tx deep) := by rw [← e]
  rw [e2, flds_app, flds]
  rw [if_pos f8]
  exact flds_out om.1 c _ _ nd
end INSIDE
