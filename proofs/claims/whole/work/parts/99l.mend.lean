section MEND2
variable {d D : Nat} {h : am_H} {Q : Int → am_H → Prop} {t : List Cl} {β : Int → Int} {vo : Bool} {deep base size : Int} {R : Rd}
theorem l_unlike {a : Int} (ta : am_kd 321 a = 0) (la : am_ln a = 40) (k : Q (unl (h 240) (h a) 0 40) h) : ∀ (n i : Nat) (c : Int), i + n = 40 → 0 ≤ c → c ≤ i → unl (h 240) (h a) 0 40 = c + unl (h 240) (h a) i n → wf d M_X2_unlikeBytes Q 4 [some (.inr (.inr 218)), some (.inr (.inr a)), some (.inl c), some (.inl (i : Int))] [] h
  | 0, i, c, hn, c0, c1, e => by
    rw [e] at k
    simp only [unl, Int.add_zero] at k
    exact B_X2_unlikeBytes_4 ⟨fun _ => k, fun q => by omega⟩
  | n + 1, i, c, hn, c0, c1, e => by
    have next : ∀ v : Int, v = (if h 240 i = h a i then 0 else 1) → wf d M_X2_unlikeBytes Q 34 [some (.inr (.inr 218)), some (.inr (.inr a)), none, some (.inl (i : Int))] [.inl v, .inl c] h := fun v hv => by
      have v01 : v = 0 ∨ v = 1 := by rw [hv]; split <;> omega
      refine B_X2_unlikeBytes_34 ?_
      rw [w32e (z := c + v) (by omega) (by omega), w32e (z := (i : Int) + 1) (by omega) (by omega), show (i : Int) + 1 = ((i + 1 : Nat) : Int) by omega]
      refine l_unlike ta la k n (i + 1) (c + v) (by omega) (by omega) (by omega) ?_
      rw [e, show unl (h 240) (h a) i (n + 1) = (if h 240 i = h a i then 0 else 1) + unl (h 240) (h a) (i + 1) n from rfl, ← hv]
      omega
    refine B_X2_unlikeBytes_4 ⟨fun q => by omega, fun _ => ⟨ta, fun q => by rw [la] at q; omega, fun _ => ⟨by omega, by rw [la]; omega, fun q => next 1 (by rw [if_neg q]), fun q => next 0 (by rw [if_pos q])⟩⟩⟩
theorem c_X2_unlike {a : Int} (ta : am_kd 321 a = 0) (la : am_ln a = 40) (k : Q (unl (h 240) (h a) 0 40) h) : cf d M_X2_unlikeBytes [.inr (.inr 218), .inr (.inr a)] h Q :=
  cf_of pX2 (Nat.le_of_ble_eq_true rfl) rfl (fun _ => B_X2_unlikeBytes_0 (l_unlike ta la k 40 0 0 (by omega) (by omega) (by omega) (by omega)))
theorem putS_congr {R2 : Rd} : ∀ (l : List Nat) (γ : Int → Int), (∀ f, f ∈ l → kdf t f = 1 → ∀ c, R f c = R2 f c) → putS t R l γ = putS t R2 l γ
  | [], _, _ => rfl
  | f :: l, γ, h => by
    simp only [putS]
    by_cases k : kdf t f = 1
    · have e := h f List.mem_cons_self k
      rw [e 3, e 1, e 0]
      exact putS_congr l _ (fun x hx => h x (List.mem_cons_of_mem _ hx))
    · rw [if_neg (fun z => k z.1), if_neg (fun z => k z.1)]
      exact putS_congr l _ (fun x hx => h x (List.mem_cons_of_mem _ hx))
theorem l_putSums {T : Int} {γ : Int → Int} (tT : am_kd 321 T = 15) (hT : 242 ≤ T) (cx : ctx h T t) (c : crd h 220 t base size deep R) (o : okr t R) (iI : okI size R) (s40 : size ≤ 40) (k : ∀ g, (∀ b : Int, b ≠ 240 → g b = h b) → (∀ j : Int, 0 ≤ j → j < 40 → g 240 j = putS t R (ord t) γ j) → Q 0 g) : ∀ (n i : Nat) (δ : Int → Int) (g : am_H), i + n = (ord t).length → (∀ b : Int, b ≠ 240 → g b = h b) → (∀ j : Int, 0 ≤ j → j < 40 → g 240 j = δ j) → putS t R (ord t) γ = putS t R ((ord t).drop i) δ → wf (d + 3) M_X2_putSums Q 2 [some (.inr (.inr 218)), some (.inr (.inr T)), some (.inl (i : Int)), none, none] [] g
  | 0, i, δ, g, hn, f, e, ep => by
    have l8 := ord_len (tx := t)
    have e14 : g T 14 = (ord t).length := by rw [f T (by omega)]; exact cx.1.2.2.1
    rw [List.drop_eq_nil_of_le (by omega)] at ep
    refine B_X2_putSums_2 ⟨tT, ?_⟩
    rw [e14]
    exact ⟨fun _ => k g f (fun j j0 j1 => by rw [ep]; exact e j j0 j1), fun q => by omega⟩
  | n + 1, i, δ, g, hn, f, e, ep => by
    have l8 := ord_len (tx := t)
    have hi : i < (ord t).length := by omega
    have e14 : g T 14 = (ord t).length := by rw [f T (by omega)]; exact cx.1.2.2.1
    have e11 : g (T + 11) i = ((ord t).getD i 0 : Nat) := by rw [f (T + 11) (by omega)]; exact cx.2.2.2.2 i hi
    have mem : (ord t).getD i 0 ∈ ord t := by
      rw [List.getD_eq_getElem?_getD, List.getElem?_eq_getElem hi]
      exact List.getElem_mem hi
    have om := ord_mem mem
    rw [drop_ord hi] at ep
    generalize (ord t).getD i 0 = x at *
    simp only [putS] at ep
    have cg : crd g 220 t base size deep R := crd_congr c (fun b q q2 => f b (by omega))
    have e5 : g (T + 5) x = kdf t x := by rw [f (T + 5) (by omega)]; exact (cx.2.2.2.1 x om.1).1
    have ox := o.1 x om.1
    have next : ∀ (g2 : am_H) (δ2 : Int → Int), (∀ b : Int, b ≠ 240 → g2 b = h b) → (∀ j : Int, 0 ≤ j → j < 40 → g2 240 j = δ2 j) → putS t R (ord t) γ = putS t R ((ord t).drop (i + 1)) δ2 → wf (d + 3) M_X2_putSums Q 90 [some (.inr (.inr 218)), some (.inr (.inr T)), some (.inl (i : Int)), none, none] [] g2 := fun g2 δ2 f2 e2 p2 => by
      refine B_X2_putSums_90 ?_
      rw [w32e (by omega) (by omega), show (i : Int) + 1 = ((i + 1 : Nat) : Int) by omega]
      exact l_putSums tT hT cx c o iI s40 k n (i + 1) δ2 g2 (by omega) f2 e2 p2
    refine B_X2_putSums_2 ⟨tT, ?_⟩
    rw [e14, e11]
    refine ⟨fun q => by omega, fun _ => ⟨fun q => by omega, fun _ => ⟨by omega, c_X6_isField (fun _ _ => ⟨fun q => by omega, fun _ => ⟨by omega, by omega, ?_⟩⟩) (fun q => by omega)⟩⟩⟩
    rw [e5]
    refine ⟨fun q => next g δ f e (by rw [if_neg (fun z => q z.1)] at ep; exact ep), fun k1 => ?_⟩
    refine c_X3_isKnown (d := d + 1) k_220 om.1 cg o (fun _ n3 => ⟨fun q => by omega, fun _ => ?_⟩) (fun q => ⟨fun _ => next g δ f e ?_, fun y => absurd rfl y⟩)
    · have c4 := cg.2.2.2.1 x om.1
      have ii := iI x om.1 (by omega)
      rw [show g 222 x = R x 1 from c4.2.1, show g 221 x = R x 0 from c4.1]
      rw [if_pos ⟨k1, n3⟩] at ep
      refine ⟨fun q => by omega, fun _ => ⟨fun q => ?_, fun q => next _ (up1 δ (R x 1) (R x 0)) (fun b qb => by rw [← f b qb]; funext j; exact am_up_ne (by omega)) (fun j j0 j1 => ?_) ep⟩⟩
      · -- at the end of the interval: beyond the bytes
        refine next g (up1 δ (R x 1) (R x 0)) f (fun j j0 j1 => ?_) ep
        rw [up1_ne (by omega)]
        exact e j j0 j1
      · by_cases z : j = R x 1
        · rw [z, am_up_at, up1_at]
        · rw [am_up_ne (by omega), up1_ne z]; exact e j j0 j1
    · rw [if_neg (fun z => z.2 (by omega))] at ep
      exact ep
end MEND2
