theorem am_Nw_warm {w : Cond} (hw : am_isN w = true) {s U : State} (hW : s.WarmedH U.vm) (h : va_Nw w s) : va_Nw w U := by
  unfold am_isN at hw
  split at hw
  · exact h.warmF hW
  · exact h.warmM hW
  · exact va_AO.moved hW.alike h
  · cases hw
theorem am_Nw_same {w : Cond} (hw : am_isN w = true) {u U : State} (hv : u.vm = U.vm) (h : va_Nw w u) : va_Nw w U := by
  unfold am_isN at hw
  split at hw
  · exact h.same rfl hv
  · exact h.same rfl hv
  · exact va_AO.moved (hv ▸ Vm.Alike.refl _) h
  · cases hw
theorem am_SX_warm {ρ : Int → Nat} {h : am_H} {A : Nat → Prop} {s U : State} {H : Heap} (hW : s.WarmedH U.vm) (S : am_SX ρ h A s H) : am_SX ρ h A U H := by
  obtain ⟨s1, s2, s3, s4, s5, s6, s7, s8⟩ := S
  exact ⟨s1.moved hW.alike, s2.warm hW, s3.warm hW, s4.moved hW.alike, s5.moved hW.alike, fun w h1 h2 => am_Nw_warm h2 hW (s6 w h1 h2), s7.moved hW.alike, s8⟩
theorem am_SX_same {ρ : Int → Nat} {h : am_H} {A : Nat → Prop} {u U : State} {H : Heap} (hv : u.vm = U.vm) (S : am_SX ρ h A u H) : am_SX ρ h A U H := by
  obtain ⟨s1, s2, s3, s4, s5, s6, s7, s8⟩ := S
  have ha : u.vm.Alike U.vm := hv ▸ Vm.Alike.refl _
  exact ⟨s1.moved ha, s2.same hv.symm, s3.same hv.symm, s4.moved ha, s5.moved ha, fun w h1 h2 => am_Nw_same h2 hv (s6 w h1 h2), s7.moved ha, s8⟩
theorem am_SX_kept {ρ : Int → Nat} {h : am_H} {A B : Nat → Prop} {U : State} {H H1 : Heap} (hq : ∀ a : Nat, a < H.size → ¬ A a → H1[a]? = H[a]?) (hAB : ∀ q, B q → A q) (S : am_SX ρ h A U H) : am_SX ρ h B U H1 := by
  obtain ⟨s1, s2, s3, s4, s5, s6, s7, s8, s9⟩ := S
  have hb : ρ (-5) < H.size := by
    obtain ⟨scr, g1, -⟩ := s7
    exact (Array.getElem?_eq_some_iff.mp g1).1
  exact ⟨(s1.kept hq).narrow hAB, s2, s3, (s4.kept hq).narrow hAB, (s5.kept hq).narrow hAB, s6, s7.kept (hq _ hb s8), fun q => s8 (hAB _ q), s9⟩
theorem am_SX_rho {ρ ρ2 : Int → Nat} {h h2 : am_H} {A : Nat → Prop} {U : State} {H : Heap} (hr : ∀ k : Int, k < 0 → ρ2 k = ρ k) (hh : ∀ b j : Int, b < 0 → h2 b j = h b j) (S : am_SX ρ h A U H) : am_SX ρ2 h2 A U H := by
  have S := am_SX_h S hh
  unfold am_SX at S ⊢
  have e1 : (fun i : Nat => ρ2 (-1 - 2 * (i : Int))) = fun i : Nat => ρ (-1 - 2 * (i : Int)) := funext fun i => hr _ (by omega)
  have e2 : (fun i : Nat => ρ2 (-2 - 2 * (i : Int))) = fun i : Nat => ρ (-2 - 2 * (i : Int)) := funext fun i => hr _ (by omega)
  have e3 : am_rf ρ2 (-9) = am_rf ρ (-9) := by
    unfold am_rf
    rw [hr (-10) (by omega), hr (-9) (by omega)]
  rw [e1, e2, e3, hr (-1) (by omega), hr (-3) (by omega), hr (-5) (by omega)]
  exact S
theorem am_cv_rho {n : Nat} {ρ ρ2 : Int → Nat} (hr : ∀ k : Int, k ≤ n → ρ2 k = ρ k) {v : am_V} (hv : am_okV n v) : am_cv ρ2 v = am_cv ρ v := by
  rcases v with z | z | a
  · rfl
  · rfl
  · show va_rf (am_rf ρ2 a) = va_rf (am_rf ρ a)
    unfold am_rf
    rw [hr (-10) (by omega), hr a hv]
theorem am_okV_mono {n n2 : Nat} (hn : n ≤ n2) {v : am_V} (hv : am_okV n v) : am_okV n2 v := by
  rcases v with z | z | a
  · exact hv
  · exact hv
  · exact Int.le_trans hv (by omega)
theorem am_ll_rho {n : Nat} {ρ ρ2 : Int → Nat} (hr : ∀ k : Int, k ≤ n → ρ2 k = ρ k) {ls : List (Option am_V)} (ho : ∀ v, some v ∈ ls → am_okV n v) {lm : Array Slot} {nL : Nat} (hl : lv_has lm nL (am_ll ρ ls)) : lv_has lm nL (am_ll ρ2 ls) := by
  refine am_fewer hl fun q hq => ?_
  obtain ⟨v, h1, h2⟩ := am_ll_mem.mp hq
  exact am_ll_mem.mpr ⟨v, h1, by rw [h2]; exact am_cv_rho hr (am_ok_ls ho h1)⟩
/-- what a call pushes -/
def am_pv (ret : Option FieldType) (r : Int) : List am_V := match ret with
  | none => []
  | some t => [am_tv t r]
theorem am_pv_cv (ρ : Int → Nat) (ret : Option FieldType) (r : Int) : (am_pv ret r).map (am_cv ρ) = (am_rv ρ ret r).toList := by
  cases ret with
  | none => rfl
  | some t => simp [am_pv, am_rv, am_tv_cv]
theorem am_pv_ok {n : Nat} {ret : Option FieldType} {r : Int} (h : am_rok n ret r) : ∀ v ∈ am_pv ret r, am_okV n v := by
  cases ret with
  | none => intro v hv; simp [am_pv] at hv
  | some t =>
    intro v hv
    simp [am_pv] at hv
    subst hv
    have h : am_in n t r := h
    revert h
    cases t <;> intro h <;> first
      | exact h
      | (rcases h with h | h <;> (rw [h]; show am_i32 _; unfold am_i32; omega))
theorem am_free {fin : Bool} {M : am_M} {n0 n1 n : Nat} {h : am_H} {ρ ρ0 : Int → Nat} {cA cA0 : Nat → ClassId} {D : va_G} {A : Nat → Prop} {p : Program} {s : State} {m : MethodId} {meth : Method} {c : Code} {args : Array Value} {H : Heap} {locs : List Loc} (X : am_X fin M n0 n1 n h ρ ρ0 cA cA0 D A p s m meth c args H locs) : ∀ q, va_A (am_wld ρ cA h n) H.size q → A q := by
  intro q hq
  rcases hq with ⟨k, e, hk⟩ | hq
  · exact X.2.1.2.2.2.1.2 k (q, e) hk
  · exact X.2.2.2.1 q (Nat.le_trans X.2.2.1.1 hq)
/-- a call's start -/
theorem am_pre {fin : Bool} {M : am_M} {n0 n1 n : Nat} {h : am_H} {ρ ρ0 : Int → Nat} {cA cA0 : Nat → ClassId} {D : va_G} {A : Nat → Prop} {p : Program} {s : State} {m : MethodId} {meth : Method} {c : Code} {args : Array Value} {H : Heap} {locs : List Loc} (X : am_X fin M n0 n1 n h ρ ρ0 cA cA0 D A p s m meth c args H locs) (av : List Value) : FrameBlind (va_Pc av (fun U => U.heap.size = H.size ∧ am_R fin n h ρ cA D (fun _ => True) U U.heap ∧ am_SX ρ h (va_A (am_wld ρ cA h n) H.size) U U.heap)) ∧ ∀ U : State, U.heap = H → s.WarmedH U.vm → va_Pc av (fun U => U.heap.size = H.size ∧ am_R fin n h ρ cA D (fun _ => True) U U.heap ∧ am_SX ρ h (va_A (am_wld ρ cA h n) H.size) U U.heap) av.toArray U := by
  refine ⟨fun a U g mk hp => ⟨hp.1, hp.2.1, hp.2.2.1.moved (u := U) (U := U.calling g mk a) (Vm.Alike.refl U.vm) hp.2.2.1.2.2.2.1, am_SX_same (u := U) (U := U.calling g mk a) rfl hp.2.2.2⟩, fun U hU hW => ⟨rfl, by rw [hU], ?_, ?_⟩⟩
  · rw [hU]
    exact X.2.1.moved hW.alike (X.2.1.2.2.2.1.weaken (fun _ _ _ _ => trivial))
  · rw [hU]
    exact am_SX_kept (fun a h1 h2 => X.2.2.1.2.1 a h1 h2) (am_free X) (am_SX_warm hW X.2.2.2.2.1)
/-- behind a call -/
theorem am_behind {fin : Bool} {dd : Nat} {M : am_M} {n0 n1 : Nat} {h0 : am_H} {Q : Int → am_H → Prop} {pc : Nat} {ls : List (Option am_V)} {st : List am_V} {st0 : List Value} {n n2 : Nat} {h : am_H} {ret : Option FieldType} {p : Program} {l : Launch} {e : Env} {s : State} {m : MethodId} {args a : Array Value} {below : List Frame} {meth : Method} {c : Code} {H : Heap} {locs : List Loc} {ρ ρ0 : Int → Nat} {cA cA0 : Nat → ClassId} {D : va_G} {A : Nat → Prop} {lm : Array Slot}
    (X : am_X fin M n0 n1 n h ρ ρ0 cA cA0 D A p s m meth c args H locs) (hg : ∀ a i : Int, a < 0 → h a i = h0 a i) (hl : lv_has lm M.2.2.1 (am_ll ρ ls)) (hs : ∀ v ∈ st, am_okV n v) (ho : ∀ v, some v ∈ ls → am_okV n v) (hn : n ≤ n2) (hn2 : n2 ≤ n1) (hsz : am_sz n ≤ am_sz n2) (hsz0 : am_sz n0 ≤ am_sz n)
    (hr : va_Run p l e (am_rm dd n0 n1) s m args below meth c H locs (n - n0) (am_sz n - am_sz n0) (n2 - n) (am_sz n2 - am_sz n) (F0 m pc lm st0) (st.map (am_cv ρ)) (am_Q fin ret n n2 (fun r h' => am_Wp fin dd M n0 n1 h0 Q (pc + 3) ls (am_pv ret r ++ st) n2 h') h ρ cA D (va_A (am_wld ρ cA h n) H.size) a) (va_A (am_wld ρ cA h n) H.size)) :
    W p l e (am_rm dd n0 n1) s m args below meth c H locs (n - n0) (am_sz n - am_sz n0) (MQ below (am_Q fin M.2.2.2 n0 n1 Q h0 ρ0 cA0 D A) args s (n1 - n0) (am_sz n1 - am_sz n0) A) (F0 m pc lm st0) := by
  intro T hT Y
  obtain ⟨v, st₀, t, T', L, e0, Y', hL, e1, e2, ⟨⟨r, h', ρ', cA', hv, hok, hq, k1, k2, k3, R'⟩, hz, hkp⟩, stp⟩ := hr T hT Y
  cases hv
  rw [e0] at hz hkp
  have hF := am_free X
  have hA : ∀ q, q < H.size → va_A (am_wld ρ cA h n) H.size q → A q := fun q _ z => hF q z
  have hvm : s.vm.Alike t.vm := by rw [← e2]; exact Y'.warmed.alike
  have hS' : va_S A s.heap T'.heap (locs ++ L) := ⟨Nat.le_trans X.2.2.1.1 (by rw [e1]; exact hz), fun q h1 h2 => by rw [e1, hkp q (Nat.lt_of_lt_of_le h1 X.2.2.1.1) (fun z => h2 (hA q (Nat.lt_of_lt_of_le h1 X.2.2.1.1) z))]; exact X.2.2.1.2.1 q h1 h2, fun q hq' => by
      rcases List.mem_append.mp hq' with z | z
      · exact X.2.2.1.2.2 q z
      · exact hF _ (hL q z)⟩
  have R2 : am_R fin n2 h' ρ' cA' D A s T'.heap := by
    rw [e1]
    exact R'.moved hvm.symm (R'.2.2.2.1.weaken (fun _ q _ z => hF q.1 z))
  have hn0 : (n0 : Int) ≤ n := by exact_mod_cast X.2.2.2.2.2.2.2.1
  have X2 : am_X fin M n0 n1 n2 h' ρ' ρ0 cA' cA0 D A p s m meth c args T'.heap (locs ++ L) := ⟨X.1, R2, hS', X.2.2.2.1, am_SX_rho (fun k hk => k1 k (by omega)) k3 X.2.2.2.2.1, fun k hk => (k1 k (by omega)).trans (X.2.2.2.2.2.1 k hk), fun k hk => (k2 k (by have := X.2.2.2.2.2.2.2.1; omega)).trans (X.2.2.2.2.2.2.1 k hk), by have := X.2.2.2.2.2.2.2.1; omega, hn2⟩
  have K := hq p l e s m args below meth c T'.heap (locs ++ L) ρ' ρ0 cA' cA0 D A lm X2 (fun b j q => (k3 b j q).trans (hg b j q)) (am_ll_rho k1 ho hl) (fun v hv => (List.mem_append.mp hv).elim (am_pv_ok hok v) (fun z => am_okV_mono hn (hs v z))) (fun v hv => am_okV_mono hn (ho v hv))
  rw [show n2 - n0 = n - n0 + (n2 - n) by have := X.2.2.2.2.2.2.2.1; omega, show am_sz n2 - am_sz n0 = am_sz n - am_sz n0 + (am_sz n2 - am_sz n) by omega] at K
  obtain ⟨t2, a1, b1⟩ := K T' rfl Y'
  refine ⟨t2, stp t2 ?_, b1⟩
  rw [List.map_append, am_pv_cv, List.map_congr_left (fun v hv => am_cv_rho k1 (hs v hv))] at a1
  exact a1
theorem am_sz_mono {a b : Nat} (h : a ≤ b) : am_sz a ≤ am_sz b := by
  induction b with
  | zero => rw [Nat.le_zero.mp h]; exact Nat.le_refl _
  | succ b ih =>
    rcases Nat.lt_or_ge b a with q | q
    · rw [show a = b + 1 by omega]; exact Nat.le_refl _
    · exact Nat.le_trans (ih q) (Nat.le_add_right _ _)
theorem am_good {s : State} {args : Array Value} (ht : ∀ w ∈ am_gw, w.before args s = true) {M2 : am_M} (w5 : Cond.code M2.1 M2.2.1 M2.2.2.1 M2.2.2.2 ∈ am_gw) : GoodIn am_gw (am_ws M2) := by
  intro w hw
  rcases List.mem_cons.mp hw with rfl | hw
  · exact ⟨w5, Or.inl rfl⟩
  · exact ⟨hw, good_of_word (List.mem_filter.mp hw).2⟩
section AM_CALL
variable {fin : Bool} {d : Nat} {M : am_M} {n0 n1 : Nat} {h0 : am_H} {Q : Int → am_H → Prop} {pc : Nat} {ls : List (Option am_V)} {st st0 : List am_V} {n : Nat} {h : am_H}
theorem ar_callV {M2 : am_M} {as : List am_V} {idx n2 : Nat} {a : Int} {ci : Nat} {C : String} {T : u_T} {N : Nat} (hd : decode M.2.1 pc = .ok (.invokevirtual idx, 3)) (he : st0 = as.reverse ++ .inr (.inr a) :: st) (w1 : Cond.methodLink M.1.cls idx M2.1 ∈ am_gw) (w2 : Cond.instanceMethod M2.1 ∈ am_gw) (w3 : Cond.selects C M2.1 M2.1 ∈ am_gw) (ha : am_kd n a = 10 + ci) (hc : am_cl[ci]? = some (C, T, N)) (w4 : Cond.initialized M2.1.cls ∈ am_gw) (w5 : Cond.code M2.1 M2.2.1 M2.2.2.1 M2.2.2.2 ∈ am_gw) (hm : M2.1.cls ≠ "java/lang/invoke/MethodHandle" ∧ M2.1.cls ≠ "java/lang/invoke/VarHandle" ∧ (parseMethodDescriptor M2.1.desc).map (fun d => d.parameters.length) = some as.length) (hL : M2.2.2.1 ≤ 60) (hst : am_cw st ≤ 8) (hn : n ≤ n2) (hn2 : n2 ≤ n1) (kk : am_Cl fin d M2 n n2 (.inr (.inr a) :: as) h (fun r h' => am_Wp fin (d + 1) M n0 n1 h0 Q (pc + 3) ls (am_pv M2.2.2.2 r ++ st) n2 h')) : am_Wp fin (d + 1) M n0 n1 h0 Q pc ls st0 n h := by
  intro p l e s m args below meth c H locs ρ ρ0 cA cA0 D A lm X hg hl hs ho
  subst he
  have hsa : ∀ v ∈ (.inr (.inr a) :: as : List am_V), am_okV n v := fun v hv => hs v (by simp at hv ⊢; rcases hv with hv | hv <;> simp [hv])
  have hss : ∀ v ∈ st, am_okV n v := fun v hv => hs v (by simp [hv])
  have hci : ci < 8 := (List.getElem?_eq_some_iff.mp hc).1
  obtain ⟨g1, g2, g3⟩ := am_kd_sh ha (by omega)
  have hcell := am_wld_at (ρ := ρ) (cA := cA) (h := h) g1 g2
  rw [am_cellO g1 g3] at hcell
  have hM := kk hsa l ρ cA D H.size
  have hP := am_pre X ((.inr (.inr a) :: as : List am_V).map (am_cv ρ))
  refine am_behind X hg hl hss ho hn hn2 (am_sz_mono hn) (am_sz_mono X.2.2.2.2.2.2.2.1) (a := (((.inr (.inr a) :: as : List am_V).map (am_cv ρ)).toArray)) (ret := M2.2.2.2) ?_
  simp only [List.map_cons, am_cv, am_rf_some g1] at hM hP ⊢
  refine va_runV (C := C) (As := as.map (am_cv ρ)) (rest := st.map (am_cv ρ)) ⟨X.1.1, X.1.2.1, X.1.2.2.1, X.1.2.2.2.2.1, X.1.2.2.2.2.2.1⟩ hM ⟨callB_of as.length X.1.2.2.2.2.2.1 (am_good X.1.2.2.2.2.2.1 w5) rfl rfl rfl (X.1.2.2.2.2.2.1 _ w4) (X.1.2.2.2.2.2.1 _ w1) hm ⟨by show 4 * (d + 1) + 1 ≤ 4 * (d + 1 + 1); omega, by show 8 + (M2.2.2.1 + 11) + 100 * (d + 1) ≤ 100 * (d + 1 + 1); omega⟩, X.1.2.2.2.2.2.1 _ w2, X.1.2.2.2.2.2.1 _ w3⟩ ?_ rfl (by simp) hl.1 (by simp [am_cv, am_rf_some g1, va_rf]) (lv_room (by rw [am_cw_ok]; exact hst)) hd ⟨?_, ?_⟩
  · exact ⟨hP.1, va_recv X.2.1.K X.2.1.2.2.1 hc hcell, hP.2⟩
  · show n - n0 + (n2 - n) ≤ n1 - n0
    have := X.2.2.2.2.2.2.2.1
    omega
  · show am_sz n - am_sz n0 + (am_sz n2 - am_sz n) ≤ am_sz n1 - am_sz n0
    have := am_sz_mono hn
    have := am_sz_mono hn2
    have := am_sz_mono X.2.2.2.2.2.2.2.1
    omega
theorem ar_callVN {M2 : am_M} {as : List am_V} {idx n2 : Nat} {host : String} {a : Int} {ci : Nat} {C : String} {T : u_T} {N : Nat} (hd : decode M.2.1 pc = .ok (.invokevirtual idx, 3)) (he : st0 = as.reverse ++ .inr (.inr a) :: st) (w1 : Cond.methodLinkNest M.1.cls idx M2.1 host ∈ lw_tbl) (w2 : Cond.instanceMethod M2.1 ∈ am_gw) (w3 : Cond.selects C M2.1 M2.1 ∈ am_gw) (ha : am_kd n a = 10 + ci) (hc : am_cl[ci]? = some (C, T, N)) (w4 : Cond.initialized M2.1.cls ∈ am_gw) (w5 : Cond.code M2.1 M2.2.1 M2.2.2.1 M2.2.2.2 ∈ am_gw) (hm : M2.1.cls ≠ "java/lang/invoke/MethodHandle" ∧ M2.1.cls ≠ "java/lang/invoke/VarHandle" ∧ (parseMethodDescriptor M2.1.desc).map (fun d => d.parameters.length) = some as.length) (hL : M2.2.2.1 ≤ 60) (hst : am_cw st ≤ 8) (hn : n ≤ n2) (hn2 : n2 ≤ n1) (kk : am_Cl fin d M2 n n2 (.inr (.inr a) :: as) h (fun r h' => am_Wp fin (d + 1) M n0 n1 h0 Q (pc + 3) ls (am_pv M2.2.2.2 r ++ st) n2 h')) : am_Wp fin (d + 1) M n0 n1 h0 Q pc ls st0 n h := by
  intro p l e s m args below meth c H locs ρ ρ0 cA cA0 D A lm X hg hl hs ho
  subst he
  have hsa : ∀ v ∈ (.inr (.inr a) :: as : List am_V), am_okV n v := fun v hv => hs v (by simp at hv ⊢; rcases hv with hv | hv <;> simp [hv])
  have hss : ∀ v ∈ st, am_okV n v := fun v hv => hs v (by simp [hv])
  have hci : ci < 8 := (List.getElem?_eq_some_iff.mp hc).1
  obtain ⟨g1, g2, g3⟩ := am_kd_sh ha (by omega)
  have hcell := am_wld_at (ρ := ρ) (cA := cA) (h := h) g1 g2
  rw [am_cellO g1 g3] at hcell
  have hM := kk hsa l ρ cA D H.size
  have hP := am_pre X ((.inr (.inr a) :: as : List am_V).map (am_cv ρ))
  refine am_behind X hg hl hss ho hn hn2 (am_sz_mono hn) (am_sz_mono X.2.2.2.2.2.2.2.1) (a := (((.inr (.inr a) :: as : List am_V).map (am_cv ρ)).toArray)) (ret := M2.2.2.2) ?_
  simp only [List.map_cons, am_cv, am_rf_some g1] at hM hP ⊢
  refine va_runVN (C := C) (As := as.map (am_cv ρ)) (rest := st.map (am_cv ρ)) ⟨X.1.1, X.1.2.1, X.1.2.2.1, X.1.2.2.2.2.1, X.1.2.2.2.2.2.1⟩ hM ⟨va_cnB as.length X.1.2.2.2.2.2.1 (am_good X.1.2.2.2.2.2.1 w5) rfl rfl rfl (X.2.2.2.2.1.2.2.2.2.2.1 _ w1 rfl) (X.1.2.2.2.2.2.1 _ w4) hm ⟨by show 4 * (d + 1) + 1 ≤ 4 * (d + 1 + 1); omega, by show 8 + (M2.2.2.1 + 11) + 100 * (d + 1) ≤ 100 * (d + 1 + 1); omega⟩, X.1.2.2.2.2.2.1 _ w2, X.1.2.2.2.2.2.1 _ w3⟩ ?_ rfl (by simp) hl.1 (by simp [am_cv, am_rf_some g1, va_rf]) (lv_room (by rw [am_cw_ok]; exact hst)) hd ⟨?_, ?_⟩
  · exact ⟨hP.1, va_recv X.2.1.K X.2.1.2.2.1 hc hcell, hP.2⟩
  · show n - n0 + (n2 - n) ≤ n1 - n0
    have := X.2.2.2.2.2.2.2.1
    omega
  · show am_sz n - am_sz n0 + (am_sz n2 - am_sz n) ≤ am_sz n1 - am_sz n0
    have := am_sz_mono hn
    have := am_sz_mono hn2
    have := am_sz_mono X.2.2.2.2.2.2.2.1
    omega
theorem ar_callS {M2 : am_M} {as : List am_V} {idx n2 : Nat} (hd : decode M.2.1 pc = .ok (.invokestatic idx, 3)) (he : st0 = as.reverse ++ st) (w1 : Cond.methodLink M.1.cls idx M2.1 ∈ am_gw) (w2 : Cond.static M2.1 ∈ am_gw) (w4 : Cond.initialized M2.1.cls ∈ am_gw) (w5 : Cond.code M2.1 M2.2.1 M2.2.2.1 M2.2.2.2 ∈ am_gw) (hm : M2.1.cls ≠ "java/lang/invoke/MethodHandle" ∧ M2.1.cls ≠ "java/lang/invoke/VarHandle" ∧ (parseMethodDescriptor M2.1.desc).map (fun d => d.parameters.length) = some as.length) (hL : M2.2.2.1 ≤ 60) (hst : am_cw st ≤ 8) (hn : n ≤ n2) (hn2 : n2 ≤ n1) (kk : am_Cl fin d M2 n n2 (as) h (fun r h' => am_Wp fin (d + 1) M n0 n1 h0 Q (pc + 3) ls (am_pv M2.2.2.2 r ++ st) n2 h')) : am_Wp fin (d + 1) M n0 n1 h0 Q pc ls st0 n h := by
  intro p l e s m args below meth c H locs ρ ρ0 cA cA0 D A lm X hg hl hs ho
  subst he
  have hsa : ∀ v ∈ (as : List am_V), am_okV n v := fun v hv => hs v (by simp at hv ⊢; simp [hv])
  have hss : ∀ v ∈ st, am_okV n v := fun v hv => hs v (by simp [hv])
  have hM := kk hsa l ρ cA D H.size
  have hP := am_pre X ((as : List am_V).map (am_cv ρ))
  refine am_behind X hg hl hss ho hn hn2 (am_sz_mono hn) (am_sz_mono X.2.2.2.2.2.2.2.1) (a := (((as : List am_V).map (am_cv ρ)).toArray)) (ret := M2.2.2.2) ?_
  refine va_runS (As := as.map (am_cv ρ)) (rest := st.map (am_cv ρ)) ⟨X.1.1, X.1.2.1, X.1.2.2.1, X.1.2.2.2.2.1, X.1.2.2.2.2.2.1⟩ hM ⟨callB_of as.length X.1.2.2.2.2.2.1 (am_good X.1.2.2.2.2.2.1 w5) rfl rfl rfl (X.1.2.2.2.2.2.1 _ w4) (X.1.2.2.2.2.2.1 _ w1) hm ⟨by show 4 * (d + 1) + 1 ≤ 4 * (d + 1 + 1); omega, by show 8 + (M2.2.2.1 + 11) + 100 * (d + 1) ≤ 100 * (d + 1 + 1); omega⟩, X.1.2.2.2.2.2.1 _ w2⟩ ?_ rfl (by simp) hl.1 (by simp) (lv_room (by rw [am_cw_ok]; exact hst)) hd ⟨?_, ?_⟩
  · exact hP
  · show n - n0 + (n2 - n) ≤ n1 - n0
    have := X.2.2.2.2.2.2.2.1
    omega
  · show am_sz n - am_sz n0 + (am_sz n2 - am_sz n) ≤ am_sz n1 - am_sz n0
    have := am_sz_mono hn
    have := am_sz_mono hn2
    have := am_sz_mono X.2.2.2.2.2.2.2.1
    omega
theorem ar_callSN {M2 : am_M} {as : List am_V} {idx n2 : Nat} {host : String} (hd : decode M.2.1 pc = .ok (.invokestatic idx, 3)) (he : st0 = as.reverse ++ st) (w1 : Cond.methodLinkNest M.1.cls idx M2.1 host ∈ lw_tbl) (w2 : Cond.static M2.1 ∈ am_gw) (w4 : Cond.initialized M2.1.cls ∈ am_gw) (w5 : Cond.code M2.1 M2.2.1 M2.2.2.1 M2.2.2.2 ∈ am_gw) (hm : M2.1.cls ≠ "java/lang/invoke/MethodHandle" ∧ M2.1.cls ≠ "java/lang/invoke/VarHandle" ∧ (parseMethodDescriptor M2.1.desc).map (fun d => d.parameters.length) = some as.length) (hL : M2.2.2.1 ≤ 60) (hst : am_cw st ≤ 8) (hn : n ≤ n2) (hn2 : n2 ≤ n1) (kk : am_Cl fin d M2 n n2 (as) h (fun r h' => am_Wp fin (d + 1) M n0 n1 h0 Q (pc + 3) ls (am_pv M2.2.2.2 r ++ st) n2 h')) : am_Wp fin (d + 1) M n0 n1 h0 Q pc ls st0 n h := by
  intro p l e s m args below meth c H locs ρ ρ0 cA cA0 D A lm X hg hl hs ho
  subst he
  have hsa : ∀ v ∈ (as : List am_V), am_okV n v := fun v hv => hs v (by simp at hv ⊢; simp [hv])
  have hss : ∀ v ∈ st, am_okV n v := fun v hv => hs v (by simp [hv])
  have hM := kk hsa l ρ cA D H.size
  have hP := am_pre X ((as : List am_V).map (am_cv ρ))
  refine am_behind X hg hl hss ho hn hn2 (am_sz_mono hn) (am_sz_mono X.2.2.2.2.2.2.2.1) (a := (((as : List am_V).map (am_cv ρ)).toArray)) (ret := M2.2.2.2) ?_
  refine va_runSN (As := as.map (am_cv ρ)) (rest := st.map (am_cv ρ)) ⟨X.1.1, X.1.2.1, X.1.2.2.1, X.1.2.2.2.2.1, X.1.2.2.2.2.2.1⟩ hM ⟨va_cnB as.length X.1.2.2.2.2.2.1 (am_good X.1.2.2.2.2.2.1 w5) rfl rfl rfl (X.2.2.2.2.1.2.2.2.2.2.1 _ w1 rfl) (X.1.2.2.2.2.2.1 _ w4) hm ⟨by show 4 * (d + 1) + 1 ≤ 4 * (d + 1 + 1); omega, by show 8 + (M2.2.2.1 + 11) + 100 * (d + 1) ≤ 100 * (d + 1 + 1); omega⟩, X.1.2.2.2.2.2.1 _ w2, trivial⟩ ?_ rfl (by simp) hl.1 (by simp) (lv_room (by rw [am_cw_ok]; exact hst)) hd ⟨?_, ?_⟩
  · exact hP
  · show n - n0 + (n2 - n) ≤ n1 - n0
    have := X.2.2.2.2.2.2.2.1
    omega
  · show am_sz n - am_sz n0 + (am_sz n2 - am_sz n) ≤ am_sz n1 - am_sz n0
    have := am_sz_mono hn
    have := am_sz_mono hn2
    have := am_sz_mono X.2.2.2.2.2.2.2.1
    omega
end AM_CALL
/-- the locals at a method's entry -/
def am_ent : List am_V → Nat → List (Option am_V)
  | [], k => List.replicate k none
  | .inr (.inl z) :: as, k => some (.inr (.inl z)) :: none :: am_ent as (k - 2)
  | v :: as, k => some v :: am_ent as (k - 1)
theorem am_ent_in {ρ : Int → Nat} : ∀ (as : List am_V) (k i j : Nat) (v : am_V), (am_ent as k)[i]? = some (some v) → (i + j, am_cv ρ v) ∈ lv_args j (as.map (am_cv ρ))
  | [], k, i, j, v, h => by
    unfold am_ent at h
    rw [List.getElem?_replicate] at h
    split at h <;> cases h
  | .inl z :: as, k, i, j, v, h => by
    unfold am_ent at h
    cases i with
    | zero =>
      simp at h
      subst h
      simp [lv_args]
    | succ i =>
      simp at h
      have := am_ent_in (ρ := ρ) as (k - 1) i (j + 1) v h
      simp only [List.map_cons, lv_args]
      refine List.mem_cons_of_mem _ ?_
      rw [if_neg (by simp [am_cv, Value.category]), show i + 1 + j = i + (j + 1) by omega]
      exact this
  | .inr (.inr a) :: as, k, i, j, v, h => by
    unfold am_ent at h
    cases i with
    | zero =>
      simp at h
      subst h
      simp [lv_args]
    | succ i =>
      simp at h
      have := am_ent_in (ρ := ρ) as (k - 1) i (j + 1) v h
      simp only [List.map_cons, lv_args]
      refine List.mem_cons_of_mem _ ?_
      rw [if_neg (by rw [am_cat1 ρ (v := .inr (.inr a)) trivial]; decide), show i + 1 + j = i + (j + 1) by omega]
      exact this
  | .inr (.inl z) :: as, k, i, j, v, h => by
    unfold am_ent at h
    match i, h with
    | 0, h =>
      simp at h
      subst h
      simp [lv_args]
    | 1, h => simp at h
    | i + 2, h =>
      simp at h
      have := am_ent_in (ρ := ρ) as (k - 2) i (j + 2) v h
      simp only [List.map_cons, lv_args]
      refine List.mem_cons_of_mem _ ?_
      rw [if_pos (by simp [am_cv, Value.category]), show i + 2 + j = i + (j + 2) by omega]
      exact this
theorem am_ent_ok {n : Nat} : ∀ (as : List am_V) (k : Nat), (∀ v ∈ as, am_okV n v) → ∀ v, some v ∈ am_ent as k → am_okV n v
  | [], k, _, v, h => by
    unfold am_ent at h
    have := List.eq_of_mem_replicate h
    cases this
  | .inl z :: as, k, hv, v, h => by
    unfold am_ent at h
    rcases List.mem_cons.mp h with h | h
    · cases h; exact hv _ List.mem_cons_self
    · exact am_ent_ok as _ (fun w hw => hv w (List.mem_cons_of_mem _ hw)) v h
  | .inr (.inr a) :: as, k, hv, v, h => by
    unfold am_ent at h
    rcases List.mem_cons.mp h with h | h
    · cases h; exact hv _ List.mem_cons_self
    · exact am_ent_ok as _ (fun w hw => hv w (List.mem_cons_of_mem _ hw)) v h
  | .inr (.inl z) :: as, k, hv, v, h => by
    unfold am_ent at h
    rcases List.mem_cons.mp h with h | h
    · cases h; exact hv _ List.mem_cons_self
    · rcases List.mem_cons.mp h with h | h
      · cases h
      · exact am_ent_ok as _ (fun w hw => hv w (List.mem_cons_of_mem _ hw)) v h
/-- a method's contract out of its walk -/
theorem am_Cl_of {fin : Bool} {d : Nat} {M : am_M} {n0 n1 : Nat} {as : List am_V} {h : am_H} {Q : Int → am_H → Prop} {ls : List (Option am_V)} (hy : plainName M.1.cls = true) (hw : am_cw as ≤ M.2.2.1) (hn : n0 ≤ n1) (he : am_ent as M.2.2.1 = ls) (k : (∀ v ∈ as, am_okV n0 v) → am_Wp fin d M n0 n1 h Q 0 ls [] n0 h) : am_Cl fin d M n0 n1 as h Q := by
  intro hok l ρ cA D sz
  subst he
  refine Met.ofW (cc := M.2.1) (maxL := M.2.2.1) (ret := M.2.2.2) hy rfl ?_
  intro p e s m args below meth c s₁ B hml hv
  obtain ⟨rfl, hsz, R, S⟩ := hv
  have hts := atoms_spec (ws := am_ws M) B.pre
  subst hsz
  have hlen : (lg_sl (as.map (am_cv ρ))).length ≤ M.2.2.1 := by
    refine Nat.le_trans (Nat.le_of_eq ?_) hw
    clear hw hts R S B hok k
    induction as with
    | nil => rfl
    | cons v as ih =>
      rcases v with z | z | a
      · simp only [List.map_cons, lg_sl, List.flatMap_cons, am_cw] at ih ⊢
        rw [if_neg (by simp [am_cv, Value.category])]
        simp only [List.length_append, ih, List.length_cons, List.length_nil]
      · simp only [List.map_cons, lg_sl, List.flatMap_cons, am_cw] at ih ⊢
        rw [if_pos (by simp [am_cv, Value.category])]
        simp only [List.length_append, ih, List.length_cons, List.length_nil]
      · simp only [List.map_cons, lg_sl, List.flatMap_cons, am_cw] at ih ⊢
        rw [if_neg (by rw [am_cat1 ρ (v := .inr (.inr a)) trivial]; decide)]
        simp only [List.length_append, ih, List.length_cons, List.length_nil]
  have hl := lv_entry (as.map (am_cv ρ)) (n := M.2.2.1) hlen
  rw [lg_entry_eq]
  have hl2 : lv_has ((lg_sl (as.map (am_cv ρ)) ++ List.replicate (M.2.2.1 - (lg_sl (as.map (am_cv ρ))).length) Slot.unset).toArray) M.2.2.1 (am_ll ρ (am_ent as M.2.2.1)) := by
    refine am_fewer hl fun q hq => ?_
    obtain ⟨v, h1, h2⟩ := am_ll_mem.mp hq
    have := am_ent_in (ρ := ρ) as M.2.2.1 q.1 0 v h1
    rw [← h2] at this
    exact this
  have K := k hok p l e s m (as.map (am_cv ρ)).toArray below meth c s.heap [] ρ ρ cA cA D (va_A (am_wld ρ cA h n0) s.heap.size) _ ⟨⟨B.exec, B.bytes, hml, B.returns, findClass_of_methodNamed B.named, fun w hw => hts w (List.mem_cons_of_mem _ hw), B.notSynchronized, fun q => by rw [← q]; exact (name_of_methodNamed B.named B.method).1⟩, R.moved (Vm.Alike.refl _) R.2.2.2.1.self, va_S.rf, fun q hq => Or.inr hq, S, fun _ _ => rfl, fun _ _ => rfl, Nat.le_refl _, hn⟩ (fun _ _ _ => rfl) hl2 (fun v hv => by cases hv) (am_ent_ok as _ hok)
  rw [Nat.sub_self, Nat.sub_self] at K
  exact K
