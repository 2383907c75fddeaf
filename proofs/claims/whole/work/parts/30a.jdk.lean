/-- a method's contract out of its walk -/
theorem am_Cl_ofF {fin : Bool} {d : Nat} {M : am_M} {n0 n1 : Nat} {as : List am_V} {h : am_H} {Q : Int → am_H → Prop} {ls : List (Option am_V)} (hy : plainFor M.1 = true) (hw : am_cw as ≤ M.2.2.1) (hn : n0 ≤ n1) (he : am_ent as M.2.2.1 = ls) (k : (∀ v ∈ as, am_okV n0 v) → am_Wp fin d M n0 n1 h Q 0 ls [] n0 h) : am_Cl fin d M n0 n1 as h Q := by
  intro hok l ρ cA D sz
  subst he
  refine va_MetF (cc := M.2.1) (maxL := M.2.2.1) (ret := M.2.2.2) hy rfl ?_
  intro p e s m args below meth c s₁ B hml hv
  obtain ⟨rfl, hsz, R, S⟩ := hv
  have hts := atoms_spec (ws := am_ws M) B.pre
  subst hsz
  have hlen : (lg_sl (as.map (am_cv ρ))).length ≤ M.2.2.1 := by
    refine Nat.le_trans (Nat.le_of_eq ?_) hw
    clear hw hts R S B hok k
    induction as with
    | nil => rfl
    | cons v as ih =>
      rcases v with z | z | a
      · simp only [List.map_cons, lg_sl, List.flatMap_cons, am_cw] at ih ⊢
        rw [if_neg (by simp [am_cv, Value.category])]
        simp only [List.length_append, ih, List.length_cons, List.length_nil]
      · simp only [List.map_cons, lg_sl, List.flatMap_cons, am_cw] at ih ⊢
        rw [if_pos (by simp [am_cv, Value.category])]
        simp only [List.length_append, ih, List.length_cons, List.length_nil]
      · simp only [List.map_cons, lg_sl, List.flatMap_cons, am_cw] at ih ⊢
        rw [if_neg (by rw [am_cat1 ρ (v := .inr (.inr a)) trivial]; decide)]
        simp only [List.length_append, ih, List.length_cons, List.length_nil]
  have hl := lv_entry (as.map (am_cv ρ)) (n := M.2.2.1) hlen
  rw [lg_entry_eq]
  have hl2 : lv_has ((lg_sl (as.map (am_cv ρ)) ++ List.replicate (M.2.2.1 - (lg_sl (as.map (am_cv ρ))).length) Slot.unset).toArray) M.2.2.1 (am_ll ρ (am_ent as M.2.2.1)) := by
    refine am_fewer hl fun q hq => ?_
    obtain ⟨v, h1, h2⟩ := am_ll_mem.mp hq
    have := am_ent_in (ρ := ρ) as M.2.2.1 q.1 0 v h1
    rw [← h2] at this
    exact this
  have K := k hok p l e s m (as.map (am_cv ρ)).toArray below meth c s.heap [] ρ ρ cA cA D (va_A (am_wld ρ cA h n0) s.heap.size) _ ⟨⟨B.exec, B.bytes, hml, B.returns, findClass_of_methodNamed B.named, fun w hw => hts w (List.mem_cons_of_mem _ hw), B.notSynchronized, fun q => by rw [← q]; exact (name_of_methodNamed B.named B.method).1⟩, R.moved (Vm.Alike.refl _) R.2.2.2.1.self, va_S.rf, fun q hq => Or.inr hq, S, fun _ _ => rfl, fun _ _ => rfl, Nat.le_refl _, hn⟩ (fun _ _ _ => rfl) hl2 (fun v hv => by cases hv) (am_ent_ok as _ hok)
  rw [Nat.sub_self, Nat.sub_self] at K
  exact K
theorem cf_ofF {d : Nat} {M : am_M} {as : List am_V} {h : am_H} {Q : Int → am_H → Prop} {ls : List (Option am_V)} (hy : plainFor M.1 = true) (hw : am_cw as ≤ M.2.2.1) (he : am_ent as M.2.2.1 = ls) (k : (∀ v ∈ as, am_okV 321 v) → wf d M Q 0 ls [] h) : cf d M as h Q :=
  am_Cl_ofF hy hw (Nat.le_refl _) he (fun q => k q h)
theorem pf_max_7cf53 : plainFor M_J9_max_7cf53.1 = true := by decide +kernel
theorem pf_min_7cf53 : plainFor M_J9_min_7cf53.1 = true := by decide +kernel
theorem pf_max_f86c9 : plainFor M_J9_max_f86c9.1 = true := by decide +kernel
theorem pf_min_f86c9 : plainFor M_J9_min_f86c9.1 = true := by decide +kernel
theorem pf_floorMod_7cf53 : plainFor M_J9_floorMod_7cf53.1 = true := by decide +kernel
theorem pX0 : plainName RX0 = true := by decide +kernel
theorem pX1 : plainName RX1 = true := by decide +kernel
theorem pX2 : plainName RX2 = true := by decide +kernel
theorem pX3 : plainName RX3 = true := by decide +kernel
theorem pX4 : plainName RX4 = true := by decide +kernel
theorem pX5 : plainName RX5 = true := by decide +kernel
theorem pX6 : plainName RX6 = true := by decide +kernel
theorem pX7 : plainName RX7 = true := by decide +kernel
