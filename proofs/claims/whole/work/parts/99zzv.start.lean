/-! THE CLAIM OUT OF ONE WALK OF THE LAW'S BODY. Your part is whole_start (and what it stands on); all else here is the same for every law, but numbers. -/
def R_law : String := "ByteIntervalsLaw"
def lw_P (b : Addr) (xs : List Int32) (args : Array Value) (s : State) : Prop := args = #[.ref b] ∧ s.IntsAt b xs ∧ xs.length ≤ 3072 ∧ (Jvm.Cond.and given_1 narrow_1).before args s = true
def lw_Q (_ : Array Value) (s : State) (o : Outcome) (t : State) : Prop := o = .returned (some (.int 1)) ∧ Framed s o t [] 600000 7302250
def lw_Z (below : List Frame) (a : Array Value) (s : State) : State → Prop := fun t => ∃ o, t.status = .running ∧ Ended t below o ∧ lw_Q a s o t
/-- the law's own end, with 1 on the stack, nothing written that was there before, its room as the claim has it -/
theorem lw_ret {p : Program} {l : Launch} {e : Env} {s : State} {m : MethodId} {below : List Frame} {meth : Method} {c : Code} {b : Nat} (hx : p.tables.exec = Jvm.exec) (hb : c.code = code) (hr : meth.sig.returnType = ret) (hlocks : meth.locks = false) {pc : Nat} {H : Heap} {ls : Array Slot} (hdg : decode code pc = .ok (.ireturn, 1)) : W p l e room_1 s m #[Value.ref b] below meth c H [] 600000 7302250 (lw_Z below #[Value.ref b] s) (F0 m pc ls [.int 1]) := by
  intro T hT X
  obtain ⟨fs, hret, hrun, hended, hW, hframe⟩ := X.leave (v := some (.int 1)) (hlocks := hlocks) (fun h => by rw [hr] at h; cases h)
  have hmeth' : T.vm.method? m = some meth := X.method'
  refine ⟨T.setFrames fs, ?_, .returned (some (.int 1)), hrun, hended, rfl, ⟨_, rfl⟩, hW, hframe⟩
  jvm_step X.here [X.here.top, hx, hb, hdg, hmeth', hr, ret, narrow_b1]
  (try refine ⟨rfl, ?_⟩); (try refine ⟨rfl, ?_⟩)
  first | (intro acts; rw [hret _ acts rfl rfl rfl]) | rw [hret _ _ rfl rfl rfl]
  exact Steps.refl _
/-- what holds at the law's entry: the machine, the code, the tables' words (any of lw_tbl by 'hts w (by decide +kernel)'), the script of L ints xs at the cell b, what the Statement gives of the start (any of its parts by flat_of_before) -/
def lw_At (p : Program) (s : State) (m : MethodId) (meth : Method) (c : Code) (b L : Nat) (xs : Nat → Int32) : Prop :=
  p.tables.exec = Jvm.exec ∧ c.code = code ∧ meth.sig.returnType = ret ∧ c.maxLocals = 4 ∧ s.vm.findClass R_law = some m.cls ∧ (∀ w ∈ lw_tbl, w.before #[Value.ref b] s = true) ∧ va_X b L xs s s.heap ∧ b < s.heap.size ∧ meth.locks = false ∧ (Jvm.Cond.and given_1 narrow_1).before #[Value.ref b] s = true
/-! THE START: what is there before the law is what the abstract machine asks -/
theorem st_inst : ∀ q ∈ am_cl, Cond.instantiable q.1 q.2.2 ∈ lw_tbl := by
  intro q hq
  simp only [List.mem_cons, List.not_mem_nil, or_false] at hq
  rcases hq with rfl | rfl | rfl | rfl | rfl | rfl | rfl | rfl
  · exact (List.mem_filter.mp w_inRX0).1
  · exact (List.mem_filter.mp w_inRX1).1
  · exact (List.mem_filter.mp w_inRX2).1
  · exact (List.mem_filter.mp w_inRX3).1
  · exact (List.mem_filter.mp w_inRX4).1
  · exact (List.mem_filter.mp w_inRX5).1
  · exact (List.mem_filter.mp w_inRX6).1
  · exact (List.mem_filter.mp w_inRX7).1
theorem vk_S_eq {N : Nat} {len : List Nat} {byt : List (List Int32)} {aK aV bK bV : Nat → Nat} {A : Nat → Prop} {U : State} {H : Heap} (e : ∀ i : Nat, i < N → bK i = aK i ∧ bV i = aV i) (S : vk_S N len byt aK aV A U H) : vk_S N len byt bK bV A U H := by
  refine ⟨fun i hi => ?_, fun i j hi hj q => ?_⟩
  · rw [(e i hi).1, (e i hi).2]
    exact S.1 i hi
  · rw [(e i hi).1, (e j hj).1] at q
    exact S.2 i j hi hj q
def st_t (i : Nat) : Term := .string "ByteIntervals$Parser" (if i = 0 then 111 else 101)
theorem st_ex : ∀ i : Nat, i < 2 → Cond.exactly (st_t i) "java/lang/String" ∈ flatC (Jvm.Cond.and given_1 narrow_1) := by decide +kernel
theorem st_co : ∀ i : Nat, i < 2 → Cond.eq (.field (st_t i) "java/lang/String" "coder" "B") (.int 0) ∈ flatC (Jvm.Cond.and given_1 narrow_1) := by decide +kernel
theorem st_ar : ∀ i : Nat, i < 2 → Cond.arrayOf (.field (st_t i) "java/lang/String" "value" "[B") .byte ∈ flatC (Jvm.Cond.and given_1 narrow_1) := by decide +kernel
theorem st_le : ∀ i : Nat, i < 2 → Cond.eq (.length (.field (st_t i) "java/lang/String" "value" "[B")) (.int (Int32.ofNat ([am_bW.length, am_bS.length].getD i 0))) ∈ flatC (Jvm.Cond.and given_1 narrow_1) := by decide +kernel
theorem st_el : ∀ i : Nat, i < 2 → ∀ j : Nat, j < [am_bW.length, am_bS.length].getD i 0 → Cond.eq (.elem (.field (st_t i) "java/lang/String" "value" "[B") (.int (Int32.ofNat j))) (.int (([am_bW, am_bS].getD i []).getD j 0)) ∈ flatC (Jvm.Cond.and given_1 narrow_1) := by decide +kernel
theorem st_ne : Cond.not (Cond.eq (st_t 0) (st_t 1)) ∈ flatC (Jvm.Cond.and given_1 narrow_1) := by decide +kernel
theorem st_cs : Cond.eq (.static "java/lang/String" "COMPACT_STRINGS" "Z") (.int 1) ∈ flatC (Jvm.Cond.and given_1 narrow_1) := by decide +kernel
theorem st_fm : Cond.isRef (.static "jdk/internal/util/Preconditions" "SIOOBE_FORMATTER" "Ljava/util/function/BiFunction;") ∈ flatC (Jvm.Cond.and given_1 narrow_1) := by decide +kernel
theorem st_len : ∀ i : Nat, i < 2 → [am_bW.length, am_bS.length].getD i 0 < 2 ^ 31 := by decide +kernel
def st_rho (kK kV : Nat → Nat) (b fa fz : Nat) : Int → Nat := fun k => if k = -1 then kK 0 else if k = -2 then kV 0 else if k = -3 then kK 1 else if k = -4 then kV 1 else if k = -5 then b else if k = -9 then fa else if k = -10 then fz else 0
def st_h (L : Nat) (xs : Nat → Int32) : am_H := fun a j => if a = -5 then (xs j.toNat).toInt else if a = -6 then (L : Int) else 0
theorem st_room {s : State} {pl : Platform} (h : s.hasRoom pl room_1 = true) : s.hasRoom pl (am_rm 69 0 321) = true := by
  have e1 : am_sz 321 = 18190 := by decide +kernel
  have e2 : am_sz 0 = 0 := rfl
  have a1 := State.hasRoom_stack h
  have a2 := State.hasRoom_plain h
  have a3 := State.hasRoom_real h
  have a4 := State.hasRoom_heap h
  have a5 : s.slotsTrue = true := by
    simp only [State.hasRoom, Bool.and_eq_true] at h
    exact h.2
  rw [show room_1.frames = 2048 from rfl, show room_1.locals = 84000 from rfl] at a1
  rw [show room_1.locals = 84000 from rfl] at a3
  rw [show room_1.cells = 600000 from rfl, show room_1.slots = 7302250 from rfl] at a4
  refine State.hasRoom_of a2 ?_ ?_ ?_ ?_ a5 ?_
  · show s.frames.length + 4 * (69 + 1) ≤ _
    omega
  · show s.localsInUse + 100 * (69 + 1) ≤ _
    omega
  · show s.heap.size + (321 - 0) ≤ _
    omega
  · show s.slotsUsed + (am_sz 321 - am_sz 0) ≤ _
    omega
  · show s.localsInUse + 100 * (69 + 1) + stackMargin ≤ _
    omega
theorem st_SX {s : State} {b L : Nat} {xs : Nat → Int32} (hL : L ≤ 3072) (hts : ∀ w ∈ lw_tbl, w.before #[Value.ref b] s = true) (hX : va_X b L xs s s.heap) (hbl : b < s.heap.size) (hgv : (Jvm.Cond.and given_1 narrow_1).before #[Value.ref b] s = true) : ∃ ρ : Int → Nat, ρ (-5) = b ∧ am_SX ρ (st_h L xs) (fun q => s.heap.size ≤ q) s s.heap := by
  have hs := flat_of_before _ hgv
  have hA : ∀ a : Nat, a < s.heap.size → ¬ s.heap.size ≤ a := fun a q => by omega
  obtain ⟨kK, kV, S, hev⟩ := vk_Sof (N := 2) (tm := st_t) (len := [am_bW.length, am_bS.length]) (byt := [am_bW, am_bS]) (A := fun q => s.heap.size ≤ q) (args := #[Value.ref b]) (s := s) st_len (fun i hi => hs _ (st_ex i hi)) (fun i hi => hs _ (st_co i hi)) (fun i hi => hs _ (st_ar i hi)) (fun i hi => hs _ (st_le i hi)) (fun i hi j hj => hs _ (st_el i hi j hj)) (fun i j hi hj hij => by
    rcases (show (i = 0 ∧ j = 1) ∨ (i = 1 ∧ j = 0) by omega) with ⟨rfl, rfl⟩ | ⟨rfl, rfl⟩
    · exact Or.inl (hs _ st_ne)
    · exact Or.inr (hs _ st_ne)) hA
  have Z1 : va_Z "java/lang/String" "COMPACT_STRINGS" "Z" (.int 1) (fun q => s.heap.size ≤ q) s s.heap := va_Zof (hts _ (List.mem_of_getElem? (i := 625) (by decide +kernel))) (hts _ (List.mem_filter.mp sn_S).1) (va_eqi (hs _ st_cs)) hA
  obtain ⟨v, hv, hvr⟩ := Cond.isRef_spec (hs _ st_fm)
  have Z2 : va_Z "jdk/internal/util/Preconditions" "SIOOBE_FORMATTER" "Ljava/util/function/BiFunction;" v (fun q => s.heap.size ≤ q) s s.heap := va_Zof (hts _ (List.mem_of_getElem? (i := 641) (by decide +kernel))) (hts _ (List.mem_filter.mp sn_P).1) hv hA
  obtain ⟨fa, fz, hf⟩ : ∃ fa fz : Nat, v = va_rf (if fz = 0 then none else some fa) := by
    cases v <;> simp [Value.isRef] at hvr
    · exact ⟨0, 0, rfl⟩
    · rename_i a
      exact ⟨a, 1, rfl⟩
  refine ⟨st_rho kK kV b fa fz, rfl, ?_⟩
  refine ⟨vk_S_eq (fun i hi => ?_) S, vk_R.of (A := #[Value.ref b]) (hts _ (List.mem_of_getElem? (i := 615) (by decide +kernel))) (hev 0 (by omega)), vk_R.of (A := #[Value.ref b]) (hts _ (List.mem_of_getElem? (i := 674) (by decide +kernel))) (hev 1 (by omega)), Z1, ?_, fun w hw hn => ?_, ?_, hA b hbl, ?_, ?_, fun j => ?_⟩
  · rcases (show i = 0 ∨ i = 1 by omega) with rfl | rfl
    · exact ⟨rfl, rfl⟩
    · exact ⟨rfl, rfl⟩
  · have e : am_rf (st_rho kK kV b fa fz) (-9) = if fz = 0 then none else some fa := by
      unfold am_rf
      rw [show st_rho kK kV b fa fz (-10) = fz from rfl, show st_rho kK kV b fa fz (-9) = fa from rfl]
      by_cases q : fz = 0
      · rw [if_pos q, if_pos (Or.inr ⟨rfl, q⟩)]
      · rw [if_neg q, if_neg (by omega)]
    rw [e, ← hf]
    exact Z2
  · have hb := hts w hw
    unfold am_isN at hn
    split at hn
    · exact va_tabs rfl rfl hb
    · exact va_tabs rfl rfl hb
    · exact va_AO.of hb
    · cases hn
  · have e : (fun j : Nat => Int32.ofInt (st_h L xs (-5) j)) = xs := funext fun j => by
      unfold st_h
      rw [if_pos rfl]
      simp
    rw [e]
    exact hX
  · show (0 : Int) ≤ (L : Int)
    omega
  · show (L : Int) ≤ 3072
    omega
  · exact am_ok32 _
/-- from the entry, for every script of at most 3072 ints, the law comes to its end with true -/
theorem whole_start {p : Program} {e : Env} {s : State} {m : MethodId} {below : List Frame} {meth : Method} {c : Code} (l : Launch) (hflags : l.flags = flags0) {b L : Nat} {xs : Nat → Int32} (hL : L ≤ 3072) (C0 : lw_At p s m meth c b L xs) : W p l e room_1 s m #[Value.ref b] below meth c s.heap [] 0 0 (lw_Z below #[Value.ref b] s) (entryFrame m ([Value.ref b] : List Value).toArray 4) := by
  obtain ⟨hx, hb, hr, hml, hown, hts, hX, hbl, hlk, hgv⟩ := C0
  obtain ⟨ρ, hρ, SX⟩ := st_SX hL hts hX hbl hgv
  have hgw : ∀ w ∈ am_gw, w.before #[Value.ref b] s = true := fun w hw => hts w (List.mem_filter.mp hw).1
  have hD : ∀ ci : Nat, ∃ q : ClassId × (Nat → Nat), ∀ qq : vw_C, am_cl[ci]? = some qq → u_Kn s qq.1 qq.2.1 qq.2.2 q.1 q.2 := by
    intro ci
    cases hc : am_cl[ci]? with
    | none => exact ⟨(m.cls, fun _ => 0), fun qq h => by cases h⟩
    | some q0 =>
      obtain ⟨C, T, N⟩ := q0
      obtain ⟨cC, iS, h⟩ := u_known (ws := am_gw) hgw (am_lay hc) (hts _ (st_inst _ (List.mem_of_getElem? hc)))
      exact ⟨(cC, iS), fun qq h2 => by cases h2; exact h⟩
  obtain ⟨dd, hdd⟩ := Classical.axiomOfChoice hD
  have hl := lv_entry ([Value.ref b] : List Value) (n := 4) (Nat.le_of_ble_eq_true rfl)
  rw [lg_entry_eq]
  have ecv : am_cv ρ (.inr (.inr (-5))) = Value.ref b := by
    show va_rf (am_rf ρ (-5)) = _
    rw [am_rf_neg (by omega) (by omega), hρ]
    rfl
  have w0 : am_wld ρ (fun _ => m.cls) (st_h L xs) 0 = [] := rfl
  have K := law_body (h0 := st_h L xs) (Q := fun r _ => r = 1) (fun b j q => by unfold st_h; rw [if_neg (by omega), if_neg (by omega)]) (fun _ => rfl) p l e s m #[Value.ref b] below meth c s.heap [] ρ ρ (fun _ => m.cls) (fun _ => m.cls) (fun ci => (dd ci).1, fun ci => (dd ci).2) (fun q => s.heap.size ≤ q) _ ⟨⟨hx, hb, hml, hr, hown, hgw, hlk, fun q => absurd q (by decide)⟩, ⟨fun ci q hq => hdd ci q hq, fun k hk => by omega, fun k q hq => by rw [w0] at hq; simp at hq, ⟨fun i j q q2 hq _ _ => by rw [w0] at hq; simp at hq, fun i q hq => by rw [w0] at hq; simp at hq⟩, fun a i ha => by
      exfalso
      apply ha
      unfold am_kd
      rw [if_neg (by omega)], fun q => by cases q⟩, va_S.rf, fun q hq => hq, SX, fun _ _ => rfl, fun _ _ => rfl, Nat.le_refl _, by omega⟩ (fun _ _ _ => rfl) (am_fewer hl fun q hq => by
      obtain ⟨v, h1, h2⟩ := am_ll_mem.mp hq
      have hq0 : q.1 = 0 ∧ v = .inr (.inr (-5)) := by
        rcases q with ⟨q1, q2⟩
        rcases q1 with _ | _ | _ | _ | q1 <;> simp at h1
        exact ⟨rfl, h1.symm⟩
      rw [hq0.2, ecv] at h2
      obtain ⟨q1, q2⟩ := q
      simp only at hq0 h2
      rw [hq0.1, h2]
      exact List.Mem.head _) (fun v hv => by cases hv) (fun v hv => by
      simp at hv
      subst hv
      show (-5 : Int) ≤ (0 : Nat)
      omega)
  intro T hT X
  obtain ⟨t, st, o, g1, g2, ⟨⟨r, h2, ρ2, cA2, q1, q2, q3, q4⟩, g5⟩, Lc, FE, hLc⟩ := K T hT { X with room := st_room X.room }
  have e1 : am_sz 321 = 18190 := by decide +kernel
  have e2 : am_sz 0 = 0 := rfl
  refine ⟨t, st, o, g1, g2, ?_, FE.1, FE.2.1, State.sameButNew.weaken FE.2.2 (fun x hx hlt => absurd hlt (Nat.not_lt.mpr (hLc x hx))) (by omega) (by omega)⟩
  rw [q1, q3]
  rfl
set_option maxHeartbeats 4000000 in
theorem lw_walk (l : Launch) (hflags : l.flags = flags0) (b : Addr) (xs : List Int32) : MetFree l x (headSpec (Jvm.Cond.code x code maxLocals ret :: tables_1) room_1) (lw_P b xs) (fun _ _ _ _ _ => True) lw_Q := by
  refine MetFree.of_bodyS (code := code) (maxLocals := maxLocals) (ret := ret) (by decide) ?_ ?_
  · intro args s m h hn
    obtain ⟨meth, c, h1, h2, h3, h4, h5, h6, -, -⟩ := Cond.code_spec hn (atoms_spec (ws := Jvm.Cond.code x code maxLocals ret :: tables_1) h _ List.mem_cons_self)
    exact ⟨meth, c, h1, h2, h3, h4, h5, h6⟩
  · intro p e s m args below meth c s₁ B hml0 hP _
    obtain ⟨rfl, hx, hbd, hgv⟩ := hP
    obtain ⟨scr, harrAt, hlist, hof, hsmall⟩ := hx
    obtain ⟨hcb, hkn, -, -⟩ := State.arrayAt?_spec harrAt
    have hown : s.vm.findClass R_law = some m.cls := findClass_of_methodNamed B.named
    have hts0 : ∀ c ∈ (Jvm.Cond.code x code maxLocals ret :: tables_1), c.before #[Value.ref b] s = true := atoms_spec (ws := Jvm.Cond.code x code maxLocals ret :: tables_1) B.pre
    have hts : ∀ w ∈ lw_tbl, w.before #[Value.ref b] s = true := k2_hts_sels lw_privs (fun w hw => hts0 w (List.mem_cons_of_mem _ hw)) lw_privs_ok
    have hml : c.maxLocals = 4 := B.maxLocals_eq (hts0 _ List.mem_cons_self)
    have X₀ : Stand p l e room_1 s m #[Value.ref b] below meth c s₁ [] 0 0 := Stand.of_body B
    have hh0 : s₁.heap = s.heap := by rw [B.state]; rfl
    have hsz : scr.slots.size = xs.length := by rw [← Array.length_toList, hlist, List.length_map]
    have hval : ∀ j : Nat, j < xs.length → scr.slots[j]? = some (.int (xs.getD j 0)) := fun j hj => by
      rw [← Array.getElem?_toList, hlist]
      simp [hj]
    have hbl : b < s.heap.size := (Array.getElem?_eq_some_iff.mp hcb).1
    have hX : va_X b xs.length (fun j => xs.getD j 0) s s.heap := ⟨scr, hcb, hof, hkn, hsz, hval⟩
    have K : W p l e room_1 s m #[Value.ref b] below meth c s₁.heap [] 0 0 (lw_Z below #[Value.ref b] s) (entryFrame m ([Value.ref b] : List Value).toArray 4) := by
      rw [hh0]
      exact whole_start l hflags hbd ⟨B.exec, B.bytes, B.returns, hml, hown, hts, hX, hbl, B.notSynchronized, hgv⟩
    obtain ⟨t, a1, o, b1, b2, b3⟩ := K s₁ rfl X₀
    exact ⟨t, o, a1, b1, b2, b3⟩
theorem lw_pre_spec {args : Array Value} {s : State} (h : (Jvm.Cond.and given_1 narrow_1).before args s = true) (hr : rest_1_c.before args s = true) : ∃ (b : Addr) (xs : List Int32), lw_P b xs args s := by
  have hs := flat_of_before _ h
  have hq := flat_of_before _ hr
  have hc : (Cond.count 1).before args s = true := hs _ (by decide +kernel)
  have harr : (Cond.arrayOf (.arg 0) .int).before args s = true := hs _ (by decide +kernel)
  have hle : (Cond.le (.length (.arg 0)) (.int 3072)).before args s = true := hs _ (by decide +kernel)
  have hlen : (Cond.isInt (.length (.arg 0))).before args s = true := hq _ (by decide +kernel)
  have hall : (Cond.all (.arg 0) (.isInt (.elem (.arg 0) (.index 0)))).before args s = true := hq _ (by decide +kernel)
  obtain ⟨b, xs, hb, hx⟩ := State.ints_of_pre rfl harr hlen hall
  have hsm : xs.length < 2 ^ 31 := hx.choose_spec.2.2.2
  have hev : (Term.length (.arg 0)).eval args s none [] s = some (.int xs.length.toInt32) := hx.length_eval hb
  have hv := Cond.le_ints hev (show (Term.int 3072).eval args s none [] s = some (.int 3072) from rfl)
  have hd : xs.length.toInt32 ≤ 3072 := by
    simpa [Cond.before, Cond.holds, hv] using hle
  have hN : xs.length ≤ 3072 := (Int32.ofNat_le_ofNat hsm (by decide)).mp (show Int32.ofNat xs.length ≤ Int32.ofNat 3072 from hd)
  exact ⟨b, xs, Cond.one_arg hc (show args[0]? = some (.ref b) from hb), hx, hN, h⟩
theorem lw_comes (l : Launch) (hflags : l.flags = flags0) : Comes l x (Jvm.Cond.code x code maxLocals ret :: tables_1) room_1 (fun tb e args s => Calls_1 tb e args s ∧ rest_1 tb e args s ∧ Pre_1 tb e args s)
    (fun _ _ args s o t => lw_Q args s o t) := by
  intro p e ha hc hk s m args below hf hfit hheap happ hpre
  obtain ⟨b, xs, hP⟩ := lw_pre_spec hpre.2.2 hpre.2.1
  obtain ⟨k, o, h1, h2, h3, hQ⟩ := lw_walk l hflags b xs p e ha hc hk s m args below hf ((Spec.applies_iff_loose hf).mp happ).1 hP trivial
  exact ⟨k, o, h1, h2, h3, hQ⟩
theorem lw_frame {s t : State} {o : Outcome} {args : Array Value} (h : Framed s o t [] 600000 7302250) :
    Framed s o t (fieldLocs frame_1_writes args s ++ arrayLocs frame_1_arrays args s ++ staticLocs frame_1_statics s) 600000 7302250 := h
theorem lw_limb (L : Cond) (hL : ∀ (args : Array Value) (s t : State), L.after args s (.returned (some (.int 1))) t = true) :
    ArmFor flags0 classFile x code maxLocals ret World_1 tables_1 room_1 Calls_1 rest_1 Pre_1
      (fun tb e a s o t => postC L tb e a s o t ∧ Framed s o t (fieldLocs frame_1_writes a s ++ arrayLocs frame_1_arrays a s ++ staticLocs frame_1_statics s) 600000 7302250) := by
  intro l hflags _ _ p e ha hc hk s m args below hf hfit hheap happ hpre
  obtain ⟨k, o, h1, h2, h3, rfl, hF⟩ := lw_comes l hflags p e ha hc hk s m args below hf hfit hheap happ hpre
  exact ⟨k, _, h1, h2, h3, hL args s _, lw_frame hF⟩
theorem i_vc : Claimed_1_1 ∧ Claimed_1_2 := ⟨lw_limb limb_1_1 (fun args s t => by simp [limb_1_1, Cond.after, Cond.holds, Cond.value]), lw_limb limb_1_2 (fun args s t => Cond.after_iff.mpr (by
  first | (rw [show limb_1_2 = Cond.eq .result (.int 1) from rfl, Cond.eq_ints (x := 1) (y := 1) rfl rfl]; simp; done) | (simp [limb_1_2, Cond.value, Term.eval]; done)))⟩
