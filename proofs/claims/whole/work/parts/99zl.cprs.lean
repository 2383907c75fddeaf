/-! LEVEL 3, the class reads SUMS and EITHERS by the TOKENS -/
def cPost (g h : am_H) (K P : Nat → Int) (T : Int) (o : Nat) (cp : Int) (nm : Nat) (sw : Bool) (Q : Int → am_H → Prop) (r : Rs) : Prop := match r with
  | .inl x => ∀ h2, cF g h2 T P x.1 x.2 → Q 0 h2
  | .inr x => ∀ h2, cS g h2 K T x.2 (cp + lx x.1) o (nm ||| nx x.1) (sw || px x.1) → (∀ q : Int, q < cp → h2 (T + 4) q = h (T + 4) q) → cat (h2 (T + 4)) cp x.1 → Q 1 h2
section CPRS
variable {d : Nat} {g h : am_H} {Q : Int → am_H → Prop} {K V P : Nat → Int} {N : Nat} {T : Int} {l : Bool} {i o : Nat} {cp : Int} {nm : Nat} {sw : Bool}
theorem cP_call {h1 : am_H} {Q2 : Int → am_H → Prop} {r : Rs} {k : Ex → Nat → Rs} {j0 b o1 nm1 : Nat} {cp1 : Int} {sw1 s : Bool} (ok : okR N l j0 0 s b r) (post : cPost g h K P T o cp nm sw Q (bnd r k)) (bad : ∀ h2, Q 0 h2 → Q2 0 h2)
    (good : ∀ e j h2, j0 < j → j ≤ N → ws l e s → lx e + j0 ≤ j → sx e ≤ b → cPost g h K P T o cp nm sw Q (k e j) → cS g h2 K T j (cp1 + lx e) o1 (nm1 ||| nx e) (sw1 || px e) → (∀ q : Int, q < cp1 → h2 (T + 4) q = h1 (T + 4) q) → cat (h2 (T + 4)) cp1 e → Q2 1 h2) : cPost g h1 K P T o1 cp1 nm1 sw1 Q2 r := by
  cases r with
  | inl x => exact fun h2 F => bad h2 (post h2 F)
  | inr x =>
    have h2 : (j0 ≤ x.2 ∧ x.2 ≤ N) ∧ ws l x.1 s ∧ lx x.1 + j0 ≤ 0 + x.2 ∧ sx x.1 ≤ b := ok
    have p := lx_pos _ _ h2.2.1
    exact fun h3 S3 R3 C3 => good x.1 x.2 h3 (by omega) h2.1.2 h2.2.1 (by omega) h2.2.2.2 post S3 R3 C3
theorem cP_o1 {r : Rs} (post : cPost g h K P T o cp nm sw Q (opn o i r)) (q : o < 8) : cPost g h K P T o cp nm sw Q r := by
  rw [opn, if_pos q] at post
  exact post
theorem cP_o0 {r : Rs} (post : cPost g h K P T o cp nm sw Q (opn o i r)) (q : ¬ o < 8) : ∀ h2, cF g h2 T P 3 i → Q 0 h2 := by
  rw [opn, if_neg q] at post
  exact post
theorem cP_t1 {r : Rs} {t : Int} (post : cPost g h K P T o cp nm sw Q (tkE K t i r)) (q : K i = t) : cPost g h K P T o cp nm sw Q r := by
  rw [tkE, if_pos q] at post
  exact post
theorem cP_t0 {r : Rs} {t : Int} (post : cPost g h K P T o cp nm sw Q (tkE K t i r)) (q : K i ≠ t) : ∀ h2, cF g h2 T P 1 i → Q 0 h2 := by
  rw [tkE, if_neg q] at post
  exact post
/-- what comes after a tail that begins with a whole tree -/
theorem cP_tail {h1 : am_H} {r : Rs} {cp : Int} (post : cPost g h K P T o cp nm sw Q r) (e : ∀ q : Int, q < cp → h1 (T + 4) q = h (T + 4) q) : cPost g h1 K P T o cp nm sw Q r := by
  cases r with
  | inl x => exact post
  | inr x => exact fun h2 S R C => post h2 S (fun q hq => (R q hq).trans (e q hq)) C
theorem nx_or (hn : nm < 256) {e : Ex} {s : Bool} (we : ws l e s) : nm ||| nx e < 256 := Nat.or_lt_two_pow (n := 8) hn (nx_lt _ _ we)
theorem c_readName (E : cE g K V P N T l) (S : cS g h K T i cp o nm sw) (hi : i ≤ N) (c0 : 0 ≤ cp) (c1 : cp ≤ i) (hn : nm < 256) (post : cPost g h K P T o cp nm sw Q (nmR1 K V l i)) : cf (d + 2) M_X1_readName [.inr (.inr 201)] h Q := by
  have tk := E.1
  have s4 := S.2.1
  have n300 := tk.1
  have hK : 0 ≤ K i ∧ K i < 400 := by
    by_cases q : i = N
    · subst q; rw [tk.2.1]; omega
    · have := tk.2.2.1 i (by omega); omega
  have law : (h 201 8 = 4 ↔ l = true) := by rw [S.1.2 8 (by omega)]; exact E.2.2.2.1
  unfold nmR1 at post
  -- the last step: a NAME that can stand here
  have put : ∀ (h1 : am_H) (k : Nat) (op rs : Int) (nm2 : Nat) (sw2 : Bool), i + 1 ≤ N → nmK (K i) = k → cS g h1 K T i cp o nm2 sw2 → h1 (T + 4) = h (T + 4) → 0 ≤ op ∧ op < 32 → 0 ≤ rs ∧ rs < 20000 → rs * 32 + op = (if k < 8 then (k : Int) * 32 + 1 else k - 6) → nm2 = nm ||| nx (xV k) → sw2 = (sw || px (xV k)) → (cPost g h K P T o cp nm sw Q (.inr (xV k, i + 1))) →
      cf (d + 1) M_X1_emit [.inr (.inr 201), .inl op, .inl rs] h1 (fun _ h2 => wf (d + 2) M_X1_readName Q 280 [some (.inr (.inr 201)), none, none, none] [] h2) := by
    intro h1 k op rs nm2 sw2 i1 ek S1 R1 ho hr ev en es po
    refine c_emit1 E S1 c0 (by omega) ho hr rfl (fun h2 S2 e2 R2 => B_X1_readName_280 (c_advance E S2 i1 (fun h3 S3 R3 => ⟨Or.inr rfl, ?_⟩)))
    refine po h3 (cS_eq S3 rfl (by simp only [lx]; omega) rfl en es) (fun q hq => by rw [R3, R2 q (by omega), R1]) ?_
    simp only [cat]
    rw [R3, e2, ev]
  have mid : (wf (d + 2) M_X1_readName Q 21 [some (.inr (.inr 201)), some (.inl (K i - 32)), none, none] [.inl (if l = true then 1 else 0)] h) := by
    refine B_X1_readName_21 ?_
    rw [s4]
    refine ⟨fun c64 => ?_, fun c64 => ?_⟩
    · rw [if_neg c64] at post
      refine ⟨fun c6 => ?_, fun c6 => ?_⟩
      · have at154 : (∀ k : Nat, nmK (K i) = k → k ≠ 8 → wf (d + 2) M_X1_readName Q 154 [some (.inr (.inr 201)), some (.inl (K i - 32)), some (.inl (if l = true then 1 else 0)), none] [] h) := by
          intro k ek k8
          have k12 := nmK_rng (t := K i)
          have i1 := tk_lt tk hi (nmK_ne (by omega))
          rw [if_neg (by omega)] at post
          have at175 : ∀ s0 : Int, s0 = (if k ≤ 9 then 1 else 0) → wf (d + 2) M_X1_readName Q 175 [some (.inr (.inr 201)), some (.inl (K i - 32)), some (.inl (if l = true then 1 else 0)), none] [.inl s0] h := by
            intro s0 es
            refine B_X1_readName_175 ⟨fun c => ?_, fun c => ?_⟩
            · have pl : (l = true ∧ (nmK (K i) = 8 ∨ 10 ≤ nmK (K i))) ∨ (l = false ∧ nmK (K i) ≤ 9) := by
                rw [ek]
                cases l with
                | true =>
                  refine Or.inl ⟨rfl, ?_⟩
                  by_cases q : k ≤ 9
                  · rw [if_pos q] at es; exact absurd (by rw [es]; rfl) c
                  · omega
                | false =>
                  refine Or.inr ⟨rfl, ?_⟩
                  by_cases q : k ≤ 9
                  · omega
                  · rw [if_neg q] at es; exact absurd (by rw [es]; rfl) c
              rw [if_pos pl, ek] at post
              rw [show ((k : Int)).toNat = k by omega] at post
              refine c_X6_isField (fun f0 f1 => ⟨fun y => absurd y (by omega), fun _ => ?_⟩) (fun f0 => ⟨fun _ => ?_, fun y => absurd rfl y⟩)
              · have kk : K i - 32 = k := by
                  unfold nmK at ek
                  rw [if_pos (by omega)] at ek
                  omega
                have en : am_ior (h 201 10) (am_ishl 1 (K i - 32)) = ((nm ||| nx (xV k) : Nat) : Int) := by
                  rw [kk, ishl1 (by omega), S.2.2.2.2.2.1, ior_n (by omega) (by
                    have := Nat.pow_lt_pow_right (a := 2) (m := k) (n := 8) (by decide) (by omega)
                    omega)]
                  rw [show nx (xV k) = 2 ^ k from if_pos (show k < 8 by omega)]
                rw [en, kk]
                exact put _ k 1 k _ _ i1 ek (cS_nm S) (upr (by have := E.2.2.1.2; omega)) (by omega) (by omega) (by rw [if_pos (by omega)]) rfl (by simp only [px]; rw [show (k == 9) = false from by simp; omega]; simp) post
              · rw [s4]
                refine ⟨fun c20 => ⟨fun c8 => ⟨fun c21 => B_X1_readName_275 ?_, fun c21 => B_X1_readName_275 ?_⟩, fun c8 => ?_⟩, fun c20 => ?_⟩
                · have e12 : k = 12 := by
                    unfold nmK at ek
                    rw [if_neg (by omega), if_neg c6, if_neg c20, if_neg c8, if_neg c21] at ek
                    split at ek <;> omega
                  subst e12
                  exact put h 12 6 0 nm sw i1 ek S rfl (by omega) (by omega) (by decide) (by simp [nx]) (by simp [px]) post
                · have e12 : k = 11 := by
                    unfold nmK at ek
                    rw [if_neg (by omega), if_neg c6, if_neg c20, if_neg c8, if_pos c21] at ek
                    omega
                  subst e12
                  exact put h 11 5 0 nm sw i1 ek S rfl (by omega) (by omega) (by decide) (by simp [nx]) (by simp [px]) post
                · have e12 : k = 10 := by
                    unfold nmK at ek
                    rw [if_neg (by omega), if_neg c6, if_neg c20, if_pos c8] at ek
                    omega
                  subst e12
                  exact put h 10 4 0 nm sw i1 ek S rfl (by omega) (by omega) (by decide) (by simp [nx]) (by simp [px]) post
                · have e12 : k = 9 := by
                    unfold nmK at ek
                    rw [if_neg (by omega), if_neg c6, if_pos c20] at ek
                    omega
                  subst e12
                  exact put _ 9 3 0 nm true i1 ek (cS_sw S) (upr (by have := E.2.2.1.2; omega)) (by omega) (by omega) (by decide) (by simp [nx]) (by simp [px]) post
            · rw [if_neg (by
                rw [ek]
                intro q
                cases l with
                | true =>
                  rcases q with ⟨_, q⟩ | ⟨q, _⟩
                  · rw [if_neg (by omega)] at es; rw [es] at c; simp at c
                  · simp at q
                | false =>
                  rcases q with ⟨q, _⟩ | ⟨_, q⟩
                  · simp at q
                  · rw [if_pos (by omega)] at es; rw [es] at c; simp at c)] at post
              exact c_fail E S hi (fun h2 F => ⟨Or.inl rfl, post h2 F⟩)
          have e9 : nmK (K i) ≤ 9 ↔ (0 ≤ K i - 32 ∧ K i - 32 ≤ 7) ∨ K i = 20 := by
            have k8' : nmK (K i) ≠ 8 := by omega
            have kn : ¬ nmK (K i) < 0 := by omega
            unfold nmK at k8' kn ⊢
            by_cases q : 32 ≤ K i ∧ K i ≤ 39
            · rw [if_pos q]; omega
            · rw [if_neg q, if_neg c6]
              rw [if_neg q, if_neg c6] at kn
              by_cases q2 : K i = 20
              · rw [if_pos q2]; omega
              · rw [if_neg q2]
                rw [if_neg q2] at kn
                split
                · omega
                · rename_i q3
                  rw [if_neg q3] at kn
                  split
                  · omega
                  · rename_i q4
                    rw [if_neg q4] at kn
                    split
                    · omega
                    · rename_i q5
                      rw [if_neg q5] at kn
                      omega
          rw [ek] at e9
          refine B_X1_readName_154 (c_X6_isField (fun f0 f1 => ⟨fun _ => B_X1_readName_170 (at175 1 (by rw [if_pos (by omega)])), fun y => absurd y (by omega)⟩) (fun f0 => ⟨fun y => absurd rfl y, fun _ => ?_⟩))
          rw [s4]
          exact ⟨fun c20 => at175 0 (by rw [if_neg (by omega)]), fun c20 => B_X1_readName_170 (at175 1 (by rw [if_pos (by omega)]))⟩
        refine c_X6_isField (fun f0 f1 => ⟨fun _ => ?_, fun y => absurd y (by omega)⟩) (fun f0 => ⟨fun y => absurd rfl y, fun _ => ?_⟩)
        · exact at154 (K i - 32).toNat (by unfold nmK; rw [if_pos (by omega)]; omega) (by omega)
        · rw [s4]
          refine ⟨fun c => at154 9 (by rw [c]; decide) (by omega), fun c20 => ⟨fun c => at154 10 (by rw [c]; decide) (by omega), fun c8 => ⟨fun c => at154 11 (by rw [c]; decide) (by omega), fun c21 => ⟨fun c => at154 12 (by rw [c]; decide) (by omega), fun c22 => ?_⟩⟩⟩⟩
          rw [if_pos (by unfold nmK; rw [if_neg (by omega), if_neg c6, if_neg c20, if_neg c8, if_neg c21, if_neg c22]; omega)] at post
          exact c_fail E S hi (fun h2 F => ⟨Or.inl rfl, post h2 F⟩)
      · have i1 := tk_lt tk hi (by omega)
        have e8 : nmK (K i) = 8 := by rw [c6]; decide
        rw [e8] at post
        rw [if_neg (by omega), if_pos (by cases l <;> simp)] at post
        refine c_emit1 E S c0 (by omega) (by omega) (by omega) rfl (fun h2 S2 e2 R2 => ⟨fun y => by omega, fun _ => c_advance E S2 i1 (fun h3 S3 R3 => ⟨fun y => absurd y (by omega), fun _ => ?_⟩)⟩)
        refine post h3 (cS_eq S3 rfl (by simp only [lx]; omega) rfl (by simp [nx]) (by simp [px])) (fun q hq => by rw [R3, R2 q (by omega)]) ?_
        simp only [cat]
        rw [R3, e2]
        decide
    · rw [if_pos c64] at post
      have i1 := tk_lt tk hi (by omega)
      have v := tk.2.2.2 i
      refine c_numberHere E S hi (fun _ => ⟨fun c => c_numberHere E S hi (fun _ => ?_) (fun q => absurd c64 q), fun c => ?_⟩) (fun q => absurd c64 q)
      · rw [if_neg (by omega)] at post
        refine c_emit1 E S c0 (by omega) (by omega) (by omega) rfl (fun h2 S2 e2 R2 => ⟨fun y => by omega, fun _ => c_advance E S2 i1 (fun h3 S3 R3 => ⟨fun y => absurd y (by omega), fun _ => ?_⟩)⟩)
        refine post h3 (cS_eq S3 rfl (by simp only [lx]; omega) rfl (by simp [nx]) (by simp [px])) (fun q hq => by rw [R3, R2 q (by omega)]) ?_
        simp only [cat]
        rw [R3, e2]
        omega
      · rw [if_pos c] at post
        exact c_fail E S hi (fun h2 F => ⟨Or.inl rfl, post h2 F⟩)
  refine cf_of pX1 (Nat.le_of_ble_eq_true rfl) rfl (fun _ => B_X1_readName_0 ?_)
  rw [s4, w32e (z := K i - 32) (by omega) (by omega)]
  cases hl : l with
  | true => rw [hl] at mid; exact ⟨fun c => absurd (law.2 hl) c, fun _ => mid⟩
  | false => rw [hl] at mid; exact ⟨fun _ => mid, fun c => absurd (law.1 c) (by rw [hl]; simp)⟩
end CPRS
