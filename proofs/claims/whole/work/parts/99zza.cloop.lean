/-! LEVEL 3, the class reads CLAUSE by CLAUSE up to the end or a FAULT -/
section CLOOP
variable {d D : Nat} {g h h0 : am_H} {Q : Int → am_H → Prop} {K V P : Nat → Int} {N : Nat} {T : Int} {i : Nat} {cp kd : Int} {nm : Nat} {sw : Bool} {tx : List Cl}
theorem wf_bad {f v4 : Int} {n : Nat} (X : cX g h T P f n) (hf : ¬ f = 0) (hv : 0 ≤ v4 ∧ v4 ≤ 300) (k : ∀ h2, cX g h2 T P f n → Q f h2) : wf (D + 67) M_X1_parse Q 121 [some (.inr (.inr 201)), none, none, none, some (.inl v4)] [] h := by
  have e12 := X.2.1
  have at127 : wf (D + 67) M_X1_parse Q 127 [some (.inr (.inr 201)), none, none, none, none] [] h := by
    refine B_X1_parse_127 ⟨fun _ => B_X1_parse_141 ?_, fun y => by omega⟩
    rw [e12]
    exact k h X
  refine B_X1_parse_121 (B_X1_parse_66 ⟨fun _ => at127, fun _ => ⟨fun _ => at127, fun _ => ⟨fun _ => at127, fun y => by omega⟩⟩⟩)
theorem c_loop (E : tE g K V P N T) : ∀ (n : Nat) (tx : List Cl) (i : Nat) (h : am_H) (cp : Int) (v4 : Int), N - i < n → 0 ≤ v4 → v4 ≤ i → i ≤ N → cW g h K N T i cp → 0 ≤ cp → cp ≤ i → ctp h T tx cp → okx tx → (∀ x, pTx K V n tx i = .inl x → ∀ h2, cX g h2 T P x.1 x.2 → Q x.1 h2) → (∀ tx2, pTx K V n tx i = .inr tx2 → ∀ (h2 : am_H) (j : Nat) (cp2 : Int), cW g h2 K N T j cp2 → ctp h2 T tx2 cp2 → okx tx2 → wf (D + 67) M_X1_parse Q 127 [some (.inr (.inr 201)), none, none, none, none] [] h2) →
    wf (D + 67) M_X1_parse Q 66 [some (.inr (.inr 201)), none, none, none, some (.inl v4)] [] h := by
  intro n
  induction n with
  | zero => intro tx i h cp v4 hn; omega
  | succ n ih =>
    intro tx i h cp v4 hn v0 v1 hi C p0 p1 p ok bad good
    have n300 := E.1.1
    have tT := E.2.1.1
    have e4 := C.2.2.1
    have e12 : h 201 12 = 0 := C.2.2.2.2.2.2
    simp only [pTx] at bad good
    refine B_X1_parse_66 ?_
    rw [e4]
    refine ⟨fun y => by omega, fun _ => ⟨fun y => ?_, fun y => ⟨fun z => absurd e12 z, fun _ => ?_⟩⟩⟩
    · rw [if_pos y] at good
      exact good tx rfl h i cp C p ok
    · rw [if_neg y] at bad good
      have BAD : ∀ x, clB K V tx i = .inl x → ∀ h2, cX g h2 T P x.1 x.2 → wf (D + 67) M_X1_parse Q 121 [some (.inr (.inr 201)), none, none, none, some (.inl v4)] [] h2 := by
        intro x hx h2 X
        rw [hx] at bad
        exact wf_bad X (fault_pos rfl hx E.1 hi) (by omega) (bad x rfl)
      refine c_readKind E C hi p ok (fun q h2 X => ⟨fun _ => ?_, fun z => absurd rfl z⟩) (fun q1 q2 q3 q4 h2 X => ⟨fun _ => ?_, fun z => absurd rfl z⟩) (fun q1 q2 q3 q4 h2 X => ⟨fun _ => ?_, fun z => absurd rfl z⟩) (fun q1 q2 q3 q4 i1 h2 C2 kf => ⟨fun z => absurd z (by omega), fun _ => ?_⟩)
      · exact BAD (1, i) (by unfold clB; rw [if_pos q]) h2 X
      · exact BAD (4, i) (by unfold clB; rw [if_neg (by omega), if_pos ⟨q3, q4⟩]) h2 X
      · exact BAD (6, i) (by unfold clB; rw [if_neg (by omega), if_neg q3, if_pos q4]) h2 X
      · rw [C2.2.1.2]
        refine ⟨tT, ?_⟩
        rw [kf.1, w32e (z := (tx.length : Int) + 1 - 1) (by omega) (by omega), show (tx.length : Int) + 1 - 1 = tx.length by omega]
        have cb : clB K V tx i = bcc (bdc K V tx (K i) (i + 1)) fun c j => tkc K 187 j (.inr (c, j + 1)) := by unfold clB; rw [if_neg (by omega), if_neg q3, if_neg (by omega)]
        have n4 : K i = 4 → hasR tx = false := fun z => by
          cases w : hasR tx with
          | false => rfl
          | true => exact absurd ⟨z, w⟩ q3
        have post : cRc g T P (fun r8 h9 => (r8 = 0 → wf (D + 67) M_X1_parse Q 121 [some (.inr (.inr 201)), none, none, none, some (.inl v4)] [] h9) ∧ (¬ r8 = 0 → cf (D + 66) M_X1_take [.inr (.inr 201), .inl 187] h9 (fun _ h12 => wf (D + 67) M_X1_parse Q 121 [some (.inr (.inr 201)), none, none, none, some (.inl v4)] [] h12)))
            (gC g K N T (fun r8 h9 => (r8 = 0 → wf (D + 67) M_X1_parse Q 121 [some (.inr (.inr 201)), none, none, none, some (.inl v4)] [] h9) ∧ (¬ r8 = 0 → cf (D + 66) M_X1_take [.inr (.inr 201), .inl 187] h9 (fun _ h12 => wf (D + 67) M_X1_parse Q 121 [some (.inr (.inr 201)), none, none, none, some (.inl v4)] [] h12))) tx) (bdc K V tx (K i) (i + 1)) := by
          cases hb : bdc K V tx (K i) (i + 1) with
          | inl x =>
            intro h3 X
            refine ⟨fun _ => BAD x (by rw [cb, hb]; rfl) h3 X, fun z => absurd rfl z⟩
          | inr x =>
            intro h3 cp3 kd3 nm3 sw3 C3 w0 w1 w2 p3 ok3
            refine ⟨fun z => absurd z (by omega), fun _ => ?_⟩
            refine c_takeC E C3 w2 (by decide) (fun t1 j1 h4 C4 R4 => B_X1_parse_121 ?_) (fun t1 h4 X => ?_)
            · rw [w32e (z := v4 + 1) (by omega) (by omega)]
              have cl : clB K V tx i = .inr (x.1, x.2 + 1) := by rw [cb, hb]; show tkc K 187 x.2 _ = _; unfold tkc; rw [if_pos t1]
              rw [cl] at bad good
              have ji := (bdc_le E.1 i1 hb).1
              refine ih (tx ++ [x.1]) (x.2 + 1) h4 cp3 (v4 + 1) (by omega) (by omega) (by omega) j1 (cC_W C4) w0 (by omega) ?_ ok3 bad good
              have hT := E.2.1.2
              unfold ctp ctpK ctpF at p3 ⊢
              rw [R4 T (by omega), R4 (T + 1) (by omega), R4 (T + 2) (by omega), R4 (T + 3) (by omega), R4 (T + 4) (by omega), R4 (T + 5) (by omega), R4 (T + 6) (by omega), R4 (T + 7) (by omega), R4 (T + 8) (by omega), R4 (T + 9) (by omega), R4 (T + 10) (by omega)]
              exact p3
            · exact BAD (1, x.2) (by rw [cb, hb]; show tkc K 187 x.2 _ = _; unfold tkc; rw [if_neg t1]) h4 X
        exact c_readRest (D := D) E C2 ⟨q1, q2⟩ n4 kf p ok q4 i1 p0 (by omega) post
end CLOOP
