theorem am_lt_eq {a b c : Int} (h : a < b) (e : b = c) : a < c := e ▸ h
theorem am_le_eq {a b c : Int} (h : a ≤ b) (e : b = c) : a ≤ c := e ▸ h
section AUX
variable {fin : Bool} {d : Nat} {M : am_M} {n0 n1 : Nat} {h0 : am_H} {Q : Int → am_H → Prop} {pc : Nat} {ls : List (Option am_V)} {st : List am_V} {n : Nat} {h : am_H}
theorem ar_ialdV {a i v : Int} (hv : h a i = v) (hd : decode M.2.1 pc = .ok (.iaload, 1)) (ha : am_kd n a = 0) (hi0 : 0 ≤ i) (hi1 : i < am_ln a) (kk : am_Wp fin d M n0 n1 h0 Q (pc + 1) ls ((.inl v) :: st) n h) : am_Wp fin d M n0 n1 h0 Q pc ls (.inl i :: .inr (.inr a) :: st) n h := by
  subst hv
  exact ar_iald hd ha hi0 hi1 kk
theorem ar_zaldV {a i v : Int} (hv : h a i = v) (hd : decode M.2.1 pc = .ok (.baload, 1)) (ha : am_kd n a = 2) (hi0 : 0 ≤ i) (hi1 : i < am_ln a) (kk : am_Wp fin d M n0 n1 h0 Q (pc + 1) ls ((.inl v) :: st) n h) : am_Wp fin d M n0 n1 h0 Q pc ls (.inl i :: .inr (.inr a) :: st) n h := by
  subst hv
  exact ar_zald hd ha hi0 hi1 kk
theorem ar_laldV {a i v : Int} (hv : h a i = v) (hd : decode M.2.1 pc = .ok (.laload, 1)) (ha : am_kd n a = 1) (hi0 : 0 ≤ i) (hi1 : i < am_ln a) (kk : am_Wp fin d M n0 n1 h0 Q (pc + 1) ls ((.inr (.inl v)) :: st) n h) : am_Wp fin d M n0 n1 h0 Q pc ls (.inl i :: .inr (.inr a) :: st) n h := by
  subst hv
  exact ar_lald hd ha hi0 hi1 kk
end AUX
