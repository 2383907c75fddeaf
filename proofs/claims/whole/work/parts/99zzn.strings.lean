/-! TEXTS: length, charAt, indexOf -/
section STRM
variable {d : Nat} {h : am_H} {Q : Int → am_H → Prop}
theorem stB_rng : ∀ k : Nat, k < 2 → ∀ i : Nat, i < 98 → 0 ≤ stB k i ∧ stB k i < 128 ∧ am_i2c (am_iand (stB k i) 255) = stB k i := by decide +kernel
theorem stB_r {k : Nat} {i : Int} (hk : k < 2) (h0 : 0 ≤ i) (h1 : i < 98) : 0 ≤ stB k i ∧ stB k i < 128 ∧ am_i2c (am_iand (stB k i) 255) = stB k i := by
  have := stB_rng k hk i.toNat (by omega)
  rw [show ((i.toNat : Nat) : Int) = i by omega] at this
  exact this
theorem c_S_coder {k : Nat} (hk : k < 2) (K : Q 0 h) : cf (d) M_S_coder [.inr (.inr (-1 - 2 * (k : Int)))] h Q := by
  refine cf_ofF pf_S_coder (Nat.le_of_ble_eq_true rfl) rfl (fun _ => ?_)
  intro h0
  refine ar_compact (pc := 0) (by decide +kernel) sf_38 ?_
  refine ar_if_eq (pc := 3) (x := 1) (tgt := 13) (off := 10) (by decide +kernel) (by decide) (fun c => absurd c (by decide)) (fun _ => ?_)
  refine ar_aload_n (pc := 6) (i := 0) (k0 := 0) (by decide +kernel) rfl rfl ?_
  refine ar_scoder (pc := 7) (by decide +kernel) hk sf_15 ?_
  refine ar_goto (pc := 10) (tgt := 14) (off := 4) (by decide +kernel) (by decide) ?_
  exact ar_bret (pc := 14) (x := 0) (by decide +kernel) rfl rfl rfl K
theorem c_S_length {k : Nat} (hk : k < 2) (K : Q (stN k) h) : cf (d + 1) M_S_length [.inr (.inr (-1 - 2 * (k : Int)))] h Q := by
  refine cf_ofF pf_S_length (Nat.le_of_ble_eq_true rfl) rfl (fun _ => ?_)
  intro h0
  refine ar_aload_n (pc := 0) (i := 0) (k0 := 0) (by decide +kernel) rfl rfl ?_
  refine ar_svalue (pc := 1) (by decide +kernel) hk sf_9 ?_
  refine ar_slen (pc := 4) (by decide +kernel) hk ?_
  refine ar_aload_n (pc := 5) (i := 0) (k0 := 0) (by decide +kernel) rfl rfl ?_
  refine ar_callVS (pc := 6) (M2 := M_S_coder) (k := k) (as := []) (n2 := 321) (st := [.inl (stN k)]) (by decide +kernel) rfl sm_S335 si_coder sl_coder hk sn_S sc_coder ⟨by decide, by decide, rfl⟩ (by decide) (Nat.le_of_ble_eq_true rfl) (Nat.le_refl _) (Nat.le_refl _) (c_S_coder hk ?_)
  show am_Wp true (d + 1) M_S_length 321 321 h0 Q 9 [some (.inr (.inr (-1 - 2 * (k : Int))))] [.inl 0, .inl (stN k)] 321 h
  refine ar_ishr (pc := 9) (x := stN k) (y := 0) (by decide +kernel) ?_
  have e : am_ishr (stN k) 0 = stN k := by
    have l := stN_le k hk
    have z := ishr_n (a := (stN k).toNat) (k := 0) (by omega) (by omega)
    rw [show ((0 : Nat) : Int) = 0 from rfl, show (((stN k).toNat : Nat) : Int) = stN k by omega] at z
    rw [z]
    omega
  rw [e]
  exact ar_iret (pc := 10) (x := stN k) (by decide +kernel) rfl rfl K
theorem c_S_isLatin1 {k : Nat} (hk : k < 2) (K : Q 1 h) : cf (d) M_S_isLatin1 [.inr (.inr (-1 - 2 * (k : Int)))] h Q := by
  refine cf_ofF pf_S_isLatin1 (Nat.le_of_ble_eq_true rfl) rfl (fun _ => ?_)
  intro h0
  refine ar_compact (pc := 0) (by decide +kernel) sf_38 ?_
  refine ar_if_eq (pc := 3) (x := 1) (tgt := 17) (off := 14) (by decide +kernel) (by decide) (fun c => absurd c (by decide)) (fun _ => ?_)
  refine ar_aload_n (pc := 6) (i := 0) (k0 := 0) (by decide +kernel) rfl rfl ?_
  refine ar_scoder (pc := 7) (by decide +kernel) hk sf_15 ?_
  refine ar_if_ne (pc := 10) (x := 0) (tgt := 17) (off := 7) (by decide +kernel) (by decide) (fun c => absurd rfl c) (fun _ => ?_)
  refine ar_iconst (pc := 13) (z := 1) (by decide +kernel) (by unfold am_i32; omega) ?_
  refine ar_goto (pc := 14) (tgt := 18) (off := 4) (by decide +kernel) (by decide) ?_
  exact ar_zret (pc := 18) (x := 1) (by decide +kernel) rfl rfl (Or.inr rfl) K
theorem c_S_pcheckIndex {i n : Int} (h0i : 0 ≤ i) (h1 : i < n) (K : Q i h) : cf d M_S_pcheckIndex [.inl i, .inl n, .inr (.inr (-9))] h Q := by
  refine cf_ofF pf_S_pcheckIndex (Nat.le_of_ble_eq_true rfl) rfl (fun _ => ?_)
  intro h0
  refine ar_iload_n (pc := 0) (i := 0) (k0 := 0) (by decide +kernel) rfl rfl ?_
  refine ar_if_lt (pc := 1) (x := i) (tgt := 9) (off := 8) (by decide +kernel) (by decide) (fun c => by omega) (fun _ => ?_)
  refine ar_iload_n (pc := 4) (i := 0) (k0 := 0) (by decide +kernel) rfl rfl ?_
  refine ar_iload_n (pc := 5) (i := 1) (k0 := 1) (by decide +kernel) rfl rfl ?_
  refine ar_icmp_lt (pc := 6) (x := i) (y := n) (tgt := 16) (off := 10) (by decide +kernel) (by decide) (fun _ => ?_) (fun c => by omega)
  refine ar_iload_n (pc := 16) (i := 0) (k0 := 0) (by decide +kernel) rfl rfl ?_
  exact ar_iret (pc := 17) (x := i) (by decide +kernel) rfl rfl K
theorem c_S_checkIndex {i n : Int} (h0i : 0 ≤ i) (h1 : i < n) (K : Q 0 h) : cf (d + 1) M_S_checkIndex [.inl i, .inl n] h Q := by
  refine cf_ofF pf_S_checkIndex (Nat.le_of_ble_eq_true rfl) rfl (fun _ => ?_)
  intro h0
  refine ar_iload_n (pc := 0) (i := 0) (k0 := 0) (by decide +kernel) rfl rfl ?_
  refine ar_iload_n (pc := 1) (i := 1) (k0 := 1) (by decide +kernel) rfl rfl ?_
  refine ar_formatter (pc := 2) (by decide +kernel) sf_1053 ?_
  refine ar_callS (pc := 5) (M2 := M_S_pcheckIndex) (as := [.inl i, .inl n, .inr (.inr (-9))]) (n2 := 321) (st := []) (by decide +kernel) rfl sm_S1059 ss_pcheckIndex sn_P sc_pcheckIndex ⟨by decide, by decide, rfl⟩ (by decide) (Nat.le_of_ble_eq_true rfl) (Nat.le_refl _) (Nat.le_refl _) (c_S_pcheckIndex h0i h1 ?_)
  show am_Wp true (d + 1) M_S_checkIndex 321 321 h0 Q 8 [some (.inl i), some (.inl n)] [.inl i] 321 h
  refine ar_pop (pc := 8) (by decide +kernel) trivial ?_
  exact ar_vret (pc := 9) (by decide +kernel) rfl rfl K
theorem c_S_lcharAt {k : Nat} {i : Int} (hk : k < 2) (h0i : 0 ≤ i) (h1 : i < stN k) (K : Q (stB k i) h) : cf (d + 2) M_S_lcharAt [.inr (.inr (-2 - 2 * (k : Int))), .inl i] h Q := by
  refine cf_ofF pf_S_lcharAt (Nat.le_of_ble_eq_true rfl) rfl (fun _ => ?_)
  intro h0
  refine ar_iload_n (pc := 0) (i := 1) (k0 := 1) (by decide +kernel) rfl rfl ?_
  refine ar_aload_n (pc := 1) (i := 0) (k0 := 0) (by decide +kernel) rfl rfl ?_
  refine ar_slen (pc := 2) (by decide +kernel) hk ?_
  refine ar_callS (pc := 3) (M2 := M_S_checkIndex) (as := [.inl i, .inl (stN k)]) (n2 := 321) (st := []) (by decide +kernel) rfl sm_L9 ss_checkIndex sn_S sc_checkIndex ⟨by decide, by decide, rfl⟩ (by decide) (Nat.le_of_ble_eq_true rfl) (Nat.le_refl _) (Nat.le_refl _) (c_S_checkIndex h0i h1 ?_)
  show am_Wp true (d + 2) M_S_lcharAt 321 321 h0 Q 6 [some (.inr (.inr (-2 - 2 * (k : Int)))), some (.inl i)] [] 321 h
  refine ar_aload_n (pc := 6) (i := 0) (k0 := 0) (by decide +kernel) rfl rfl ?_
  refine ar_iload_n (pc := 7) (i := 1) (k0 := 1) (by decide +kernel) rfl rfl ?_
  refine ar_sbald (pc := 8) (by decide +kernel) hk h0i h1 ?_
  refine ar_sipush (pc := 9) (z := 255) (by decide +kernel) (by omega) ?_
  refine ar_iand (pc := 12) (by decide +kernel) ?_
  refine ar_i2c (pc := 13) (by decide +kernel) ?_
  have sb := stB_r hk h0i (by have := stN_le k hk; omega)
  rw [sb.2.2]
  exact ar_cret (pc := 14) (x := stB k i) (by decide +kernel) rfl rfl (by omega) K
theorem c_S_charAt {k : Nat} {i : Int} (hk : k < 2) (h0i : 0 ≤ i) (h1 : i < stN k) (K : Q (stB k i) h) : cf (d + 3) M_S_charAt [.inr (.inr (-1 - 2 * (k : Int))), .inl i] h Q := by
  refine cf_ofF pf_S_charAt (Nat.le_of_ble_eq_true rfl) rfl (fun _ => ?_)
  intro h0
  refine ar_aload_n (pc := 0) (i := 0) (k0 := 0) (by decide +kernel) rfl rfl ?_
  refine ar_callVS (pc := 1) (M2 := M_S_isLatin1) (k := k) (as := []) (n2 := 321) (st := []) (by decide +kernel) rfl sm_S492 si_isLatin1 sl_isLatin1 hk sn_S sc_isLatin1 ⟨by decide, by decide, rfl⟩ (by decide) (Nat.le_of_ble_eq_true rfl) (Nat.le_refl _) (Nat.le_refl _) (c_S_isLatin1 hk ?_)
  show am_Wp true (d + 3) M_S_charAt 321 321 h0 Q 4 [some (.inr (.inr (-1 - 2 * (k : Int)))), some (.inl i)] [.inl 1] 321 h
  refine ar_if_eq (pc := 4) (x := 1) (tgt := 16) (off := 12) (by decide +kernel) (by decide) (fun c => absurd c (by decide)) (fun _ => ?_)
  refine ar_aload_n (pc := 7) (i := 0) (k0 := 0) (by decide +kernel) rfl rfl ?_
  refine ar_svalue (pc := 8) (by decide +kernel) hk sf_9 ?_
  refine ar_iload_n (pc := 11) (i := 1) (k0 := 1) (by decide +kernel) rfl rfl ?_
  refine ar_callS (pc := 12) (M2 := M_S_lcharAt) (as := [.inr (.inr (-2 - 2 * (k : Int))), .inl i]) (n2 := 321) (st := []) (by decide +kernel) rfl sm_S495 ss_lcharAt sn_L sc_lcharAt ⟨by decide, by decide, rfl⟩ (by decide) (Nat.le_of_ble_eq_true rfl) (Nat.le_refl _) (Nat.le_refl _) (c_S_lcharAt hk h0i h1 ?_)
  show am_Wp true (d + 3) M_S_charAt 321 321 h0 Q 15 [some (.inr (.inr (-1 - 2 * (k : Int)))), some (.inl i)] [.inl (stB k i)] 321 h
  have sb := stB_r hk h0i (by have := stN_le k hk; omega)
  exact ar_cret (pc := 15) (x := stB k i) (by decide +kernel) rfl rfl (by omega) K
theorem c_S_canEncode {c : Int} (h0c : 0 ≤ c) (h1 : c < 256) (K : Q 1 h) : cf d M_S_canEncode [.inl c] h Q := by
  refine cf_ofF pf_S_canEncode (Nat.le_of_ble_eq_true rfl) rfl (fun _ => ?_)
  intro h0
  refine ar_iload_n (pc := 0) (i := 0) (k0 := 0) (by decide +kernel) rfl rfl ?_
  refine ar_if_lt (pc := 1) (x := c) (tgt := 15) (off := 14) (by decide +kernel) (by decide) (fun y => by omega) (fun _ => ?_)
  refine ar_iload_n (pc := 4) (i := 0) (k0 := 0) (by decide +kernel) rfl rfl ?_
  refine ar_sipush (pc := 5) (z := 255) (by decide +kernel) (by omega) ?_
  refine ar_icmp_gt (pc := 8) (x := c) (y := 255) (tgt := 15) (off := 7) (by decide +kernel) (by decide) (fun y => by omega) (fun _ => ?_)
  refine ar_iconst (pc := 11) (z := 1) (by decide +kernel) (by unfold am_i32; omega) ?_
  refine ar_goto (pc := 12) (tgt := 16) (off := 4) (by decide +kernel) (by decide) ?_
  exact ar_zret (pc := 16) (x := 1) (by decide +kernel) rfl rfl (Or.inr rfl) K
theorem c_S_indexOfChar {k : Nat} {c : Int} (hk : k < 2) (h0c : 0 ≤ c) (h1c : c < 128) (k1 : ∀ i : Int, 0 ≤ i → i < stN k → stB k i = c → Q i h) (k0 : (∀ i : Int, 0 ≤ i → i < stN k → stB k i ≠ c) → Q (-1) h) : cf d M_S_indexOfChar [.inr (.inr (-2 - 2 * (k : Int))), .inl c, .inl 0, .inl (stN k)] h Q := by
  have sl := stN_le k hk
  have lo : ∀ (m : Nat) (i : Int), 0 ≤ i → stN k - i ≤ m → i ≤ stN k → (∀ j : Int, 0 ≤ j → j < i → stB k j ≠ c) → ∀ h0 : am_H, am_Wp true d M_S_indexOfChar 321 321 h0 Q 7 [some (.inr (.inr (-2 - 2 * (k : Int)))), some (.inl c), some (.inl 0), some (.inl (stN k)), some (.inl c), some (.inl i)] [] 321 h := by
    intro m
    induction m with
    | zero =>
      intro i i0 i1 i2 ne h0
      refine ar_iload (pc := 7) (i := 5) (by decide +kernel) rfl ?_
      refine ar_iload_n (pc := 9) (i := 3) (k0 := 3) (by decide +kernel) rfl rfl ?_
      refine ar_icmp_ge (pc := 10) (x := i) (y := stN k) (tgt := 31) (off := 21) (by decide +kernel) (by decide) (fun _ => ?_) (fun y => by omega)
      refine ar_iconst (pc := 31) (z := -1) (by decide +kernel) (by unfold am_i32; omega) ?_
      exact ar_iret (pc := 32) (x := -1) (by decide +kernel) rfl rfl (k0 (fun j a b => ne j a (by omega)))
    | succ m ih =>
      intro i i0 i1 i2 ne h0
      refine ar_iload (pc := 7) (i := 5) (by decide +kernel) rfl ?_
      refine ar_iload_n (pc := 9) (i := 3) (k0 := 3) (by decide +kernel) rfl rfl ?_
      refine ar_icmp_ge (pc := 10) (x := i) (y := stN k) (tgt := 31) (off := 21) (by decide +kernel) (by decide) (fun y => ?_) (fun y => ?_)
      · refine ar_iconst (pc := 31) (z := -1) (by decide +kernel) (by unfold am_i32; omega) ?_
        exact ar_iret (pc := 32) (x := -1) (by decide +kernel) rfl rfl (k0 (fun j a b => ne j a (by omega)))
      · refine ar_aload_n (pc := 13) (i := 0) (k0 := 0) (by decide +kernel) rfl rfl ?_
        refine ar_iload (pc := 14) (i := 5) (by decide +kernel) rfl ?_
        refine ar_sbald (pc := 16) (by decide +kernel) hk i0 y ?_
        refine ar_iload (pc := 17) (i := 4) (by decide +kernel) rfl ?_
        refine ar_icmp_ne (pc := 19) (x := stB k i) (y := c) (tgt := 25) (off := 6) (by decide +kernel) (by decide) (fun q => ?_) (fun q => ?_)
        · refine ar_iinc (pc := 25) (i := 5) (z := 1) (x := i) (ls2 := [some (.inr (.inr (-2 - 2 * (k : Int)))), some (.inl c), some (.inl 0), some (.inl (stN k)), some (.inl c), some (.inl (am_w32 (i + 1)))]) (by decide +kernel) rfl (by decide) rfl ?_
          refine ar_goto (pc := 28) (tgt := 7) (off := -21) (by decide +kernel) (by decide) ?_
          rw [w32e (z := i + 1) (by omega) (by omega)]
          refine ih (i + 1) (by omega) (by omega) (by omega) (fun j a b => ?_) h0
          by_cases e : j = i
          · rw [e]; exact q
          · exact ne j a (by omega)
        · refine ar_iload (pc := 22) (i := 5) (by decide +kernel) rfl ?_
          exact ar_iret (pc := 24) (x := i) (by decide +kernel) rfl rfl (k1 i i0 y q)
  refine cf_ofF pf_S_indexOfChar (Nat.le_of_ble_eq_true rfl) rfl (fun _ => ?_)
  intro h0
  refine ar_iload_n (pc := 0) (i := 1) (k0 := 1) (by decide +kernel) rfl rfl ?_
  refine ar_i2b (pc := 1) (by decide +kernel) (by omega) ?_
  refine ar_istore (pc := 2) (i := 4) (ls2 := [some (.inr (.inr (-2 - 2 * (k : Int)))), some (.inl c), some (.inl 0), some (.inl (stN k)), some (.inl c), none]) (by decide +kernel) (by decide) rfl ?_
  refine ar_iload_n (pc := 4) (i := 2) (k0 := 2) (by decide +kernel) rfl rfl ?_
  refine ar_istore (pc := 5) (i := 5) (ls2 := [some (.inr (.inr (-2 - 2 * (k : Int)))), some (.inl c), some (.inl 0), some (.inl (stN k)), some (.inl c), some (.inl 0)]) (by decide +kernel) (by decide) rfl ?_
  exact lo 200 0 (by omega) (by omega) (by omega) (fun j a b => by omega) h0
theorem c_S_lindexOf {k : Nat} {c : Int} (hk : k < 2) (h0c : 0 ≤ c) (h1c : c < 128) (k1 : ∀ i : Int, 0 ≤ i → i < stN k → stB k i = c → Q i h) (k0 : (∀ i : Int, 0 ≤ i → i < stN k → stB k i ≠ c) → Q (-1) h) : cf (d + 1) M_S_lindexOf [.inr (.inr (-2 - 2 * (k : Int))), .inl c, .inl 0, .inl (stN k)] h Q := by
  have sl := stN_le k hk
  refine cf_ofF pf_S_lindexOf (Nat.le_of_ble_eq_true rfl) rfl (fun _ => ?_)
  intro h0
  refine ar_iload_n (pc := 0) (i := 1) (k0 := 1) (by decide +kernel) rfl rfl ?_
  refine ar_callS (pc := 1) (M2 := M_S_canEncode) (as := [.inl c]) (n2 := 321) (st := []) (by decide +kernel) rfl sm_L88 ss_canEncode sn_L sc_canEncode ⟨by decide, by decide, rfl⟩ (by decide) (Nat.le_of_ble_eq_true rfl) (Nat.le_refl _) (Nat.le_refl _) (c_S_canEncode h0c (by omega) ?_)
  show am_Wp true (d + 1) M_S_lindexOf 321 321 h0 Q 4 [some (.inr (.inr (-2 - 2 * (k : Int)))), some (.inl c), some (.inl 0), some (.inl (stN k))] [.inl 1] 321 h
  refine ar_if_ne (pc := 4) (x := 1) (tgt := 9) (off := 5) (by decide +kernel) (by decide) (fun _ => ?_) (fun y => absurd y (by decide))
  refine ar_iload_n (pc := 9) (i := 2) (k0 := 2) (by decide +kernel) rfl rfl ?_
  refine ar_iconst (pc := 10) (z := 0) (by decide +kernel) (by unfold am_i32; omega) ?_
  refine ar_callS (pc := 11) (M2 := M_J9_max_7cf53) (as := [.inl 0, .inl 0]) (n2 := 321) (st := []) (by decide +kernel) rfl sm_L92 ws_yJ9_max_7cf53 wz_RJ9 wc_yJ9_max_7cf53 ⟨by decide, by decide, rfl⟩ (by decide) (Nat.le_of_ble_eq_true rfl) (Nat.le_refl _) (Nat.le_refl _) (c_max (fun y => by omega) (fun _ => ?_))
  show am_Wp true (d + 1) M_S_lindexOf 321 321 h0 Q 14 [some (.inr (.inr (-2 - 2 * (k : Int)))), some (.inl c), some (.inl 0), some (.inl (stN k))] [.inl 0] 321 h
  refine ar_istore_n (pc := 14) (i := 2) (k0 := 2) (ls2 := [some (.inr (.inr (-2 - 2 * (k : Int)))), some (.inl c), some (.inl 0), some (.inl (stN k))]) (by decide +kernel) rfl (by decide) rfl ?_
  refine ar_iload_n (pc := 15) (i := 3) (k0 := 3) (by decide +kernel) rfl rfl ?_
  refine ar_aload_n (pc := 16) (i := 0) (k0 := 0) (by decide +kernel) rfl rfl ?_
  refine ar_slen (pc := 17) (by decide +kernel) hk ?_
  refine ar_callS (pc := 18) (M2 := M_J9_min_7cf53) (as := [.inl (stN k), .inl (stN k)]) (n2 := 321) (st := []) (by decide +kernel) rfl sm_L38 ws_yJ9_min_7cf53 wz_RJ9 wc_yJ9_min_7cf53 ⟨by decide, by decide, rfl⟩ (by decide) (Nat.le_of_ble_eq_true rfl) (Nat.le_refl _) (Nat.le_refl _) (c_min (fun y => by omega) (fun _ => ?_))
  show am_Wp true (d + 1) M_S_lindexOf 321 321 h0 Q 21 [some (.inr (.inr (-2 - 2 * (k : Int)))), some (.inl c), some (.inl 0), some (.inl (stN k))] [.inl (stN k)] 321 h
  refine ar_istore_n (pc := 21) (i := 3) (k0 := 3) (ls2 := [some (.inr (.inr (-2 - 2 * (k : Int)))), some (.inl c), some (.inl 0), some (.inl (stN k))]) (by decide +kernel) rfl (by decide) rfl ?_
  refine ar_iload_n (pc := 22) (i := 2) (k0 := 2) (by decide +kernel) rfl rfl ?_
  refine ar_iload_n (pc := 23) (i := 3) (k0 := 3) (by decide +kernel) rfl rfl ?_
  refine ar_icmp_lt (pc := 24) (x := 0) (y := stN k) (tgt := 29) (off := 5) (by decide +kernel) (by decide) (fun _ => ?_) (fun y => by omega)
  refine ar_aload_n (pc := 29) (i := 0) (k0 := 0) (by decide +kernel) rfl rfl ?_
  refine ar_iload_n (pc := 30) (i := 1) (k0 := 1) (by decide +kernel) rfl rfl ?_
  refine ar_iload_n (pc := 31) (i := 2) (k0 := 2) (by decide +kernel) rfl rfl ?_
  refine ar_iload_n (pc := 32) (i := 3) (k0 := 3) (by decide +kernel) rfl rfl ?_
  refine ar_callS (pc := 33) (M2 := M_S_indexOfChar) (as := [.inr (.inr (-2 - 2 * (k : Int))), .inl c, .inl 0, .inl (stN k)]) (n2 := 321) (st := []) (by decide +kernel) rfl sm_L95 ss_indexOfChar sn_L sc_indexOfChar ⟨by decide, by decide, rfl⟩ (by decide) (Nat.le_of_ble_eq_true rfl) (Nat.le_refl _) (Nat.le_refl _) (c_S_indexOfChar hk h0c h1c (fun i a b e => ?_) (fun a => ?_))
  · exact ar_iret (pc := 36) (x := i) (by decide +kernel) rfl rfl (k1 i a b e)
  · exact ar_iret (pc := 36) (x := -1) (by decide +kernel) rfl rfl (k0 a)
theorem c_S_indexOf2 {k : Nat} {c : Int} (hk : k < 2) (h0c : 0 ≤ c) (h1c : c < 128) (k1 : ∀ i : Int, 0 ≤ i → i < stN k → stB k i = c → Q i h) (k0 : (∀ i : Int, 0 ≤ i → i < stN k → stB k i ≠ c) → Q (-1) h) : cf (d + 2) M_S_indexOf2 [.inr (.inr (-1 - 2 * (k : Int))), .inl c, .inl 0] h Q := by
  refine cf_ofF pf_S_indexOf2 (Nat.le_of_ble_eq_true rfl) rfl (fun _ => ?_)
  intro h0
  refine ar_aload_n (pc := 0) (i := 0) (k0 := 0) (by decide +kernel) rfl rfl ?_
  refine ar_callVS (pc := 1) (M2 := M_S_isLatin1) (k := k) (as := []) (n2 := 321) (st := []) (by decide +kernel) rfl sm_S492 si_isLatin1 sl_isLatin1 hk sn_S sc_isLatin1 ⟨by decide, by decide, rfl⟩ (by decide) (Nat.le_of_ble_eq_true rfl) (Nat.le_refl _) (Nat.le_refl _) (c_S_isLatin1 hk ?_)
  show am_Wp true (d + 2) M_S_indexOf2 321 321 h0 Q 4 [some (.inr (.inr (-1 - 2 * (k : Int)))), some (.inl c), some (.inl 0)] [.inl 1] 321 h
  refine ar_if_eq (pc := 4) (x := 1) (tgt := 23) (off := 19) (by decide +kernel) (by decide) (fun y => absurd y (by decide)) (fun _ => ?_)
  refine ar_aload_n (pc := 7) (i := 0) (k0 := 0) (by decide +kernel) rfl rfl ?_
  refine ar_svalue (pc := 8) (by decide +kernel) hk sf_9 ?_
  refine ar_iload_n (pc := 11) (i := 1) (k0 := 1) (by decide +kernel) rfl rfl ?_
  refine ar_iload_n (pc := 12) (i := 2) (k0 := 2) (by decide +kernel) rfl rfl ?_
  refine ar_aload_n (pc := 13) (i := 0) (k0 := 0) (by decide +kernel) rfl rfl ?_
  refine ar_callVS (pc := 14) (M2 := M_S_length) (k := k) (as := []) (n2 := 321) (st := [.inl 0, .inl c, .inr (.inr (-2 - 2 * (k : Int)))]) (by decide +kernel) rfl sm_S505 si_length sl_length hk sn_S sc_length ⟨by decide, by decide, rfl⟩ (by decide) (Nat.le_of_ble_eq_true rfl) (Nat.le_refl _) (Nat.le_refl _) (c_S_length hk ?_)
  show am_Wp true (d + 2) M_S_indexOf2 321 321 h0 Q 17 [some (.inr (.inr (-1 - 2 * (k : Int)))), some (.inl c), some (.inl 0)] [.inl (stN k), .inl 0, .inl c, .inr (.inr (-2 - 2 * (k : Int)))] 321 h
  refine ar_callS (pc := 17) (M2 := M_S_lindexOf) (as := [.inr (.inr (-2 - 2 * (k : Int))), .inl c, .inl 0, .inl (stN k)]) (n2 := 321) (st := []) (by decide +kernel) rfl sm_S637 ss_lindexOf sn_L sc_lindexOf ⟨by decide, by decide, rfl⟩ (by decide) (Nat.le_of_ble_eq_true rfl) (Nat.le_refl _) (Nat.le_refl _) (c_S_lindexOf hk h0c h1c (fun i a b e => ?_) (fun a => ?_))
  · refine ar_goto (pc := 20) (tgt := 36) (off := 16) (by decide +kernel) (by decide) ?_
    exact ar_iret (pc := 36) (x := i) (by decide +kernel) rfl rfl (k1 i a b e)
  · refine ar_goto (pc := 20) (tgt := 36) (off := 16) (by decide +kernel) (by decide) ?_
    exact ar_iret (pc := 36) (x := -1) (by decide +kernel) rfl rfl (k0 a)
theorem c_S_indexOf1 {k : Nat} {c : Int} (hk : k < 2) (h0c : 0 ≤ c) (h1c : c < 128) (k1 : ∀ i : Int, 0 ≤ i → i < stN k → stB k i = c → Q i h) (k0 : (∀ i : Int, 0 ≤ i → i < stN k → stB k i ≠ c) → Q (-1) h) : cf (d + 3) M_S_indexOf1 [.inr (.inr (-1 - 2 * (k : Int))), .inl c] h Q := by
  refine cf_ofF pf_S_indexOf1 (Nat.le_of_ble_eq_true rfl) rfl (fun _ => ?_)
  intro h0
  refine ar_aload_n (pc := 0) (i := 0) (k0 := 0) (by decide +kernel) rfl rfl ?_
  refine ar_iload_n (pc := 1) (i := 1) (k0 := 1) (by decide +kernel) rfl rfl ?_
  refine ar_iconst (pc := 2) (z := 0) (by decide +kernel) (by unfold am_i32; omega) ?_
  refine ar_callVS (pc := 3) (M2 := M_S_indexOf2) (k := k) (as := [.inl c, .inl 0]) (n2 := 321) (st := []) (by decide +kernel) rfl sm_S633 si_indexOf2 sl_indexOf2 hk sn_S sc_indexOf2 ⟨by decide, by decide, rfl⟩ (by decide) (Nat.le_of_ble_eq_true rfl) (Nat.le_refl _) (Nat.le_refl _) (c_S_indexOf2 hk h0c h1c (fun i a b e => ?_) (fun a => ?_))
  · exact ar_iret (pc := 6) (x := i) (by decide +kernel) rfl rfl (k1 i a b e)
  · exact ar_iret (pc := 6) (x := -1) (by decide +kernel) rfl rfl (k0 a)
theorem sgK_set : ∀ c : Fin 128, (c.val = 35 ∨ (40 ≤ c.val ∧ c.val ≤ 43) ∨ c.val = 45 ∨ c.val = 47 ∨ (59 ≤ c.val ∧ c.val ≤ 62)) ↔ ∃ i : Fin 11, stB 1 ((i.val : Nat) : Int) = ((c.val : Nat) : Int) := by decide +kernel
theorem o_sign : oSign := by
  intro d h Q c hd c0 c1 K
  obtain ⟨y, rfl⟩ : ∃ y, d = y + 4 := ⟨d - 4, by omega⟩
  have no : ¬ (c = 35 ∨ (40 ≤ c ∧ c ≤ 43) ∨ c = 45 ∨ c = 47 ∨ (59 ≤ c ∧ c ≤ 62)) → Q 65 h := fun q => by
    unfold sgK at K
    rw [if_neg q] at K
    exact K
  have at29 : ¬ (c = 35 ∨ (40 ≤ c ∧ c ≤ 43) ∨ c = 45 ∨ c = 47 ∨ (59 ≤ c ∧ c ≤ 62)) → ∀ h0 : am_H, am_Wp true (y + 4) M_X1_signToken 321 321 h0 Q 29 [some (.inl c)] [] 321 h := by
    intro q h0
    refine ar_bipush (pc := 29) (z := 65) (by decide +kernel) (by omega) ?_
    exact ar_iret (pc := 31) (x := 65) (by decide +kernel) rfl rfl (no q)
  refine cf_of pX1 (Nat.le_of_ble_eq_true rfl) rfl (fun _ => ?_)
  intro h0
  refine ar_iload_n (pc := 0) (i := 0) (k0 := 0) (by decide +kernel) rfl rfl ?_
  refine ar_if_le (pc := 1) (x := c) (tgt := 29) (off := 28) (by decide +kernel) (by decide) (fun q => at29 (by omega) h0) (fun q1 => ?_)
  refine ar_iload_n (pc := 4) (i := 0) (k0 := 0) (by decide +kernel) rfl rfl ?_
  refine ar_sipush (pc := 5) (z := 128) (by decide +kernel) (by omega) ?_
  refine ar_icmp_ge (pc := 8) (x := c) (y := 128) (tgt := 29) (off := 21) (by decide +kernel) (by decide) (fun q => at29 (by omega) h0) (fun q2 => ?_)
  refine ar_ldcS (pc := 11) (k := 1) (by decide +kernel) rfl (Or.inr ⟨rfl, rfl⟩) ?_
  refine ar_iload_n (pc := 13) (i := 0) (k0 := 0) (by decide +kernel) rfl rfl ?_
  refine ar_i2c (pc := 14) (by decide +kernel) ?_
  rw [am_i2c_small (x := c) (by omega)]
  have st := sgK_set ⟨c.toNat, by omega⟩
  simp only at st
  rw [show ((c.toNat : Nat) : Int) = c by omega] at st
  refine ar_callVS (pc := 15) (M2 := M_S_indexOf1) (k := 1) (as := [.inl c]) (n2 := 321) (st := []) (by decide +kernel) rfl sm_P103 si_indexOf1 sl_indexOf1 (by omega) sn_S sc_indexOf1 ⟨by decide, by decide, rfl⟩ (by decide) (Nat.le_of_ble_eq_true rfl) (Nat.le_refl _) (Nat.le_refl _) (c_S_indexOf1 (by omega) (by omega) (by omega) (fun i a b e => ?_) (fun a => ?_))
  · show am_Wp true (y + 3 + 1) M_X1_signToken 321 321 h0 Q 18 [some (.inl c)] [.inl i] 321 h
    refine ar_if_lt (pc := 18) (x := i) (tgt := 29) (off := 11) (by decide +kernel) (by decide) (fun q => by omega) (fun _ => ?_)
    refine ar_sipush (pc := 21) (z := 128) (by decide +kernel) (by omega) ?_
    refine ar_iload_n (pc := 24) (i := 0) (k0 := 0) (by decide +kernel) rfl rfl ?_
    refine ar_iadd (pc := 25) (by decide +kernel) ?_
    refine ar_goto (pc := 26) (tgt := 31) (off := 5) (by decide +kernel) (by decide) ?_
    rw [w32e (z := 128 + c) (by omega) (by omega)]
    have sn := stN_v
    have q : c = 35 ∨ (40 ≤ c ∧ c ≤ 43) ∨ c = 45 ∨ c = 47 ∨ (59 ≤ c ∧ c ≤ 62) := by
      have := st.2 ⟨⟨i.toNat, by omega⟩, by simp only; rw [show ((i.toNat : Nat) : Int) = i by omega]; exact e⟩
      omega
    have K2 : Q (128 + c) h := by
      unfold sgK at K
      rw [if_pos q] at K
      exact K
    exact ar_iret (pc := 31) (x := 128 + c) (by decide +kernel) rfl rfl K2
  · show am_Wp true (y + 3 + 1) M_X1_signToken 321 321 h0 Q 18 [some (.inl c)] [.inl (-1)] 321 h
    refine ar_if_lt (pc := 18) (x := -1) (tgt := 29) (off := 11) (by decide +kernel) (by decide) (fun _ => ?_) (fun q => by omega)
    refine at29 (fun q => ?_) h0
    have sn := stN_v
    obtain ⟨i, e⟩ := st.1 (by omega)
    exact a i.val (by omega) (by omega) e
end STRM
