/-! THE LAW: its loop, and its whole body in the abstract machine -/
theorem law_end {h h0 : am_H} {Q : Int → am_H → Prop} {i : Int} (k1 : ∀ g, Q 1 g) : am_Wp true 69 M_L 0 321 h0 Q 1380 [some (.inr (.inr (-5))), some (.inr (.inr 1)), some (.inr (.inr 294)), some (.inl i)] [] 321 h := by
  refine ar_iconst (pc := 1380) (z := 1) (by decide +kernel) (by unfold am_i32; omega) ?_
  exact ar_zret (pc := 1381) (x := 1) (by decide +kernel) rfl rfl (Or.inr rfl) (k1 _)
theorem law_loop {h0 : am_H} {Q : Int → am_H → Prop} (k1 : ∀ g, Q 1 g) : ∀ (u : Nat) (i : Int) (h : am_H) (tx : Nat → List Cl), INV h tx → 0 ≤ i → i ≤ 3078 → 3078 - i ≤ u → am_Wp true 69 M_L 0 321 h0 Q 18 [some (.inr (.inr (-5))), some (.inr (.inr 1)), some (.inr (.inr 294)), some (.inl i)] [] 321 h := by
  intro u
  induction u with
  | zero =>
    intro i h tx I i0 i1 hu
    refine ar_iload_n (pc := 18) (i := 3) (k0 := 3) (by decide +kernel) rfl rfl ?_
    refine ar_aload_n (pc := 19) (i := 0) (k0 := 0) (by decide +kernel) rfl rfl ?_
    refine ar_slen0 (pc := 20) (by decide +kernel) (fun l0 l1 => ?_)
    refine ar_bipush (pc := 21) (z := 6) (by decide +kernel) (by omega) ?_
    refine ar_isub (pc := 23) (by decide +kernel) ?_
    rw [w32e (z := h0 (-6) 0 - 6) (by omega) (by omega)]
    exact ar_icmp_gt (pc := 24) (x := i) (y := h0 (-6) 0 - 6) (tgt := 1380) (off := 1356) (by decide +kernel) (by decide) (fun _ => law_end k1) (fun q => by omega)
  | succ u ih =>
    intro i h tx I i0 i1 hu
    refine ar_iload_n (pc := 18) (i := 3) (k0 := 3) (by decide +kernel) rfl rfl ?_
    refine ar_aload_n (pc := 19) (i := 0) (k0 := 0) (by decide +kernel) rfl rfl ?_
    refine ar_slen0 (pc := 20) (by decide +kernel) (fun l0 l1 => ?_)
    refine ar_bipush (pc := 21) (z := 6) (by decide +kernel) (by omega) ?_
    refine ar_isub (pc := 23) (by decide +kernel) ?_
    rw [w32e (z := h0 (-6) 0 - 6) (by omega) (by omega)]
    refine ar_icmp_gt (pc := 24) (x := i) (y := h0 (-6) 0 - 6) (tgt := 1380) (off := 1356) (by decide +kernel) (by decide) (fun _ => law_end k1) (fun q => ?_)
    have nx : ∀ g tx2, INV g tx2 → am_Wp true 69 M_L 0 321 h0 Q 1374 [some (.inr (.inr (-5))), some (.inr (.inr 1)), some (.inr (.inr 294)), some (.inl i)] [] 321 g := by
      intro g tx2 I2
      refine ar_iinc (pc := 1374) (i := 3) (z := 6) (x := i) (ls2 := [some (.inr (.inr (-5))), some (.inr (.inr 1)), some (.inr (.inr 294)), some (.inl (am_w32 (i + 6)))]) (by decide +kernel) rfl (by decide) rfl ?_
      refine ar_goto (pc := 1377) (tgt := 18) (off := -1359) (by decide +kernel) (by decide) ?_
      rw [w32e (z := i + 6) (by omega) (by omega)]
      exact ih (i + 6) g tx2 I2 (by omega) (by omega) (by omega)
    refine ar_aload_n (pc := 27) (i := 0) (k0 := 0) (by decide +kernel) rfl rfl ?_
    refine ar_iload_n (pc := 28) (i := 3) (k0 := 3) (by decide +kernel) rfl rfl ?_
    refine ar_sald (pc := 29) (by decide +kernel) i0 (by omega) ?_
    refine ar_bipush (pc := 30) (z := 63) (by decide +kernel) (by omega) ?_
    refine ar_iand (pc := 32) (by decide +kernel) ?_
    exact ar_table (pc := 33) (dflt := 1341) (lo := 0) (hi := 41) (offs := #[183, 246, 269, 282, 305, 328, 361, 384, 397, 420, 443, 476, 489, 512, 535, 568, 601, 624, 667, 720, 753, 776, 809, 833, 867, 900, 933, 956, 999, 1032, 1055, 1078, 1111, 1144, 1177, 1210, 1223, 1256, 1269, 1292, 1305, 1318]) (len := 183) (dt := 1374) [216, 279, 302, 315, 338, 361, 394, 417, 430, 453, 476, 509, 522, 545, 568, 601, 634, 657, 700, 753, 786, 809, 842, 866, 900, 933, 966, 989, 1032, 1065, 1088, 1111, 1144, 1177, 1210, 1243, 1256, 1289, 1302, 1325, 1338, 1351] (by decide +kernel) (by decide) (by decide) (by decide) (fun _ => nx h tx I) (And.intro (fun _ => lc_216 I i0 (by omega) l1 nx) (And.intro (fun _ => lc_279 I i0 (by omega) l1 nx) (And.intro (fun _ => lc_302 I i0 (by omega) l1 nx) (And.intro (fun _ => lc_315 I i0 (by omega) l1 nx) (And.intro (fun _ => lc_338 I i0 (by omega) l1 nx) (And.intro (fun _ => lc_361 I i0 (by omega) l1 nx) (And.intro (fun _ => lc_394 I i0 (by omega) l1 nx) (And.intro (fun _ => lc_417 I i0 (by omega) l1 nx) (And.intro (fun _ => lc_430 I i0 (by omega) l1 nx) (And.intro (fun _ => lc_453 I i0 (by omega) l1 nx) (And.intro (fun _ => lc_476 I i0 (by omega) l1 nx) (And.intro (fun _ => lc_509 I i0 (by omega) l1 nx) (And.intro (fun _ => lc_522 I i0 (by omega) l1 nx) (And.intro (fun _ => lc_545 I i0 (by omega) l1 nx) (And.intro (fun _ => lc_568 I i0 (by omega) l1 nx) (And.intro (fun _ => lc_601 I i0 (by omega) l1 nx) (And.intro (fun _ => lc_634 I i0 (by omega) l1 nx) (And.intro (fun _ => lc_657 I i0 (by omega) l1 nx) (And.intro (fun _ => lc_700 I i0 (by omega) l1 nx) (And.intro (fun _ => lc_753 I i0 (by omega) l1 nx) (And.intro (fun _ => lc_786 I i0 (by omega) l1 nx) (And.intro (fun _ => lc_809 I i0 (by omega) l1 nx) (And.intro (fun _ => lc_842 I i0 (by omega) l1 nx) (And.intro (fun _ => lc_866 I i0 (by omega) l1 nx) (And.intro (fun _ => lc_900 I i0 (by omega) l1 nx) (And.intro (fun _ => lc_933 I i0 (by omega) l1 nx) (And.intro (fun _ => lc_966 I i0 (by omega) l1 nx) (And.intro (fun _ => lc_989 I i0 (by omega) l1 nx) (And.intro (fun _ => lc_1032 I i0 (by omega) l1 nx) (And.intro (fun _ => lc_1065 I i0 (by omega) l1 nx) (And.intro (fun _ => lc_1088 I i0 (by omega) l1 nx) (And.intro (fun _ => lc_1111 I i0 (by omega) l1 nx) (And.intro (fun _ => lc_1144 I i0 (by omega) l1 nx) (And.intro (fun _ => lc_1177 I i0 (by omega) l1 nx) (And.intro (fun _ => lc_1210 I i0 (by omega) l1 nx) (And.intro (fun _ => lc_1243 I i0 (by omega) l1 nx) (And.intro (fun _ => lc_1256 I i0 (by omega) l1 nx) (And.intro (fun _ => lc_1289 I i0 (by omega) l1 nx) (And.intro (fun _ => lc_1302 I i0 (by omega) l1 nx) (And.intro (fun _ => lc_1325 I i0 (by omega) l1 nx) (And.intro (fun _ => lc_1338 I i0 (by omega) l1 nx) (And.intro (fun _ => lc_1351 I i0 (by omega) l1 nx) True.intro))))))))))))))))))))))))))))))))))))))))))
theorem law_body {h0 : am_H} {Q : Int → am_H → Prop} (z : ∀ b j : Int, 1 ≤ b → h0 b j = 0) (k1 : ∀ g, Q 1 g) : am_Wp false 69 M_L 0 321 h0 Q 0 [some (.inr (.inr (-5))), none, none, none] [] 0 h0 := by
  refine ar_new (pc := 0) (n := 0) (N := 10) (ci := 6) (by decide +kernel) (show am_sh 0 = (16, 10) by decide +kernel) rfl w_clL_7 w_inRX6 wz_RX6 (by omega) (by omega) (fun i => z _ _ (by omega)) ?_
  rw [show (((0 : Nat) : Int) + 1) = 1 by omega]
  refine ar_dup (pc := 3) (by decide +kernel) trivial ?_
  refine ar_callI (pc := 4) (M2 := M_I_X6) (as := []) (a := 1) (n := 0 + 1) (n2 := 293) (st := [.inr (.inr 1)]) (by decide +kernel) rfl w_mlL_9 w_im_RX6 (by omega) wz_RX6 w_co_RX6 rfl rfl ⟨by decide, by decide, rfl⟩ (Nat.le_of_ble_eq_true rfl) (Nat.le_of_ble_eq_true rfl) (by omega) (by omega) (c_I_X6 (d := 66) z (fun h1 P => ?_))
  obtain ⟨p1, p2, p3⟩ := P
  refine ar_astore_n (pc := 7) (i := 1) (k0 := 1) (ls2 := [some (.inr (.inr (-5))), some (.inr (.inr 1)), none, none]) (by decide +kernel) rfl (by decide) rfl ?_
  refine ar_new (pc := 8) (n := 293) (N := 55) (ci := 7) (by decide +kernel) (show am_sh 293 = (17, 55) by decide +kernel) rfl w_clL_10 w_inRX7 wz_RX7 (by omega) (by omega) (fun i => p3 _ _ (by omega)) ?_
  rw [show (((293 : Nat) : Int) + 1) = 294 by omega]
  refine ar_dup (pc := 11) (by decide +kernel) trivial ?_
  refine ar_callI (pc := 12) (M2 := M_I_X7) (as := []) (a := 294) (n := 293 + 1) (n2 := 321) (st := [.inr (.inr 294)]) (by decide +kernel) rfl w_mlL_12 w_im_RX7 (by omega) wz_RX7 w_co_RX7 rfl rfl ⟨by decide, by decide, rfl⟩ (Nat.le_of_ble_eq_true rfl) (Nat.le_of_ble_eq_true rfl) (by omega) (by omega) (c_I_X7 (d := 67) (fun b j q => p3 b j (by omega)) (fun b j q1 q2 => p2 b j q1 (by omega)) (fun h2 P2 => ?_))
  obtain ⟨m1, m2, m3⟩ := P2
  refine ar_astore_n (pc := 15) (i := 2) (k0 := 2) (ls2 := [some (.inr (.inr (-5))), some (.inr (.inr 1)), some (.inr (.inr 294)), none]) (by decide +kernel) rfl (by decide) rfl ?_
  refine ar_iconst (pc := 16) (z := 0) (by decide +kernel) (by unfold am_i32; omega) ?_
  refine ar_istore_n (pc := 17) (i := 3) (k0 := 3) (ls2 := [some (.inr (.inr (-5))), some (.inr (.inr 1)), some (.inr (.inr 294)), some (.inl 0)]) (by decide +kernel) rfl (by decide) rfl ?_
  have ZA : ∀ b j : Int, 1 ≤ b → b ≤ 321 → b ≠ 295 → b ≠ 296 → h2 b j = ZZ b j := by
    intro b j q1 q2 q3 q4
    by_cases q : b < 294
    · rw [m1 b j q]
      exact p2 b j q1 (by omega)
    · exact m3 b j (by omega) q2 q3 q4
  have F : am_Fin 321 h2 := am_Fin_of (fun b j q1 q2 q3 => ZA b j q1 q2 (fun e => q3 (by rw [e]; exact k_295)) (fun e => q3 (by rw [e]; exact k_296)))
  exact am_fin_on F (law_loop k1 3078 0 h2 (fun _ => []) (inv_start ZA (fun j => (m2 j).1) (fun j => (m2 j).2)) (by omega) (by omega) (by omega))
