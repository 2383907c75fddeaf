/-! LEVEL 3, the class lays ORDER down, and what each FIELD needs -/
section SORT
variable {d D : Nat} {h h2 : am_H} {Q : Int → am_H → Prop} {T cp : Int} {tx : List Cl}
def fSo (h h2 : am_H) (T : Int) : Prop := (∀ b : Int, b ≠ T → b ≠ T + 11 → b ≠ T + 12 → h2 b = h b) ∧ ∀ j : Int, j < 14 ∨ j = 16 → h2 T j = h T j
def srt (h : am_H) (T : Int) (tx : List Cl) : Prop := h T 6 = (told tx : Nat) ∧ ∀ f : Nat, f < 8 → h (T + 5) f = kdf tx f ∧ h (T + 9) f = (hgu tx f : Nat)
theorem srt_f (s : srt h T tx) (f : fSo h h2 T) : srt h2 T tx := ⟨by rw [f.2 6 (by omega)]; exact s.1, fun x hx => by rw [f.1 (T + 5) (by omega) (by omega) (by omega), f.1 (T + 9) (by omega) (by omega) (by omega)]; exact s.2 x hx⟩
theorem fSo_T {g : am_H} {j v : Int} (f : fSo h g T) (q : j = 14 ∨ j = 15 ∨ j = 17 ∨ j = 18 ∨ j = 19) : fSo h (am_up g T j v) T := ⟨fun b z1 z2 z3 => by rw [upr z1]; exact f.1 b z1 z2 z3, fun y z => by rw [am_up_ne (by omega)]; exact f.2 y z⟩
theorem fSo_R {g : am_H} {b j v : Int} (f : fSo h g T) (q : b = T + 11 ∨ b = T + 12) : fSo h (am_up g b j v) T := ⟨fun x z1 z2 z3 => by rw [upr (by omega)]; exact f.1 x z1 z2 z3, fun y z => by rw [am_up_ne (by omega)]; exact f.2 y z⟩
theorem fSo_refl : fSo h h T := ⟨fun _ _ _ _ => rfl, fun _ _ => rfl⟩
theorem c_lowestReady (tT : am_kd 321 T = 15) (s : srt h T tx) (ok : okx tx) {placed : Nat} (hp : placed < 256) (k1 : ∀ f, f < 8 → lowR (told tx) (hgu tx) placed = some f → Q f h) (k0 : lowR (told tx) (hgu tx) placed = none → Q (-1) h) : cf (d + 2) M_X5_lowestReady [.inr (.inr T), .inl (placed : Int)] h Q := by
  have tl := told_lt (tx := tx)
  have k9 := kX5_11 tT
  have scan : ∀ (m f : Nat), f + m = 8 → (∀ y, y < f → rdy (told tx) (hgu tx) placed y = false) → wf (d + 2) M_X5_lowestReady Q 2 [some (.inr (.inr T)), some (.inl (placed : Int)), some (.inl (f : Int)), none] [] h := by
    intro m
    induction m with
    | zero =>
      intro f hf hn
      exact B_X5_lowestReady_2 tT ⟨fun _ => k0 (find8n (fun y hy => hn y (by omega))), fun y => by omega⟩
    | succ m ih =>
      intro f hf hn
      have nrdy : ¬ rdy (told tx) (hgu tx) placed f = true → rdy (told tx) (hgu tx) placed f = false := fun q => by
        cases z : rdy (told tx) (hgu tx) placed f with
        | false => rfl
        | true => exact absurd z q
      have next : rdy (told tx) (hgu tx) placed f = false → wf (d + 2) M_X5_lowestReady Q 54 [some (.inr (.inr T)), some (.inl (placed : Int)), some (.inl (f : Int)), none] [] h := by
        intro q
        refine B_X5_lowestReady_54 tT ?_
        rw [w32e (z := (f : Int) + 1) (by omega) (by omega), show (f : Int) + 1 = ((f + 1 : Nat) : Int) by omega]
        refine ih (f + 1) (by omega) (fun y hy => ?_)
        by_cases e : y = f
        · rw [e]; exact q
        · exact hn y (by omega)
      have skip : rdy (told tx) (hgu tx) placed f = false → wf (d + 2) M_X5_lowestReady Q 28 [some (.inr (.inr T)), some (.inl (placed : Int)), some (.inl (f : Int)), none] [] h := fun q => B_X5_lowestReady_28 tT (B_X5_lowestReady_29 tT ⟨fun _ => next q, fun y => absurd rfl y⟩)
      have rf := rdy_iff (tt := told tx) (hg := hgu tx) (placed := placed) (f := f)
      refine B_X5_lowestReady_2 tT ⟨fun y => by omega, fun _ => ?_⟩
      refine cf_of pX5 (Nat.le_of_ble_eq_true rfl) rfl (fun _ => B_X5_tells_0 tT ?_)
      rw [s.1]
      refine c_X6_hasBit (by omega) (by omega) (fun tb => ⟨Or.inr rfl, fun y => absurd y (by omega), fun _ => ?_⟩) (fun tb => ⟨Or.inl rfl, fun _ => skip (nrdy (fun z => ?_)), fun y => absurd rfl y⟩)
      · refine c_X6_hasBit (by omega) (by omega) (fun pb => ⟨fun _ => skip (nrdy (fun z => ?_)), fun y => absurd y (by omega)⟩) (fun pb => ⟨fun y => absurd rfl y, fun _ => B_X5_lowestReady_29 tT ⟨fun y => absurd y (by omega), fun _ => ⟨by omega, by omega, ?_⟩⟩⟩)
        · rw [(rf.mp z).2.1] at pb; cases pb
        · have hl := hgu_lt (f := f) ok
          rw [(s.2 f (by omega)).2, s.1, iand_n (by omega), andn_n (Nat.lt_of_le_of_lt Nat.and_le_left (by omega))]
          have az := and_zero (s := hgu tx f) (tt := told tx) (placed := placed) hl
          refine ⟨fun y => next (nrdy (fun z => y ?_)), fun y => ?_⟩
          · have := az.mpr (rf.mp z).2.2
            rw [this]; rfl
          · have ry := rf.mpr ⟨tb, pb, az.mp (by omega)⟩
            exact k1 f (by omega) (find8 (by omega) ry hn)
      · rw [(rf.mp z).1] at tb; cases tb
  exact cf_of pX5 (Nat.le_of_ble_eq_true rfl) rfl (fun _ => B_X5_lowestReady_0 tT (scan 8 0 (by omega) (fun y hy => by omega)))
/-- what is gathered of a kind -/
def accK (tx : List Cl) (done : List Nat) (G : Nat → Nat) (k : Int) (a : Nat) : Prop := a < 256 ∧ ∀ x, a.testBit x = true ↔ ∃ f, f ∈ done ∧ kdf tx f = k ∧ (G f).testBit x = true
theorem accK_step {done : List Nat} {G : Nat → Nat} {k : Int} {a f v : Nat} (h : accK tx done G k a) (nf : f ∉ done) (hv : v < 256) : accK tx (done ++ [f]) (fun x => if x = f then v else G x) k (a ||| if kdf tx f = k then v else 0) := by
  refine ⟨Nat.or_lt_two_pow (n := 8) h.1 (by split <;> omega), fun x => ?_⟩
  rw [Nat.testBit_or, Bool.or_eq_true, h.2 x]
  constructor
  · rintro (⟨y, hy, e, q⟩ | q)
    · exact ⟨y, List.mem_append_left _ hy, e, by show (if y = f then v else G y).testBit x = true; rw [if_neg (show ¬ y = f from fun z => nf (z ▸ hy))]; exact q⟩
    · by_cases c : kdf tx f = k
      · rw [if_pos c] at q
        exact ⟨f, by simp, c, by show (if f = f then v else G f).testBit x = true; rw [if_pos rfl]; exact q⟩
      · rw [if_neg c, Nat.zero_testBit] at q; cases q
  · rintro ⟨y, hy, e, q⟩
    rcases List.mem_append.mp hy with z | z
    · left
      have q : (if y = f then v else G y).testBit x = true := q
      rw [if_neg (show ¬ y = f from fun w => nf (w ▸ z))] at q
      exact ⟨y, z, e, q⟩
    · have yf := List.mem_singleton.mp z
      subst yf
      have q : (if y = y then v else G y).testBit x = true := q
      rw [if_pos rfl] at q
      right
      rw [if_pos e]; exact q
theorem l_gather (tT : am_kd 321 T = 15) (ok : okx tx) (hl : h T 14 = (ord tx).length) (ho : ∀ i : Nat, i < (ord tx).length → h (T + 11) i = ((ord tx).getD i 0 : Nat)) (s : srt h T tx)
    (k : ∀ g, fSo h g T → g T 14 = h T 14 → g T 15 = h T 15 → g T 17 = h T 17 → g (T + 11) = h (T + 11) → g T 18 = (needK tx 1 : Nat) → g T 19 = (needK tx 2 : Nat) → (∀ f : Nat, f < 8 → g (T + 12) f = (needF tx f : Nat)) → Q 0 g) :
    ∀ (rest done : List Nat) (G : Nat → Nat) (a1 a2 : Nat) (g : am_H), ord tx = done ++ rest → fSo h g T → (∀ j : Int, j = 14 ∨ j = 15 ∨ j = 17 → g T j = h T j) → g (T + 11) = h (T + 11) → gok tx done G → (∀ f, G f < 256) → needF tx = ndA tx rest G → (∀ f : Nat, f < 8 → g (T + 12) f = (G f : Nat)) → g T 18 = (a1 : Nat) → g T 19 = (a2 : Nat) → accK tx done G 1 a1 → accK tx done G 2 a2 → wf (d + 1) M_X5_gatherNeeded Q 64 [some (.inr (.inr T)), some (.inl (done.length : Int)), none, none] [] g := by
  have k12 := kX5_16 tT
  intro rest
  induction rest with
  | nil =>
    intro done G a1 a2 g e fg ej e11 hG hGl eN e12 e18 e19 c1 c2
    rw [List.append_nil] at e
    refine B_X5_gatherNeeded_64 tT ⟨fun _ => ?_, fun y => by rw [ej 14 (by omega), hl, e] at y; omega⟩
    have fin : ∀ (kk : Int) (a : Nat), accK tx done G kk a → a = needK tx kk := by
      intro kk a c
      refine bits_ext (n := 8) c.1 needK_lt (fun x hx => ?_)
      have : a.testBit x = true ↔ (needK tx kk).testBit x = true := by
        rw [c.2 x, needK_bit]
        constructor
        · rintro ⟨f, m, kf, q⟩
          exact ⟨f, (ord_mem (e ▸ m)).1, e ▸ m, kf, by rw [eN]; exact q⟩
        · rintro ⟨f, _, m, kf, q⟩
          exact ⟨f, e ▸ m, kf, by rw [eN] at q; exact q⟩
      cases z1 : a.testBit x <;> cases z2 : (needK tx kk).testBit x <;> simp_all
    refine k g fg (ej 14 (by omega)) (ej 15 (by omega)) (ej 17 (by omega)) e11 (by rw [e18, fin 1 a1 c1]) (by rw [e19, fin 2 a2 c2]) (fun f hf => ?_)
    rw [e12 f hf, eN]
    rfl
  | cons f rest ih =>
    intro done G a1 a2 g e fg ej e11 hG hGl eN e12 e18 e19 c1 c2
    have len : (ord tx).length = done.length + (rest.length + 1) := by rw [e]; simp
    have l8 := ord_len (tx := tx)
    have fm : f ∈ ord tx := by rw [e]; simp
    have f8 := (ord_mem fm).1
    have nd : f ∉ done := by
      have := ord_nodup (tx := tx)
      rw [e] at this
      intro z
      have := (List.nodup_append.mp this).2.2 f z f (by simp)
      exact this rfl
    have gf : g (T + 11) (done.length : Int) = f := by
      rw [e11, ho done.length (by omega), e]
      simp
    have sg := srt_f s fg
    have hgl := hgu_lt (f := f) ok
    refine B_X5_gatherNeeded_64 tT ⟨fun y => by rw [ej 14 (by omega), hl] at y; omega, fun _ => ⟨fun y => by omega, fun _ => ⟨by omega, ?_⟩⟩⟩
    rw [gf]
    refine c_X6_isField (fun _ _ => ⟨fun y => absurd y (by omega), fun _ => ⟨by omega, by omega, ?_⟩⟩) (fun y => by omega)
    rw [ishl1 (by omega)]
    -- the FIELDS that it hangs on, one by one
    have inner : ∀ (m y v : Nat) (g2 : am_H), y + m = 8 → v < 256 → (v = 2 ^ f ||| orN (fun z => if (hgu tx f).testBit z = true then G z else 0) y) → fSo h g2 T → (∀ j : Int, j = 14 ∨ j = 15 ∨ j = 17 ∨ j = 18 ∨ j = 19 → g2 T j = g T j) → g2 (T + 11) = h (T + 11) → (∀ x : Nat, x < 8 → g2 (T + 12) x = ((if x = f then v else G x : Nat) : Int)) → wf (d + 1) M_X5_gatherNeeded Q 103 [some (.inr (.inr T)), some (.inl (done.length : Int)), some (.inl (f : Int)), some (.inl (y : Int))] [] g2 := by
      intro m
      induction m with
      | zero =>
        intro y v g2 hy hv ev f2 ej2 e112 e122
        have y8 : y = 8 := by omega
        subst y8
        have s2 := srt_f s f2
        have G2l : ∀ x, (if x = f then v else G x) < 256 := fun x => by split; exact hv; exact hGl x
        have eg : (fun x => if x = f then 2 ^ f ||| orN (fun y => if (hgu tx f).testBit y = true then G y else 0) 8 else G x) = fun x => if x = f then v else G x := by rw [ev]
        have hG2 := gok_step e hG
        rw [eg] at hG2
        have last : ∀ (x1 x2 : Nat) (g3 : am_H), x1 = (if kdf tx f = 1 then v else 0) → x2 = (if kdf tx f = 2 then v else 0) → g3 = am_up (am_up g2 T 18 ((a1 ||| x1 : Nat) : Int)) T 19 ((a2 ||| x2 : Nat) : Int) → wf (d + 1) M_X5_gatherNeeded Q 205 [some (.inr (.inr T)), some (.inl (done.length : Int)), none, none] [] g3 := by
          intro x1 x2 g3 ex1 ex2 eg3
          refine B_X5_gatherNeeded_205 tT ?_
          rw [w32e (z := (done.length : Int) + 1) (by omega) (by omega), show (done.length : Int) + 1 = ((done ++ [f]).length : Nat) by simp]
          refine ih (done ++ [f]) (fun x => if x = f then v else G x) (a1 ||| x1) (a2 ||| x2) g3 (by rw [List.append_assoc]; exact e) (by rw [eg3]; exact fSo_T (fSo_T f2 (by omega)) (by omega)) (fun j hj => ?_) (by rw [eg3, upr (by omega), upr (by omega)]; exact e112) hG2 G2l ?_ (fun x hx => by rw [eg3, upr (by omega), upr (by omega)]; exact e122 x hx) ?_ ?_ (by rw [ex1]; exact accK_step c1 nd hv) (by rw [ex2]; exact accK_step c2 nd hv)
          · rw [eg3, am_up_ne (by omega), am_up_ne (by omega), ej2 j (by omega), ej j hj]
          · rw [eN]; simp only [ndA]; rw [eg]
          · rw [eg3, am_up_ne (by omega), am_up_at]
          · rw [eg3, am_up_at]
        have t18 : g2 T 18 = (a1 : Nat) := by rw [ej2 18 (by omega)]; exact e18
        have t19 : g2 T 19 = (a2 : Nat) := by rw [ej2 19 (by omega)]; exact e19
        have nf : g2 (T + 12) f = (v : Nat) := by rw [e122 f f8, if_pos rfl]
        have kf := (s2.2 f f8).1
        have a1l := c1.1
        have a2l := c2.1
        have at172 : ∀ x1 : Nat, x1 = (if kdf tx f = 1 then v else 0) → wf (d + 1) M_X5_gatherNeeded Q 172 [some (.inr (.inr T)), some (.inl (done.length : Int)), some (.inl (f : Int)), none] [.inl (x1 : Int), .inl (a1 : Int), .inr (.inr T)] g2 := by
          intro x1 ex1
          have x1l : x1 < 256 := by rw [ex1]; split <;> omega
          refine B_X5_gatherNeeded_172 tT ⟨by omega, by omega, fun z => B_X5_gatherNeeded_201 tT ?_, fun z => B_X5_gatherNeeded_201 tT ?_⟩
          · rw [kf] at z
            rw [t19, ior_n (by omega) (by omega), show (0 : Int) = ((0 : Nat) : Int) from rfl, ior_n (by omega) (by omega)]
            exact last x1 0 _ ex1 (by rw [if_neg z]) rfl
          · rw [kf] at z
            rw [t19, nf, ior_n (by omega) (by omega), ior_n (by omega) (by omega)]
            exact last x1 v _ ex1 (by rw [if_pos z]) rfl
        refine B_X5_gatherNeeded_103 tT ⟨fun _ => ⟨by omega, by omega, fun z => ?_, fun z => ?_⟩, fun y => by omega⟩
        · rw [kf] at z
          rw [t18]
          exact at172 0 (by rw [if_neg z])
        · rw [kf] at z
          rw [t18, nf]
          exact at172 v (by rw [if_pos z])
      | succ m ihm =>
        intro y v g2 hy hv ev f2 ej2 e112 e122
        have s2 := srt_f s f2
        have nf : g2 (T + 12) f = (v : Nat) := by rw [e122 f f8, if_pos rfl]
        have step : ∀ (x : Nat), x < 256 → v ||| x = v ||| (if (hgu tx f).testBit y = true then G y else 0) → wf (d + 1) M_X5_gatherNeeded Q 139 [some (.inr (.inr T)), some (.inl (done.length : Int)), some (.inl (f : Int)), some (.inl (y : Int))] [.inl (x : Int), .inl (v : Int), .inl (f : Int), .inr (.inr (T + 12))] g2 := by
          intro x hx ex
          refine B_X5_gatherNeeded_139 tT ⟨by omega, by omega, ?_⟩
          rw [ior_n (by omega) (by omega), w32e (z := (y : Int) + 1) (by omega) (by omega), show (y : Int) + 1 = ((y + 1 : Nat) : Int) by omega]
          refine ihm (y + 1) (v ||| x) _ (by omega) (Nat.or_lt_two_pow (n := 8) hv hx) ?_ (fSo_R f2 (Or.inr rfl)) (fun j hj => by rw [am_up_ne (by omega)]; exact ej2 j hj) (by rw [upr (by omega)]; exact e112) (fun z hz => ?_)
          · rw [ex, ev]
            simp only [orN]
            rw [Nat.or_assoc]
          · by_cases c : z = f
            · subst c; rw [am_up_at, if_pos rfl]
            · rw [am_up_ne (by omega), e122 z hz, if_neg c, if_neg c]
        refine B_X5_gatherNeeded_103 tT ⟨fun y => by omega, fun _ => ⟨by omega, by omega, ?_⟩⟩
        rw [(s2.2 f f8).2, nf]
        refine c_X6_hasBit (by omega) (by omega) (fun b => ⟨fun y => absurd y (by omega), fun _ => ⟨by omega, ?_⟩⟩) (fun b => ⟨fun _ => ?_, fun y => absurd rfl y⟩)
        · rw [e122 y (by omega)]
          refine step _ (by split; exact hv; exact hGl y) ?_
          rw [if_pos b]
          by_cases c : y = f
          · rw [if_pos c, c, hG.1 f nd]; simp
          · rw [if_neg c]
        · refine step 0 (by omega) ?_
          rw [if_neg (by simp [b])]
    refine inner 8 0 (2 ^ f) _ (by omega) ?_ (by simp [orN]) (fSo_R fg (Or.inr rfl)) (fun j hj => am_up_ne (by omega)) (by rw [upr (by omega)]; exact e11) (fun x hx => ?_)
    · exact Nat.pow_lt_pow_right (a := 2) (m := f) (n := 8) (by decide) (by omega)
    · by_cases c : x = f
      · subst c; rw [am_up_at, if_pos rfl]
      · rw [am_up_ne (by omega), e12 x hx, if_neg c]
end SORT
