/-! ===== flags ===== -/
theorem slotc (p : Int32) : (f_X1_requireSlot p = some (.inr eIO) ∧ f_X2_isSlot p = some 0) ∨ ∃ s, s < 3 ∧ p = nI s ∧ f_X1_requireSlot p = some (.inl ()) ∧ f_X2_isSlot p = some 1 := by
  unfold f_X1_requireSlot f_X2_isSlot
  rcases nn p with h | ⟨a, ha, rfl⟩
  · rw [if_pos h, if_pos h]
    exact Or.inl ⟨rfl, rfl⟩
  · rw [if_neg (n_pos ha), if_neg (n_pos ha)]
    by_cases h1 : a < 3
    · have q1 : nI a < 3 := (n_lt ha (by decide : 3 < 2147483648)).mpr h1
      have q2 : ¬ (3 : Int32) ≤ nI a := fun e => by have := (n_le (by decide : 3 < 2147483648) ha).mp e; omega
      rw [if_pos q1, if_neg q2]
      exact Or.inr ⟨a, h1, rfl, rfl, rfl⟩
    · have q1 : ¬ nI a < 3 := fun e => h1 ((n_lt ha (by decide : 3 < 2147483648)).mp e)
      have q2 : (3 : Int32) ≤ nI a := (n_le (by decide : 3 < 2147483648) ha).mpr (by omega)
      rw [if_neg q1, if_pos q2]
      exact Or.inl ⟨rfl, rfl⟩
theorem f_ix : ∀ s, s < 3 → ∀ i, i < 17 → (16 : Int32) * nI s + nI i = nI (16 * s + i) := by decide +kernel
theorem flagsc {u v w : St} {s : Nat} (hs : s < 3) : (u 8 s = (-1) → f_X1_requireFlags u v w (nI s) = some (.inr eIS)) ∧ ∀ n, n ≤ 16 → u 8 s = nI n → f_X1_requireFlags u v w (nI s) = some (.inl ()) := by
  unfold f_X1_requireFlags
  rw [gd_t (inb_t hs (by decide)), n_ix (by omega)]
  refine ⟨fun h => by rw [h]; rfl, fun n hn h => ?_⟩
  have q1 : ¬ nI n = (-1) := fun e => by
    rw [n_m1] at e
    have := n_inj (by omega) (by decide) e
    omega
  rw [h, if_neg q1]
theorem nm1_0 : ¬ (0 : Int32) ≤ (-1) := by decide
theorem tb_mod2 (b i k : Nat) : tb (b % 2 ^ i) k = (decide (k < i) && tb b k) := Nat.testBit_mod_two_pow b i k
theorem mod_step (b i : Nat) : b % 2 ^ (i + 1) = b % 2 ^ i ||| (if tb b i then 2 ^ i else 0) := by
  apply tb_ext
  intro k
  rw [tb_or, tb_mod2, tb_mod2]
  by_cases e : k = i
  · subst e
    cases h : tb b k
    · simp [tb_0]
    · simp [tb_pow]
  · have h1 : tb (if tb b i = true then 2 ^ i else 0) k = false := by
      split
      · rw [tb_pow]
        simp; omega
      · exact tb_0 k
    rw [h1, Bool.or_false]
    congr 1
    rw [decide_eq_decide]
    omega
theorem take2 {u : St} {s c n b r : Nat} (hs : s < 3) (hc : c < 8) (hr : r < 5) (hn : n ≤ 16) (h1 : u 1 c = nI r) (h2 : u 16 s = nI n) (h3 : ∀ i, i < n → u 15 (16 * s + i) = if tb b i then 1 else 0) (hb : b < 2 ^ n) : ∃ x, loopN (f_X2_takeFlags_s46 u (nI s) (nI c)) FU (0, 0) = some (.inl (nI (b % 2 ^ (2 ^ r)), x)) := by
  have e := p2_e r hr
  have h := loop_at (step := f_X2_takeFlags_s46 u (nI s) (nI c)) (fun i st => st = (nI (b % 2 ^ i), nI i)) (fun x => ∃ y, x = .inl (nI (b % 2 ^ (2 ^ r)), y)) (min n (2 ^ r)) (s := (0, 0)) (by omega) (by rw [Nat.pow_zero, Nat.mod_one]; rfl) (by
    rintro i _ hi rfl
    unfold f_X2_takeFlags_s46
    simp only [gd_t (inb_t hs (by decide : 3 < 2147483648)), gd_t (inb_t hc (by decide : 8 < 2147483648)), n_ix (show s < 2147483648 by omega), n_ix (show c < 2147483648 by omega), h1, h2, n_sh1 (show r < 32 by omega)]
    by_cases g1 : i < n
    · have q1 : ¬ nI n ≤ nI i := fun e => by have := (n_le (by omega) (by omega)).mp e; omega
      rw [if_neg q1]
      by_cases g2 : i < 2 ^ r
      · have q2 : ¬ nI (2 ^ r) ≤ nI i := fun e => by have := (n_le (by omega) (by omega)).mp e; omega
        rw [if_neg q2, f_ix s hs i (by omega), gd_t (inb_t (by omega) (by decide)), n_ix (by omega), h3 i g1]
        refine Or.inl ⟨by omega, _, ?_, rfl⟩
        rw [mod_step, n_sh1 (by omega)]
        simp only [lt_e, nI_1]
        cases tb b i
        · simp
        · simp [e10, n_or]
      · have q2 : nI (2 ^ r) ≤ nI i := (n_le (by omega) (by omega)).mpr (by omega)
        have e2 : i = 2 ^ r := by omega
        rw [if_pos q2, e2]
        exact Or.inr ⟨_, rfl, _, rfl⟩
    · have q1 : nI n ≤ nI i := (n_le (by omega) (by omega)).mpr (by omega)
      have e2 : i = n := by omega
      have hle : 2 ^ n ≤ 2 ^ (2 ^ r) := Nat.pow_le_pow_right (by decide) (by omega)
      have hb2 : b < 2 ^ (2 ^ r) := Nat.lt_of_lt_of_le hb hle
      rw [if_pos q1, e2, Nat.mod_eq_of_lt hb, Nat.mod_eq_of_lt hb2]
      exact Or.inr ⟨_, rfl, _, rfl⟩)
  obtain ⟨x, h5, y, h6⟩ := h
  exact ⟨y, by rw [h5, h6]⟩
theorem takeFlags_j {u v w m : St} (hI : Inv u v w m) (p q : Int32) : J [eIO, eIS] u w (f_X1_takeFlags u v w p q) (f_X2_takeFlags m p q) := by
  obtain ⟨A, oA, hv, hm⟩ := hI.1
  have hF := hI.2.2.2.2.2
  unfold f_X1_takeFlags f_X2_takeFlags
  rcases slotc p with ⟨h1, h2⟩ | ⟨s, hs, rfl, h1, h2⟩
  · simp only [h1, h2, bz_r, bd_s, if_true]
    exact J_fail hI 0 (by decide) rfl rfl
  rcases relc (u := u) (w := w) oA hv hm q with ⟨h3, h4⟩ | ⟨r, hr, rfl, h3, h4⟩
  · simp only [h1, h2, h3, h4, e10, bz_r, bz_l, bd_s, if_true, if_false]
    exact J_fail hI 0 (by decide) rfl rfl
  have hr8 : r < 8 := Nat.lt_of_lt_of_le hr oA.1
  obtain ⟨r1, r4, r5⟩ := oA.2.1 r hr
  have fl := flagsc (u := u) (v := v) (w := w) hs
  simp only [h1, h2, h3, h4, e10, bz_l, bd_s, if_false, gd_t (inb_t hs (by decide : 3 < 2147483648)), gd_t (inb_t hr8 (by decide : 8 < 2147483648)), n_ix (show r < 2147483648 by omega), n_ix (show s < 2147483648 by omega)]
  rcases hF s hs with ⟨f1, f2⟩ | ⟨n, b, hn, hb, f1, f2, f3, f4⟩
  · rw [fl.1 f1, f2, bz_r, if_neg nm1_0]
    exact J_fail hI 1 (by decide) rfl rfl
  · have q1 : (0 : Int32) ≤ nI n := (n_le (by decide : 0 < 2147483648) (by omega)).mpr (by omega)
    have e1 := p2_e (aR A r) (by omega)
    obtain ⟨x, hx⟩ := take2 (u := us m 0 0) (s := s) (c := r) (n := n) (b := b) (r := aR A r) hs hr8 (by omega) hn (hm.2.1 r hr).1 f2 f4 hb
    have hlt : b % 2 ^ (2 ^ aR A r) < 2 ^ (2 ^ aR A r) := Nat.mod_lt _ (Nat.two_pow_pos _)
    unfold f_X1_allTuples
    rw [fl.2 n hn f1, f2, bz_l, if_pos q1, hx, bl_l, bd_s, (hv.2.1 r hr).1, all_e _ (by omega), f3, n_and, Nat.and_two_pow_sub_one_eq_mod]
    rw [show (ua v 2 (upd (v 2) r (nI (b % 2 ^ (2 ^ aR A r))))) 2 r = nI (b % 2 ^ (2 ^ aR A r)) by rw [ua_s, upd_s], bc32 (by omega), bits_e (show b % 2 ^ (2 ^ aR A r) < 65536 by omega), ct_16 (by omega)]
    exact J_ok rfl rfl rfl (Inv_set hI oA hv hm hlt)
