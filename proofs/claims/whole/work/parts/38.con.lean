/-! ===== counts of tuples ===== -/
theorem ct_false : ∀ n, fb_ct (fun _ => false) n = 0
  | 0 => rfl
  | n + 1 => by rw [fb_ct_succ, ct_false n]; rfl
theorem ct_16 {x : Nat} (hx : x < 65536) : fb_ct (tb x) 32 = fb_ct (tb x) 16 := by
  have h : fb_ct (fun k => tb x (16 + k)) 16 = 0 := by
    rw [fb_ct_cong (q := fun _ => false) (fun k _ => tb_lt (n := 16) hx (by omega)), ct_false]
  rw [show (32 : Nat) = 16 + 16 from rfl, fb_ct_split, h, Nat.add_zero]
theorem bits_e {x : Nat} (hx : x < 65536) : f_X2_bits (nI x) = some (nI (fb_ct (tb x) 16)) := by
  unfold f_X2_bits
  have h := loop_at (step := f_X2_bits_s4 (nI x)) (fun i s => s = (nI (fb_ct (tb x) i), nI i)) (fun r => r = .inl (nI (fb_ct (tb x) 16), nI 16)) 16 (s := (0, 0)) (by decide) rfl (by
    rintro i _ hi rfl
    unfold f_X2_bits_s4
    by_cases h : i < 16
    · refine Or.inl ⟨h, _, ?_, rfl⟩
      have q2 : ¬ (16 : Int32) ≤ nI i := fun e => by have := (n_le (by decide : 16 < 2147483648) (by omega)).mp e; omega
      simp only [q2, if_false, lt_e, n_bits (show i < 32 by omega) (show x < 2147483648 by omega), n_add, nI_1]
      rfl
    · have e : i = 16 := by omega
      subst e
      exact Or.inr ⟨_, rfl, rfl⟩)
  obtain ⟨r, h1, h2⟩ := h
  rw [h1, h2]
  rfl
theorem tupleCount_j {u v w m : St} (hI : Inv u v w m) (p : Int32) : JP [eIO] u v w (f_X1_tupleCount u v w p) (f_X2_tupleCount m p) := by
  obtain ⟨A, oA, hv, hm⟩ := hI.1
  unfold f_X1_tupleCount f_X2_tupleCount
  rcases relc (u := u) (w := w) oA hv hm p with ⟨h1, h2⟩ | ⟨r, hr, rfl, h1, h2⟩
  · simp only [h1, h2, bz_r, bd_s, us_s, nle10, if_true, if_false]
    exact JP_fail hI 0 (by decide) rfl rfl
  · have hr8 : r < 8 := Nat.lt_of_lt_of_le hr oA.1
    have ha := aT_lt oA hr
    have e2 : us m 0 0 2 = m 2 := us_r m 0 0 (by decide)
    simp only [h1, h2, bz_l, bd_s, us_s, le00, e10, if_true, if_false, gd_t (inb_t hr8 (by decide : 8 < 2147483648)), n_ix (show r < 2147483648 by omega), e2, (hv.2.1 r hr).2, (hm.2.1 r hr).2, bits_e ha, bc32 (show aT A r < 4294967296 by omega), ct_16 ha]
    exact JP_ok hI rfl rfl
/-! ===== variables and constraints ===== -/
theorem btw {lo hi : Nat} (h : lo ≤ hi) (hh : hi < 2147483648) (p : Int32) : ((p < nI lo ∨ (¬ p < nI lo ∧ ¬ p ≤ nI hi)) ∧ f_X2_isBetween p (nI lo) (nI hi) = some 0) ∨ ∃ a, lo ≤ a ∧ a ≤ hi ∧ p = nI a ∧ ¬ p < nI lo ∧ p ≤ nI hi ∧ f_X2_isBetween p (nI lo) (nI hi) = some 1 := by
  unfold f_X2_isBetween
  by_cases h0 : p < nI lo
  · rw [if_pos h0]
    exact Or.inl ⟨Or.inl h0, rfl⟩
  · rw [if_neg h0]
    rcases nn p with h1 | ⟨a, ha, rfl⟩
    · exact absurd (n_neg0 h1 (a := lo) (by omega)).1 h0
    · have h2 : lo ≤ a := by
        have h9 : ¬ a < lo := fun e => h0 ((n_lt ha (by omega)).mpr e)
        omega
      by_cases h3 : a ≤ hi
      · rw [if_neg (fun e => by have := (n_lt hh ha).mp e; omega)]
        exact Or.inr ⟨a, h2, h3, rfl, h0, (n_le ha hh).mpr h3, rfl⟩
      · rw [if_pos ((n_lt hh ha).mpr (by omega))]
        exact Or.inl ⟨Or.inr ⟨h0, fun e => h3 ((n_le ha hh).mp e)⟩, rfl⟩
theorem setVariables_j {u v w m : St} (hI : Inv u v w m) (p : Int32) : J [eIA] u w (f_X1_setVariables u v w p) (f_X2_setVariables m p) := by
  obtain ⟨A, oA, hv, hm⟩ := hI.1
  unfold f_X1_setVariables f_X2_setVariables
  have hb := btw (lo := 1) (hi := 10) (by decide) (by decide) p
  rw [show nI 1 = 1 from rfl, show nI 10 = 10 from rfl] at hb
  rcases hb with ⟨h1, h2⟩ | ⟨a, a1, a2, rfl, h1, h2, h3⟩
  · rcases h1 with h1 | ⟨h1, h3⟩
    · simp only [h1, h2, bd_s, if_true]
      exact J_fail hI 0 (by decide) rfl rfl
    · simp only [h1, h2, h3, bd_s, if_true, if_false]
      exact J_fail hI 0 (by decide) rfl rfl
  · have e7 : us m 0 0 0 7 = m 0 7 := us_o m 0 (by decide)
    simp only [h1, h2, h3, bd_s, e10, if_true, if_false, lt_e, e7, hv.2.2.2.1, hm.2.2.2.1]
    refine J_ok rfl rfl rfl ⟨⟨(aN A, aR A, aT A, a, 0, aQ A, aW A), ?_, ?_, ?_⟩, hI.2⟩
    · exact ⟨oA.1, oA.2.1, a1, a2, Nat.zero_le _, fun r h => absurd h (Nat.not_lt_zero _)⟩
    · exact ⟨hv.1, hv.2.1, rfl, rfl, fun r h => absurd h (Nat.not_lt_zero _)⟩
    · exact ⟨hm.1, hm.2.1, rfl, rfl, fun r h => absurd h (Nat.not_lt_zero _)⟩
theorem removeLastConstraint_j {u v w m : St} (hI : Inv u v w m) : J [eIS] u w (f_X1_removeLastConstraint u v w) (f_X2_removeLastConstraint m) := by
  obtain ⟨A, oA, hv, hm⟩ := hI.1
  unfold f_X1_removeLastConstraint f_X2_removeLastConstraint
  have e7 : us m 0 0 0 7 = m 0 7 := us_o m 0 (by decide)
  have hC := oA.2.2.2.2.1
  rw [e7, hv.2.2.2.1, hm.2.2.2.1]
  by_cases h0 : aC A = 0
  · rw [h0]
    exact J_fail hI 0 (by decide) rfl rfl
  · have q1 : (0 : Int32) < nI (aC A) := (n_lt (by decide : 0 < 2147483648) (by omega)).mpr (by omega)
    have q2 : ¬ nI (aC A) = 0 := fun e => h0 (n_inj (by omega) (by decide : 0 < 4294967296) e)
    rw [if_pos q1, if_neg q2, n_1, n_sub (show 1 ≤ aC A by omega)]
    refine J_ok rfl rfl rfl ⟨⟨(aN A, aR A, aT A, aV A, aC A - 1, aQ A, aW A), ?_, ?_, ?_⟩, hI.2⟩
    · exact ⟨oA.1, oA.2.1, oA.2.2.1, oA.2.2.2.1, Nat.le_trans (Nat.sub_le _ _) hC, fun c hc => oA.2.2.2.2.2 c (Nat.lt_of_lt_of_le hc (Nat.sub_le _ _))⟩
    · exact ⟨hv.1, hv.2.1, hv.2.2.1, rfl, fun c hc => hv.2.2.2.2 c (Nat.lt_of_lt_of_le hc (Nat.sub_le _ _))⟩
    · exact ⟨hm.1, hm.2.1, hm.2.2.1, rfl, fun c hc => hm.2.2.2.2 c (Nat.lt_of_lt_of_le hc (Nat.sub_le _ _))⟩
theorem errorPosition_j {u v w m : St} (hI : Inv u v w m) : JP [eIS] u v w (f_X1_errorPosition u v w) (f_X2_errorPosition m) := by
  have hE := hI.2.2.2.1
  have e12 : us m 0 0 0 12 = m 0 12 := us_o m 0 (by decide)
  unfold f_X1_errorPosition f_X2_errorPosition
  rcases hE with ⟨h1, h2⟩ | ⟨k, hk, h1, h2⟩
  · rw [e12, h1, h2]
    exact JP_fail hI 0 (by decide) rfl rfl
  · have q1 : ¬ nI k = (-1) := fun e => by
      rw [n_m1] at e
      have := n_inj (by omega) (by decide) e
      omega
    have q2 : (0 : Int32) ≤ nI k := (n_le (by decide : 0 < 2147483648) (by omega)).mpr (by omega)
    rw [e12, h1, h2, if_neg q1, if_pos q2]
    exact JP_ok hI rfl rfl
theorem outputAt_j {u v w m : St} (hI : Inv u v w m) (p : Int32) : JP [eIO] u v w (f_X1_outputAt u v w p) (f_X2_outputAt m p) := by
  obtain ⟨n, hn, h1, h2, h3⟩ := hI.2.2.2.2.1
  unfold f_X1_outputAt f_X2_outputAt
  have e9 : us m 0 0 9 = m 9 := us_r m 0 0 (by decide)
  have e9' : us m 0 1 9 = m 9 := us_r m 0 1 (by decide)
  rw [h1, h2]
  by_cases hn0 : n = 0
  · have hb : f_X2_isBetween p 0 (nI n - 1) = some 0 := by
      rw [hn0]
      unfold f_X2_isBetween
      by_cases g : p < 0
      · rw [if_pos g]
      · rw [if_neg g]
        rcases nn p with g2 | ⟨a, ha, rfl⟩
        · exact absurd g2 g
        · rw [if_pos]
          have g3 : (nI 0 - 1 : Int32) < 0 := by decide
          exact (n_neg0 g3 ha).1
    have hc : p < 0 ∨ (¬ p < 0 ∧ ¬ p < nI n) := by
      by_cases g : p < 0
      · exact Or.inl g
      · exact Or.inr ⟨g, by rw [hn0]; exact g⟩
    rcases hc with g | ⟨g, g2⟩
    · simp only [hb, g, bd_s, us_s, nle10, if_true, if_false]
      exact JP_fail hI 0 (by decide) rfl rfl
    · simp only [hb, g, g2, bd_s, us_s, nle10, if_true, if_false]
      exact JP_fail hI 0 (by decide) rfl rfl
  · rcases posc (k := n) (by omega) (by omega) p with ⟨g1, g2⟩ | ⟨a, ha, rfl, g1, g2, g3⟩
    · rcases g1 with g | ⟨g, g3⟩
      · simp only [g2, g, bd_s, us_s, nle10, if_true, if_false]
        exact JP_fail hI 0 (by decide) rfl rfl
      · simp only [g2, g, g3, bd_s, us_s, nle10, if_true, if_false]
        exact JP_fail hI 0 (by decide) rfl rfl
    · obtain ⟨h4, h5⟩ := h3 a ha
      have h6 := h5
      rw [h4] at h6
      simp only [g1, g2, g3, bd_s, us_s, le00, e10, if_true, if_false, gd_t (inb_t (show a < 79 by omega) (by decide : 79 < 2147483648)), gd_t (inb_t (show a < 80 by omega) (by decide : 80 < 2147483648)), n_ix (show a < 2147483648 by omega), e9, h4, gd_t h6]
      exact JP_ok hI rfl rfl
