theorem n_mulc : ∀ i, i < 17 → nI i * nI 64 = nI (64 * i) := by decide +kernel
/-! ===== the solution with a number ===== -/
theorem fs1 {v : St} {A : Ab} (oA : okA A) (hv : RV v A) {a : Nat} (ha : a < 2147483648) : (∃ c, Kth (ps A) (2 ^ aV A) a c ∧ f_X0_findSolution v (nI a) = some (nI c)) ∨ (nS A ≤ a ∧ f_X0_findSolution v (nI a) = some (-1)) := by
  have hV := oA.2.2.2.1
  obtain ⟨w1, w2, w3, w4, w5⟩ := wc_f (aV A) (by omega)
  have h := loop_at (step := f_X0_findSolution_s4 v (nI a)) (fun i s => s = (nI (fb_ct (ps A) (64 * i)), nI i) ∧ fb_ct (ps A) (64 * i) ≤ a) (fun r => (∃ c, Kth (ps A) (2 ^ aV A) a c ∧ r = .inr (nI c)) ∨ (nS A ≤ a ∧ ∃ s, r = .inl s)) (wc (aV A)) (s := (0, 0)) (by omega) ⟨rfl, Nat.zero_le _⟩ (by
    rintro i _ hi ⟨rfl, hi2⟩
    unfold f_X0_findSolution_s4
    rw [wc_e oA hv, bd_s]
    by_cases h : i < wc (aV A)
    · have q : ¬ nI (wc (aV A)) ≤ nI i := fun e => by have := (n_le (by omega) (by omega)).mp e; omega
      obtain ⟨X, x1, x2⟩ := si_0 oA hv h
      have hl := fb_ct_le (tb X) 64
      have hs := ct64 x2
      simp only [q, if_false, n_pos ha, x1, bd_s, bc64 x2.1, lt_e, nI_add, nI_1, hs, n_sub hi2]
      by_cases g : fb_ct (tb X) 64 ≤ a - fb_ct (ps A) (64 * i)
      · rw [if_pos ((n_le (by omega) (by omega)).mpr g)]
        exact Or.inl ⟨h, _, rfl, rfl, by omega⟩
      · rw [if_neg (fun e => g ((n_le (by omega) (by omega)).mp e))]
        obtain ⟨l, ⟨l1, l2, l3⟩, l4⟩ := pob_e x2.1 (show a - fb_ct (ps A) (64 * i) < fb_ct (tb X) 64 by omega)
        rw [l4, bd_s, show (64 : Int32) = nI 64 from rfl, n_mulc i (show i < 17 by omega), nI_add]
        have l5 : ps A (64 * i + l) = true := (x2.2 l l1).symm.trans l2
        refine Or.inr ⟨_, rfl, Or.inl ⟨64 * i + l, ⟨ps_lt l5, l5, ?_⟩, rfl⟩⟩
        rw [fb_ct_split, fb_ct_cong (q := tb X) (n := l) (fun k hk => (x2.2 k (by omega)).symm), l3]
        omega
    · have e2 : i = wc (aV A) := by omega
      subst e2
      have q : nI (wc (aV A)) ≤ nI (wc (aV A)) := (n_le (by omega) (by omega)).mpr (Nat.le_refl _)
      rw [if_pos q]
      rw [nS_w oA] at hi2
      exact Or.inr ⟨_, rfl, Or.inr ⟨hi2, _, rfl⟩⟩)
  obtain ⟨r, h1, h2⟩ := h
  unfold f_X0_findSolution
  rw [h1]
  rcases h2 with ⟨c, h2, rfl⟩ | ⟨h2, s, rfl⟩
  · exact Or.inl ⟨c, h2, rfl⟩
  · exact Or.inr ⟨h2, rfl⟩
theorem fs2 {m : St} {A : Ab} (oA : okA A) (hm : RM m A) {a : Nat} (ha : a < 2147483648) : (∃ c, Kth (ps A) (2 ^ aV A) a c ∧ loopN (f_X2_solution_s9 m) FU (nI a, 0) = some (.inr (nI c, m))) ∨ (nS A ≤ a ∧ ∃ s, loopN (f_X2_solution_s9 m) FU (nI a, 0) = some (.inl s)) := by
  have hV := oA.2.2.2.1
  have hp := pv_e oA
  have e2 : jshl 1 (m 0 6) = nI (2 ^ aV A) := by rw [hm.2.2.1, n_sh1 (by omega)]
  have h := loop_at (step := f_X2_solution_s9 m) (fun i st => st = (nI (a - fb_ct (ps A) i), nI i) ∧ fb_ct (ps A) i ≤ a) (fun r => (∃ c, Kth (ps A) (2 ^ aV A) a c ∧ r = .inr (nI c, m)) ∨ (nS A ≤ a ∧ ∃ s, r = .inl s)) (2 ^ aV A) (s := (nI a, 0)) (by omega) ⟨rfl, Nat.zero_le _⟩ (by
    rintro i _ hi ⟨rfl, hi2⟩
    unfold f_X2_solution_s9
    rw [e2]
    by_cases h : i < 2 ^ aV A
    · have q : ¬ nI (2 ^ aV A) ≤ nI i := fun e => by have := (n_le (by omega) (by omega)).mp e; omega
      have hl := fb_ct_le (ps A) i
      have hs := fb_ct_succ (ps A) i
      have q0 : (nI (a - fb_ct (ps A) i) = 0) = (a - fb_ct (ps A) i = 0) := propext (n_eq (b := 0) (by omega) (by decide))
      simp only [q, if_false, n_pos (show a - fb_ct (ps A) i < 2147483648 by omega), sol_e oA hm (show i < 1024 by omega), bd_s, nI_1, q0, ← ps_in h]
      cases hb : ps A i
      · rw [hb] at hs
        refine Or.inl ⟨h, _, rfl, ?_, ?_⟩
        · rw [hs]
          rfl
        · rw [hs]
          exact hi2
      · rw [hb] at hs
        simp only [if_true] at hs
        rw [if_neg (by decide)]
        by_cases g : a - fb_ct (ps A) i = 0
        · rw [if_pos g]
          exact Or.inr ⟨_, rfl, Or.inl ⟨i, ⟨h, hb, by omega⟩, rfl⟩⟩
        · rw [if_neg g, n_pr (by omega)]
          refine Or.inl ⟨h, _, rfl, ?_, by omega⟩
          rw [hs, show a - fb_ct (ps A) i - 1 = a - (fb_ct (ps A) i + 1) by omega]
    · have e2 : i = 2 ^ aV A := by omega
      subst e2
      have q : nI (2 ^ aV A) ≤ nI (2 ^ aV A) := (n_le (by omega) (by omega)).mpr (Nat.le_refl _)
      rw [if_pos q]
      exact Or.inr ⟨_, rfl, Or.inr ⟨hi2, _, rfl⟩⟩)
  obtain ⟨r, h1, h2⟩ := h
  rw [h1]
  rcases h2 with ⟨c, h2, rfl⟩ | ⟨h2, s, rfl⟩
  · exact Or.inl ⟨c, h2, rfl⟩
  · exact Or.inr ⟨h2, s, rfl⟩
theorem solution_j {u v w m : St} (hI : Inv u v w m) (q : Int32) : JP [eNS] u v w (f_X1_solution u v w q) (f_X2_solution m q) := by
  obtain ⟨A, oA, hv, hm⟩ := hI.1
  have hV := oA.2.2.2.1
  have hp := pv_e oA
  unfold f_X1_solution f_X2_solution
  rcases nn q with h | ⟨a, ha, rfl⟩
  · have l1 : f_X0_findSolution v q = some (-1) := by
      have w2 := (wc_f (aV A) (by omega)).2.1
      have w1 := (wc_f (aV A) (by omega)).1
      have hq : ¬ nI (wc (aV A)) ≤ 0 := fun e => by have := (n_le (b := 0) (by omega) (by decide)).mp e; omega
      have hst : f_X0_findSolution_s4 v q (0, 0) = some (.inr (.inl (0, 0))) := by
        unfold f_X0_findSolution_s4
        rw [wc_e oA hv, bd_s, if_neg hq, if_pos h]
      have hl : loopN (f_X0_findSolution_s4 v q) FU (0, 0) = some (.inl (0, 0)) := by
        show loopN _ (1999 + 1) _ = _
        unfold loopN
        rw [hst]
      unfold f_X0_findSolution
      rw [hl]
      rfl
    have l2 : loopN (f_X2_solution_s9 (us m 0 0)) FU (q, 0) = some (.inl (q, 0)) := by
      have e2 : jshl 1 (us m 0 0 0 6) = nI (2 ^ aV A) := by rw [(RM_us hm 0).2.2.1, n_sh1 (by omega)]
      have hq : ¬ nI (2 ^ aV A) ≤ 0 := fun e => by have := (n_le (b := 0) (by omega) (by decide)).mp e; omega
      have hst : f_X2_solution_s9 (us m 0 0) (q, 0) = some (.inr (.inl (q, 0))) := by
        unfold f_X2_solution_s9
        rw [e2, if_neg hq, if_pos h]
      show loopN _ (1999 + 1) _ = _
      unfold loopN
      rw [hst]
    rw [l1, l2, bd_s, if_neg (by decide)]
    exact JP_fail (m := us m 0 0) hI 0 (by decide) rfl rfl
  · rcases fs1 oA hv ha with ⟨c, g1, g2⟩ | ⟨g1, g2⟩
    · rcases fs2 oA (RM_us hm 0) ha with ⟨d, g3, g4⟩ | ⟨g3, t, g4⟩
      · have hc : c < 2147483648 := by have := g1.1; omega
        rw [g2, g4, bd_s, if_pos (nI_pos' hc), ← kth_one g1 g3]
        exact JP_ok hI rfl rfl
      · exact (kth_no g1 g3).elim
    · rcases fs2 oA (RM_us hm 0) ha with ⟨d, g3, g4⟩ | ⟨g3, t, g4⟩
      · exact (kth_no g3 g1).elim
      · rw [g2, g4, bd_s, if_neg (by decide)]
        exact JP_fail (m := us m 0 0) hI 0 (by decide) rfl rfl
