/-! ===== how many solutions ===== -/
theorem ct_end {f : Nat → Bool} {M N : Nat} (h : M ≤ N) (hf : ∀ a, M ≤ a → f a = false) : fb_ct f N = fb_ct f M := by
  obtain ⟨d, rfl⟩ : ∃ d, N = M + d := ⟨N - M, by omega⟩
  have h0 : fb_ct (fun k => f (M + k)) d = 0 := fb_ct_zero.mpr (fun k _ => hf (M + k) (by omega))
  rw [fb_ct_split, h0]
  rfl
theorem ct64 {f : Nat → Bool} {X i : Nat} (h : Wd X (fun b => f (64 * i + b))) : fb_ct f (64 * i) + fb_ct (tb X) 64 = fb_ct f (64 * (i + 1)) := by
  rw [show 64 * (i + 1) = 64 * i + 64 by omega, fb_ct_split]
  congr 1
  exact fb_ct_cong h.2
theorem ps_out {A : Ab} {a : Nat} (h : 2 ^ aV A ≤ a) : ps A a = false := by
  cases hb : ps A a
  · rfl
  · have := ps_lt hb
    omega
noncomputable def nS (A : Ab) : Nat := fb_ct (ps A) (2 ^ aV A)
theorem nS_w {A : Ab} (oA : okA A) : fb_ct (ps A) (64 * wc (aV A)) = nS A := by
  have hV := oA.2.2.2.1
  exact ct_end (wc_f (aV A) (by omega)).2.2.1 (fun a h => ps_out h)
theorem nS_le {A : Ab} (oA : okA A) : nS A ≤ 1024 := Nat.le_trans (fb_ct_le _ _) (pv_e oA).1
theorem cs1 {v : St} {A : Ab} (oA : okA A) (hv : RV v A) : f_X0_countSolutions v = some (nI (nS A)) := by
  have hV := oA.2.2.2.1
  obtain ⟨w1, w2, w3, w4, w5⟩ := wc_f (aV A) (by omega)
  have h := loop_at (step := f_X0_countSolutions_s4 v) (fun i s => s = (nI (fb_ct (ps A) (64 * i)), nI i)) (fun r => r = .inl (nI (fb_ct (ps A) (64 * wc (aV A))), nI (wc (aV A)))) (wc (aV A)) (s := (0, 0)) (by omega) rfl (by
    rintro i _ hi rfl
    unfold f_X0_countSolutions_s4
    rw [wc_e oA hv, bd_s]
    by_cases h : i < wc (aV A)
    · have q : ¬ nI (wc (aV A)) ≤ nI i := fun e => by have := (n_le (by omega) (by omega)).mp e; omega
      obtain ⟨X, x1, x2⟩ := si_0 oA hv h
      refine Or.inl ⟨h, _, ?_, rfl⟩
      simp only [q, if_false, x1, bd_s, bc64 x2.1, lt_e, nI_add, nI_1, ct64 x2]
    · have e2 : i = wc (aV A) := by omega
      subst e2
      refine Or.inr ⟨_, ?_, rfl⟩
      have q : nI (wc (aV A)) ≤ nI (wc (aV A)) := (n_le (by omega) (by omega)).mpr (Nat.le_refl _)
      simp only [q, if_true])
  obtain ⟨r, h1, h2⟩ := h
  unfold f_X0_countSolutions
  rw [h1, h2, nS_w oA]
  rfl
theorem cs2 {m : St} {A : Ab} (oA : okA A) (hm : RM m A) : f_X2_solutions m = some (nI (nS A)) := by
  have hV := oA.2.2.2.1
  have hp := pv_e oA
  have e2 : jshl 1 (m 0 6) = nI (2 ^ aV A) := by rw [hm.2.2.1, n_sh1 (by omega)]
  have h := loop_at (step := f_X2_solutions_s4 m) (fun i s => s = (nI (fb_ct (ps A) i), nI i)) (fun r => r = .inl (nI (fb_ct (ps A) (2 ^ aV A)), nI (2 ^ aV A))) (2 ^ aV A) (s := (0, 0)) (by omega) rfl (by
    rintro i _ hi rfl
    unfold f_X2_solutions_s4
    rw [e2]
    by_cases h : i < 2 ^ aV A
    · have q : ¬ nI (2 ^ aV A) ≤ nI i := fun e => by have := (n_le (by omega) (by omega)).mp e; omega
      refine Or.inl ⟨h, _, ?_, rfl⟩
      simp only [q, if_false, sol_e oA hm (show i < 1024 by omega), bd_s, lt_e, n_a0, nI_1, fb_ct_succ, ps_in h]
      cases sol A i <;> rfl
    · have e2 : i = 2 ^ aV A := by omega
      subst e2
      refine Or.inr ⟨_, ?_, rfl⟩
      have q : nI (2 ^ aV A) ≤ nI (2 ^ aV A) := (n_le (by omega) (by omega)).mpr (Nat.le_refl _)
      simp only [q, if_true])
  obtain ⟨r, h1, h2⟩ := h
  unfold f_X2_solutions
  rw [h1, h2]
  rfl
theorem solutionCount_j {u v w m : St} (hI : Inv u v w m) : ∃ b m', f_X1_solutionCount u v w = some b ∧ f_X2_solutionCount m = some (b, m') ∧ m' 0 0 = 0 ∧ Inv u v w m' := by
  obtain ⟨A, oA, hv, hm⟩ := hI.1
  unfold f_X1_solutionCount f_X2_solutionCount
  rw [cs1 oA hv, cs2 oA (RM_us hm 0)]
  exact ⟨_, us m 0 0, rfl, rfl, rfl, hI⟩
/-! ===== the lowest bit, and the bit with a number ===== -/
theorem low_bit : ∀ R, R ≠ 0 → ∃ l, tb R l = true ∧ (∀ k, k < l → tb R k = false) ∧ ∀ k, tb (R - 1) k = if k < l then true else if k = l then false else tb R k := by
  intro R
  induction R using Nat.strongRecOn with
  | _ R ih =>
    intro h
    by_cases ho : R % 2 = 1
    · refine ⟨0, ?_, fun k hk => absurd hk (Nat.not_lt_zero _), fun k => ?_⟩
      · unfold tb
        rw [Nat.testBit_zero]
        exact decide_eq_true ho
      · cases k with
        | zero =>
          unfold tb
          rw [Nat.testBit_zero]
          exact decide_eq_false (by omega)
        | succ k =>
          unfold tb
          rw [Nat.testBit_succ, Nat.testBit_succ, show (R - 1) / 2 = R / 2 by omega]
          simp
    · obtain ⟨l, h1, h2, h3⟩ := ih (R / 2) (by omega) (by omega)
      refine ⟨l + 1, ?_, ?_, ?_⟩
      · unfold tb
        rw [Nat.testBit_succ]
        exact h1
      · intro k hk
        cases k with
        | zero =>
          unfold tb
          rw [Nat.testBit_zero]
          exact decide_eq_false ho
        | succ k =>
          unfold tb
          rw [Nat.testBit_succ]
          exact h2 k (by omega)
      · intro k
        cases k with
        | zero =>
          unfold tb
          rw [Nat.testBit_zero, if_pos (by omega)]
          exact decide_eq_true (by omega)
        | succ k =>
          have h4 := h3 k
          unfold tb at h4 ⊢
          rw [Nat.testBit_succ, Nat.testBit_succ, show (R - 1) / 2 = R / 2 - 1 by omega, h4]
          by_cases g1 : k < l
          · have g3 : k + 1 < l + 1 := by omega
            rw [if_pos g1, if_pos g3]
          · have g3 : ¬ k + 1 < l + 1 := by omega
            rw [if_neg g1, if_neg g3]
            by_cases g2 : k = l
            · have g4 : k + 1 = l + 1 := by omega
              rw [if_pos g2, if_pos g4]
            · have g4 : ¬ k + 1 = l + 1 := by omega
              rw [if_neg g2, if_neg g4]
theorem l_neg {R : Nat} (h : R ≤ 18446744073709551616) : -lN R = lN (18446744073709551616 - R) := by
  rw [← Int64.zero_sub, show (0 : Int64) = lN 18446744073709551616 by decide +kernel, l_sub h]
theorem low_and {R l : Nat} (hR : R < 18446744073709551616) (h0 : R ≠ 0) (h1 : tb R l = true) (h3 : ∀ k, tb (R - 1) k = if k < l then true else if k = l then false else tb R k) (h2 : ∀ k, k < l → tb R k = false) : R &&& (18446744073709551616 - R) = 2 ^ l := by
  apply tb_ext
  intro k
  have e : tb (18446744073709551616 - R) k = (decide (k < 64) && !tb (R - 1) k) := by
    have := Nat.testBit_two_pow_sub_succ (x := R - 1) (n := 64) (by omega) k
    rw [show R - 1 + 1 = R by omega] at this
    exact this
  rw [tb_and, e, h3 k, tb_pow]
  by_cases g1 : k < l
  · have g5 : ¬ l = k := by omega
    rw [h2 k g1, decide_eq_false g5]
    rfl
  · by_cases g2 : k = l
    · subst g2
      have : k < 64 := tb_in (n := 64) hR h1
      simp [this, h1]
    · have g5 : ¬ l = k := fun e => g2 e.symm
      rw [if_neg g1, if_neg g2, decide_eq_false g5]
      cases tb R k <;> simp
theorem ct_mask {l n : Nat} (h : l ≤ n) : fb_ct (tb (2 ^ l - 1)) n = l := by
  rw [ct_end h (fun a ha => by rw [tb_mask]; exact decide_eq_false (by omega))]
  exact fb_ct_all.mpr (fun k hk => by rw [tb_mask]; exact decide_eq_true hk)
theorem rest_low {X R i l : Nat} (hR : ∀ k, tb R k = true ↔ tb X k = true ∧ i ≤ fb_ct (tb X) k) (h1 : tb R l = true) (h2 : ∀ k, k < l → tb R k = false) : tb X l = true ∧ fb_ct (tb X) l = i := by
  obtain ⟨g1, g2⟩ := (hR l).mp h1
  refine ⟨g1, ?_⟩
  refine Classical.byContradiction (fun hn => ?_)
  obtain ⟨j, j1, j2, j3⟩ := fb_ct_kth (p := tb X) (k := i) (n := l) (by omega)
  have := (hR j).mpr ⟨j2, by omega⟩
  rw [h2 j j1] at this
  cases this
theorem pob_e {X a : Nat} (hX : X < 18446744073709551616) (ha : a < fb_ct (tb X) 64) : ∃ l, Kth (tb X) 64 a l ∧ f_X0_placeOfBit (lN X) (nI a) = some (nI l) := by
  have ha64 : a < 64 := Nat.lt_of_lt_of_le ha (fb_ct_le _ _)
  obtain ⟨t, t1, t2, t3⟩ := fb_ct_kth ha
  have h := loop_at (step := f_X0_placeOfBit_s5 (nI a)) (fun i s => ∃ R, s = (lN R, nI i) ∧ R < 18446744073709551616 ∧ ∀ k, tb R k = true ↔ tb X k = true ∧ i ≤ fb_ct (tb X) k) (fun r => ∃ R, r = .inl (lN R, nI a) ∧ R < 18446744073709551616 ∧ ∀ k, tb R k = true ↔ tb X k = true ∧ a ≤ fb_ct (tb X) k) a (s := (lN X, 0)) (by omega) ⟨X, rfl, hX, fun k => ⟨fun h => ⟨h, Nat.zero_le _⟩, fun h => h.1⟩⟩ (by
    rintro i _ hi ⟨R, rfl, y1, y2⟩
    unfold f_X0_placeOfBit_s5
    by_cases h : i < a
    · have q : ¬ nI a ≤ nI i := fun e => by have := (n_le (by omega) (by omega)).mp e; omega
      have hR0 : R ≠ 0 := fun e => by
        have := (y2 t).mpr ⟨t2, by omega⟩
        rw [e, tb_0] at this
        cases this
      obtain ⟨l, l1, l2, l3⟩ := low_bit R hR0
      obtain ⟨g1, g2⟩ := rest_low y2 l1 l2
      refine Or.inl ⟨h, (lN (R &&& (R - 1)), nI (i + 1)), ?_, R &&& (R - 1), rfl, Nat.lt_of_le_of_lt Nat.and_le_left y1, fun k => ?_⟩
      · rw [if_neg q, lt_e, show (1 : Int64) = lN 1 from rfl, l_sub (by omega), l_and, nI_1]
      · rw [tb_and, Bool.and_eq_true, l3 k, y2 k]
        constructor
        · rintro ⟨⟨k1, k2⟩, k3⟩
          refine ⟨k1, ?_⟩
          by_cases e : fb_ct (tb X) k = i
          · have ek := fb_ct_kth_one k1 g1 (e.trans g2.symm)
            subst ek
            simp at k3
          · omega
        · rintro ⟨k1, k2⟩
          refine ⟨⟨k1, by omega⟩, ?_⟩
          have e1 : ¬ k < l := fun e => by have := fb_ct_mono (tb X) (show k ≤ l by omega); omega
          have e2 : ¬ k = l := fun e => by rw [e] at k2; omega
          rw [if_neg e1, if_neg e2]
          exact (y2 k).mpr ⟨k1, by omega⟩
    · have e2 : i = a := by omega
      subst e2
      refine Or.inr ⟨_, ?_, R, rfl, y1, y2⟩
      have q : nI i ≤ nI i := (n_le (by omega) (by omega)).mpr (Nat.le_refl _)
      simp only [q, if_true])
  obtain ⟨r, h1, R, rfl, y1, y2⟩ := h
  have hR0 : R ≠ 0 := fun e => by
    have := (y2 t).mpr ⟨t2, by omega⟩
    rw [e, tb_0] at this
    cases this
  obtain ⟨l, l1, l2, l3⟩ := low_bit R hR0
  obtain ⟨g1, g2⟩ := rest_low y2 l1 l2
  have hl : l < 64 := tb_in (n := 64) y1 l1
  have hp : 2 ^ l ≤ 2 ^ 63 := Nat.pow_le_pow_right (by decide) (by omega)
  have hp1 := Nat.two_pow_pos l
  refine ⟨l, ⟨hl, g1, g2⟩, ?_⟩
  unfold f_X0_placeOfBit
  rw [h1, bl_l, l_neg (Nat.le_of_lt y1), l_and, low_and y1 hR0 l1 l3 l2, show (1 : Int64) = lN 1 from rfl, l_sub hp1, bc64 (by omega), ct_mask (by omega)]
  rfl
