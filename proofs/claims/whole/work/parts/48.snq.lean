theorem pa_gen {sav : Bool} {m0 : St} {step : Int32 × St → Option ((Int32 × St) ⊕ ((Int32 × St) ⊕ St))} (R B N : Nat) (hN : N ≤ 80) (hB : B + N ≤ 119) (hl : ∀ i, i < N → lr (B + i) = R ∧ lc (B + i) = i)
    (hs : ∀ i t, step (nI i, t) = if nI N ≤ nI i then some (.inr (.inl (nI i, t))) else gd (inb (nI i) N) (bd (f_X2_passes t (t R (nI i).toNatClampNeg)) (fun r1 => gd (inb (nI i) N) (some (.inl ((nI i + 1), (ua r1.2 R (upd (r1.2 R) (nI i).toNatClampNeg r1.1))))))))
    {s : St} (h : PS sav m0 s B) : ∃ s', bl (loopN step FU (0, s)) (fun t => some t) (fun s2 => some s2.2) = some s' ∧ PS sav m0 s' (B + N) := by
  have h := loop_at (step := step) (fun i st => ∃ t, st = (nI i, t) ∧ PS sav m0 t (B + i)) (fun x => ∃ y t, x = .inl (y, t) ∧ PS sav m0 t (B + N)) N (s := (0, s)) (by omega) ⟨s, rfl, h⟩ (by
    rintro i _ hi ⟨t, rfl, hp⟩
    rw [hs i t]
    by_cases h : i < N
    · refine Or.inl ⟨h, ?_⟩
      have q1 : ¬ nI N ≤ nI i := fun e => by have := (n_le (by omega) (by omega)).mp e; omega
      obtain ⟨t2, g1, g2⟩ := pass_s hp (by omega)
      rw [(hl i h).1, (hl i h).2] at g1 g2
      rw [if_neg q1, gd_t (inb_t h (by omega)), n_ix (by omega), g1, bd_s, gd_t (inb_t h (by omega)), nI_1]
      exact ⟨_, rfl, _, rfl, g2⟩
    · have q1 : nI N ≤ nI i := (n_le (by omega) (by omega)).mpr (by omega)
      have e : i = N := by omega
      subst e
      rw [if_pos q1]
      exact Or.inr ⟨_, rfl, _, _, rfl, hp⟩)
  obtain ⟨x, h5, y, t, h6, h7⟩ := h
  exact ⟨t, by rw [h5, h6]; rfl, h7⟩
theorem us_ua (s : St) (j : Nat) (x : Int32) : us s j x = ua s 0 (upd (s 0) j x) := by
  funext a b
  rw [us_at, at2]
theorem l_1 : ∀ i, i < 8 → lr (3 + i) = 1 ∧ lc (3 + i) = i := by decide
theorem l_2 : ∀ i, i < 8 → lr (11 + i) = 2 ∧ lc (11 + i) = i := by decide
theorem l_4 : ∀ i, i < 20 → lr (19 + i) = 4 ∧ lc (19 + i) = i := by decide
theorem l_5 : ∀ i, i < 80 → lr (39 + i) = 5 ∧ lc (39 + i) = i := by decide +kernel
theorem passState_e (sav : Bool) (m : St) : ∃ s, f_X2_passState m (if sav = true then 1 else 0) = some (s 0 3, s) ∧ PS sav m s 119 := by
  have hp0 : okB (if sav = true then 1 else 0) = true := okB_b sav
  have h0 : PS sav m (us (us (us m 0 0) 20 (if sav = true then 1 else 0)) 18 0) 0 := by
    refine ⟨?_, ?_, ?_, fun j hj => ?_, fun i hi => ?_, fun c hc => ?_⟩
    · rw [us_at, if_pos ⟨rfl, rfl⟩]
      rfl
    · rw [us_at, us_at, if_neg (by omega), if_pos ⟨rfl, rfl⟩]
    · rw [us_at, us_at, us_at, if_neg (by omega), if_neg (by omega), if_pos ⟨rfl, rfl⟩]
    · rw [us_at, us_at, us_at, if_neg (by omega), if_neg (by omega), if_neg (by omega)]
    · rw [us_r _ _ _ (by omega), us_r _ _ _ (by omega), us_r _ _ _ (by omega)]
    · have lf := l_facts c
      rw [if_neg (Nat.not_lt_zero _), if_neg (Nat.not_lt_zero _)]
      constructor
      · rw [us_at, us_at, us_at, if_neg (by omega), if_neg (by omega), if_neg (by omega)]
      · rw [us_at, us_at, us_at, if_neg (by omega), if_neg (by omega), if_neg (by omega)]
  unfold f_X2_passState
  rw [gd_t hp0]
  obtain ⟨s1, a1, b1⟩ := pass_s h0 (by decide)
  rw [show lr 0 = 0 from rfl, show lc 0 = 3 from rfl] at a1 b1
  rw [a1, bd_s]
  rw [← us_ua] at b1
  obtain ⟨s2, a2, b2⟩ := pass_s b1 (by decide)
  rw [show lr (0 + 1) = 0 from rfl, show lc (0 + 1) = 6 from rfl] at a2 b2
  rw [← us_ua] at b2
  rw [a2, bd_s]
  obtain ⟨s3, a3, b3⟩ := pass_s b2 (by decide)
  rw [show lr (0 + 1 + 1) = 0 from rfl, show lc (0 + 1 + 1) = 7 from rfl] at a3 b3
  rw [← us_ua] at b3
  rw [a3, bd_s]
  obtain ⟨s4, a4, b4⟩ := pa_gen (step := f_X2_passAll_1_s2) 1 3 8 (by decide) (by decide) l_1 (fun _ _ => rfl) b3
  obtain ⟨s5, a5, b5⟩ := pa_gen (step := f_X2_passAll_2_s2) 2 11 8 (by decide) (by decide) l_2 (fun _ _ => rfl) b4
  obtain ⟨s6, a6, b6⟩ := pa_gen (step := f_X2_passAll_4_s2) 4 19 20 (by decide) (by decide) l_4 (fun _ _ => rfl) b5
  obtain ⟨s7, a7, b7⟩ := pa_gen (step := f_X2_passAll_5_s2) 5 39 80 (by decide) (by decide) l_5 (fun _ _ => rfl) b6
  unfold f_X2_passAll_1 f_X2_passAll_2 f_X2_passAll_4 f_X2_passAll_5
  rw [a4, bd_s, a5, bd_s, a6, bd_s, a7, bd_s]
  exact ⟨s7, rfl, b7⟩
