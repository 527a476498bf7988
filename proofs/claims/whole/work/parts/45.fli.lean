theorem ct_mod {b n : Nat} : fb_ct (tb (b % 2 ^ n)) n = fb_ct (tb b) n := fb_ct_cong fun k hk => by rw [tb_mod2]; simp [hk]
theorem ct_low {b n : Nat} (hb : b < 2 ^ n) (hn : n ≤ 16) : fb_ct (tb b) 16 = fb_ct (tb b) n := by
  have h : fb_ct (fun k => tb b (n + k)) (16 - n) = 0 := by
    rw [fb_ct_cong (q := fun _ => false) (fun k _ => tb_lt (n := n) hb (by omega)), ct_false]
  have := fb_ct_split (tb b) n (16 - n)
  rw [show n + (16 - n) = 16 by omega, h, Nat.add_zero] at this
  exact this
theorem store2 {m1 : St} {s n c T : Nat} (hs : s < 3) (hn : n ≤ 16) (hc : c < 8) (hT : T < 65536) (h2 : m1 2 c = nI T) : ∃ x g, loopN (f_X2_storeFlags_s55 (nI s) (nI n) (nI c)) FU (0, 0, m1) = some (.inl (nI (fb_ct (tb T) n), x, ua m1 15 g)) ∧ (∀ i, i < n → g (16 * s + i) = if tb T i then 1 else 0) ∧ ∀ t i, t ≠ s → i < 16 → g (16 * t + i) = m1 15 (16 * t + i) := by
  have h := loop_at (step := f_X2_storeFlags_s55 (nI s) (nI n) (nI c)) (fun i st => ∃ g, st = (nI (fb_ct (tb T) i), nI i, ua m1 15 g) ∧ (∀ j, j < i → g (16 * s + j) = if tb T j then 1 else 0) ∧ ∀ t j, t ≠ s → j < 16 → g (16 * t + j) = m1 15 (16 * t + j)) (fun x => ∃ y g, x = .inl (nI (fb_ct (tb T) n), y, ua m1 15 g) ∧ (∀ j, j < n → g (16 * s + j) = if tb T j then 1 else 0) ∧ ∀ t j, t ≠ s → j < 16 → g (16 * t + j) = m1 15 (16 * t + j)) n (s := (0, 0, m1)) (by omega) ⟨m1 15, by
      have : ua m1 15 (m1 15) = m1 := by
        funext i
        by_cases e : i = 15
        · subst e
          rw [ua_s]
        · rw [ua_o _ _ e]
      rw [this]
      rfl, (fun j hj => absurd hj (Nat.not_lt_zero _)), fun _ _ _ _ => rfl⟩ (by
    rintro i _ hi ⟨g, rfl, g1, g2⟩
    unfold f_X2_storeFlags_s55
    by_cases h : i < n
    · refine Or.inl ⟨h, ?_⟩
      have q1 : ¬ nI n ≤ nI i := fun e => by have := (n_le (by omega) (by omega)).mp e; omega
      have e2 : ua m1 15 g 2 = m1 2 := ua_o _ _ (by decide)
      have e01 : ¬ (0 : Int32) = 1 := by decide
      have ea : ∀ f, ua (ua m1 15 g) 15 f = ua m1 15 f := by
        intro f
        funext k
        by_cases e : k = 15
        · subst e
          rw [ua_s, ua_s]
        · rw [ua_o _ _ e, ua_o _ _ e, ua_o _ _ e]
      refine ⟨(nI (fb_ct (tb T) (i + 1)), nI (i + 1), ua m1 15 (upd g (16 * s + i) (if tb T i then 1 else 0))), ?_, _, rfl, fun j hj => ?_, fun t j ht hj => ?_⟩
      · simp only [q1, if_false, gd_t (inb_t hc (by decide : 8 < 2147483648)), n_ix (show c < 2147483648 by omega), e2, h2, n_bits (show i < 32 by omega) (show T < 2147483648 by omega), f_ix s hs i (by omega), gd_t (inb_t (show 16 * s + i < 48 by omega) (by decide : 48 < 2147483648)), n_ix (show 16 * s + i < 2147483648 by omega), ua_s, ea, nar_b.1, nar_b.2, e10, if_true, lt_e, nI_1, fb_ct_succ]
        cases tb T i
        · rw [if_neg (by decide)]
          show some (Sum.inl (nI (fb_ct (tb T) i) + 0, _)) = _
          rw [show (0 : Int32) = nI 0 from rfl, n_add]
          rfl
        · rw [if_pos (by decide)]
          rfl
      · by_cases e : j = i
        · subst e
          rw [upd_s]
        · rw [upd_o _ _ (by omega)]
          exact g1 j (by omega)
      · rw [upd_o _ _ (by omega)]
        exact g2 t j ht hj
    · have q1 : nI n ≤ nI i := (n_le (by omega) (by omega)).mpr (by omega)
      have e : i = n := by omega
      subst e
      refine Or.inr ⟨_, ?_, nI i, g, rfl, g1, g2⟩
      simp only [q1, if_true])
  obtain ⟨x, h5, y, g, h6, h7, h8⟩ := h
  exact ⟨y, g, by rw [h5, h6], h7, h8⟩
