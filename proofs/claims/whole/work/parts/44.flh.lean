theorem nar_b : vp_nar .boolean 0 = 0 ∧ vp_nar .boolean 1 = 1 := by decide +kernel
theorem clr2 (x y : Nat) : nI x &&& (nI y ^^^ (-1)) = nI (x &&& (y ^^^ 4294967295)) := by rw [n_m1, n_xor, n_and]
/-- one slot of flags is new -/
theorem RF_set {u m : St} (hF : RF u m) {s n b : Nat} (hs : s < 3) (hn : n ≤ 16) (hb : b < 2 ^ n) {f8 f9 : Nat → Int32} {g16 g15 : Nat → Int32} (a1 : f8 s = nI n) (a2 : g16 s = nI n) (a3 : f9 s = nI b) (a4 : ∀ i, i < n → g15 (16 * s + i) = if tb b i then 1 else 0)
    (o1 : ∀ t, t ≠ s → f8 t = u 8 t) (o2 : ∀ t, t ≠ s → g16 t = m 16 t) (o3 : ∀ t, t ≠ s → f9 t = u 9 t) (o4 : ∀ t i, t ≠ s → i < 16 → g15 (16 * t + i) = m 15 (16 * t + i)) : RF (ua (ua u 8 f8) 9 f9) (ua (ua m 16 g16) 15 g15) := by
  intro t ht
  show (f8 t = (-1) ∧ g16 t = (-1)) ∨ ∃ n b, n ≤ 16 ∧ b < 2 ^ n ∧ f8 t = nI n ∧ g16 t = nI n ∧ f9 t = nI b ∧ ∀ i, i < n → g15 (16 * t + i) = if tb b i then 1 else 0
  by_cases e : t = s
  · subst e
    exact Or.inr ⟨n, b, hn, hb, a1, a2, a3, a4⟩
  · rw [o1 t e, o2 t e, o3 t e]
    rcases hF t ht with h | ⟨n, b, h1, h2, h3, h4, h5, h6⟩
    · exact Or.inl h
    · exact Or.inr ⟨n, b, h1, h2, h3, h4, h5, fun i hi => by rw [o4 t i e (by omega)]; exact h6 i hi⟩
theorem setFlag_j {u v w m : St} (hI : Inv u v w m) (p q : Int32) (d : Bool) : JU [eIO, eIS] v w (f_X1_setFlag u v w p q (if d = true then 1 else 0)) (f_X2_setFlag m p q (if d = true then 1 else 0)) := by
  have hF := hI.2.2.2.2.2
  unfold f_X1_setFlag f_X2_setFlag
  rcases slotc p with ⟨h1, h2⟩ | ⟨s, hs, rfl, h1, h2⟩
  · simp only [h1, h2, bz_r, bd_s, if_true]
    exact JU_fail hI 0 (by decide) rfl rfl
  have fl := flagsc (u := u) (v := v) (w := w) hs
  simp only [h1, h2, e10, bz_l, bd_s, if_false, gd_t (inb_t hs (by decide : 3 < 2147483648)), n_ix (show s < 2147483648 by omega)]
  rcases hF s hs with ⟨f1, f2⟩ | ⟨n, b, hn, hb, f1, f2, f3, f4⟩
  · rw [fl.1 f1, f2, bz_r, if_neg nm1_0]
    exact JU_fail hI 1 (by decide) rfl rfl
  have q1 : (0 : Int32) ≤ nI n := (n_le (by decide : 0 < 2147483648) (by omega)).mpr (by omega)
  rw [fl.2 n hn f1, f1, f2, f3, bz_l, if_pos q1]
  have hp : ((q < 0 ∨ (¬ q < 0 ∧ ¬ q < nI n)) ∧ f_X2_isBetween q 0 (nI n - 1) = some 0) ∨ ∃ a, a < n ∧ q = nI a ∧ ¬ q < 0 ∧ q < nI n ∧ f_X2_isBetween q 0 (nI n - 1) = some 1 := by
    by_cases h0 : n = 0
    · subst h0
      refine Or.inl ⟨?_, ?_⟩
      · by_cases g : q < 0
        · exact Or.inl g
        · exact Or.inr ⟨g, g⟩
      · unfold f_X2_isBetween
        by_cases g : q < 0
        · rw [if_pos g]
        · rw [if_neg g]
          rcases nn q with g2 | ⟨a, ha, rfl⟩
          · exact absurd g2 g
          · rw [if_pos]
            have g3 : (nI 0 - 1 : Int32) < 0 := by decide
            exact (n_neg0 g3 ha).1
    · exact posc (by omega) (by omega) q
  rcases hp with ⟨h3, h4⟩ | ⟨a, ha, rfl, h3, h4, h5⟩
  · rcases h3 with h3 | ⟨h3, h5⟩
    · rw [if_pos h3, h4]
      exact JU_fail hI 0 (by decide) rfl rfl
    · rw [if_neg h3, if_neg h5, h4]
      exact JU_fail hI 0 (by decide) rfl rfl
  have hb16 : b < 65536 := Nat.lt_of_lt_of_le hb (Nat.pow_le_pow_right (by decide) hn : 2 ^ n ≤ 2 ^ 16)
  have e15 : us m 0 0 15 = m 15 := us_r m 0 0 (by decide)
  simp only [h3, h4, h5, e10, bd_s, if_true, if_false, lt_e, f_ix s hs a (by omega), gd_t (inb_t (show 16 * s + a < 48 by omega) (by decide : 48 < 2147483648)), n_ix (show 16 * s + a < 2147483648 by omega), e15, has_e (show b < 4294967296 by omega) (show a < 32 by omega), f4 a ha, clr2, n_sh1 (show a < 32 by omega), n_or, gd_t (okB_b _)]
  have key : ∀ b2 : Nat, b2 < 2 ^ n → (∀ i, i < n → i ≠ a → tb b2 i = tb b i) → tb b2 a = d → Inv (ua u 9 (upd (u 9) s (nI b2))) v w (ua (us m 0 0) 15 (upd (m 15) (16 * s + a) (vp_nar .boolean (if d = true then 1 else 0)))) := by
    intro b2 g1 g2 g3
    refine ⟨hI.1, hI.2.1, hI.2.2.1, hI.2.2.2.1, hI.2.2.2.2.1, ?_⟩
    have := RF_set hF (s := s) (n := n) (b := b2) hs hn g1 (f8 := u 8) (f9 := upd (u 9) s (nI b2)) (g16 := m 16) (g15 := upd (m 15) (16 * s + a) (vp_nar .boolean (if d = true then 1 else 0))) f1 f2 (upd_s _ _ _) (fun i hi => ?_) (fun _ _ => rfl) (fun _ _ => rfl) (fun t ht => upd_o _ _ ht) (fun t i ht hi => upd_o _ _ (by omega))
    · exact this
    · by_cases e : i = a
      · subst e
        rw [upd_s, g3]
        cases d
        · exact nar_b.1
        · exact nar_b.2
      · rw [upd_o _ _ (by omega), f4 i hi, g2 i hi e]
  cases d
  · refine JU_ok (b := if tb b a = true then 1 else 0) (u' := ua u 9 (upd (u 9) s (nI (b &&& (2 ^ a ^^^ 4294967295))))) ?_ rfl rfl (key _ (lt_and hb) ?_ ?_)
    · simp
    · intro i hi hne
      rw [tb_and, tb_not, tb_pow]
      have : i < 32 := by omega
      simp [this]
      intro _ e
      exact absurd e.symm hne
    · rw [tb_and, tb_not, tb_pow]
      have : a < 32 := by omega
      simp [this]
  · refine JU_ok (b := if tb b a = true then 1 else 0) (u' := ua u 9 (upd (u 9) s (nI (b ||| 2 ^ a)))) ?_ rfl rfl (key _ (lt_or hb (Nat.pow_lt_pow_right (by decide) ha)) ?_ ?_)
    · simp [e10]
    · intro i hi hne
      rw [tb_or, tb_pow]
      have : ¬ a = i := fun e => hne e.symm
      simp [this]
    · rw [tb_or, tb_pow]
      simp
