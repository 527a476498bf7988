/-! ===== two places exchanged ===== -/
def exg (p q t : Nat) : Nat := if tb t p = tb t q then t else t ^^^ (2 ^ p ||| 2 ^ q)
theorem ex_m : ∀ p, p < 4 → ∀ q, q < 4 → ∀ t, t < 16 → (((((nI t &&& (nI (2 ^ p) ^^^ (-1))) &&& (nI (2 ^ q) ^^^ (-1))) ||| jshl (jshr (nI t) (nI p) &&& 1) (nI q))) ||| jshl (jshr (nI t) (nI q) &&& 1) (nI p)) = nI (exg p q t) := by decide +kernel
theorem ex_l : ∀ r, r < 5 → ∀ p, p < r → ∀ q, q < r → ∀ t, t < 2 ^ r → exg p q t < 2 ^ r := by decide +kernel
theorem ex_16 : ∀ p, p < 4 → ∀ q, q < 4 → ∀ t, t < 16 → exg p q t < 16 := by decide +kernel
theorem exc1 {S p q : Nat} (hS : S < 65536) (hp : p < 4) (hq : q < 4) : f_X1_tuplesWithExchange (nI S) (nI p) (nI q) = some (nI (pjS S (exg p q) 16)) := by
  unfold f_X1_tuplesWithExchange
  rw [lt_e, n_sh1 (by omega), n_sh1 (by omega), n_or]
  have h := loop_at (step := f_X1_tuplesWithExchange_s14 (nI S) (nI p) (nI q) (nI (2 ^ p ||| 2 ^ q))) (fun i s => s = (nI (pjS S (exg p q) i), nI i)) (fun r => r = .inl (nI (pjS S (exg p q) 16), nI 16)) 16 (s := (0, 0)) (by decide) rfl (by
    rintro i _ hi rfl
    unfold f_X1_tuplesWithExchange_s14
    by_cases h : i < 16
    · refine Or.inl ⟨h, _, ?_, rfl⟩
      have hx := ex_16 p hp q hq i h
      have e1 : exg p q i = if tb i p = tb i q then i else i ^^^ (2 ^ p ||| 2 ^ q) := rfl
      simp only [lt16 h, if_false, has_e (show S < 4294967296 by omega) (show i < 32 by omega), has_e (show i < 4294967296 by omega) (show p < 32 by omega), has_e (show i < 4294967296 by omega) (show q < 32 by omega), bd_s, lt_e, nI_1, pjS_s, n_xor]
      cases hb : tb S i
      · simp
      · have e01 : ¬ (0 : Int32) = 1 := by decide
        cases hp2 : tb i p <;> cases hq2 : tb i q <;> rw [hp2, hq2] at e1 <;> simp [e10, e01] at e1 ⊢
        · rw [e1, n_sh1 (by omega), n_or]
        · rw [← e1, n_sh1 (by omega), n_or]
        · rw [← e1, n_sh1 (by omega), n_or]
        · rw [e1, n_sh1 (by omega), n_or]
    · have e : i = 16 := by omega
      subst e
      exact Or.inr ⟨_, rfl, rfl⟩)
  obtain ⟨r, h1, h2⟩ := h
  rw [h1, h2]
  rfl
theorem exc2 {u : St} {S r p q c : Nat} (hc : c < 8) (hr : r < 5) (h1 : u 1 c = nI r) (h2 : u 2 c = nI S) (hS : S < 65536) (hp : p < r) (hq : q < r) : loopN (f_X2_addExchanged_s67 u (nI c) (nI p) (nI q)) FU (0, 0) = some (.inl (nI (pjS S (exg p q) (2 ^ r)), nI (2 ^ r))) := by
  have e := p2_e r hr
  have h := loop_at (step := f_X2_addExchanged_s67 u (nI c) (nI p) (nI q)) (fun i s => s = (nI (pjS S (exg p q) i), nI i)) (fun x => x = .inl (nI (pjS S (exg p q) (2 ^ r)), nI (2 ^ r))) (2 ^ r) (s := (0, 0)) (by omega) rfl (by
    rintro i _ hi rfl
    unfold f_X2_addExchanged_s67
    by_cases h : i < 2 ^ r
    · refine Or.inl ⟨h, _, ?_, rfl⟩
      have q2 : ¬ nI (2 ^ r) ≤ nI i := fun e => by have := (n_le (by omega) (by omega)).mp e; omega
      simp only [gd_t (inb_t hc (by decide : 8 < 2147483648)), n_ix (show c < 2147483648 by omega), h1, h2, n_sh1 (show r < 32 by omega), q2, if_false, lt_e, n_sh1 (show p < 32 by omega), n_sh1 (show q < 32 by omega), ex_m p (by omega) q (by omega) i (by omega), n_bits (show i < 32 by omega) (show S < 2147483648 by omega), bitI _ _ (ex_16 p (by omega) q (by omega) i (by omega)), n_or, nI_1, pjS_s]
    · have e2 : i = 2 ^ r := by omega
      subst e2
      refine Or.inr ⟨_, ?_, rfl⟩
      have q2 : nI (2 ^ r) ≤ nI (2 ^ r) := (n_le (by omega) (by omega)).mpr (Nat.le_refl _)
      simp only [gd_t (inb_t hc (by decide : 8 < 2147483648)), n_ix (show c < 2147483648 by omega), h1, n_sh1 (show r < 32 by omega), q2, if_true])
  obtain ⟨x, h3, h4⟩ := h
  rw [h3, h4]
theorem addExchanged_j {u v w m : St} (hI : Inv u v w m) (p q x : Int32) : J [eIO, eIS] u w (f_X1_addExchanged u v w p q x) (f_X2_addExchanged m p q x) := by
  obtain ⟨A, oA, hv, hm⟩ := hI.1
  unfold f_X1_addExchanged f_X2_addExchanged f_X1_requirePosition
  rcases relc (u := u) (w := w) oA hv hm p with ⟨h1, h2⟩ | ⟨r, hr, rfl, h1, h2⟩
  · simp only [h1, h2, bz_r, bd_s, if_true]
    exact J_fail hI 0 (by decide) rfl rfl
  · have hr8 : r < 8 := Nat.lt_of_lt_of_le hr oA.1
    obtain ⟨r1, r4, r5⟩ := oA.2.1 r hr
    have hT := aT_lt oA hr
    have e := p2_e (aR A r) (by omega)
    simp only [h1, h2, bz_l, bd_s, lt_e, e10, if_false, gd_t (inb_t hr8 (by decide : 8 < 2147483648)), n_ix (show r < 2147483648 by omega), (hv.2.1 r hr).1, (hm.2.1 r hr).1, (hv.2.1 r hr).2]
    rcases posc r1 (by omega) q with ⟨h3, h4⟩ | ⟨a, ha, rfl, h3, h4, h5⟩
    · rcases h3 with h3 | ⟨h3, h5⟩
      · simp only [h3, h4, bz_r, bd_s, if_true]
        exact J_fail hI 0 (by decide) rfl rfl
      · simp only [h3, h4, h5, bz_r, bd_s, if_true, if_false]
        exact J_fail hI 0 (by decide) rfl rfl
    · simp only [h3, h4, h5, e10, bz_l, bd_s, if_true, if_false]
      rcases posc r1 (by omega) x with ⟨g3, g4⟩ | ⟨b, hb, rfl, g3, g4, g5⟩
      · rcases g3 with g3 | ⟨g3, g5⟩
        · simp only [g3, g4, bz_r, bd_s, if_true]
          exact J_fail hI 0 (by decide) rfl rfl
        · simp only [g3, g4, g5, bz_r, bd_s, if_true, if_false]
          exact J_fail hI 0 (by decide) rfl rfl
      · simp only [g3, g4, g5, e10, bz_l, bd_s, if_true, if_false]
        rw [exc1 hT (by omega) (by omega), bd_s, exc2 hr8 (by omega) (hm.2.1 r hr).1 (hm.2.1 r hr).2 hT ha hb, bl_l, pjS_16 (n := 2 ^ aR A r) r5 (by omega)]
        refine J_add hI oA hv hm r1 r4 (t := pjS (aT A r) (exg a b) (2 ^ aR A r)) (pjS_lt _ (fun t ht => ex_l (aR A r) (by omega) a ha b hb t ht)) 1 (by decide) rfl ?_ ?_ ?_
        · intro z v' h
          rw [h]
          cases z <;> rfl
        · intro h
          rw [if_pos h]
          rfl
        · intro h b m' h'
          rw [if_neg h, h']
          rfl
