/-! ===== the class: the tuples that an operation makes ===== -/
theorem chosen_e {Z r c x y : Nat} (hZ : Z < 65536) (hr : r < 5) (hc : c < 256) {L H : Int32} (hL : L &&& 15 = nI (apN (c % 16) x y 0)) (hH : H &&& 15 = nI (apN (c / 16) x y 0)) : f_X1_tuplesChosenBy (nI Z) L H (nI (2 ^ r - 1)) = some (nI (pjS Z (fun z => apN c x y z % 2 ^ r) (2 ^ r))) := by
  have e := p2_e r hr
  unfold f_X1_tuplesChosenBy
  have h := loop_at (step := f_X1_tuplesChosenBy_s6 (nI Z) L H (nI (2 ^ r - 1))) (fun i s => s = (nI (pjS Z (fun z => apN c x y z % 2 ^ r) i), nI i)) (fun q => q = .inl (nI (pjS Z (fun z => apN c x y z % 2 ^ r) (2 ^ r)), nI (2 ^ r))) (2 ^ r) (s := (0, 0)) (by omega) rfl (by
    rintro i _ hi rfl
    unfold f_X1_tuplesChosenBy_s6
    by_cases h : i < 2 ^ r
    · refine Or.inl ⟨h, _, ?_, rfl⟩
      have q3 : ¬ nI (2 ^ r - 1) < nI i := fun e => by have := (n_lt (by omega) (by omega)).mp e; omega
      have a1 : apN c x y i % 2 ^ r ≤ apN c x y i := Nat.mod_le _ _
      have a2 := apN_lt c x y i
      simp only [q3, if_false, n_bitu (show i < 32 by omega) (show Z < 4294967296 by omega), ch_e (x := x) (y := y) (z := i) hc (by omega) hr hL hH, n_sh1 (show apN c x y i % 2 ^ r < 32 by omega), lt_e, n_or, nI_1, pjS_s]
      cases tb Z i
      · rw [if_pos (by decide)]
        simp
      · rw [if_neg (by decide)]
        simp
    · have e2 : i = 2 ^ r := by omega
      subst e2
      refine Or.inr ⟨_, ?_, rfl⟩
      have q3 : nI (2 ^ r - 1) < nI (2 ^ r) := (n_lt (by omega) (by omega)).mpr (by omega)
      simp only [q3, if_true])
  obtain ⟨q, h1, h2⟩ := h
  rw [h1, h2]
  rfl
theorem tb_pjS {S : Nat} {g : Nat → Nat} (k : Nat) : ∀ n, tb (pjS S g n) k = true ↔ ∃ t, t < n ∧ tb S t = true ∧ g t = k
  | 0 => by
    show tb 0 k = true ↔ _
    rw [tb_0]
    exact ⟨fun h => absurd h (by decide), fun ⟨t, h, _⟩ => absurd h (Nat.not_lt_zero _)⟩
  | n + 1 => by
    rw [pjS_s, tb_or, Bool.or_eq_true, tb_pjS k n]
    constructor
    · rintro (⟨t, h1, h2, h3⟩ | h)
      · exact ⟨t, by omega, h2, h3⟩
      · cases hb : tb S n
        · rw [hb, if_neg (by decide), tb_0] at h
          exact absurd h (by decide)
        · rw [hb, if_pos rfl, tb_pow] at h
          exact ⟨n, by omega, hb, of_decide_eq_true h⟩
    · rintro ⟨t, h1, h2, h3⟩
      by_cases e : t = n
      · subst e
        right
        rw [h2, if_pos rfl, tb_pow]
        exact decide_eq_true h3
      · exact Or.inl ⟨t, by omega, h2, h3⟩
