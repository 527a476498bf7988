/-! ===== a loop that looks for the first place ===== -/
theorem loop_findF {τ : Type} {step : Int32 → Option (Int32 ⊕ (Int32 ⊕ τ))} (P : Nat → Prop) (R : Nat → τ → Prop) (N : Nat) (h : ∀ i, i < N → (¬ P i ∧ step (nI i) = some (.inl (nI (i + 1)))) ∨ (P i ∧ ∃ t, step (nI i) = some (.inr (.inr t)) ∧ R i t)) (hN : step (nI N) = some (.inr (.inl (nI N)))) : ∀ fuel i, i ≤ N → N < fuel + i → (∀ j, j < i → ¬ P j) → ((∀ j, j < N → ¬ P j) ∧ loopN step fuel (nI i) = some (.inl (nI N))) ∨ ∃ k, k < N ∧ P k ∧ (∀ j, j < k → ¬ P j) ∧ ∃ t, loopN step fuel (nI i) = some (.inr t) ∧ R k t := by
  intro fuel
  induction fuel with
  | zero => intro i h1 h2; omega
  | succ n ih =>
    intro i h1 h2 hj
    unfold loopN
    by_cases e : i = N
    · subst e
      rw [hN]
      exact Or.inl ⟨hj, rfl⟩
    · rcases h i (by omega) with ⟨g1, g2⟩ | ⟨g1, t, g2, g3⟩
      · rw [g2]
        refine ih (i + 1) (by omega) (by omega) (fun j hj2 => ?_)
        by_cases e2 : j = i
        · rw [e2]
          exact g1
        · exact hj j (by omega)
      · rw [g2]
        exact Or.inr ⟨i, by omega, g1, hj, t, rfl, g3⟩
theorem loop_find {τ : Type} {step : Int32 → Option (Int32 ⊕ (Int32 ⊕ τ))} (P : Nat → Prop) (R : Nat → τ → Prop) (N : Nat) (hF : N < 2000) (h : ∀ i, i < N → (¬ P i ∧ step (nI i) = some (.inl (nI (i + 1)))) ∨ (P i ∧ ∃ t, step (nI i) = some (.inr (.inr t)) ∧ R i t)) (hN : step (nI N) = some (.inr (.inl (nI N)))) : ((∀ j, j < N → ¬ P j) ∧ loopN step FU 0 = some (.inl (nI N))) ∨ ∃ k, k < N ∧ P k ∧ (∀ j, j < k → ¬ P j) ∧ ∃ t, loopN step FU 0 = some (.inr t) ∧ R k t :=
  loop_findF P R N h hN FU 0 (Nat.zero_le _) (by unfold FU; omega) (fun j hj => absurd hj (Nat.not_lt_zero _))
/-! ===== what an operation makes of three tuples ===== -/
def bi (x i : Nat) : Nat := x / 2 ^ i % 2
def apN (c x y z : Nat) : Nat := bi c (bi x 0 + 2 * bi y 0 + 4 * bi z 0) + 2 * bi c (bi x 1 + 2 * bi y 1 + 4 * bi z 1) + 4 * bi c (bi x 2 + 2 * bi y 2 + 4 * bi z 2) + 8 * bi c (bi x 3 + 2 * bi y 3 + 4 * bi z 3)
def ap2 (c x y : Nat) : Nat := apN (c % 16) x y 0
theorem bi_lt (x i : Nat) : bi x i < 2 := Nat.mod_lt _ (by decide)
theorem apN_lt (c x y z : Nat) : apN c x y z < 16 := by
  unfold apN
  have h0 := bi_lt c (bi x 0 + 2 * bi y 0 + 4 * bi z 0)
  have h1 := bi_lt c (bi x 1 + 2 * bi y 1 + 4 * bi z 1)
  have h2 := bi_lt c (bi x 2 + 2 * bi y 2 + 4 * bi z 2)
  have h3 := bi_lt c (bi x 3 + 2 * bi y 3 + 4 * bi z 3)
  omega
theorem at_c : ∀ c, c < 256 → ((nI c &&& 1 = 0) = (nI (c % 16) &&& 1 = 0)) ∧ ((nI c &&& 2 = 0) = (nI (c % 16) &&& 2 = 0)) ∧ ((nI c &&& 4 = 0) = (nI (c % 16) &&& 4 = 0)) ∧ ((nI c &&& 8 = 0) = (nI (c % 16) &&& 8 = 0)) := by
  intro c hc
  have e : ∀ c, c < 256 → (nI c &&& 1 = nI (c % 16) &&& 1) ∧ (nI c &&& 2 = nI (c % 16) &&& 2) ∧ (nI c &&& 4 = nI (c % 16) &&& 4) ∧ (nI c &&& 8 = nI (c % 16) &&& 8) := by decide +kernel
  obtain ⟨e1, e2, e3, e4⟩ := e c hc
  rw [e1, e2, e3, e4]
  exact ⟨rfl, rfl, rfl, rfl⟩
