/-! ===== operations ===== -/
theorem ar13 (p : Int32) : (f_X1_requireOperationArity p = some (.inr eIA) ∧ f_X2_isBetween p 1 3 = some 0) ∨ ∃ r, 1 ≤ r ∧ r ≤ 3 ∧ p = nI r ∧ f_X1_requireOperationArity p = some (.inl ()) ∧ f_X2_isBetween p 1 3 = some 1 := by
  unfold f_X1_requireOperationArity f_X2_isBetween
  rcases nn p with h | ⟨a, ha, rfl⟩
  · have h1 : p < 1 := (n_neg0 h (a := 1) (by decide)).1
    rw [if_pos h1, if_pos h1]
    exact Or.inl ⟨rfl, rfl⟩
  · by_cases h1 : a < 1
    · have h2 : nI a < 1 := (n_lt ha (by decide : 1 < 2147483648)).mpr h1
      rw [if_pos h2, if_pos h2]
      exact Or.inl ⟨rfl, rfl⟩
    · have h2 : ¬ nI a < 1 := fun e => h1 ((n_lt ha (by decide : 1 < 2147483648)).mp e)
      rw [if_neg h2, if_neg h2]
      by_cases h3 : a ≤ 3
      · have h4 : nI a ≤ 3 := (n_le ha (by decide : 3 < 2147483648)).mpr h3
        have h5 : ¬ (3 : Int32) < nI a := fun e => by have := (n_lt (by decide : 3 < 2147483648) ha).mp e; omega
        rw [if_pos h4, if_neg h5]
        exact Or.inr ⟨a, by omega, h3, rfl, rfl, rfl⟩
      · have h4 : ¬ nI a ≤ 3 := fun e => h3 ((n_le ha (by decide : 3 < 2147483648)).mp e)
        have h5 : (3 : Int32) < nI a := (n_lt (by decide : 3 < 2147483648) ha).mpr (by omega)
        rw [if_neg h4, if_pos h5]
        exact Or.inl ⟨rfl, rfl⟩
theorem sh2_e : ∀ r, r < 5 → jshl 1 (jshl 1 (nI r)) = nI (2 ^ (2 ^ r)) := by decide +kernel
theorem opc (p q : Int32) : (f_X1_requireOperation p q = some (.inr eIA) ∧ f_X2_isOperation p q = some 0) ∨ ∃ k c, k < 4 ∧ 1 ≤ k ∧ c < 2 ^ (2 ^ k) ∧ p = nI k ∧ q = nI c ∧ f_X1_requireOperation p q = some (.inl ()) ∧ f_X2_isOperation p q = some 1 := by
  unfold f_X1_requireOperation f_X2_isOperation f_X1_allTuples
  rcases ar13 p with ⟨h1, h2⟩ | ⟨k, ka, kb, rfl, h1, h2⟩
  · rw [h1, h2]
    exact Or.inl ⟨rfl, rfl⟩
  · have e := p2_e k (by omega)
    have e1 := Nat.two_pow_pos (2 ^ k)
    rcases nn q with h | ⟨a, ha, rfl⟩
    · simp only [h1, h2, bz_l, bd_s, e10, h, if_true, if_false]
      exact Or.inl ⟨trivial, trivial⟩
    · rw [all_e k (by omega), sh2_e k (by omega)]
      by_cases h3 : a < 2 ^ (2 ^ k)
      · have h4 : nI a ≤ nI (2 ^ (2 ^ k) - 1) := (n_le ha (by omega)).mpr (by omega)
        have h5 : ¬ nI (2 ^ (2 ^ k)) ≤ nI a := fun e2 => by have := (n_le (by omega) ha).mp e2; omega
        simp only [h1, h2, bz_l, bd_s, e10, n_pos ha, h4, h5, if_true, if_false]
        exact Or.inr ⟨k, a, by omega, ka, h3, rfl, rfl, trivial, trivial⟩
      · have h4 : ¬ nI a ≤ nI (2 ^ (2 ^ k) - 1) := fun e2 => by have := (n_le ha (by omega)).mp e2; omega
        have h5 : nI (2 ^ (2 ^ k)) ≤ nI a := (n_le (by omega) ha).mpr (by omega)
        simp only [h1, h2, bz_l, bd_s, e10, n_pos ha, h4, h5, if_true, if_false]
        exact Or.inl ⟨trivial, trivial⟩
def z0 : St := fun _ _ => 0
theorem apply_b : ∀ k, k < 4 → 1 ≤ k → ∀ c, c < 2 ^ (2 ^ k) → ∀ e, e < 8 → f_X1_valueFor (nI k) (nI c) ((nI (e % 2) + (2 * nI (e / 2 % 2))) + (4 * nI (e / 4))) = bd (f_X2_placeOf (nI k) (nI (e % 2)) (nI (e / 2 % 2)) (nI (e / 4))) (fun r8 => some ((jshr (nI c) r8) &&& 1)) := by decide +kernel
theorem apply_j {u v w m : St} (hI : Inv u v w m) (p q p2 p3 p4 : Int32) : JP [eIA] u v w (f_X1_apply u v w p q p2 p3 p4) (f_X2_apply m p q p2 p3 p4) := by
  unfold f_X1_apply f_X2_apply
  rcases opc p q with ⟨h1, h2⟩ | ⟨k, c, hk, k1, hc, rfl, rfl, h1, h2⟩
  · simp only [h1, h2, bz_r, bd_s, if_true]
    exact JP_fail hI 0 (by decide) rfl rfl
  · rcases bitc p2 with ⟨h3, h4⟩ | ⟨a, ha, rfl, h3, h4⟩
    · simp only [h1, h2, h3, h4, bz_l, bz_r, bd_s, e10, if_true, if_false]
      exact JP_fail hI 0 (by decide) rfl rfl
    · rcases bitc p3 with ⟨h5, h6⟩ | ⟨b, hb, rfl, h5, h6⟩
      · simp only [h1, h2, h3, h4, h5, h6, bz_l, bz_r, bd_s, e10, if_true, if_false]
        exact JP_fail hI 0 (by decide) rfl rfl
      · rcases bitc p4 with ⟨h7, h8⟩ | ⟨d, hd, rfl, h7, h8⟩
        · simp only [h1, h2, h3, h4, h5, h6, h7, h8, bz_l, bz_r, bd_s, e10, if_true, if_false]
          exact JP_fail hI 0 (by decide) rfl rfl
        · have hb := apply_b k hk k1 c hc (a + 2 * b + 4 * d) (by omega)
          rw [show (a + 2 * b + 4 * d) % 2 = a by omega, show (a + 2 * b + 4 * d) / 2 % 2 = b by omega, show (a + 2 * b + 4 * d) / 4 = d by omega] at hb
          simp only [h1, h2, h3, h4, h5, h6, h7, h8, bz_l, bd_s, e10, if_false, hb]
          have hp : ∃ x, f_X2_placeOf (nI k) (nI a) (nI b) (nI d) = some x := by
            unfold f_X2_placeOf
            split <;> split <;> exact ⟨_, rfl⟩
          obtain ⟨x, hx⟩ := hp
          rw [hx]
          exact JP_ok hI rfl rfl
theorem bit0_e (c : Nat) : nI c &&& 1 = nI (if tb c 0 then 1 else 0) := by
  have h := tb_mod c 0
  rw [Nat.pow_zero, Nat.div_one] at h
  rw [n_and1, h]
theorem isIdempotent_j {u v w m : St} (hI : Inv u v w m) (p q : Int32) : JP [eIA] u v w (f_X1_isIdempotent u v w p q) (f_X2_isIdempotent m p q) := by
  unfold f_X1_isIdempotent f_X2_isIdempotent
  rcases opc p q with ⟨h1, h2⟩ | ⟨k, c, hk, k1, hc, rfl, rfl, h1, h2⟩
  · simp only [h1, h2, bz_r, bd_s, if_true]
    exact JP_fail hI 0 (by decide) rfl rfl
  · have e := p2_e k (by omega)
    have e3 : ∀ k, k < 4 → 2 ^ k - 1 < 32 := by decide
    have c0 : f_X1_has (nI c) 0 = some (if tb c 0 then 1 else 0) := has_e (a := c) (t := 0) (by omega) (by decide)
    have c1 := has_e (a := c) (t := 2 ^ k - 1) (by omega) (e3 k hk)
    have c2 := n_bits (a := c) (e3 k hk) (by omega)
    rw [← gt_e k (by omega)] at c1 c2
    unfold f_X1_greatestTuple
    simp only [h1, h2, bz_l, bd_s, e10, if_false, c0, c1, c2, bit0_e]
    cases tb c 0 <;> cases tb c (2 ^ k - 1) <;> exact JP_ok hI rfl rfl
/-! ===== the loops that keep the reference's state, at any state ===== -/
def mpu {σ : Type} (u : St) : Option (σ ⊕ (σ ⊕ (Int32 × St))) → Option (σ ⊕ (σ ⊕ (Int32 × St)))
  | some (.inr (.inr p)) => some (.inr (.inr (p.1, u)))
  | x => x
def mpv {σ : Type} (u : St) : Option (σ ⊕ (Int32 × St)) → Option (σ ⊕ (Int32 × St))
  | some (.inr p) => some (.inr (p.1, u))
  | x => x
theorem loop_mpu {σ : Type} (u : St) {f g : σ → Option (σ ⊕ (σ ⊕ (Int32 × St)))} (h : ∀ s, f s = mpu u (g s)) : ∀ (n : Nat) (s : σ), loopN f n s = mpv u (loopN g n s) := by
  intro n
  induction n with
  | zero => intro s; rfl
  | succ n ih =>
    intro s
    unfold loopN
    rw [h s]
    rcases g s with _ | s2 | s2 | p
    · rfl
    · exact ih s2
    · rfl
    · rfl
/-- a loop of the class and a loop of the reference that end alike -/
def cmL {σ τ : Type} (x : Option (σ ⊕ (Int32 ⊕ String))) (y : Option (τ ⊕ (Int32 × St))) : Bool :=
  match x, y with
  | some (.inl _), some (.inl _) => true
  | some (.inr (.inl a)), some (.inr p) => decide (a = p.1)
  | _, _ => false
def cmS {ρ τ : Type} (x : Option ((Int32 × Int32) ⊕ ρ)) (y : Option ((Int32 × Int32) ⊕ τ)) : Bool :=
  match x, y with
  | some (.inl a), some (.inl b) => decide (a.1 = b.1)
  | _, _ => false
theorem cmL_t {σ τ : Type} {x : Option (σ ⊕ (Int32 ⊕ String))} {y : Option (τ ⊕ (Int32 × St))} (h : cmL x y = true) : (∃ s t, x = some (.inl s) ∧ y = some (.inl t)) ∨ ∃ a p, x = some (.inr (.inl a)) ∧ y = some (.inr (a, p)) := by
  rcases x with _ | s | a | E
  · cases h
  · rcases y with _ | t | p
    · cases h
    · exact Or.inl ⟨s, t, rfl, rfl⟩
    · cases h
  · rcases y with _ | t | p
    · cases h
    · cases h
    · have e : a = p.1 := of_decide_eq_true h
      exact Or.inr ⟨a, p.2, rfl, by rw [e]⟩
  · cases h
theorem cmS_t {ρ τ : Type} {x : Option ((Int32 × Int32) ⊕ ρ)} {y : Option ((Int32 × Int32) ⊕ τ)} (h : cmS x y = true) : ∃ a i j, x = some (.inl (a, i)) ∧ y = some (.inl (a, j)) := by
  rcases x with _ | ⟨a, i⟩ | r
  · cases h
  · rcases y with _ | ⟨b, j⟩ | t
    · cases h
    · have e : a = b := of_decide_eq_true h
      exact ⟨a, i, j, rfl, by rw [e]⟩
    · cases h
  · cases h
theorem mono_b : ∀ k, k < 4 → 1 ≤ k → ∀ c, c < 2 ^ (2 ^ k) → cmL (loopN (f_X1_isMonotone_s7 z0 z0 z0 (nI k) (nI c)) FU 0) (loopN (f_X2_isMonotone_s21 z0 (nI k) (nI c)) FU 0) = true := by decide +kernel
theorem dual_b : ∀ k, k < 4 → 1 ≤ k → ∀ c, c < 2 ^ (2 ^ k) → cmS (loopN (f_X1_dual_s16 z0 z0 z0 (nI c) (jshl 1 (nI k) - 1)) FU (0, 0)) (loopN (f_X2_dual_s31 z0 (nI c) (jshl 1 (nI k) - 1)) FU (0, 0)) = true := by decide +kernel
