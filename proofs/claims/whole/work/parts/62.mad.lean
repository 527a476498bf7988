theorem tb0_n {x : Nat} {P : Prop} (h : tb 0 x = true) : P := by
  rw [tb_0] at h
  cases h
/-! ===== the reference: all that an operation makes ===== -/
def mZ (k : Nat) : Nat := if k < 3 then 1 else 16
def mY (k : Nat) : Nat := if k < 2 then 1 else 16
theorem md64 {S r k c x y M : Nat} (hS : S < 65536) (hr : r < 5) (hk : k < 4) (k1 : 1 ≤ k) (hc : c < 256) (hx : x < 16) (hy : y < 16) (y0 : k < 2 → y = 0) :
    loopN (f_X2_madeOf_s64 (nI k) (nI c) (nI S) (nI (2 ^ r - 1)) (nI x) (nI y)) FU (nI M, 0) = some (.inl (nI (M ||| pjS (zOf S k) (fun z => apN c x y z % 2 ^ r) (mZ k)), nI (mZ k))) := by
  have e := p2_e r hr
  have hNz : mZ k ≤ 16 := by unfold mZ; split <;> omega
  have h := loop_at (step := f_X2_madeOf_s64 (nI k) (nI c) (nI S) (nI (2 ^ r - 1)) (nI x) (nI y)) (fun i s => s = (nI (M ||| pjS (zOf S k) (fun z => apN c x y z % 2 ^ r) i), nI i)) (fun q => q = .inl (nI (M ||| pjS (zOf S k) (fun z => apN c x y z % 2 ^ r) (mZ k)), nI (mZ k))) (mZ k) (s := (nI M, 0)) (by omega) (by show (nI M, (0 : Int32)) = (nI (M ||| 0), nI 0); rw [Nat.or_zero]; rfl) (by
    rintro i _ hi rfl
    unfold f_X2_madeOf_s64
    by_cases h3 : k < 3
    · have q1 : nI k ≤ 2 := (n_le (by omega) (by decide : 2 < 2147483648)).mpr (by omega)
      have q2 : nI k < 3 := (n_lt (by omega) (by decide : 3 < 2147483648)).mpr h3
      have eZ : mZ k = 1 := by unfold mZ; rw [if_pos h3]
      have eS : zOf S k = 1 := by unfold zOf; rw [if_pos h3]
      rw [eZ] at hi ⊢
      rw [eS]
      by_cases hz : i < 1
      · have ez : i = 0 := by omega
        subst ez
        refine Or.inl ⟨by decide, _, ?_, rfl⟩
        have q3 : ¬ (1 : Int32) ≤ nI 0 := by decide
        have a1 : apN c x y 0 % 2 ^ r ≤ apN c x y 0 := Nat.mod_le _ _
        have a2 := apN_lt c x y 0
        simp only [q1, q2, q3, if_true, if_false, applied_e hk k1 hc hx hy (show 0 < 16 by decide) y0 (fun _ => rfl), bd_s, lt_e, n_and, Nat.and_two_pow_sub_one_eq_mod, n_sh1 (show apN c x y 0 % 2 ^ r < 32 by omega), n_or, nI_1, pjS_s, tb_1, Nat.or_assoc]
        rfl
      · have ei : i = 1 := by omega
        subst ei
        refine Or.inr ⟨_, ?_, rfl⟩
        have q3 : (1 : Int32) ≤ nI 1 := by decide
        simp only [q1, q3, if_true]
    · have q1 : ¬ nI k ≤ 2 := fun e => by have := (n_le (by omega) (by decide : 2 < 2147483648)).mp e; omega
      have q2 : ¬ nI k < 3 := fun e => h3 ((n_lt (by omega) (by decide : 3 < 2147483648)).mp e)
      have eZ : mZ k = 16 := by unfold mZ; rw [if_neg h3]
      have eS : zOf S k = S := by unfold zOf; rw [if_neg h3]
      rw [eZ] at hi ⊢
      rw [eS]
      by_cases hz : i < 16
      · refine Or.inl ⟨hz, _, ?_, rfl⟩
        have q3 := lt16 hz
        have a1 : apN c x y i % 2 ^ r ≤ apN c x y i := Nat.mod_le _ _
        have a2 := apN_lt c x y i
        simp only [q1, q2, q3, if_false, applied_e hk k1 hc hx hy hz y0 (fun e => absurd e h3), bd_s, lt_e, n_and, Nat.and_two_pow_sub_one_eq_mod, n_sh1 (show apN c x y i % 2 ^ r < 32 by omega), n_or, nI_1, pjS_s, n_bits (show i < 32 by omega) (show S < 2147483648 by omega), ← Nat.or_assoc]
        cases tb S i
        · rw [if_neg (by decide)]
          simp
        · rw [if_pos (by decide)]
          simp
      · have ei : i = 16 := by omega
        subst ei
        refine Or.inr ⟨_, ?_, rfl⟩
        have q3 : (16 : Int32) ≤ nI 16 := by decide
        simp only [q1, q3, if_true, if_false])
  obtain ⟨q, h1, h2⟩ := h
  rw [h1, h2]
def mdZ (S r k c x y j : Nat) : Prop := ∃ z, z < mZ k ∧ tb (zOf S k) z = true ∧ apN c x y z % 2 ^ r = j
def mdY (S r k c x n j : Nat) : Prop := ∃ y, y < n ∧ tb (yOf S k) y = true ∧ mdZ S r k c x y j
def mdX (S r k c n j : Nat) : Prop := ∃ x, x < n ∧ tb S x = true ∧ mdY S r k c x (mY k) j
theorem md_z {S r k c x y M j : Nat} : tb (M ||| pjS (zOf S k) (fun z => apN c x y z % 2 ^ r) (mZ k)) j = true ↔ tb M j = true ∨ mdZ S r k c x y j := by
  rw [tb_or, Bool.or_eq_true, tb_pjS]
  rfl
theorem lt_suc {P : Nat → Prop} {n : Nat} : (∃ y, y < n + 1 ∧ P y) ↔ (∃ y, y < n ∧ P y) ∨ P n := by
  constructor
  · rintro ⟨y, h1, h2⟩
    by_cases e : y = n
    · subst e
      exact Or.inr h2
    · exact Or.inl ⟨y, by omega, h2⟩
  · rintro (⟨y, h1, h2⟩ | h)
    · exact ⟨y, by omega, h2⟩
    · exact ⟨n, by omega, h⟩
theorem md28 {S r k c x M : Nat} (hS : S < 65536) (hr : r < 5) (hk : k < 4) (k1 : 1 ≤ k) (hc : c < 256) (hx : x < 16) :
    ∃ M2, loopN (f_X2_madeOf_s28 (nI k) (nI c) (nI S) (nI (2 ^ r - 1)) (nI x)) FU (nI M, 0) = some (.inl (nI M2, nI (mY k))) ∧ ∀ j, tb M2 j = true ↔ tb M j = true ∨ mdY S r k c x (mY k) j := by
  have hNy : mY k ≤ 16 := by unfold mY; split <;> omega
  have h := loop_at (step := f_X2_madeOf_s28 (nI k) (nI c) (nI S) (nI (2 ^ r - 1)) (nI x)) (fun i s => ∃ M2, s = (nI M2, nI i) ∧ ∀ j, tb M2 j = true ↔ tb M j = true ∨ mdY S r k c x i j) (fun q => ∃ M2, q = .inl (nI M2, nI (mY k)) ∧ ∀ j, tb M2 j = true ↔ tb M j = true ∨ mdY S r k c x (mY k) j) (mY k) (s := (nI M, 0)) (by omega) ⟨M, rfl, fun j => ⟨Or.inl, fun h => h.resolve_right (fun ⟨y, h, _⟩ => absurd h (Nat.not_lt_zero _))⟩⟩ (by
    rintro i _ hi ⟨M2, rfl, hM2⟩
    unfold f_X2_madeOf_s28
    by_cases h2 : k < 2
    · have q1 : nI k ≤ 1 := (n_le (by omega) (by decide : 1 < 2147483648)).mpr (by omega)
      have eY : mY k = 1 := by unfold mY; rw [if_pos h2]
      have eS : yOf S k = 1 := by unfold yOf; rw [if_pos h2]
      rw [eY] at hi ⊢
      by_cases hy : i < 1
      · have ez : i = 0 := by omega
        subst ez
        refine Or.inl ⟨by decide, _, ?_, M2 ||| pjS (zOf S k) (fun z => apN c x 0 z % 2 ^ r) (mZ k), rfl, ?_⟩
        · have q3 : ¬ (1 : Int32) ≤ nI 0 := by decide
          simp only [q1, q3, if_true, if_false, nI_1]
          rw [md64 (y := 0) hS hr hk k1 hc hx (by decide) (fun _ => rfl)]
          rfl
        · intro j
          rw [md_z, hM2 j]
          unfold mdY
          rw [lt_suc, eS]
          have t0 : tb 1 0 = true := by decide
          simp [t0]
      · have ei : i = 1 := by omega
        subst ei
        refine Or.inr ⟨_, ?_, M2, rfl, hM2⟩
        have q3 : (1 : Int32) ≤ nI 1 := by decide
        simp only [q1, q3, if_true]
    · have q1 : ¬ nI k ≤ 1 := fun e => by have := (n_le (by omega) (by decide : 1 < 2147483648)).mp e; omega
      have eY : mY k = 16 := by unfold mY; rw [if_neg h2]
      have eS : yOf S k = S := by unfold yOf; rw [if_neg h2]
      rw [eY] at hi ⊢
      by_cases hy : i < 16
      · have q3 := lt16 hy
        simp only [q1, q3, if_false, nI_1, n_bits (show i < 32 by omega) (show S < 2147483648 by omega)]
        cases hb : tb S i
        · refine Or.inl ⟨hy, _, rfl, M2, rfl, fun j => ?_⟩
          rw [hM2 j]
          unfold mdY
          rw [lt_suc, eS, hb]
          simp
        · refine Or.inl ⟨hy, _, ?_, M2 ||| pjS (zOf S k) (fun z => apN c x i z % 2 ^ r) (mZ k), rfl, fun j => ?_⟩
          · rw [if_neg (by decide), md64 (y := i) hS hr hk k1 hc hx hy (fun e => absurd e h2)]
            rfl
          · rw [md_z, hM2 j]
            unfold mdY
            rw [lt_suc, eS, hb]
            simp [or_assoc]
      · have ei : i = 16 := by omega
        subst ei
        refine Or.inr ⟨_, ?_, M2, rfl, hM2⟩
        have q3 : (16 : Int32) ≤ nI 16 := by decide
        simp only [q1, q3, if_true, if_false])
  obtain ⟨q, h1, M2, rfl, h3⟩ := h
  exact ⟨M2, h1, h3⟩
theorem md6 {S r k c : Nat} (hS : S < 65536) (hr : r < 5) (hk : k < 4) (k1 : 1 ≤ k) (hc : c < 256) :
    ∃ M2, f_X2_madeOf (nI k) (nI c) (nI S) (nI (2 ^ r - 1)) = some (nI M2) ∧ ∀ j, tb M2 j = true ↔ mdX S r k c 16 j := by
  have h := loop_at (step := f_X2_madeOf_s6 (nI k) (nI c) (nI S) (nI (2 ^ r - 1))) (fun i s => ∃ M2, s = (nI M2, nI i) ∧ ∀ j, tb M2 j = true ↔ mdX S r k c i j) (fun q => ∃ M2, q = .inl (nI M2, nI 16) ∧ ∀ j, tb M2 j = true ↔ mdX S r k c 16 j) 16 (s := (0, 0)) (by decide) ⟨0, rfl, fun j => ⟨fun h => tb0_n h, fun ⟨y, h, _⟩ => absurd h (Nat.not_lt_zero _)⟩⟩ (by
    rintro i _ hi ⟨M2, rfl, hM2⟩
    unfold f_X2_madeOf_s6
    by_cases hy : i < 16
    · have q3 := lt16 hy
      simp only [q3, if_false, nI_1, n_bits (show i < 32 by omega) (show S < 2147483648 by omega)]
      cases hb : tb S i
      · refine Or.inl ⟨hy, _, rfl, M2, rfl, fun j => ?_⟩
        rw [hM2 j]
        unfold mdX
        rw [lt_suc, hb]
        simp
      · obtain ⟨M3, g1, g2⟩ := md28 (M := M2) hS hr hk k1 hc hy
        refine Or.inl ⟨hy, _, ?_, M3, rfl, fun j => ?_⟩
        · rw [if_neg (by decide), g1]
          rfl
        · rw [g2 j, hM2 j]
          unfold mdX
          rw [lt_suc, hb]
          simp
    · have ei : i = 16 := by omega
      subst ei
      refine Or.inr ⟨_, ?_, M2, rfl, hM2⟩
      have q3 : (16 : Int32) ≤ nI 16 := by decide
      simp only [q3, if_true])
  obtain ⟨q, h1, M2, rfl, h3⟩ := h
  refine ⟨M2, ?_, h3⟩
  unfold f_X2_madeOf
  rw [h1]
  rfl
theorem made_e {S r k c : Nat} (hS : S < 2 ^ (2 ^ r)) (hr : r < 5) (hk : k < 4) (k1 : 1 ≤ k) (hc : c < 256) :
    ∃ M, f_X2_madeOf (nI k) (nI c) (nI S) (nI (2 ^ r - 1)) = some (nI M) ∧ M < 2 ^ (2 ^ r) ∧ ∀ j, tb M j = true ↔ Md S r k c j := by
  have e := p2_e r hr
  obtain ⟨M, h1, h2⟩ := md6 (S := S) (r := r) (by omega) hr hk k1 hc
  have h3 : ∀ j, tb M j = true ↔ Md S r k c j := by
    intro j
    rw [h2 j]
    constructor
    · rintro ⟨x, x1, x2, y, y1, y2, z, z1, z2, z3⟩
      refine ⟨x, y, z, tb_in hS x2, ?_, ?_, x2, y2, z2, z3⟩
      · unfold yOf at y2
        by_cases h : k < 2
        · rw [if_pos h] at y2
          exact Nat.lt_of_lt_of_le (tb_in (n := 1) (by decide) y2) (by omega)
        · rw [if_neg h] at y2
          exact tb_in hS y2
      · unfold zOf at z2
        by_cases h : k < 3
        · rw [if_pos h] at z2
          exact Nat.lt_of_lt_of_le (tb_in (n := 1) (by decide) z2) (by omega)
        · rw [if_neg h] at z2
          exact tb_in hS z2
    · rintro ⟨x, y, z, x1, y1, z1, x2, y2, z2, z3⟩
      refine ⟨x, by omega, x2, y, ?_, y2, z, ?_, z2, z3⟩
      · unfold mY
        unfold yOf at y2
        by_cases h : k < 2
        · rw [if_pos h] at y2 ⊢
          exact tb_in (n := 1) (by decide) y2
        · rw [if_neg h]
          omega
      · unfold mZ
        unfold zOf at z2
        by_cases h : k < 3
        · rw [if_pos h] at z2 ⊢
          exact tb_in (n := 1) (by decide) z2
        · rw [if_neg h]
          omega
  refine ⟨M, h1, tb_bound (fun j hj => ?_), h3⟩
  cases hb : tb M j
  · rfl
  · obtain ⟨x, y, z, -, -, -, -, -, -, rfl⟩ := (h3 j).mp hb
    have := Nat.mod_lt (apN c x y z) (Nat.two_pow_pos r)
    omega
