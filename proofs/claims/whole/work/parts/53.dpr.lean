/-! ===== the reference: is a relation kept ===== -/
def nZ (k r : Nat) : Nat := if k < 3 then 1 else 2 ^ r
def nY (k r : Nat) : Nat := if k < 2 then 1 else 2 ^ r
def bad (S r c x y z : Nat) : Prop := tb S (apN c x y z % 2 ^ r) = false
def badZ (S r k c x y z : Nat) : Prop := (k < 3 ∨ tb S z = true) ∧ bad S r c x y z
def badY (S r k c x y : Nat) : Prop := (k < 2 ∨ tb S y = true) ∧ ∃ z, z < nZ k r ∧ badZ S r k c x y z
def badX (S r k c x : Nat) : Prop := tb S x = true ∧ ∃ y, y < nY k r ∧ badY S r k c x y
theorem tst_e {S r a : Nat} (hS : S < 65536) (hr : r < 5) (ha : a < 16) : (jshr (nI S) (nI a &&& nI (2 ^ r - 1)) &&& 1 = 0) = (tb S (a % 2 ^ r) = false) := by
  have h1 : a % 2 ^ r ≤ a := Nat.mod_le _ _
  rw [n_and, Nat.and_two_pow_sub_one_eq_mod, n_bits (by omega) (by omega)]
  apply propext
  cases tb S (a % 2 ^ r)
  · exact ⟨fun _ => rfl, fun _ => rfl⟩
  · exact ⟨fun e => absurd e (by decide), fun e => absurd e (by decide)⟩
theorem dp98 {u : St} {S r k c x y : Nat} (hS : S < 65536) (hr : r < 5) (hk : k < 4) (k1 : 1 ≤ k) (hc : c < 256) (hx : x < 16) (hy : y < 16) (y0 : k < 2 → y = 0) :
    ((∀ z, z < nZ k r → ¬ badZ S r k c x y z) ∧ loopN (f_X2_doesPreserve_s98 u (nI k) (nI c) (nI (2 ^ r - 1)) (nI S) (nI x) (nI y)) FU 0 = some (.inl (nI (nZ k r)))) ∨ ∃ z, z < nZ k r ∧ badZ S r k c x y z ∧ (∀ j, j < z → ¬ badZ S r k c x y j) ∧ ∃ t, loopN (f_X2_doesPreserve_s98 u (nI k) (nI c) (nI (2 ^ r - 1)) (nI S) (nI x) (nI y)) FU 0 = some (.inr t) ∧ t = 0 := by
  have e := p2_e r hr
  have hNz : nZ k r ≤ 16 := by unfold nZ; split <;> omega
  refine loop_find (badZ S r k c x y) (fun _ t => t = 0) (nZ k r) (by omega) (fun z hz => ?_) ?_
  · have hz16 : z < 16 := by omega
    unfold f_X2_doesPreserve_s98
    by_cases h3 : k < 3
    · have q1 : nI k ≤ 2 := (n_le (by omega) (by decide : 2 < 2147483648)).mpr (by omega)
      have q2 : nI k < 3 := (n_lt (by omega) (by decide : 3 < 2147483648)).mpr h3
      have ez : z = 0 := by unfold nZ at hz; rw [if_pos h3] at hz; omega
      subst ez
      have q3 : ¬ (0 : Int32) < nI 0 := by decide
      simp only [q1, q2, q3, if_true, if_false, applied_e hk k1 hc hx hy (show 0 < 16 by decide) y0 (fun _ => rfl), bd_s, tst_e hS hr (apN_lt c x y 0), nI_1]
      by_cases g : tb S (apN c x y 0 % 2 ^ r) = false
      · rw [if_pos g]
        exact Or.inr ⟨⟨Or.inl h3, g⟩, _, rfl, rfl⟩
      · rw [if_neg g]
        exact Or.inl ⟨fun b => g b.2, rfl⟩
    · have q1 : ¬ nI k ≤ 2 := fun e => by have := (n_le (by omega) (by decide : 2 < 2147483648)).mp e; omega
      have q2 : ¬ nI k < 3 := fun e => h3 ((n_lt (by omega) (by decide : 3 < 2147483648)).mp e)
      have hz2 : z < 2 ^ r := by unfold nZ at hz; rw [if_neg h3] at hz; exact hz
      have q3 : ¬ nI (2 ^ r - 1) < nI z := fun e => by have := (n_lt (by omega) (by omega)).mp e; omega
      simp only [q1, q2, q3, if_false, applied_e hk k1 hc hx hy hz16 y0 (fun e => absurd e h3), bd_s, tst_e hS hr (apN_lt c x y z), n_bits (show z < 32 by omega) (show S < 2147483648 by omega), nI_1]
      cases hb : tb S z
      · refine Or.inl ⟨fun b => ?_, rfl⟩
        rcases b.1 with b | b
        · exact h3 b
        · rw [hb] at b
          exact absurd b (by decide)
      · rw [if_pos (by decide)]
        by_cases g : tb S (apN c x y z % 2 ^ r) = false
        · rw [if_pos g]
          exact Or.inr ⟨⟨Or.inr hb, g⟩, _, rfl, rfl⟩
        · rw [if_neg g]
          exact Or.inl ⟨fun b => g b.2, rfl⟩
  · unfold f_X2_doesPreserve_s98 nZ
    by_cases h3 : k < 3
    · have q1 : nI k ≤ 2 := (n_le (by omega) (by decide : 2 < 2147483648)).mpr (by omega)
      rw [if_pos h3, if_pos q1]
      rfl
    · have q1 : ¬ nI k ≤ 2 := fun e => by have := (n_le (by omega) (by decide : 2 < 2147483648)).mp e; omega
      have q3 : nI (2 ^ r - 1) < nI (2 ^ r) := (n_lt (by omega) (by omega)).mpr (by omega)
      rw [if_neg h3, if_neg q1, if_pos q3]
