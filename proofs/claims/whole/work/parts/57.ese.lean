def zOf (S k : Nat) : Nat := if k < 3 then 1 else S
def yOf (S k : Nat) : Nat := if k < 2 then 1 else S
theorem tb_1 (k : Nat) : tb 1 k = decide (0 = k) := tb_pow 0 k
theorem escT_ne {S r c Z x y : Nat} (hr : r < 5) : escT S r c Z x y ≠ 0 ↔ ∃ z, z < 2 ^ r ∧ tb Z z = true ∧ bad S r c x y z := by
  have e := p2_e r hr
  constructor
  · intro h
    have h1 : ∃ i, tb (escT S r c Z x y) i = true := by
      refine Classical.byContradiction (fun hn => h (tb_ext (fun k => ?_)))
      rw [tb_0]
      cases hb : tb (escT S r c Z x y) k
      · rfl
      · exact absurd ⟨k, hb⟩ hn
    obtain ⟨i, hi⟩ := h1
    unfold escT at hi
    rw [tb_and, Bool.and_eq_true, tb_pjS] at hi
    obtain ⟨⟨z, z1, z2, z3⟩, hs⟩ := hi
    refine ⟨z, z1, z2, ?_⟩
    have hm := Nat.mod_lt (apN c x y z) (Nat.two_pow_pos r)
    have z3' : apN c x y z % 2 ^ r = i := z3
    unfold bad
    rw [z3']
    rw [tb_not] at hs
    have hi32 : i < 32 := by omega
    cases hb : tb S i
    · rfl
    · rw [hb] at hs
      simp [hi32] at hs
  · rintro ⟨z, z1, z2, z3⟩ h0
    have hm := Nat.mod_lt (apN c x y z) (Nat.two_pow_pos r)
    have h1 : tb (escT S r c Z x y) (apN c x y z % 2 ^ r) = true := by
      unfold escT
      rw [tb_and, Bool.and_eq_true, tb_pjS, tb_not]
      refine ⟨⟨z, z1, z2, rfl⟩, ?_⟩
      unfold bad at z3
      have hi32 : apN c x y z % 2 ^ r < 32 := by omega
      rw [z3]
      simp [hi32]
    rw [h0, tb_0] at h1
    exact absurd h1 (by decide)
