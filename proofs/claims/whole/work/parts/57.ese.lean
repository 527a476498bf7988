def zOf (S k : Nat) : Nat := if k < 3 then 1 else S
def yOf (S k : Nat) : Nat := if k < 2 then 1 else S
theorem tb_1 (k : Nat) : tb 1 k = decide (0 = k) := tb_pow 0 k
theorem escT_ne {S r c Z x y : Nat} (hr : r < 5) : escT S r c Z x y ≠ 0 ↔ ∃ z, z < 2 ^ r ∧ tb Z z = true ∧ bad S r c x y z := by
  have e := p2_e r hr
  constructor
  · intro h
    have h1 : ∃ i, tb (escT S r c Z x y) i = true := by
      refine Classical.byContradiction (fun hn => h (tb_ext (fun k => ?_)))
      rw [tb_0]
      cases hb : tb (escT S r c Z x y) k
      · rfl
      · exact absurd ⟨k, hb⟩ hn
    obtain ⟨i, hi⟩ := h1
    unfold escT at hi
    rw [tb_and, Bool.and_eq_true, tb_pjS] at hi
    obtain ⟨⟨z, z1, z2, z3⟩, hs⟩ := hi
    refine ⟨z, z1, z2, ?_⟩
    have hm := Nat.mod_lt (apN c x y z) (Nat.two_pow_pos r)
    have z3' : apN c x y z % 2 ^ r = i := z3
    unfold bad
    rw [z3']
    rw [tb_not] at hs
    have hi32 : i < 32 := by omega
    cases hb : tb S i
    · rfl
    · rw [hb] at hs
      simp [hi32] at hs
  · rintro ⟨z, z1, z2, z3⟩ h0
    have hm := Nat.mod_lt (apN c x y z) (Nat.two_pow_pos r)
    have h1 : tb (escT S r c Z x y) (apN c x y z % 2 ^ r) = true := by
      unfold escT
      rw [tb_and, Bool.and_eq_true, tb_pjS, tb_not]
      refine ⟨⟨z, z1, z2, rfl⟩, ?_⟩
      unfold bad at z3
      have hi32 : apN c x y z % 2 ^ r < 32 := by omega
      rw [z3]
      simp [hi32]
    rw [h0, tb_0] at h1
    exact absurd h1 (by decide)
theorem esc_iff {S r k c : Nat} (hr : r < 5) : (∃ x, x < 2 ^ r ∧ escX S r c (yOf S k) (zOf S k) x) ↔ Esc S r k c := by
  have e := p2_e r hr
  constructor
  · rintro ⟨x, x1, x2, y, y1, y2, y3⟩
    obtain ⟨z, z1, z2, z3⟩ := (escT_ne hr).mp y3
    refine ⟨x, x1, x2, y, ?_, ?_, z, ?_, ?_, z3⟩
    · unfold nY
      by_cases h : k < 2
      · rw [if_pos h]
        unfold yOf at y2
        rw [if_pos h, tb_1] at y2
        have := of_decide_eq_true y2
        omega
      · rw [if_neg h]
        exact y1
    · by_cases h : k < 2
      · exact Or.inl h
      · unfold yOf at y2
        rw [if_neg h] at y2
        exact Or.inr y2
    · unfold nZ
      by_cases h : k < 3
      · rw [if_pos h]
        unfold zOf at z2
        rw [if_pos h, tb_1] at z2
        have := of_decide_eq_true z2
        omega
      · rw [if_neg h]
        exact z1
    · by_cases h : k < 3
      · exact Or.inl h
      · unfold zOf at z2
        rw [if_neg h] at z2
        exact Or.inr z2
  · rintro ⟨x, x1, x2, y, y1, y2, z, z1, z2, z3⟩
    have hz : z < 2 ^ r ∧ tb (zOf S k) z = true := by
      unfold nZ at z1
      unfold zOf
      by_cases h : k < 3
      · rw [if_pos h] at z1 ⊢
        have ez : z = 0 := by omega
        subst ez
        exact ⟨by omega, by rw [tb_1]; rfl⟩
      · rw [if_neg h] at z1 ⊢
        exact ⟨z1, z2.resolve_left h⟩
    have hy : y < 2 ^ r ∧ tb (yOf S k) y = true := by
      unfold nY at y1
      unfold yOf
      by_cases h : k < 2
      · rw [if_pos h] at y1 ⊢
        have ey : y = 0 := by omega
        subst ey
        exact ⟨by omega, by rw [tb_1]; rfl⟩
      · rw [if_neg h] at y1 ⊢
        exact ⟨y1, y2.resolve_left h⟩
    exact ⟨x, x1, x2, y, hy.1, hy.2, (escT_ne hr).mpr ⟨z, hz.1, hz.2, z3⟩⟩
