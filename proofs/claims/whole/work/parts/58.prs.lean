theorem escaping_e {S r k c : Nat} (hS : S < 2 ^ (2 ^ r)) (hr : r < 5) (hk : k < 4) (hc : c < 256) :
    (¬ Esc S r k c ∧ f_X1_escapingTuples (nI S) (nI r) (nI k) (nI c) = some 0) ∨ (Esc S r k c ∧ ∃ x y, x < 2 ^ r ∧ tb S x = true ∧ y < 2 ^ r ∧ escY S r c (yOf S k) (zOf S k) x y ∧ f_X1_escapingTuples (nI S) (nI r) (nI k) (nI c) = some (nI (escT S r c (zOf S k) x y))) := by
  have e := p2_e r hr
  have hS2 : S < 65536 := by omega
  have hY : yOf S k < 65536 := by unfold yOf; split <;> omega
  have hZ : zOf S k < 65536 := by unfold zOf; split <;> omega
  have key : f_X1_escapingTuples (nI S) (nI r) (nI k) (nI c) = if nI S = nI (2 ^ (2 ^ r) - 1) then some 0 else bl (loopN (f_X1_escapingTuples_s43 (nI S) (nI c) (nI (2 ^ r - 1)) (nI (yOf S k)) (nI (zOf S k))) FU 0) (fun t => some t) (fun _ => some 0) := by
    unfold f_X1_escapingTuples f_X1_allTuples f_X1_greatestTuple yOf zOf
    rw [bd_s, all_e r hr, bd_s, gt_e r hr]
    by_cases h2 : k < 2
    · have q2 : nI k < 2 := (n_lt (by omega) (by decide : 2 < 2147483648)).mpr h2
      have q3 : nI k < 3 := (n_lt (by omega) (by decide : 3 < 2147483648)).mpr (by omega)
      rw [if_pos q2, if_pos q3, if_pos h2, if_pos (show k < 3 by omega)]
      rfl
    · have q2 : ¬ nI k < 2 := fun e => h2 ((n_lt (by omega) (by decide : 2 < 2147483648)).mp e)
      by_cases h3 : k < 3
      · have q3 : nI k < 3 := (n_lt (by omega) (by decide : 3 < 2147483648)).mpr h3
        rw [if_neg q2, if_pos q3, if_neg h2, if_pos h3]
        rfl
      · have q3 : ¬ nI k < 3 := fun e => h3 ((n_lt (by omega) (by decide : 3 < 2147483648)).mp e)
        rw [if_neg q2, if_neg q3, if_neg h2, if_neg h3]
  rw [key]
  by_cases hf : S = 2 ^ (2 ^ r) - 1
  · refine Or.inl ⟨?_, by rw [← hf, if_pos rfl]⟩
    rintro ⟨x, _, _, y, _, _, z, _, _, hb⟩
    unfold bad at hb
    rw [hf, tb_mask] at hb
    have := Nat.mod_lt (apN c x y z) (Nat.two_pow_pos r)
    simp at hb
    omega
  · rw [if_neg (fun e2 => hf (n_inj (by omega) (by omega) e2))]
    rcases es43 (S := S) hr hS2 hY hZ hc with ⟨g1, g2⟩ | ⟨x, g1, g2, g3, t, g4, g5, y, g6, g7, g8⟩
    · rw [g2]
      exact Or.inl ⟨fun h => by obtain ⟨x, x1, x2⟩ := (esc_iff hr).mpr h; exact g1 x x1 x2, rfl⟩
    · rw [g4, g8]
      exact Or.inr ⟨(esc_iff hr).mp ⟨x, g1, g2⟩, x, y, g1, g5, g6, g7, rfl⟩
