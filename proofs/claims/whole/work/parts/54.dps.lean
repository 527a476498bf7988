theorem dp61 {u : St} {S r k c x : Nat} (hS : S < 65536) (hr : r < 5) (hk : k < 4) (k1 : 1 ≤ k) (hc : c < 256) (hx : x < 16) :
    ((∀ y, y < nY k r → ¬ badY S r k c x y) ∧ loopN (f_X2_doesPreserve_s61 u (nI k) (nI c) (nI (2 ^ r - 1)) (nI S) (nI x)) FU 0 = some (.inl (nI (nY k r)))) ∨ ∃ y, y < nY k r ∧ badY S r k c x y ∧ (∀ j, j < y → ¬ badY S r k c x j) ∧ ∃ t, loopN (f_X2_doesPreserve_s61 u (nI k) (nI c) (nI (2 ^ r - 1)) (nI S) (nI x)) FU 0 = some (.inr t) ∧ t = 0 := by
  have e := p2_e r hr
  have hNy : nY k r ≤ 16 := by unfold nY; split <;> omega
  refine loop_find (badY S r k c x) (fun _ t => t = 0) (nY k r) (by omega) (fun y hy => ?_) ?_
  · have hy16 : y < 16 := by omega
    unfold f_X2_doesPreserve_s61
    by_cases h2 : k < 2
    · have q1 : nI k ≤ 1 := (n_le (by omega) (by decide : 1 < 2147483648)).mpr (by omega)
      have ey : y = 0 := by unfold nY at hy; rw [if_pos h2] at hy; omega
      subst ey
      have q3 : ¬ (0 : Int32) < nI 0 := by decide
      rw [if_pos q1, if_neg q3, if_pos q1]
      rcases dp98 (u := u) (x := x) (y := 0) hS hr hk k1 hc hx (by decide) (fun _ => rfl) with ⟨g1, g2⟩ | ⟨z, g1, g2, g3, t, g4, rfl⟩
      · rw [g2, bl_l, nI_1]
        exact Or.inl ⟨fun b => by obtain ⟨_, z, z1, z2⟩ := b; exact g1 z z1 z2, rfl⟩
      · rw [g4, bl_r]
        exact Or.inr ⟨⟨Or.inl h2, z, g1, g2⟩, _, rfl, rfl⟩
    · have q1 : ¬ nI k ≤ 1 := fun e => by have := (n_le (by omega) (by decide : 1 < 2147483648)).mp e; omega
      have hy2 : y < 2 ^ r := by unfold nY at hy; rw [if_neg h2] at hy; exact hy
      have q3 : ¬ nI (2 ^ r - 1) < nI y := fun e => by have := (n_lt (by omega) (by omega)).mp e; omega
      rw [if_neg q1, if_neg q3, if_neg q1, n_bits (show y < 32 by omega) (show S < 2147483648 by omega), nI_1]
      cases hb : tb S y
      · refine Or.inl ⟨fun b => ?_, rfl⟩
        rcases b.1 with b | b
        · exact h2 b
        · rw [hb] at b
          exact absurd b (by decide)
      · rw [if_neg (by decide)]
        rcases dp98 (u := u) (x := x) (y := y) hS hr hk k1 hc hx hy16 (fun e => absurd e h2) with ⟨g1, g2⟩ | ⟨z, g1, g2, g3, t, g4, rfl⟩
        · rw [g2, bl_l]
          exact Or.inl ⟨fun b => by obtain ⟨_, z, z1, z2⟩ := b; exact g1 z z1 z2, rfl⟩
        · rw [g4, bl_r]
          exact Or.inr ⟨⟨Or.inr hb, z, g1, g2⟩, _, rfl, rfl⟩
  · unfold f_X2_doesPreserve_s61 nY
    by_cases h2 : k < 2
    · have q1 : nI k ≤ 1 := (n_le (by omega) (by decide : 1 < 2147483648)).mpr (by omega)
      rw [if_pos h2, if_pos q1]
      rfl
    · have q1 : ¬ nI k ≤ 1 := fun e => by have := (n_le (by omega) (by decide : 1 < 2147483648)).mp e; omega
      have q3 : nI (2 ^ r - 1) < nI (2 ^ r) := (n_lt (by omega) (by omega)).mpr (by omega)
      rw [if_neg h2, if_neg q1, if_pos q3]
theorem dp38 {u : St} {S r k c : Nat} (hS : S < 65536) (hr : r < 5) (hk : k < 4) (k1 : 1 ≤ k) (hc : c < 256) :
    ((∀ x, x < 2 ^ r → ¬ badX S r k c x) ∧ loopN (f_X2_doesPreserve_s38 u (nI k) (nI c) (nI (2 ^ r - 1)) (nI S)) FU 0 = some (.inl (nI (2 ^ r)))) ∨ ∃ x, x < 2 ^ r ∧ badX S r k c x ∧ (∀ j, j < x → ¬ badX S r k c j) ∧ ∃ t, loopN (f_X2_doesPreserve_s38 u (nI k) (nI c) (nI (2 ^ r - 1)) (nI S)) FU 0 = some (.inr t) ∧ t = 0 := by
  have e := p2_e r hr
  refine loop_find (badX S r k c) (fun _ t => t = 0) (2 ^ r) (by omega) (fun x hx => ?_) ?_
  · unfold f_X2_doesPreserve_s38
    have q3 : ¬ nI (2 ^ r - 1) < nI x := fun e => by have := (n_lt (by omega) (by omega)).mp e; omega
    rw [if_neg q3, n_bits (show x < 32 by omega) (show S < 2147483648 by omega), nI_1]
    cases hb : tb S x
    · refine Or.inl ⟨fun b => ?_, rfl⟩
      have b1 := b.1
      rw [hb] at b1
      exact absurd b1 (by decide)
    · rw [if_neg (by decide)]
      rcases dp61 (u := u) (x := x) hS hr hk k1 hc (by omega) with ⟨g1, g2⟩ | ⟨y, g1, g2, g3, t, g4, rfl⟩
      · rw [g2, bl_l]
        exact Or.inl ⟨fun b => by obtain ⟨_, y, y1, y2⟩ := b; exact g1 y y1 y2, rfl⟩
      · rw [g4, bl_r]
        exact Or.inr ⟨⟨hb, y, g1, g2⟩, _, rfl, rfl⟩
  · unfold f_X2_doesPreserve_s38
    have q3 : nI (2 ^ r - 1) < nI (2 ^ r) := (n_lt (by omega) (by omega)).mpr (by omega)
    rw [if_pos q3]
/-- the operation takes some tuples of the relation out of it -/
def Esc (S r k c : Nat) : Prop := ∃ x, x < 2 ^ r ∧ badX S r k c x
theorem dp_e {u : St} {S r k c q : Nat} (hq : q < 8) (h1 : u 1 q = nI r) (h2 : u 2 q = nI S) (hS : S < 2 ^ (2 ^ r)) (hr : r < 5) (hk : k < 4) (k1 : 1 ≤ k) (hc : c < 256) : (Esc S r k c ∧ f_X2_doesPreserve u (nI k) (nI c) (nI q) = some 0) ∨ (¬ Esc S r k c ∧ f_X2_doesPreserve u (nI k) (nI c) (nI q) = some 1) := by
  have e := p2_e r hr
  have hS2 : S < 65536 := by omega
  have ef : ∀ r, r < 5 → jshl 1 (nI (2 ^ r - 1) + 1) - 1 = nI (2 ^ (2 ^ r) - 1) := by decide +kernel
  unfold f_X2_doesPreserve
  simp only [gd_t (inb_t hq (by decide : 8 < 2147483648)), n_ix (show q < 2147483648 by omega), h1, h2, lt_e, gt_e r hr, ef r hr]
  by_cases hf : S = 2 ^ (2 ^ r) - 1
  · refine Or.inr ⟨?_, by rw [hf, if_pos rfl]⟩
    rintro ⟨x, _, _, y, _, _, z, _, _, hb⟩
    unfold bad at hb
    rw [hf, tb_mask] at hb
    have := Nat.mod_lt (apN c x y z) (Nat.two_pow_pos r)
    simp at hb
    omega
  · rw [if_neg (fun e2 => hf (n_inj (by omega) (by omega) e2))]
    rcases dp38 (u := u) hS2 hr hk k1 hc with ⟨g1, g2⟩ | ⟨x, g1, g2, g3, t, g4, rfl⟩
    · rw [g2]
      exact Or.inr ⟨fun ⟨x, x1, x2⟩ => g1 x x1 x2, rfl⟩
    · rw [g4]
      exact Or.inl ⟨⟨x, g1, g2⟩, rfl⟩
