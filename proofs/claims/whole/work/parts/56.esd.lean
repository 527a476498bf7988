def escT (S r c Z x y : Nat) : Nat := pjS Z (fun z => apN c x y z % 2 ^ r) (2 ^ r) &&& (S ^^^ 4294967295)
theorem escT_lt {S r c Z x y : Nat} (hr : r < 5) : escT S r c Z x y < 65536 := by
  have e := p2_e r hr
  have h : pjS Z (fun z => apN c x y z % 2 ^ r) (2 ^ r) < 2 ^ (2 ^ r) := pjS_lt _ (fun t _ => Nat.mod_lt _ (Nat.two_pow_pos _))
  have := lt_and (b := S ^^^ 4294967295) h
  unfold escT
  omega
def escY (S r c Y Z x y : Nat) : Prop := tb Y y = true ∧ escT S r c Z x y ≠ 0
def escX (S r c Y Z x : Nat) : Prop := tb S x = true ∧ ∃ y, y < 2 ^ r ∧ escY S r c Y Z x y
theorem es65 {S r c Y Z x : Nat} (hr : r < 5) (hY : Y < 65536) (hZ : Z < 65536) (hc : c < 256) (hx : x < 16) :
    ((∀ y, y < 2 ^ r → ¬ escY S r c Y Z x y) ∧ loopN (f_X1_escapingTuples_s65 (nI S) (nI c) (nI (2 ^ r - 1)) (nI Y) (nI Z) (nI x)) FU 0 = some (.inl (nI (2 ^ r)))) ∨ ∃ y, y < 2 ^ r ∧ escY S r c Y Z x y ∧ (∀ j, j < y → ¬ escY S r c Y Z x j) ∧ ∃ t, loopN (f_X1_escapingTuples_s65 (nI S) (nI c) (nI (2 ^ r - 1)) (nI Y) (nI Z) (nI x)) FU 0 = some (.inr t) ∧ t = nI (escT S r c Z x y) := by
  have e := p2_e r hr
  refine loop_find (escY S r c Y Z x) (fun y t => t = nI (escT S r c Z x y)) (2 ^ r) (by omega) (fun y hy => ?_) ?_
  · unfold f_X1_escapingTuples_s65
    have q3 : ¬ nI (2 ^ r - 1) < nI y := fun e => by have := (n_lt (by omega) (by omega)).mp e; omega
    obtain ⟨L, l1, l2⟩ := at_e (c := c) (x := x) (y := y) hc hx (by omega)
    obtain ⟨H, h1, h2⟩ := at_e (c := c / 16) (x := x) (y := y) (by omega) hx (by omega)
    rw [Nat.mod_eq_of_lt (show c / 16 < 16 by omega)] at h2
    have ec : jushr (nI c) 4 = nI (c / 16) := n_ushr (k := 4) (by decide) (by omega)
    simp only [q3, if_false, has_e (show Y < 4294967296 by omega) (show y < 32 by omega), bd_s, ec, l1, h1, chosen_e hZ hr hc l2 h2, lt_e, clr2, nI_1]
    cases hb : tb Y y
    · refine Or.inl ⟨fun b => ?_, rfl⟩
      have b1 := b.1
      rw [hb] at b1
      exact absurd b1 (by decide)
    · rw [if_neg (by decide)]
      show (_ ∧ (if nI (escT S r c Z x y) = 0 then some (Sum.inl (nI (y + 1))) else some (Sum.inr (Sum.inr (nI (escT S r c Z x y))))) = _) ∨ (_ ∧ ∃ t, (if nI (escT S r c Z x y) = 0 then some (Sum.inl (nI (y + 1))) else some (Sum.inr (Sum.inr (nI (escT S r c Z x y))))) = _ ∧ _)
      have hlt := escT_lt (S := S) (c := c) (Z := Z) (x := x) (y := y) hr
      by_cases g : escT S r c Z x y = 0
      · rw [g]
        exact Or.inl ⟨fun b => b.2 g, rfl⟩
      · have g0 : ¬ nI (escT S r c Z x y) = 0 := fun e2 => g (n_inj (by omega) (by decide : 0 < 4294967296) e2)
        rw [if_neg g0]
        exact Or.inr ⟨⟨hb, g⟩, _, rfl, rfl⟩
  · unfold f_X1_escapingTuples_s65
    have q3 : nI (2 ^ r - 1) < nI (2 ^ r) := (n_lt (by omega) (by omega)).mpr (by omega)
    rw [if_pos q3]
theorem es43 {S r c Y Z : Nat} (hr : r < 5) (hS : S < 65536) (hY : Y < 65536) (hZ : Z < 65536) (hc : c < 256) :
    ((∀ x, x < 2 ^ r → ¬ escX S r c Y Z x) ∧ loopN (f_X1_escapingTuples_s43 (nI S) (nI c) (nI (2 ^ r - 1)) (nI Y) (nI Z)) FU 0 = some (.inl (nI (2 ^ r)))) ∨ ∃ x, x < 2 ^ r ∧ escX S r c Y Z x ∧ (∀ j, j < x → ¬ escX S r c Y Z j) ∧ ∃ t, loopN (f_X1_escapingTuples_s43 (nI S) (nI c) (nI (2 ^ r - 1)) (nI Y) (nI Z)) FU 0 = some (.inr t) ∧ (tb S x = true ∧ ∃ y, y < 2 ^ r ∧ escY S r c Y Z x y ∧ t = nI (escT S r c Z x y)) := by
  have e := p2_e r hr
  refine loop_find (escX S r c Y Z) (fun x t => tb S x = true ∧ ∃ y, y < 2 ^ r ∧ escY S r c Y Z x y ∧ t = nI (escT S r c Z x y)) (2 ^ r) (by omega) (fun x hx => ?_) ?_
  · unfold f_X1_escapingTuples_s43
    have q3 : ¬ nI (2 ^ r - 1) < nI x := fun e => by have := (n_lt (by omega) (by omega)).mp e; omega
    rw [if_neg q3, has_e (show S < 4294967296 by omega) (show x < 32 by omega), bd_s, nI_1]
    cases hb : tb S x
    · refine Or.inl ⟨fun b => ?_, rfl⟩
      have b1 := b.1
      rw [hb] at b1
      exact absurd b1 (by decide)
    · rw [if_neg (by decide)]
      rcases es65 (S := S) (x := x) hr hY hZ hc (by omega) with ⟨g1, g2⟩ | ⟨y, g1, g2, g3, t, g4, g5⟩
      · rw [g2, bl_l]
        exact Or.inl ⟨fun b => by obtain ⟨_, y, y1, y2⟩ := b; exact g1 y y1 y2, rfl⟩
      · rw [g4, bl_r]
        exact Or.inr ⟨⟨hb, y, g1, g2⟩, _, rfl, rfl, y, g1, g2, g5⟩
  · unfold f_X1_escapingTuples_s43
    have q3 : nI (2 ^ r - 1) < nI (2 ^ r) := (n_lt (by omega) (by omega)).mpr (by omega)
    rw [if_pos q3]
