theorem cpy_e {f g : Nat → Int32} {n i : Nat} (h : i < n) : va_cpy f g 0 0 n i = f i := by
  unfold va_cpy
  rw [if_pos ⟨Nat.zero_le _, by omega⟩, Nat.zero_add, Nat.sub_zero]
theorem copy_RV (t : St) {s : St} {A : Ab} (oA : okA A) (h : RV s A) : ∃ r, f_X0_copyFrom t s = some r ∧ RV r A ∧ r 0 0 = nI (aN A) := by
  obtain ⟨b1, b2, b3, b4, b5⟩ := h
  have h8 := oA.1
  have h20 := oA.2.2.2.2.1
  unfold f_X0_copyFrom
  refine ⟨_, rfl, ⟨b1, fun i hi => ?_, b3, b4, fun c hc => ?_⟩, b1⟩
  · obtain ⟨x1, x2⟩ := b2 i hi
    refine ⟨?_, ?_⟩
    · exact (cpy_e (show i < 8 by omega)).trans x1
    · exact (cpy_e (show i < 8 by omega)).trans x2
  · obtain ⟨x1, k, x2, x3⟩ := b5 c hc
    refine ⟨?_, k, ?_, x3⟩
    · exact (cpy_e (show c < 20 by omega)).trans x1
    · exact (cpy_e (show c < 20 by omega)).trans x2
theorem RM_of {m1 s : St} {A : Ab} (oA : okA A) (h : RM m1 A) (g : ∀ c, c < 119 → s (lr c) (lc c) = m1 (lr c) (lc c)) : RM s A := by
  obtain ⟨b1, b2, b3, b4, b5⟩ := h
  have h8 := oA.1
  have h20 := oA.2.2.2.2.1
  refine ⟨(g 0 (by decide)).trans b1, fun i hi => ?_, (g 1 (by decide)).trans b3, (g 2 (by decide)).trans b4, fun c hc => ?_⟩
  · obtain ⟨x1, x2⟩ := b2 i hi
    have g1 := g (3 + i) (by omega)
    have g2 := g (11 + i) (by omega)
    rw [(l_1 i (by omega)).1, (l_1 i (by omega)).2] at g1
    rw [(l_2 i (by omega)).1, (l_2 i (by omega)).2] at g2
    exact ⟨g1.trans x1, g2.trans x2⟩
  · obtain ⟨x1, x2⟩ := b5 c hc
    have g1 := g (19 + c) (by omega)
    rw [(l_4 c (by omega)).1, (l_4 c (by omega)).2] at g1
    refine ⟨g1.trans x1, fun p hp => ?_⟩
    have h4 := (oA.2.1 _ (oA.2.2.2.2.2 c hc).1).2.1
    have g2 := g (39 + (4 * c + p)) (by omega)
    rw [(l_5 (4 * c + p) (by omega)).1, (l_5 (4 * c + p) (by omega)).2] at g2
    exact g2.trans (x2 p hp)
theorem sv_at (m : St) (c : Nat) (h : c < 119) : sv m (lr c) (lc c) = m 17 c := by
  by_cases h1 : c < 3
  · have e : c = 0 ∨ c = 1 ∨ c = 2 := by omega
    rcases e with rfl | rfl | rfl <;> rfl
  by_cases h2 : c < 11
  · obtain ⟨i, rfl⟩ : ∃ i, c = 3 + i := ⟨c - 3, by omega⟩
    rw [(l_1 i (by omega)).1, (l_1 i (by omega)).2]
    rfl
  by_cases h3 : c < 19
  · obtain ⟨i, rfl⟩ : ∃ i, c = 11 + i := ⟨c - 11, by omega⟩
    rw [(l_2 i (by omega)).1, (l_2 i (by omega)).2]
    rfl
  by_cases h4 : c < 39
  · obtain ⟨i, rfl⟩ : ∃ i, c = 19 + i := ⟨c - 19, by omega⟩
    rw [(l_4 i (by omega)).1, (l_4 i (by omega)).2]
    rfl
  · obtain ⟨i, rfl⟩ : ∃ i, c = 39 + i := ⟨c - 39, by omega⟩
    rw [(l_5 i (by omega)).1, (l_5 i (by omega)).2]
    rfl
theorem rest_PS {sav : Bool} {u m s : St} {k : Nat} (h : PS sav m s k) (r : RTi u m ∧ RTe u m ∧ RTo u m ∧ RF u m) : RTi u s ∧ RTe u s ∧ RTo u s ∧ RF u s := by
  obtain ⟨_, _, _, p4, p5, _⟩ := h
  have e10 := p4 10 (by decide)
  have e11 := p4 11 (by decide)
  have e12 := p4 12 (by decide)
  have e8 := p5 8 (by decide)
  have e9 := p5 9 (by decide)
  have e15 := p5 15 (by decide)
  have e16 := p5 16 (by decide)
  unfold RTi RTe RTo RF at r ⊢
  rw [e10, e11, e12, e8, e9, e15, e16]
  exact r
theorem saveSnapshot_j {u v w m : St} (hI : Inv u v w m) : ∃ b u' w' m', f_X1_saveSnapshot u v w = some (b, u', w') ∧ f_X2_saveSnapshot m = some (b, m') ∧ m' 0 0 = 0 ∧ Inv u' v w' m' := by
  obtain ⟨A, oA, hv, hm⟩ := hI.1
  obtain ⟨r, c1, c2, c3⟩ := copy_RV w oA hv
  obtain ⟨s, d1, d2⟩ := passState_e true (us m 19 1)
  have hm' : RM (us m 19 1) A := hm
  have g1 : ∀ c, c < 119 → s (lr c) (lc c) = us m 19 1 (lr c) (lc c) := fun c hc => by
    have := (d2.2.2.2.2.2 c hc).2
    rw [if_pos hc] at this
    exact this
  have g2 : ∀ c, c < 119 → sv s (lr c) (lc c) = us m 19 1 (lr c) (lc c) := fun c hc => by
    have := (d2.2.2.2.2.2 c hc).1
    rw [if_pos hc] at this
    rw [sv_at s c hc]
    exact this
  have hms := RM_of oA hm' g1
  refine ⟨nI (aN A), us u 2 1, r, s, ?_, ?_, d2.2.2.1, ⟨⟨A, oA, hv, hms⟩, Or.inr ⟨us_s _ _ _, ?_, A, oA, c2, RM_of oA hm' g2⟩, rest_PS d2 hI.2.2⟩⟩
  · unfold f_X1_saveSnapshot
    rw [c1, bd_s, c3]
  · unfold f_X2_saveSnapshot
    have d1' : f_X2_passState (us m 19 1) 1 = some (s 0 3, s) := d1
    rw [d1', bd_s, hms.1]
  · rw [d2.2.2.2.1 19 (by decide), us_s]
theorem restoreSnapshot_j {u v w m : St} (hI : Inv u v w m) : J [eIS] u w (f_X1_restoreSnapshot u v w) (f_X2_restoreSnapshot m) := by
  unfold f_X1_restoreSnapshot f_X2_restoreSnapshot
  rcases hI.2.1 with ⟨h1, h2⟩ | ⟨h1, h2, B, oB, hw, hs⟩
  · rw [h1, h2, if_pos e00, if_pos e00]
    exact J_fail hI 0 (by decide) rfl rfl
  · obtain ⟨r, c1, c2, c3⟩ := copy_RV v oB hw
    obtain ⟨s, d1, d2⟩ := passState_e false m
    have g1 : ∀ c, c < 119 → s (lr c) (lc c) = sv m (lr c) (lc c) := fun c hc => by
      have := (d2.2.2.2.2.2 c hc).2
      rw [if_pos hc] at this
      rw [sv_at m c hc]
      exact this
    have g2 : ∀ c, c < 119 → sv s (lr c) (lc c) = sv m (lr c) (lc c) := fun c hc => by
      have := (d2.2.2.2.2.2 c hc).1
      rw [if_pos hc] at this
      rw [sv_at s c hc, sv_at m c hc]
      exact this
    have hms := RM_of oB hs g1
    have d1' : f_X2_passState m 0 = some (s 0 3, s) := d1
    rw [h1, h2, if_neg e10, if_neg e10, c1, bd_s, d1', bd_s, c3, hms.1]
    exact J_ok rfl rfl d2.2.2.1 ⟨⟨B, oB, c2, hms⟩, Or.inr ⟨h1, (d2.2.2.2.1 19 (by decide)).trans h2, B, oB, hw, RM_of oB hs g2⟩, rest_PS d2 hI.2.2⟩
