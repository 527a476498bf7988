/-! ===== the polymorphism with a number ===== -/
theorem n_pr {a : Nat} (h : 1 ≤ a) : nI a + (-1) = nI (a - 1) := by
  obtain ⟨b, rfl⟩ : ∃ b, a = b + 1 := ⟨a - 1, by omega⟩
  have e : ∀ x : Int32, x + (-1) = x - 1 := fun x => by rw [Int32.sub_eq_add_neg]
  rw [e, nI_pred, Nat.add_sub_cancel]
/-- the place of the a-th of those below N that a test takes -/
def Kth (f : Nat → Bool) (N a i : Nat) : Prop := i < N ∧ f i = true ∧ fb_ct f i = a
theorem kth_no {f : Nat → Bool} {N a i : Nat} (h : Kth f N a i) (h2 : fb_ct f N ≤ a) : False := by
  obtain ⟨h3, h4, h5⟩ := h
  have h6 := fb_ct_mono f (show i + 1 ≤ N from h3)
  rw [fb_ct_succ, h4] at h6
  simp only [if_true] at h6
  omega
theorem kth_one {f : Nat → Bool} {N a i j : Nat} (h : Kth f N a i) (h2 : Kth f N a j) : i = j := fb_ct_kth_one h.2.1 h2.2.1 (h.2.2.trans h2.2.2.symm)
theorem ct_go {f : Nat → Bool} {i a : Nat} (h : fb_ct f i ≤ a) (hn : ¬ (f i = true ∧ fb_ct f i = a)) : fb_ct f (i + 1) ≤ a := by
  rw [fb_ct_succ]
  cases hf : f i
  · simpa using h
  · have : fb_ct f i ≠ a := fun e => hn ⟨hf, e⟩
    simp only [if_true]
    omega
theorem plm1 {u v w : St} {A : Ab} (oA : okA A) (hv : RV v A) {k a : Nat} (hk : k < 4) (ha : a < 2147483648) : (∃ c, Kth (kb A k) (2 ^ (2 ^ k)) a c ∧ loopN (f_X1_polymorphism_s13 u v w (nI k) (nI a)) FU (0, 0) = some (.inr (.inl (nI c)))) ∨ (fb_ct (kb A k) (2 ^ (2 ^ k)) ≤ a ∧ ∃ s, loopN (f_X1_polymorphism_s13 u v w (nI k) (nI a)) FU (0, 0) = some (.inl s)) := by
  have e := p2c k hk
  have e1 := Nat.two_pow_pos (2 ^ k)
  have h := loop_at (step := f_X1_polymorphism_s13 u v w (nI k) (nI a)) (fun i st => st = (nI (fb_ct (kb A k) i), nI i) ∧ fb_ct (kb A k) i ≤ a) (fun r => (∃ c, Kth (kb A k) (2 ^ (2 ^ k)) a c ∧ r = .inr (.inl (nI c))) ∨ (fb_ct (kb A k) (2 ^ (2 ^ k)) ≤ a ∧ ∃ s, r = .inl s)) (2 ^ (2 ^ k)) (s := (0, 0)) (by omega) ⟨rfl, Nat.zero_le _⟩ (by
    rintro i _ hi ⟨rfl, hi2⟩
    unfold f_X1_polymorphism_s13 f_X1_allTuples
    rw [bd_s, all_e k (by omega)]
    by_cases h : i < 2 ^ (2 ^ k)
    · have q : ¬ nI (2 ^ (2 ^ k) - 1) < nI i := fun e => by have := (n_lt (by omega) (by omega)).mp e; omega
      have hl := fb_ct_le (kb A k) i
      have hs := fb_ct_succ (kb A k) i
      simp only [q, if_false, allP_e (u := u) (w := w) oA hv hk (show i < 256 by omega), bd_s, nI_1, n_eq (show fb_ct (kb A k) i < 4294967296 by omega) (show a < 4294967296 by omega)]
      cases hb : kb A k i
      · rw [hb] at hs
        refine Or.inl ⟨h, _, rfl, ?_, ?_⟩
        · rw [hs]
          rfl
        · rw [hs]
          exact hi2
      · rw [hb] at hs
        rw [if_neg (by decide)]
        by_cases g : fb_ct (kb A k) i = a
        · rw [if_pos g]
          exact Or.inr ⟨_, rfl, Or.inl ⟨i, ⟨h, hb, g⟩, rfl⟩⟩
        · rw [if_neg g]
          refine Or.inl ⟨h, _, rfl, ?_, ct_go hi2 (fun e => g e.2)⟩
          rw [hs]
          rfl
    · have e2 : i = 2 ^ (2 ^ k) := by omega
      subst e2
      have q : nI (2 ^ (2 ^ k) - 1) < nI (2 ^ (2 ^ k)) := (n_lt (by omega) (by omega)).mpr (by omega)
      rw [if_pos q]
      exact Or.inr ⟨_, rfl, Or.inr ⟨hi2, _, rfl⟩⟩)
  obtain ⟨r, h1, h2⟩ := h
  rw [h1]
  rcases h2 with ⟨c, h2, rfl⟩ | ⟨h2, s, rfl⟩
  · exact Or.inl ⟨c, h2, rfl⟩
  · exact Or.inr ⟨h2, s, rfl⟩
theorem plm2 {m : St} {A : Ab} (oA : okA A) (hm : RM m A) {k a : Nat} (hk : k < 4) (k1 : 1 ≤ k) (ha : a < 2147483648) : (∃ c, Kth (kb A k) (2 ^ (2 ^ k)) a c ∧ loopN (f_X2_polymorphism_s25 m (nI k)) FU (nI a, 0) = some (.inr (nI c, m))) ∨ (fb_ct (kb A k) (2 ^ (2 ^ k)) ≤ a ∧ ∃ s, loopN (f_X2_polymorphism_s25 m (nI k)) FU (nI a, 0) = some (.inl s)) := by
  have e := p2c k hk
  have e1 := Nat.two_pow_pos (2 ^ k)
  have h := loop_at (step := f_X2_polymorphism_s25 m (nI k)) (fun i st => st = (nI (a - fb_ct (kb A k) i), nI i) ∧ fb_ct (kb A k) i ≤ a) (fun r => (∃ c, Kth (kb A k) (2 ^ (2 ^ k)) a c ∧ r = .inr (nI c, m)) ∨ (fb_ct (kb A k) (2 ^ (2 ^ k)) ≤ a ∧ ∃ s, r = .inl s)) (2 ^ (2 ^ k)) (s := (nI a, 0)) (by omega) ⟨rfl, Nat.zero_le _⟩ (by
    rintro i _ hi ⟨rfl, hi2⟩
    unfold f_X2_polymorphism_s25
    rw [sh2_e k (by omega)]
    by_cases h : i < 2 ^ (2 ^ k)
    · have q : ¬ nI (2 ^ (2 ^ k)) ≤ nI i := fun e => by have := (n_le (by omega) (by omega)).mp e; omega
      have hl := fb_ct_le (kb A k) i
      have hs := fb_ct_succ (kb A k) i
      have q0 : (nI (a - fb_ct (kb A k) i) = 0) = (a - fb_ct (kb A k) i = 0) := propext (n_eq (b := 0) (by omega) (by decide))
      simp only [q, if_false, n_pos (show a - fb_ct (kb A k) i < 2147483648 by omega), kept_e oA hm hk k1 (show i < 256 by omega), bd_s, nI_1, q0]
      cases hb : kb A k i
      · rw [hb] at hs
        refine Or.inl ⟨h, _, rfl, ?_, ?_⟩
        · rw [hs]
          rfl
        · rw [hs]
          exact hi2
      · rw [hb] at hs
        simp only [if_true] at hs
        rw [if_neg (by decide)]
        by_cases g : a - fb_ct (kb A k) i = 0
        · rw [if_pos g]
          exact Or.inr ⟨_, rfl, Or.inl ⟨i, ⟨h, hb, by omega⟩, rfl⟩⟩
        · rw [if_neg g, n_pr (by omega)]
          refine Or.inl ⟨h, _, rfl, ?_, by omega⟩
          rw [hs, show a - fb_ct (kb A k) i - 1 = a - (fb_ct (kb A k) i + 1) by omega]
    · have e2 : i = 2 ^ (2 ^ k) := by omega
      subst e2
      have q : nI (2 ^ (2 ^ k)) ≤ nI (2 ^ (2 ^ k)) := (n_le (by omega) (by omega)).mpr (Nat.le_refl _)
      rw [if_pos q]
      exact Or.inr ⟨_, rfl, Or.inr ⟨hi2, _, rfl⟩⟩)
  obtain ⟨r, h1, h2⟩ := h
  rw [h1]
  rcases h2 with ⟨c, h2, rfl⟩ | ⟨h2, s, rfl⟩
  · exact Or.inl ⟨c, h2, rfl⟩
  · exact Or.inr ⟨h2, s, rfl⟩
theorem polymorphism_j {u v w m : St} (hI : Inv u v w m) (p q : Int32) : JP [eIA, eNS] u v w (f_X1_polymorphism u v w p q) (f_X2_polymorphism m p q) := by
  obtain ⟨A, oA, hv, hm⟩ := hI.1
  unfold f_X1_polymorphism f_X2_polymorphism
  rcases ar13 p with ⟨h1, h2⟩ | ⟨k, ka, kb', rfl, h1, h2⟩
  · rw [h1, h2, bz_r, bd_s, if_pos e00]
    exact JP_fail hI 0 (by decide) rfl rfl
  · rw [h1, h2, bz_l, bd_s, if_neg e10]
    rcases nn q with h | ⟨a, ha, rfl⟩
    · have hl : ∃ s, loopN (f_X2_polymorphism_s25 (us m 0 0) (nI k)) FU (q, 0) = some (.inl s) := by
        have e := p2c k (by omega)
        have e1 := Nat.two_pow_pos (2 ^ k)
        have hq : ¬ nI (2 ^ (2 ^ k)) ≤ 0 := fun e => by have := (n_le (b := 0) (by omega) (by decide)).mp e; omega
        have hst : f_X2_polymorphism_s25 (us m 0 0) (nI k) (q, 0) = some (.inr (.inl (q, 0))) := by
          unfold f_X2_polymorphism_s25
          rw [sh2_e k (by omega), if_neg hq, if_pos h]
        refine ⟨(q, 0), ?_⟩
        show loopN _ (1999 + 1) _ = _
        unfold loopN
        rw [hst]
      obtain ⟨s, hs⟩ := hl
      rw [if_pos h, hs]
      exact JP_fail (m := us m 0 0) hI 1 (by decide) rfl rfl
    · rw [if_neg (n_pos ha)]
      rcases plm1 (u := u) (w := w) oA hv (show k < 4 by omega) ha with ⟨c, g1, g2⟩ | ⟨g1, s, g2⟩
      · rcases plm2 oA (RM_us hm 0) (show k < 4 by omega) ka ha with ⟨d, g3, g4⟩ | ⟨g3, t, g4⟩
        · rw [g2, g4, kth_one g1 g3]
          exact JP_ok hI rfl rfl
        · exact (kth_no g1 g3).elim
      · rcases plm2 oA (RM_us hm 0) (show k < 4 by omega) ka ha with ⟨d, g3, g4⟩ | ⟨g3, t, g4⟩
        · exact (kth_no g3 g1).elim
        · rw [g2, g4]
          exact JP_fail (m := us m 0 0) hI 1 (by decide) rfl rfl
/-! ===== kinds ===== -/
def kA : Nat → Nat := fun j => ([1, 1, 2, 2, 3, 3] : List Nat).getD j 0
def kC : Nat → Nat := fun j => ([0, 3, 8, 14, 232, 150] : List Nat).getD j 0
theorem kac : ∀ j, j < 6 → kAr j = nI (kA j) ∧ kCo j = nI (kC j) ∧ 1 ≤ kA j ∧ kA j < 4 ∧ kC j < 256 := by decide +kernel
theorem kindc (p : Int32) : (f_X1_requireKind p = some (.inr eIA) ∧ f_X2_isBetween p 0 5 = some 0) ∨ ∃ j, j < 6 ∧ p = nI j ∧ f_X1_requireKind p = some (.inl ()) ∧ f_X2_isBetween p 0 5 = some 1 := by
  unfold f_X1_requireKind f_X2_isBetween
  rcases nn p with h | ⟨a, ha, rfl⟩
  · rw [if_pos h, if_pos h]
    exact Or.inl ⟨rfl, rfl⟩
  · rw [if_neg (n_pos ha), if_neg (n_pos ha)]
    by_cases h1 : a < 6
    · have h2 : nI a < 6 := (n_lt ha (by decide : 6 < 2147483648)).mpr h1
      have h3 : ¬ (5 : Int32) < nI a := fun e => by have := (n_lt (by decide : 5 < 2147483648) ha).mp e; omega
      rw [if_pos h2, if_neg h3]
      exact Or.inr ⟨a, h1, rfl, rfl, rfl⟩
    · have h2 : ¬ nI a < 6 := fun e => h1 ((n_lt ha (by decide : 6 < 2147483648)).mp e)
      have h3 : (5 : Int32) < nI a := (n_lt (by decide : 5 < 2147483648) ha).mpr (by omega)
      rw [if_neg h2, if_pos h3]
      exact Or.inl ⟨rfl, rfl⟩
noncomputable def kd (A : Ab) (j : Nat) : Bool := kb A (kA j) (kC j)
theorem kind1 {u v w : St} {A : Ab} (oA : okA A) (hv : RV v A) {j : Nat} (hj : j < 6) : f_X1_isOfKind u v w (nI j) = some (if kd A j = true then 1 else 0) := by
  obtain ⟨k1, k2, k3, k4, k5⟩ := kac j hj
  unfold f_X1_isOfKind kd
  simp only [gd_t (inb_t hj (by decide : 6 < 2147483648)), n_ix (show j < 2147483648 by omega), k1, k2, allP_e (u := u) (w := w) oA hv k4 k5, bd_s, gd_t (okB_b _)]
theorem kind2 {m : St} {A : Ab} (oA : okA A) (hm : RM m A) {j : Nat} (hj : j < 6) : f_X2_has m (nI j) = some (if kd A j = true then 1 else 0) := by
  obtain ⟨k1, k2, k3, k4, k5⟩ := kac j hj
  unfold f_X2_has kd
  simp only [gd_t (inb_t hj (by decide : 6 < 2147483648)), n_ix (show j < 2147483648 by omega), k1, k2, kept_e oA hm k4 k3 k5, bd_s, gd_t (okB_b _)]
theorem relationHasKind_j {u v w m : St} (hI : Inv u v w m) (p q : Int32) : JP [eIO, eIA] u v w (f_X1_relationHasKind u v w p q) (f_X2_relationHasKind m p q) := by
  obtain ⟨A, oA, hv, hm⟩ := hI.1
  unfold f_X1_relationHasKind f_X2_relationHasKind
  rcases relc (u := u) (w := w) oA hv hm p with ⟨h3, h4⟩ | ⟨r, hr, rfl, h3, h4⟩
  · simp only [h3, h4, bz_r, bd_s, if_true]
    exact JP_fail hI 0 (by decide) rfl rfl
  · rcases kindc q with ⟨h1, h2⟩ | ⟨j, hj, rfl, h1, h2⟩
    · simp only [h1, h2, h3, h4, bz_l, bz_r, bd_s, e10, if_true, if_false]
      exact JP_fail hI 1 (by decide) rfl rfl
    · obtain ⟨k1, k2, k3, k4, k5⟩ := kac j hj
      simp only [h1, h2, h3, h4, bz_l, bd_s, e10, if_false, gd_t (inb_t hj (by decide : 6 < 2147483648)), n_ix (show j < 2147483648 by omega), k1, k2, isPres_e (u := u) (w := w) oA hv hr k4 k5, doesP_e oA (RM_us hm 0) hr k4 k3 k5, gd_t (okB_b _)]
      exact JP_ok hI rfl rfl
theorem hasKind_j {u v w m : St} (hI : Inv u v w m) (p : Int32) : JP [eIA] u v w (f_X1_hasKind u v w p) (f_X2_hasKind m p) := by
  obtain ⟨A, oA, hv, hm⟩ := hI.1
  unfold f_X1_hasKind f_X2_hasKind
  rcases kindc p with ⟨h1, h2⟩ | ⟨j, hj, rfl, h1, h2⟩
  · simp only [h1, h2, bz_r, bd_s, if_true]
    exact JP_fail hI 0 (by decide) rfl rfl
  · simp only [h1, h2, bz_l, bd_s, e10, if_false, kind1 (u := u) (w := w) oA hv hj, kind2 oA (RM_us hm 0) hj, gd_t (okB_b _)]
    exact JP_ok hI rfl rfl
theorem low1 {u v w : St} {A : Ab} (oA : okA A) (hv : RV v A) : ((∀ j, j < 6 → ¬ kd A j = true) ∧ loopN (f_X1_lowestKind_s2 u v w) FU 0 = some (.inl (nI 6))) ∨ ∃ j, j < 6 ∧ kd A j = true ∧ (∀ i, i < j → ¬ kd A i = true) ∧ ∃ t, loopN (f_X1_lowestKind_s2 u v w) FU 0 = some (.inr t) ∧ t = .inl (nI j) := by
  refine loop_find (step := f_X1_lowestKind_s2 u v w) (fun j => kd A j = true) (fun j t => t = .inl (nI j)) 6 (by decide) (fun j hj => ?_) ?_
  · unfold f_X1_lowestKind_s2
    have q : ¬ (6 : Int32) ≤ nI j := fun e => by have := (n_le (by decide : 6 < 2147483648) (by omega)).mp e; omega
    rw [if_neg q, nI_1, kind1 (u := u) (w := w) oA hv hj]
    cases kd A j
    · exact Or.inl ⟨by decide, rfl⟩
    · exact Or.inr ⟨rfl, _, rfl, rfl⟩
  · rfl
theorem low2 {m : St} {A : Ab} (oA : okA A) (hm : RM m A) : ((∀ j, j < 6 → ¬ kd A j = true) ∧ loopN (f_X2_lowestKind_s7 m) FU 0 = some (.inl (nI 6))) ∨ ∃ j, j < 6 ∧ kd A j = true ∧ (∀ i, i < j → ¬ kd A i = true) ∧ ∃ t, loopN (f_X2_lowestKind_s7 m) FU 0 = some (.inr t) ∧ t = (nI j, m) := by
  refine loop_find (step := f_X2_lowestKind_s7 m) (fun j => kd A j = true) (fun j t => t = (nI j, m)) 6 (by decide) (fun j hj => ?_) ?_
  · unfold f_X2_lowestKind_s7
    have q : ¬ (6 : Int32) ≤ nI j := fun e => by have := (n_le (by decide : 6 < 2147483648) (by omega)).mp e; omega
    rw [if_neg q, nI_1, kind2 oA hm hj]
    cases kd A j
    · exact Or.inl ⟨by decide, rfl⟩
    · exact Or.inr ⟨rfl, _, rfl, rfl⟩
  · rfl
theorem lowestKind_j {u v w m : St} (hI : Inv u v w m) : JP [eNS] u v w (f_X1_lowestKind u v w) (f_X2_lowestKind m) := by
  obtain ⟨A, oA, hv, hm⟩ := hI.1
  unfold f_X1_lowestKind f_X2_lowestKind
  rcases low1 (u := u) (w := w) oA hv with ⟨g1, g2⟩ | ⟨j, g1, g2, g3, t, g4, rfl⟩
  · rcases low2 oA (RM_us hm 0) with ⟨g5, g6⟩ | ⟨i, g5, g6, g7, t, g8, rfl⟩
    · rw [g2, g6]
      exact JP_fail (m := us m 0 0) hI 0 (by decide) rfl rfl
    · exact (g1 i g5 g6).elim
  · rcases low2 oA (RM_us hm 0) with ⟨g5, g6⟩ | ⟨i, g5, g6, g7, t, g8, rfl⟩
    · exact (g5 j g1 g2).elim
    · rw [g4, g8, fb_first_one g2 g3 g6 g7]
      exact JP_ok hI rfl rfl
