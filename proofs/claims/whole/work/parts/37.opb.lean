/-! ===== operations, tried one and all ===== -/
theorem n_of (x : Int32) : x = nI x.toBitVec.toNat := by
  have h : x.toBitVec = (nI x.toBitVec.toNat).toBitVec := by
    show x.toBitVec = BitVec.ofNat 32 x.toBitVec.toNat
    rw [BitVec.ofNat_toNat]; simp
  revert h
  generalize nI x.toBitVec.toNat = y
  intro h
  cases x; cases y; rename_i x y; cases x; cases y; cases h; rfl
/-- between 0 and k - 1 -/
theorem posc {k : Nat} (k1 : 1 ≤ k) (hk : k < 2147483648) (p : Int32) : ((p < 0 ∨ (¬ p < 0 ∧ ¬ p < nI k)) ∧ f_X2_isBetween p 0 (nI k - 1) = some 0) ∨ ∃ a, a < k ∧ p = nI a ∧ ¬ p < 0 ∧ p < nI k ∧ f_X2_isBetween p 0 (nI k - 1) = some 1 := by
  unfold f_X2_isBetween
  rcases nn p with h | ⟨a, ha, rfl⟩
  · rw [if_pos h]
    exact Or.inl ⟨Or.inl h, rfl⟩
  · rw [if_neg (n_pos ha), n_1, n_sub k1]
    by_cases h : a < k
    · rw [if_neg (fun e => by have := (n_lt (by omega) ha).mp e; omega)]
      exact Or.inr ⟨a, h, rfl, n_pos ha, (n_lt ha hk).mpr h, rfl⟩
    · rw [if_pos ((n_lt (by omega) ha).mpr (by omega))]
      exact Or.inl ⟨Or.inr ⟨n_pos ha, fun e => h ((n_lt ha hk).mp e)⟩, rfl⟩
theorem mpu_ite {σ : Type} (u : St) {c : Prop} [Decidable c] (a b : Option (σ ⊕ (σ ⊕ (Int32 × St)))) : mpu u (if c then a else b) = if c then mpu u a else mpu u b := by split <;> rfl
theorem bl_mp {σ τ : Type} (u : St) {x : Option (σ ⊕ (Int32 × St))} {k k2 : σ → Option (τ ⊕ (τ ⊕ (Int32 × St)))} (h : ∀ s, k s = mpu u (k2 s)) : bl (mpv u x) (fun t => some (.inr (.inr t))) k = mpu u (bl x (fun t => some (.inr (.inr t))) k2) := by
  rcases x with _ | s | p
  · rfl
  · exact h s
  · rfl
theorem mono_31 (u : St) (a b c : Int32) (s : Int32) : f_X2_isMonotone_s31 u a b c s = mpu u (f_X2_isMonotone_s31 z0 a b c s) := by
  unfold f_X2_isMonotone_s31
  simp only [mpu_ite]
  rfl
theorem mono_21 (u : St) (a b : Int32) (s : Int32) : f_X2_isMonotone_s21 u a b s = mpu u (f_X2_isMonotone_s21 z0 a b s) := by
  unfold f_X2_isMonotone_s21
  rw [mpu_ite, loop_mpu u (mono_31 u a b s), bl_mp u (k := fun _ => some (.inl (s + 1))) (k2 := fun _ => some (.inl (s + 1))) (fun _ => rfl)]
  rfl
theorem isMonotone_j {u v w m : St} (hI : Inv u v w m) (p q : Int32) : JP [eIA] u v w (f_X1_isMonotone u v w p q) (f_X2_isMonotone m p q) := by
  unfold f_X1_isMonotone f_X2_isMonotone
  rcases opc p q with ⟨h1, h2⟩ | ⟨k, c, hk, k1, hc, rfl, rfl, h1, h2⟩
  · simp only [h1, h2, bz_r, bd_s, if_true]
    exact JP_fail hI 0 (by decide) rfl rfl
  · have e1 : f_X1_isMonotone_s7 u v w (nI k) (nI c) = f_X1_isMonotone_s7 z0 z0 z0 (nI k) (nI c) := rfl
    rw [h1, h2, bz_l, bd_s, if_neg e10, e1, loop_mpu _ (mono_21 _ _ _)]
    rcases cmL_t (mono_b k hk k1 c hc) with ⟨s, t, h3, h4⟩ | ⟨a, q, h3, h4⟩
    · rw [h3, h4]
      exact JP_ok hI rfl rfl
    · rw [h3, h4]
      exact JP_ok hI rfl rfl
theorem dual_j {u v w m : St} (hI : Inv u v w m) (p q : Int32) : JP [eIA] u v w (f_X1_dual u v w p q) (f_X2_dual m p q) := by
  unfold f_X1_dual f_X2_dual
  rcases opc p q with ⟨h1, h2⟩ | ⟨k, c, hk, k1, hc, rfl, rfl, h1, h2⟩
  · simp only [h1, h2, bz_r, bd_s, if_true]
    exact JP_fail hI 0 (by decide) rfl rfl
  · have e1 : f_X1_dual_s16 u v w (nI c) (jshl 1 (nI k) - 1) = f_X1_dual_s16 z0 z0 z0 (nI c) (jshl 1 (nI k) - 1) := rfl
    have e2 : f_X2_dual_s31 (us m 0 0) (nI c) (jshl 1 (nI k) - 1) = f_X2_dual_s31 z0 (nI c) (jshl 1 (nI k) - 1) := rfl
    unfold f_X1_greatestTuple
    rw [h1, h2, bz_l, bd_s, bd_s, if_neg e10, lt_e, e1, e2]
    obtain ⟨a, i, j, h3, h4⟩ := cmS_t (dual_b k hk k1 c hc)
    rw [h3, h4]
    exact JP_ok hI rfl rfl
theorem proj_b : ∀ k, k < 4 → 1 ≤ k → ∀ c, c < 2 ^ (2 ^ k) → cmL (loopN (f_X1_projectedArgument_s7 z0 z0 z0 (nI k) (nI c)) FU 0) (loopN (f_X2_projectedArgument_s21 z0 (nI k) (nI c)) FU 0) = true := by decide +kernel
theorem proj_32 (u : St) (a b c : Int32) (s : Int32 × Int32) : f_X2_projectedArgument_s32 u a b c s = mpu u (f_X2_projectedArgument_s32 z0 a b c s) := by
  unfold f_X2_projectedArgument_s32
  simp only [mpu_ite]
  rfl
theorem proj_21 (u : St) (a b : Int32) (s : Int32) : f_X2_projectedArgument_s21 u a b s = mpu u (f_X2_projectedArgument_s21 z0 a b s) := by
  unfold f_X2_projectedArgument_s21
  rw [mpu_ite, loop_mpu u (proj_32 u a b s), bl_mp u (k2 := fun x => if x.1 = jshl 1 a then some (.inr (.inr (s, z0))) else some (.inl (s + 1))) (fun x => by rw [mpu_ite]; rfl)]
  rfl
theorem projectedArgument_j {u v w m : St} (hI : Inv u v w m) (p q : Int32) : JP [eIA, eNS] u v w (f_X1_projectedArgument u v w p q) (f_X2_projectedArgument m p q) := by
  unfold f_X1_projectedArgument f_X2_projectedArgument
  rcases opc p q with ⟨h1, h2⟩ | ⟨k, c, hk, k1, hc, rfl, rfl, h1, h2⟩
  · simp only [h1, h2, bz_r, bd_s, if_true]
    exact JP_fail hI 0 (by decide) rfl rfl
  · have e1 : f_X1_projectedArgument_s7 u v w (nI k) (nI c) = f_X1_projectedArgument_s7 z0 z0 z0 (nI k) (nI c) := rfl
    rw [h1, h2, bz_l, bd_s, if_neg e10, e1, loop_mpu _ (proj_21 _ _ _)]
    rcases cmL_t (proj_b k hk k1 c hc) with ⟨s, t, h3, h4⟩ | ⟨a, q, h3, h4⟩
    · rw [h3, h4]
      exact JP_fail (m := us m 0 0) hI 1 (by decide) rfl rfl
    · rw [h3, h4]
      exact JP_ok hI rfl rfl
def cmD (x : Option Int32) (y : Option (Int32 ⊕ (Int32 × St))) : Bool :=
  match x, y with
  | some a, some (.inl _) => decide (a = 0)
  | some a, some (.inr p) => decide (a = 1) && decide (p.1 = 1)
  | _, _ => false
def depC (k c a : Int32) : Option Int32 := bd (f_X1_valuesAtZero k c a) (fun r3 => bd (f_X1_valuesAtOne k c a) (fun r4 => if r3 = r4 then some 0 else some 1))
theorem dep_b : ∀ k, k < 4 → 1 ≤ k → ∀ c, c < 2 ^ (2 ^ k) → ∀ a, a < k → cmD (depC (nI k) (nI c) (nI a)) (loopN (f_X2_dependsOn_s39 z0 (nI k) (nI c) (nI a)) FU 0) = true := by decide +kernel
theorem dep_39 (u : St) (a b c : Int32) (s : Int32) : f_X2_dependsOn_s39 u a b c s = mpu u (f_X2_dependsOn_s39 z0 a b c s) := by
  unfold f_X2_dependsOn_s39
  simp only [mpu_ite]
  rfl
theorem dependsOn_j {u v w m : St} (hI : Inv u v w m) (p q x : Int32) : JP [eIA, eIO] u v w (f_X1_dependsOn u v w p q x) (f_X2_dependsOn m p q x) := by
  unfold f_X1_dependsOn f_X2_dependsOn
  rcases opc p q with ⟨h1, h2⟩ | ⟨k, c, hk, k1, hc, rfl, rfl, h1, h2⟩
  · simp only [h1, h2, bz_r, bd_s, if_true]
    exact JP_fail hI 0 (by decide) rfl rfl
  · rcases posc k1 (by omega) x with ⟨h3, h4⟩ | ⟨a, ha, rfl, h3, h4, h5⟩
    · rcases h3 with h3 | ⟨h3, h5⟩
      · simp only [h1, h2, h4, bz_l, bd_s, e10, h3, if_true, if_false]
        exact JP_fail hI 1 (by decide) rfl rfl
      · simp only [h1, h2, h4, bz_l, bd_s, e10, h3, h5, if_true, if_false]
        exact JP_fail hI 1 (by decide) rfl rfl
    · simp only [h1, h2, h5, bz_l, bd_s, e10, h3, h4, if_true, if_false]
      rw [loop_mpu _ (dep_39 _ _ _ _)]
      have hb := dep_b k hk k1 c hc a ha
      unfold depC at hb
      revert hb
      rcases f_X1_valuesAtZero (nI k) (nI c) (nI a) with _ | r3
      · intro hb; cases hb
      rcases f_X1_valuesAtOne (nI k) (nI c) (nI a) with _ | r4
      · intro hb; cases hb
      simp only [bd_s]
      by_cases g : r3 = r4
      · rw [if_pos g, if_pos g]
        rcases loopN (f_X2_dependsOn_s39 z0 (nI k) (nI c) (nI a)) FU 0 with _ | s | ⟨b, q⟩
        · intro hb; cases hb
        · intro _
          exact JP_ok hI rfl rfl
        · intro hb
          exact absurd hb (by simp [cmD])
      · rw [if_neg g, if_neg g]
        rcases loopN (f_X2_dependsOn_s39 z0 (nI k) (nI c) (nI a)) FU 0 with _ | s | ⟨b, q⟩
        · intro hb; cases hb
        · intro hb
          exact absurd hb (by simp [cmD])
        · intro hb
          have e : b = 1 := by simpa [cmD] using hb
          rw [e]
          exact JP_ok hI rfl rfl
theorem loop_two {σ ρ τ : Type} {f : σ → Option (σ ⊕ (σ ⊕ ρ))} {g : σ → Option (σ ⊕ (σ ⊕ τ))} (I : Nat → σ → Prop) (N : Nat) (h : ∀ i s, i ≤ N → I i s → (i < N ∧ ∃ s2, f s = some (.inl s2) ∧ g s = some (.inl s2) ∧ I (i + 1) s2) ∨ (f s = some (.inr (.inl s)) ∧ g s = some (.inr (.inl s)))) : ∀ (fuel i : Nat) (s : σ), i ≤ N → N < fuel + i → I i s → ∃ s2, loopN f fuel s = some (.inl s2) ∧ loopN g fuel s = some (.inl s2) := by
  intro fuel
  induction fuel with
  | zero => intro i s h1 h2; omega
  | succ n ih =>
    intro i s h1 h2 hI
    unfold loopN
    rcases h i s h1 hI with ⟨h3, s2, h4, h5, h6⟩ | ⟨h4, h5⟩
    · rw [h4, h5]
      exact ih (i + 1) s2 h3 (by omega) h6
    · rw [h4, h5]
      exact ⟨s, rfl, rfl⟩
theorem comp_1 : ∀ d, d < 16 → ∀ i, i < 4 → f_X1_valueFor 2 (nI d) ((nI i &&& 1) + 2 * jushr (nI i) 1) = some (nI (d / 2 ^ (i % 2 + 2 * (i / 2)) % 2)) ∧ (jshr (nI d) ((nI i &&& 1) + 2 * jshr (nI i) 1)) &&& 1 = nI (d / 2 ^ (i % 2 + 2 * (i / 2)) % 2) := by decide +kernel
theorem comp_2 : ∀ d, d < 16 → ∀ i, i < 4 → f_X1_valueFor 2 (nI d) (jushr (nI i) 1 + 2 * (nI i &&& 1)) = some (nI (d / 2 ^ (i / 2 + 2 * (i % 2)) % 2)) ∧ (jshr (nI d) (jshr (nI i) 1 + 2 * (nI i &&& 1))) &&& 1 = nI (d / 2 ^ (i / 2 + 2 * (i % 2)) % 2) := by decide +kernel
theorem comp_3 : ∀ d, d < 16 → ∀ i, i < 4 → f_X1_valueFor 2 (nI d) ((nI i &&& 1) + 2 * (nI i &&& 1)) = some (nI (d / 2 ^ (3 * (i % 2)) % 2)) ∧ (jshr (nI d) (3 * (nI i &&& 1))) &&& 1 = nI (d / 2 ^ (3 * (i % 2)) % 2) := by decide +kernel
theorem comp_s {k : Nat} (hk : k < 4) (k1 : 1 ≤ k) {c : Nat} (hc : c < 2 ^ (2 ^ k)) {d : Nat} (hd : d < 16) : ∃ s2, loopN (f_X1_compose_s33 z0 z0 z0 (nI k) (nI c) (nI d)) FU (0, 0) = some (.inl s2) ∧ loopN (f_X2_compose_s35 z0 (nI k) (nI c) (nI d)) FU (0, 0) = some (.inl s2) := by
  refine loop_two (fun i s => s.2 = nI i) 4 ?_ FU 0 (0, 0) (by decide) (by unfold FU; omega) rfl
  rintro i ⟨a, x⟩ hi rfl
  have g3 : f_X1_greatestTuple 2 = some 3 := by decide +kernel
  by_cases h4 : i < 4
  · refine Or.inl ⟨h4, ?_⟩
    have q1 : ¬ (3 : Int32) < nI i := fun e => by have := (n_lt (by decide : 3 < 2147483648) (by omega)).mp e; omega
    have q2 : ¬ (4 : Int32) ≤ nI i := fun e => by have := (n_le (by decide : 4 < 2147483648) (by omega)).mp e; omega
    generalize he : d / 2 ^ (i % 2 + 2 * (i / 2)) % 2 + 2 * (d / 2 ^ (i / 2 + 2 * (i % 2)) % 2) + 4 * (d / 2 ^ (3 * (i % 2)) % 2) = e
    have hb := apply_b k hk k1 c hc e (by omega)
    rw [show e % 2 = d / 2 ^ (i % 2 + 2 * (i / 2)) % 2 by omega, show e / 2 % 2 = d / 2 ^ (i / 2 + 2 * (i % 2)) % 2 by omega, show e / 4 = d / 2 ^ (3 * (i % 2)) % 2 by omega] at hb
    unfold f_X1_compose_s33 f_X2_compose_s35
    simp only [g3, bd_s, q1, q2, if_false, lt_e, (comp_1 d hd i h4).1, (comp_1 d hd i h4).2, (comp_2 d hd i h4).1, (comp_2 d hd i h4).2, (comp_3 d hd i h4).1, (comp_3 d hd i h4).2, hb]
    have hp : ∀ a b c, ∃ x, f_X2_placeOf (nI k) a b c = some x := by
      intro a b c
      unfold f_X2_placeOf
      split <;> split <;> exact ⟨_, rfl⟩
    obtain ⟨y, hy⟩ := hp (nI (d / 2 ^ (i % 2 + 2 * (i / 2)) % 2)) (nI (d / 2 ^ (i / 2 + 2 * (i % 2)) % 2)) (nI (d / 2 ^ (3 * (i % 2)) % 2))
    rw [hy]
    exact ⟨_, rfl, rfl, nI_1 _⟩
  · refine Or.inr ?_
    have q1 : (3 : Int32) < nI i := (n_lt (by decide : 3 < 2147483648) (by omega)).mpr (by omega)
    have q2 : (4 : Int32) ≤ nI i := (n_le (by decide : 4 < 2147483648) (by omega)).mpr (by omega)
    unfold f_X1_compose_s33 f_X2_compose_s35
    simp only [g3, bd_s, q1, q2, if_true]
    exact ⟨trivial, trivial⟩
theorem compose_j {u v w m : St} (hI : Inv u v w m) (p q x : Int32) : JP [eIA] u v w (f_X1_compose u v w p q x) (f_X2_compose m p q x) := by
  unfold f_X1_compose f_X2_compose
  rcases opc p q with ⟨h1, h2⟩ | ⟨k, c, hk, k1, hc, rfl, rfl, h1, h2⟩
  · simp only [h1, h2, bz_r, bd_s, if_true]
    exact JP_fail hI 0 (by decide) rfl rfl
  · have e3 : f_X1_allTuples 2 = some 15 := by decide +kernel
    have hp := posc (k := 16) (by decide) (by decide) x
    rw [show nI 16 - 1 = 15 from by decide +kernel] at hp
    have le : ∀ y : Int32, ¬ y < 0 → (y ≤ 15 ↔ y < nI 16) := by
      intro y hy
      rcases nn y with h | ⟨a, ha, rfl⟩
      · exact absurd h hy
      · rw [n_lt ha (by decide)]
        exact (n_le ha (by decide : 15 < 2147483648)).trans (by omega)
    rcases hp with ⟨h3, h4⟩ | ⟨a, ha, rfl, h3, h4, h5⟩
    · rcases h3 with h3 | ⟨h3, h5⟩
      · simp only [h1, h2, h4, bz_l, bd_s, e10, h3, if_true, if_false]
        exact JP_fail hI 0 (by decide) rfl rfl
      · simp only [h1, h2, h4, e3, bz_l, bd_s, e10, h3, h5, le x h3, if_true, if_false]
        exact JP_fail hI 0 (by decide) rfl rfl
    · have e1 : f_X1_compose_s33 u v w (nI k) (nI c) (nI a) = f_X1_compose_s33 z0 z0 z0 (nI k) (nI c) (nI a) := rfl
      have e2 : f_X2_compose_s35 (us m 0 0) (nI k) (nI c) (nI a) = f_X2_compose_s35 z0 (nI k) (nI c) (nI a) := rfl
      obtain ⟨s2, h6, h7⟩ := comp_s hk k1 hc ha
      simp only [h1, h2, h5, e3, bz_l, bd_s, e10, h3, h4, le (nI a) h3, if_true, if_false, e1, e2, h6, h7]
      exact JP_ok hI rfl rfl
def cmT (k : Nat) (x : Option ((Int32 × Int32) ⊕ Int32)) : Bool :=
  match x with
  | some (.inl a) => decide (a.1.toBitVec.toNat < 2 ^ (2 ^ k))
  | _ => false
theorem par_b : ∀ k, k < 5 → 1 ≤ k → ∀ d, d < 2 → (cmS (loopN (f_X1_tuplesWithSum_s4 (nI k) (nI d)) FU (0, 0)) (loopN (f_X2_addParity_s42 z0 (nI k) (nI d)) FU (0, 0)) && cmT k (loopN (f_X1_tuplesWithSum_s4 (nI k) (nI d)) FU (0, 0))) = true := by decide +kernel
theorem addParity_j {u v w m : St} (hI : Inv u v w m) (p q : Int32) : J [eIA, eIS] u w (f_X1_addParity u v w p q) (f_X2_addParity m p q) := by
  obtain ⟨A, oA, hv, hm⟩ := hI.1
  unfold f_X1_addParity f_X2_addParity f_X1_tuplesWithSum
  rcases ar14 p with ⟨h1, h2⟩ | ⟨r, ra, rb, rfl, h1, h2⟩
  · simp only [h1, h2, bz_r, bd_s, if_true]
    exact J_fail hI 0 (by decide) rfl rfl
  · rcases bitc q with ⟨h3, h4⟩ | ⟨d, hd, rfl, h3, h4⟩
    · simp only [h1, h2, h3, h4, bz_l, bz_r, bd_s, e10, if_true, if_false]
      exact J_fail hI 0 (by decide) rfl rfl
    · have e2 : f_X2_addParity_s42 m (nI r) (nI d) = f_X2_addParity_s42 z0 (nI r) (nI d) := rfl
      have hb := par_b r (by omega) ra d hd
      rw [Bool.and_eq_true] at hb
      obtain ⟨a, i, j, h6, h7⟩ := cmS_t hb.1
      have h8 : a.toBitVec.toNat < 2 ^ (2 ^ r) := by
        have := hb.2
        rw [h6] at this
        exact of_decide_eq_true this
      rw [n_of a] at h6 h7
      simp only [h1, h2, h3, h4, bz_l, bd_s, e10, if_false, e2, h6, h7, bl_l]
      refine J_add hI oA hv hm ra rb h8 1 (by decide) rfl ?_ ?_ ?_
      · intro z v' h
        rw [h]
        cases z <;> rfl
      · intro h
        rw [if_pos h]
        rfl
      · intro h b m' h'
        rw [if_neg h, h']
        rfl
