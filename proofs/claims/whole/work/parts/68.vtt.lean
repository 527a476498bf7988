/-! ===== the values that variables take in solutions ===== -/
theorem awv {x w a : Nat} (hx : x < 16) (hw : w < 4294967296) (ha : a < 2) : ∃ X, f_X0_assignmentsWith (nI x) (nI a) (nI w) = some (lN X) ∧ Wd X (fun b => decide (bi (64 * w + b) x = a)) := by
  obtain ⟨X, x1, x2⟩ := aw1 hx hw
  unfold f_X0_assignmentsWith
  rw [x1, bd_s]
  have e : a = 0 ∨ a = 1 := by omega
  rcases e with rfl | rfl
  · rw [if_neg (by decide), l_not]
    refine ⟨_, rfl, Wd_cong (Wd_not x2) (fun b _ => ?_)⟩
    rw [bi_tb]
    cases tb (64 * w + b) x <;> rfl
  · rw [if_pos (by decide)]
    refine ⟨_, rfl, Wd_cong x2 (fun b _ => ?_)⟩
    rw [bi_tb]
    cases tb (64 * w + b) x <;> rfl
def tk (A : Ab) (w a x : Nat) : Prop := ∃ b, b < 64 ∧ ps A (64 * w + b) = true ∧ bi (64 * w + b) x = a
theorem vt23 {v : St} {A : Ab} (oA : okA A) (hv : RV v A) {w a X V : Nat} (hw : w < 16) (ha : a < 2) (hX : Wd X (fun b => ps A (64 * w + b))) :
    ∃ V2, loopN (f_X0_variablesThatTake_s23 v (nI a) (nI w) (lN X)) FU (nI V, 0) = some (.inl (nI V2, nI (aV A))) ∧ ∀ x, tb V2 x = true ↔ tb V x = true ∨ (x < aV A ∧ tk A w a x) := by
  have hV := oA.2.2.2.1
  have h := loop_at (step := f_X0_variablesThatTake_s23 v (nI a) (nI w) (lN X)) (fun i s => ∃ V2, s = (nI V2, nI i) ∧ ∀ x, tb V2 x = true ↔ tb V x = true ∨ (x < i ∧ tk A w a x)) (fun r => ∃ V2, r = .inl (nI V2, nI (aV A)) ∧ ∀ x, tb V2 x = true ↔ tb V x = true ∨ (x < aV A ∧ tk A w a x)) (aV A) (s := (nI V, 0)) (by omega) ⟨V, rfl, fun x => ⟨Or.inl, fun h => h.resolve_right (fun h => absurd h.1 (Nat.not_lt_zero _))⟩⟩ (by
    rintro i _ hi ⟨V2, rfl, hV2⟩
    unfold f_X0_variablesThatTake_s23
    rw [hv.2.2.1]
    by_cases h : i < aV A
    · have q : ¬ nI (aV A) ≤ nI i := fun e => by have := (n_le (by omega) (by omega)).mp e; omega
      obtain ⟨Y, y1, y2⟩ := awv (x := i) (w := w) (by omega) (by omega) ha
      have hz := Wd_lg (Wd_and hX y2)
      simp only [q, if_false, y1, bd_s, l_and, lt_e, n_sh1 (show i < 32 by omega), n_or, nI_1]
      by_cases g : lg_cmp (lN (X &&& Y)) 0 = 0
      · rw [if_pos g]
        refine Or.inl ⟨h, _, rfl, V2, rfl, fun x => ?_⟩
        rw [hV2 x]
        have hno : ¬ tk A w a i := by
          rintro ⟨b, b1, b2, b3⟩
          have := hz.mp g b b1
          rw [b2, decide_eq_true b3] at this
          cases this
        constructor
        · rintro (h1 | ⟨h1, h2⟩)
          · exact Or.inl h1
          · exact Or.inr ⟨by omega, h2⟩
        · rintro (h1 | ⟨h1, h2⟩)
          · exact Or.inl h1
          · by_cases e : x = i
            · subst e
              exact absurd h2 hno
            · exact Or.inr ⟨by omega, h2⟩
      · rw [if_neg g]
        refine Or.inl ⟨h, _, rfl, V2 ||| 2 ^ i, rfl, fun x => ?_⟩
        have hyes : tk A w a i := by
          refine Classical.byContradiction (fun hn => g (hz.mpr (fun b hb => ?_)))
          cases h1 : ps A (64 * w + b)
          · rfl
          · by_cases h2 : bi (64 * w + b) i = a
            · exact absurd ⟨b, hb, h1, h2⟩ hn
            · rw [decide_eq_false h2]
              rfl
        rw [tb_or, Bool.or_eq_true, hV2 x, tb_pow, decide_eq_true_iff]
        constructor
        · rintro ((h1 | ⟨h1, h2⟩) | h1)
          · exact Or.inl h1
          · exact Or.inr ⟨by omega, h2⟩
          · subst h1
            exact Or.inr ⟨by omega, hyes⟩
        · rintro (h1 | ⟨h1, h2⟩)
          · exact Or.inl (Or.inl h1)
          · by_cases e : x = i
            · exact Or.inr e.symm
            · exact Or.inl (Or.inr ⟨by omega, h2⟩)
    · have e2 : i = aV A := by omega
      subst e2
      rw [if_pos ((n_le (by omega) (by omega)).mpr (Nat.le_refl _))]
      exact Or.inr ⟨_, rfl, V2, rfl, hV2⟩)
  obtain ⟨r, h1, V2, rfl, h3⟩ := h
  exact ⟨V2, h1, h3⟩
theorem ex64 {P : Nat → Prop} {i : Nat} : (∃ a, a < 64 * (i + 1) ∧ P a) ↔ (∃ a, a < 64 * i ∧ P a) ∨ ∃ b, b < 64 ∧ P (64 * i + b) := by
  constructor
  · rintro ⟨a, h1, h2⟩
    by_cases e : a < 64 * i
    · exact Or.inl ⟨a, e, h2⟩
    · refine Or.inr ⟨a - 64 * i, by omega, ?_⟩
      rw [show 64 * i + (a - 64 * i) = a by omega]
      exact h2
  · rintro (⟨a, h1, h2⟩ | ⟨b, h1, h2⟩)
    · exact ⟨a, by omega, h2⟩
    · exact ⟨_, by omega, h2⟩
theorem vt_e {v : St} {A : Ab} (oA : okA A) (hv : RV v A) {a : Nat} (ha : a < 2) : ∃ V, f_X0_variablesThatTake v (nI a) = some (nI V) ∧ V < 1024 ∧ ∀ x, tb V x = true ↔ x < aV A ∧ ∃ s, ps A s = true ∧ bi s x = a := by
  have hV := oA.2.2.2.1
  obtain ⟨w1, w2, w3, w4, w5⟩ := wc_f (aV A) (by omega)
  have h := loop_at (step := f_X0_variablesThatTake_s4 v (nI a)) (fun i s => ∃ V, s = (nI V, nI i) ∧ ∀ x, tb V x = true ↔ x < aV A ∧ ∃ s, s < 64 * i ∧ ps A s = true ∧ bi s x = a) (fun r => ∃ V, r = .inl (nI V, nI (wc (aV A))) ∧ ∀ x, tb V x = true ↔ x < aV A ∧ ∃ s, s < 64 * wc (aV A) ∧ ps A s = true ∧ bi s x = a) (wc (aV A)) (s := (0, 0)) (by omega) ⟨0, rfl, fun x => ⟨fun h => tb0_n h, fun ⟨_, s, h, _⟩ => absurd h (Nat.not_lt_zero _)⟩⟩ (by
    rintro i _ hi ⟨V, rfl, hV2⟩
    unfold f_X0_variablesThatTake_s4
    rw [wc_e oA hv, bd_s]
    by_cases h : i < wc (aV A)
    · have q : ¬ nI (wc (aV A)) ≤ nI i := fun e => by have := (n_le (by omega) (by omega)).mp e; omega
      obtain ⟨X, x1, x2⟩ := si_0 oA hv h
      obtain ⟨V2, y1, y2⟩ := vt23 (V := V) oA hv (show i < 16 by omega) ha x2
      refine Or.inl ⟨h, (nI V2, nI (i + 1)), ?_, V2, rfl, fun x => ?_⟩
      · rw [if_neg q, x1, bd_s, y1, bl_l, nI_1]
      · rw [y2 x, hV2 x, ex64]
        unfold tk
        constructor
        · rintro (⟨h1, h2⟩ | ⟨h1, h2⟩)
          · exact ⟨h1, Or.inl h2⟩
          · exact ⟨h1, Or.inr h2⟩
        · rintro ⟨h1, h2 | h2⟩
          · exact Or.inl ⟨h1, h2⟩
          · exact Or.inr ⟨h1, h2⟩
    · have e2 : i = wc (aV A) := by omega
      subst e2
      rw [if_pos ((n_le (by omega) (by omega)).mpr (Nat.le_refl _))]
      exact Or.inr ⟨_, rfl, V, rfl, hV2⟩)
  obtain ⟨r, h1, V, rfl, h3⟩ := h
  refine ⟨V, ?_, ?_, fun x => ?_⟩
  · unfold f_X0_variablesThatTake
    rw [h1]
    rfl
  · refine tb_bound (n := 10) (fun k hk => ?_)
    cases hb : tb V k
    · rfl
    · have := ((h3 k).mp hb).1
      omega
  · rw [h3 x]
    constructor
    · rintro ⟨h1, s, h2, h3⟩
      exact ⟨h1, s, h3⟩
    · rintro ⟨h1, s, h3, h4⟩
      have := ps_lt h3
      exact ⟨h1, s, by omega, h3, h4⟩
theorem di_e {m : St} {A : Ab} (oA : okA A) (hm : RM m A) {x y a b : Nat} (hx : x < aV A) (hy : y < aV A) (ha : a < 2) (hb : b < 2) :
    ((¬ ∃ s, ps A s = true ∧ bi s x = a ∧ bi s y = 1 - b) ∧ f_X2_doesImply m (nI x) (nI a) (nI y) (nI b) = some 1) ∨ ((∃ s, ps A s = true ∧ bi s x = a ∧ bi s y = 1 - b) ∧ f_X2_doesImply m (nI x) (nI a) (nI y) (nI b) = some 0) := by
  have hV := oA.2.2.2.1
  have hp := pv_e oA
  have e2 : jshl 1 (m 0 6) = nI (2 ^ aV A) := by rw [hm.2.2.1, n_sh1 (by omega)]
  have h := loop_find (step := f_X2_doesImply_s3 m (nI x) (nI a) (nI y) (nI b)) (fun s => bi s x = a ∧ bi s y ≠ b ∧ ps A s = true) (fun _ t => t = 0) (2 ^ aV A) (by omega) (by
    intro s hs
    unfold f_X2_doesImply_s3
    have q : ¬ nI (2 ^ aV A) ≤ nI s := fun e => by have := (n_le (by omega) (by omega)).mp e; omega
    have b1 := bi_lt s x
    have b2 := bi_lt s y
    simp only [e2, q, if_false, n_bi (show x < 32 by omega) (show s < 2147483648 by omega), n_bi (show y < 32 by omega) (show s < 2147483648 by omega), n_eq (show bi s x < 4294967296 by omega) (show a < 4294967296 by omega), n_eq (show bi s y < 4294967296 by omega) (show b < 4294967296 by omega), sol_e oA hm (show s < 1024 by omega), bd_s, nI_1, ← ps_in hs]
    by_cases g1 : bi s x = a
    · rw [if_pos g1]
      by_cases g2 : bi s y = b
      · rw [if_pos g2]
        exact Or.inl ⟨fun h => h.2.1 g2, rfl⟩
      · rw [if_neg g2]
        cases g3 : ps A s
        · exact Or.inl ⟨(fun h => by cases h.2.2), rfl⟩
        · exact Or.inr ⟨⟨g1, g2, rfl⟩, _, rfl, rfl⟩
    · rw [if_neg g1]
      exact Or.inl ⟨fun h => g1 h.1, rfl⟩) (by
    unfold f_X2_doesImply_s3
    rw [e2, if_pos ((n_le (by omega) (by omega)).mpr (Nat.le_refl _))])
  unfold f_X2_doesImply
  rcases h with ⟨g1, g2⟩ | ⟨s, g1, g2, g3, t, g4, rfl⟩
  · rw [g2]
    refine Or.inl ⟨?_, rfl⟩
    rintro ⟨s, s1, s2, s3⟩
    exact g1 s (ps_lt s1) ⟨s2, by omega, s1⟩
  · rw [g4]
    have := bi_lt s y
    exact Or.inr ⟨⟨s, g2.2.2, g2.1, by have := g2.2.1; omega⟩, rfl⟩
theorem one_m : ∀ a, a < 2 → (1 : Int32) - nI a = nI (1 - a) := by decide +kernel
theorem isForced_j {u v w m : St} (hI : Inv u v w m) (p q : Int32) : JP [eIO, eIA] u v w (f_X1_isForced u v w p q) (f_X2_isForced m p q) := by
  obtain ⟨A, oA, hv, hm⟩ := hI.1
  have hV := oA.2.2.2.1
  unfold f_X1_isForced f_X2_isForced
  rcases varc (u := u) (w := w) oA hv hm p with ⟨h1, h2⟩ | ⟨x, hx, rfl, h1, h2⟩
  · simp only [h1, h2, bz_r, bd_s, if_true]
    exact JP_fail hI 0 (by decide) rfl rfl
  · rcases bitc q with ⟨h3, h4⟩ | ⟨a, ha, rfl, h3, h4⟩
    · simp only [h1, h2, h3, h4, bz_l, bz_r, bd_s, e10, if_true, if_false]
      exact JP_fail hI 1 (by decide) rfl rfl
    · obtain ⟨V, v1, v2, v3⟩ := vt_e oA hv (show 1 - a < 2 by omega)
      have v4 := v3 x
      simp only [h1, h2, h3, h4, bz_l, bd_s, e10, if_false, one_m a ha, v1, has_e (show V < 4294967296 by omega) (show x < 32 by omega)]
      rcases di_e oA (RM_us hm 0) hx hx (show 1 - a < 2 by omega) ha with ⟨g1, g2⟩ | ⟨g1, g2⟩
      · have hn : tb V x = false := by
          cases hb : tb V x
          · rfl
          · obtain ⟨_, s, s1, s2⟩ := v4.mp hb
            exact absurd ⟨s, s1, s2, s2⟩ g1
        rw [hn, g2]
        exact JP_ok hI rfl rfl
      · have hy : tb V x = true := by
          obtain ⟨s, s1, s2, _⟩ := g1
          exact v4.mpr ⟨hx, s, s1, s2⟩
        rw [hy, g2]
        exact JP_ok hI rfl rfl
