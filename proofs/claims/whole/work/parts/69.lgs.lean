/-! ===== least and greatest solution, implications ===== -/
theorem ka_e {u v w m : St} {A : Ab} (oA : okA A) (hv : RV v A) (hm : RM m A) {j : Nat} (hj : j < 6) : (f_X1_requireKindOfLanguage u v w (nI j) = some (.inr eUO) ∧ f_X2_has m (nI j) = some 0) ∨ (kd A j = true ∧ f_X1_requireKindOfLanguage u v w (nI j) = some (.inl ()) ∧ f_X2_has m (nI j) = some 1) := by
  unfold f_X1_requireKindOfLanguage
  rw [kind1 (u := u) (w := w) oA hv hj, kind2 oA hm hj]
  cases kd A j
  · exact Or.inl ⟨rfl, rfl⟩
  · exact Or.inr ⟨rfl, rfl, rfl⟩
theorem rs_e {u v w : St} {A : Ab} (oA : okA A) (hv : RV v A) : (nS A = 0 ∧ f_X1_requireSolutions u v w = some (.inr eNS)) ∨ (nS A ≠ 0 ∧ f_X1_requireSolutions u v w = some (.inl ())) := by
  unfold f_X1_requireSolutions
  have h := nS_le oA
  rw [cs1 oA hv, bd_s]
  by_cases e : nS A = 0
  · rw [e]
    exact Or.inl ⟨rfl, rfl⟩
  · have q : ¬ nI (nS A) = 0 := fun e2 => e (n_inj (by omega) (by decide : 0 < 4294967296) e2)
    rw [if_neg q]
    exact Or.inr ⟨e, rfl⟩
theorem ns_ne {A : Ab} (oA : okA A) (e : nS A ≠ 0) : ¬ nI (nS A) = 0 := fun e2 => e (n_inj (by have := nS_le oA; omega) (by decide : 0 < 4294967296) e2)
theorem ls2 {m : St} {A : Ab} (oA : okA A) (hm : RM m A) : ∃ R, loopN (f_X2_leastSolution_s43 m) FU (nI (2 ^ aV A - 1), 0) = some (.inl (nI R, nI (2 ^ aV A))) ∧ ∀ x, tb R x = true ↔ x < aV A ∧ ∀ s, ps A s = true → tb s x = true := by
  have hV := oA.2.2.2.1
  have hp := pv_e oA
  have e2 : jshl 1 (m 0 6) = nI (2 ^ aV A) := by rw [hm.2.2.1, n_sh1 (by omega)]
  have h := loop_at (step := f_X2_leastSolution_s43 m) (fun i s => ∃ R, s = (nI R, nI i) ∧ ∀ x, tb R x = true ↔ x < aV A ∧ ∀ s, s < i → ps A s = true → tb s x = true) (fun r => ∃ R, r = .inl (nI R, nI (2 ^ aV A)) ∧ ∀ x, tb R x = true ↔ x < aV A ∧ ∀ s, s < 2 ^ aV A → ps A s = true → tb s x = true) (2 ^ aV A) (s := (nI (2 ^ aV A - 1), 0)) (by omega) ⟨_, rfl, fun x => by rw [tb_mask, decide_eq_true_iff]; exact ⟨fun h => ⟨h, fun s hs => absurd hs (Nat.not_lt_zero _)⟩, fun h => h.1⟩⟩ (by
    rintro i _ hi ⟨R, rfl, hR⟩
    unfold f_X2_leastSolution_s43
    rw [e2]
    by_cases h : i < 2 ^ aV A
    · have q : ¬ nI (2 ^ aV A) ≤ nI i := fun e => by have := (n_le (by omega) (by omega)).mp e; omega
      simp only [q, if_false, sol_e oA hm (show i < 1024 by omega), bd_s, lt_e, nI_1, ← ps_in h]
      simp only [n_m1, n_and]
      cases g : ps A i
      · refine Or.inl ⟨h, _, rfl, R &&& 4294967295, rfl, fun x => ?_⟩
        rw [tb_and, Bool.and_eq_true, hR x, show (4294967295 : Nat) = 2 ^ 32 - 1 by decide, tb_mask, decide_eq_true_iff]
        constructor
        · rintro ⟨⟨h1, h2⟩, -⟩
          refine ⟨h1, fun s hs h3 => ?_⟩
          by_cases e : s = i
          · subst e
            rw [g] at h3
            cases h3
          · exact h2 s (by omega) h3
        · rintro ⟨h1, h2⟩
          exact ⟨⟨h1, fun s hs => h2 s (by omega)⟩, by omega⟩
      · refine Or.inl ⟨h, _, rfl, R &&& i, rfl, fun x => ?_⟩
        rw [tb_and, Bool.and_eq_true, hR x]
        constructor
        · rintro ⟨⟨h1, h2⟩, h3⟩
          refine ⟨h1, fun s hs h4 => ?_⟩
          by_cases e : s = i
          · subst e
            exact h3
          · exact h2 s (by omega) h4
        · rintro ⟨h1, h2⟩
          exact ⟨⟨h1, fun s hs => h2 s (by omega)⟩, h2 i (by omega) g⟩
    · have e2 : i = 2 ^ aV A := by omega
      subst e2
      rw [if_pos ((n_le (by omega) (by omega)).mpr (Nat.le_refl _))]
      exact Or.inr ⟨_, rfl, R, rfl, hR⟩)
  obtain ⟨r, h1, R, rfl, h3⟩ := h
  refine ⟨R, h1, fun x => ?_⟩
  rw [h3 x]
  exact ⟨fun ⟨a, b⟩ => ⟨a, fun s hs => b s (ps_lt hs) hs⟩, fun ⟨a, b⟩ => ⟨a, fun s _ hs => b s hs⟩⟩
theorem gs2 {m : St} {A : Ab} (oA : okA A) (hm : RM m A) : ∃ R, loopN (f_X2_greatestSolution_s36 m) FU (0, 0) = some (.inl (nI R, nI (2 ^ aV A))) ∧ ∀ x, tb R x = true ↔ ∃ s, ps A s = true ∧ tb s x = true := by
  have hV := oA.2.2.2.1
  have hp := pv_e oA
  have e2 : jshl 1 (m 0 6) = nI (2 ^ aV A) := by rw [hm.2.2.1, n_sh1 (by omega)]
  have h := loop_at (step := f_X2_greatestSolution_s36 m) (fun i s => ∃ R, s = (nI R, nI i) ∧ ∀ x, tb R x = true ↔ ∃ s, s < i ∧ ps A s = true ∧ tb s x = true) (fun r => ∃ R, r = .inl (nI R, nI (2 ^ aV A)) ∧ ∀ x, tb R x = true ↔ ∃ s, s < 2 ^ aV A ∧ ps A s = true ∧ tb s x = true) (2 ^ aV A) (s := (0, 0)) (by omega) ⟨0, rfl, fun x => ⟨fun h => tb0_n h, fun ⟨s, h, _⟩ => absurd h (Nat.not_lt_zero _)⟩⟩ (by
    rintro i _ hi ⟨R, rfl, hR⟩
    unfold f_X2_greatestSolution_s36
    rw [e2]
    by_cases h : i < 2 ^ aV A
    · have q : ¬ nI (2 ^ aV A) ≤ nI i := fun e => by have := (n_le (by omega) (by omega)).mp e; omega
      simp only [q, if_false, sol_e oA hm (show i < 1024 by omega), bd_s, lt_e, nI_1, ← ps_in h, show (0 : Int32) = nI 0 from rfl, n_or]
      cases g : ps A i
      · refine Or.inl ⟨h, _, rfl, R ||| 0, rfl, fun x => ?_⟩
        rw [Nat.or_zero, hR x, lt_suc, g]
        simp
      · refine Or.inl ⟨h, _, rfl, R ||| i, rfl, fun x => ?_⟩
        rw [tb_or, Bool.or_eq_true, hR x, lt_suc, g]
        simp
    · have e2 : i = 2 ^ aV A := by omega
      subst e2
      rw [if_pos ((n_le (by omega) (by omega)).mpr (Nat.le_refl _))]
      exact Or.inr ⟨_, rfl, R, rfl, hR⟩)
  obtain ⟨r, h1, R, rfl, h3⟩ := h
  refine ⟨R, h1, fun x => ?_⟩
  rw [h3 x]
  exact ⟨fun ⟨s, _, b⟩ => ⟨s, b⟩, fun ⟨s, b⟩ => ⟨s, ps_lt b.1, b⟩⟩
theorem leastSolution_j {u v w m : St} (hI : Inv u v w m) : JP [eUO, eNS] u v w (f_X1_leastSolution u v w) (f_X2_leastSolution m) := by
  obtain ⟨A, oA, hv, hm⟩ := hI.1
  have hV := oA.2.2.2.1
  have hp := pv_e oA
  unfold f_X1_leastSolution f_X2_leastSolution
  rcases ka_e (u := u) (w := w) (j := 2) oA hv hm (by decide) with ⟨h1, h2⟩ | ⟨-, h1, h2⟩
  · rw [show f_X1_requireKindOfLanguage u v w 2 = _ from h1, show f_X2_has m 2 = _ from h2]
    exact JP_fail hI 0 (by decide) rfl rfl
  · rw [show f_X1_requireKindOfLanguage u v w 2 = _ from h1, show f_X2_has m 2 = _ from h2, bz_l, bd_s, if_neg e10, cs2 oA hm, bd_s]
    rcases rs_e (u := u) (w := w) oA hv with ⟨h3, h4⟩ | ⟨h3, h4⟩
    · rw [h4, h3]
      exact JP_fail hI 1 (by decide) rfl rfl
    · obtain ⟨V, v1, v2, v3⟩ := vt_e oA hv (show 0 < 2 by decide)
      obtain ⟨R, r1, r2⟩ := ls2 oA (RM_us hm 0)
      have e1 : jshl 1 (nI (aV A)) - 1 = nI (2 ^ aV A - 1) := by rw [n_sh1 (by omega), n_1, n_sub hp.2]
      unfold f_X0_greatestAssignment
      rw [h4, bz_l, bd_s, hv.2.2.1, if_neg (ns_ne oA h3), lt_e, (RM_us hm 0).2.2.1, e1, show f_X0_variablesThatTake v 0 = _ from v1, bd_s, clr2, r1]
      have e3 : (2 ^ aV A - 1) &&& (V ^^^ 4294967295) = R := by
        apply tb_ext
        intro x
        rw [tb_and, tb_mask, tb_not]
        apply Bool.eq_iff_iff.mpr
        rw [r2 x, Bool.and_eq_true, decide_eq_true_iff]
        constructor
        · rintro ⟨h5, h6⟩
          refine ⟨h5, fun s hs => ?_⟩
          cases hb : tb s x
          · have := (v3 x).mpr ⟨h5, s, hs, by rw [bi_tb, hb]; rfl⟩
            rw [this] at h6
            simp at h6
            omega
          · rfl
        · rintro ⟨h5, h6⟩
          refine ⟨h5, ?_⟩
          cases hb : tb V x
          · simp
            omega
          · obtain ⟨_, s, s1, s2⟩ := (v3 x).mp hb
            rw [bi_tb, h6 s s1] at s2
            cases s2
      rw [e3]
      exact JP_ok hI rfl rfl
theorem greatestSolution_j {u v w m : St} (hI : Inv u v w m) : JP [eUO, eNS] u v w (f_X1_greatestSolution u v w) (f_X2_greatestSolution m) := by
  obtain ⟨A, oA, hv, hm⟩ := hI.1
  have hV := oA.2.2.2.1
  unfold f_X1_greatestSolution f_X2_greatestSolution
  rcases ka_e (u := u) (w := w) (j := 3) oA hv hm (by decide) with ⟨h1, h2⟩ | ⟨-, h1, h2⟩
  · rw [show f_X1_requireKindOfLanguage u v w 3 = _ from h1, show f_X2_has m 3 = _ from h2]
    exact JP_fail hI 0 (by decide) rfl rfl
  · rw [show f_X1_requireKindOfLanguage u v w 3 = _ from h1, show f_X2_has m 3 = _ from h2, bz_l, bd_s, if_neg e10, cs2 oA hm, bd_s]
    rcases rs_e (u := u) (w := w) oA hv with ⟨h3, h4⟩ | ⟨h3, h4⟩
    · rw [h4, h3]
      exact JP_fail hI 1 (by decide) rfl rfl
    · obtain ⟨V, v1, v2, v3⟩ := vt_e oA hv (show 1 < 2 by decide)
      obtain ⟨R, r1, r2⟩ := gs2 oA (RM_us hm 0)
      rw [h4, bz_l, if_neg (ns_ne oA h3), show f_X0_variablesThatTake v 1 = _ from v1, bd_s, r1]
      have e3 : V = R := by
        apply tb_ext
        intro x
        apply Bool.eq_iff_iff.mpr
        rw [r2 x, v3 x]
        constructor
        · rintro ⟨h5, s, s1, s2⟩
          refine ⟨s, s1, ?_⟩
          rw [bi_tb] at s2
          cases hb : tb s x
          · rw [hb] at s2
            cases s2
          · rfl
        · rintro ⟨s, s1, s2⟩
          exact ⟨tb_in (ps_lt s1) s2, s, s1, by rw [bi_tb, s2]; rfl⟩
      rw [e3]
      exact JP_ok hI rfl rfl
theorem hsw_e {v : St} {A : Ab} (oA : okA A) (hv : RV v A) {x y a b : Nat} (hx : x < aV A) (hy : y < aV A) (ha : a < 2) (hb : b < 2) :
    ((¬ ∃ s, ps A s = true ∧ bi s x = a ∧ bi s y = b) ∧ f_X0_hasSolutionWith v (nI x) (nI a) (nI y) (nI b) = some 0) ∨ ((∃ s, ps A s = true ∧ bi s x = a ∧ bi s y = b) ∧ f_X0_hasSolutionWith v (nI x) (nI a) (nI y) (nI b) = some 1) := by
  have hV := oA.2.2.2.1
  obtain ⟨w1, w2, w3, w4, w5⟩ := wc_f (aV A) (by omega)
  have h := loop_find (step := f_X0_hasSolutionWith_s3 v (nI x) (nI a) (nI y) (nI b)) (fun w => ∃ t, t < 64 ∧ ps A (64 * w + t) = true ∧ bi (64 * w + t) x = a ∧ bi (64 * w + t) y = b) (fun _ t => t = 1) (wc (aV A)) (by omega) (by
    intro w hw
    unfold f_X0_hasSolutionWith_s3
    have q : ¬ nI (wc (aV A)) ≤ nI w := fun e => by have := (n_le (by omega) (by omega)).mp e; omega
    obtain ⟨X, x1, x2⟩ := si_0 oA hv hw
    obtain ⟨Y, y1, y2⟩ := awv (x := x) (w := w) (by omega) (by omega) ha
    obtain ⟨Z, z1, z2⟩ := awv (x := y) (w := w) (by omega) (by omega) hb
    have hz := Wd_lg (Wd_and x2 (Wd_and y2 z2))
    rw [wc_e oA hv, bd_s, if_neg q, y1, bd_s, z1, bd_s, lt_e, x1, bd_s, l_and, l_and, nI_1]
    by_cases g : lg_cmp (lN (X &&& (Y &&& Z))) 0 = 0
    · rw [if_pos g]
      refine Or.inl ⟨?_, rfl⟩
      rintro ⟨t, t1, t2, t3, t4⟩
      have := hz.mp g t t1
      rw [t2, decide_eq_true t3, decide_eq_true t4] at this
      cases this
    · rw [if_neg g]
      refine Or.inr ⟨?_, _, rfl, rfl⟩
      refine Classical.byContradiction (fun hn => g (hz.mpr (fun t ht => ?_)))
      cases h1 : ps A (64 * w + t)
      · rfl
      · by_cases h2 : bi (64 * w + t) x = a
        · by_cases h3 : bi (64 * w + t) y = b
          · exact absurd ⟨t, ht, h1, h2, h3⟩ hn
          · rw [decide_eq_false h3]
            simp
        · rw [decide_eq_false h2]
          simp) (by
    unfold f_X0_hasSolutionWith_s3
    rw [wc_e oA hv, bd_s, if_pos ((n_le (by omega) (by omega)).mpr (Nat.le_refl _))])
  unfold f_X0_hasSolutionWith
  rcases h with ⟨g1, g2⟩ | ⟨w, g1, ⟨t, t1, t2⟩, g3, r, g4, rfl⟩
  · rw [g2]
    refine Or.inl ⟨?_, rfl⟩
    rintro ⟨s, s1, s2, s3⟩
    have hs := ps_lt s1
    refine g1 (s / 64) (by omega) ⟨s % 64, Nat.mod_lt _ (by decide), ?_⟩
    rw [show 64 * (s / 64) + s % 64 = s by omega]
    exact ⟨s1, s2, s3⟩
  · rw [g4]
    exact Or.inr ⟨⟨_, t2⟩, rfl⟩
theorem implies_j {u v w m : St} (hI : Inv u v w m) (p1 p2 p3 p4 : Int32) : JP [eUO, eIO, eIA] u v w (f_X1_implies u v w p1 p2 p3 p4) (f_X2_implies m p1 p2 p3 p4) := by
  obtain ⟨A, oA, hv, hm⟩ := hI.1
  have hV := oA.2.2.2.1
  unfold f_X1_implies f_X2_implies
  rcases ka_e (u := u) (w := w) (j := 4) oA hv hm (by decide) with ⟨h1, h2⟩ | ⟨-, h1, h2⟩
  · rw [show f_X1_requireKindOfLanguage u v w 4 = _ from h1, show f_X2_has m 4 = _ from h2]
    exact JP_fail hI 0 (by decide) rfl rfl
  rw [show f_X1_requireKindOfLanguage u v w 4 = _ from h1, show f_X2_has m 4 = _ from h2, bz_l, bd_s, if_neg e10]
  rcases varc (u := u) (w := w) oA hv hm p1 with ⟨h3, h4⟩ | ⟨x, hx, rfl, h3, h4⟩
  · rw [h3, h4]
    exact JP_fail hI 1 (by decide) rfl rfl
  rw [h3, h4, bz_l, bd_s, if_neg e10]
  rcases varc (u := u) (w := w) oA hv hm p3 with ⟨h5, h6⟩ | ⟨y, hy, rfl, h5, h6⟩
  · rw [h5, h6]
    exact JP_fail hI 1 (by decide) rfl rfl
  rw [h5, h6, bz_l, bd_s, if_neg e10]
  rcases bitc p2 with ⟨h7, h8⟩ | ⟨a, ha, rfl, h7, h8⟩
  · rw [h7, h8]
    exact JP_fail hI 2 (by decide) rfl rfl
  rw [h7, h8, bz_l, bd_s, if_neg e10]
  rcases bitc p4 with ⟨h9, h0⟩ | ⟨b, hb, rfl, h9, h0⟩
  · rw [h9, h0]
    exact JP_fail hI 2 (by decide) rfl rfl
  rw [h9, h0, bz_l, bd_s, if_neg e10, one_m b hb]
  rcases hsw_e oA hv hx hy ha (show 1 - b < 2 by omega) with ⟨g1, g2⟩ | ⟨g1, g2⟩
  · rcases di_e oA (RM_us hm 0) hx hy ha hb with ⟨g3, g4⟩ | ⟨g3, g4⟩
    · rw [g2, g4]
      exact JP_ok hI rfl rfl
    · exact absurd g3 g1
  · rcases di_e oA (RM_us hm 0) hx hy ha hb with ⟨g3, g4⟩ | ⟨g3, g4⟩
    · exact absurd g1 g3
    · rw [g2, g4]
      exact JP_ok hI rfl rfl
