/-! ===== the relation that an instance defines ===== -/
def tpw (A : Ab) (g : Nat → Nat) (r w t : Nat) : Prop := ∃ b, b < 64 ∧ ps A (64 * w + b) = true ∧ tpl g (64 * w + b) r = t
theorem ts26 {v : St} {A : Ab} {w k r X T : Nat} (hw : w < 16) (hk : k < 65536) (hr : r < 5) (hX : Wd X (fun b => ps A (64 * w + b))) :
    ∃ T2, loopN (f_X0_tuplesOfSolutions_s26 v (nI r) (nI k) (nI w) (lN X)) FU (nI T, 0) = some (.inl (nI T2, nI (2 ^ r))) ∧ ∀ t, tb T2 t = true ↔ tb T t = true ∨ (t < 2 ^ r ∧ tpw A (fun p => k / 2 ^ (4 * p) % 16) r w t) := by
  have e := p2_e r hr
  have h := loop_at (step := f_X0_tuplesOfSolutions_s26 v (nI r) (nI k) (nI w) (lN X)) (fun i s => ∃ T2, s = (nI T2, nI i) ∧ ∀ t, tb T2 t = true ↔ tb T t = true ∨ (t < i ∧ tpw A (fun p => k / 2 ^ (4 * p) % 16) r w t)) (fun q => ∃ T2, q = .inl (nI T2, nI (2 ^ r)) ∧ ∀ t, tb T2 t = true ↔ tb T t = true ∨ (t < 2 ^ r ∧ tpw A (fun p => k / 2 ^ (4 * p) % 16) r w t)) (2 ^ r) (s := (nI T, 0)) (by omega) ⟨T, rfl, fun x => ⟨Or.inl, fun h => h.resolve_right (fun h => absurd h.1 (Nat.not_lt_zero _))⟩⟩ (by
    rintro i _ hi ⟨T2, rfl, hT2⟩
    unfold f_X0_tuplesOfSolutions_s26 f_X1_greatestTuple
    rw [bd_s, gt_e r hr]
    by_cases h : i < 2 ^ r
    · have q : ¬ nI (2 ^ r - 1) < nI i := fun e => by have := (n_lt (by omega) (by omega)).mp e; omega
      obtain ⟨Y, y1, y2⟩ := ai_e hw hk 6 r (by omega) hr (2 ^ i) (Nat.pow_lt_pow_right (by decide) h)
      have hz := Wd_lg (Wd_and hX y2)
      simp only [q, if_false, n_sh1 (show i < 32 by omega), y1, bd_s, l_and, lt_e, n_or, nI_1]
      by_cases g : lg_cmp (lN (X &&& Y)) 0 = 0
      · rw [if_pos g]
        refine Or.inl ⟨h, _, rfl, T2, rfl, fun x => ?_⟩
        rw [hT2 x]
        have hno : ¬ tpw A (fun p => k / 2 ^ (4 * p) % 16) r w i := by
          rintro ⟨b, b1, b2, b3⟩
          have := hz.mp g b b1
          rw [b2, b3, tb_pow, decide_eq_true rfl] at this
          cases this
        constructor
        · rintro (h1 | ⟨h1, h2⟩)
          · exact Or.inl h1
          · exact Or.inr ⟨by omega, h2⟩
        · rintro (h1 | ⟨h1, h2⟩)
          · exact Or.inl h1
          · by_cases e : x = i
            · subst e
              exact absurd h2 hno
            · exact Or.inr ⟨by omega, h2⟩
      · rw [if_neg g]
        refine Or.inl ⟨h, _, rfl, T2 ||| 2 ^ i, rfl, fun x => ?_⟩
        have hyes : tpw A (fun p => k / 2 ^ (4 * p) % 16) r w i := by
          refine Classical.byContradiction (fun hn => g (hz.mpr (fun b hb => ?_)))
          cases h1 : ps A (64 * w + b)
          · rfl
          · rw [tb_pow]
            by_cases h2 : i = tpl (fun p => k / 2 ^ (4 * p) % 16) (64 * w + b) r
            · exact absurd ⟨b, hb, h1, h2.symm⟩ hn
            · rw [decide_eq_false h2]
              rfl
        rw [tb_or, Bool.or_eq_true, hT2 x, tb_pow, decide_eq_true_iff]
        constructor
        · rintro ((h1 | ⟨h1, h2⟩) | h1)
          · exact Or.inl h1
          · exact Or.inr ⟨by omega, h2⟩
          · subst h1
            exact Or.inr ⟨by omega, hyes⟩
        · rintro (h1 | ⟨h1, h2⟩)
          · exact Or.inl (Or.inl h1)
          · by_cases e : x = i
            · exact Or.inr e.symm
            · exact Or.inl (Or.inr ⟨by omega, h2⟩)
    · have e2 : i = 2 ^ r := by omega
      subst e2
      have q : nI (2 ^ r - 1) < nI (2 ^ r) := (n_lt (by omega) (by omega)).mpr (by omega)
      rw [if_pos q]
      exact Or.inr ⟨_, rfl, T2, rfl, hT2⟩)
  obtain ⟨q, h1, T2, rfl, h3⟩ := h
  exact ⟨T2, h1, h3⟩
theorem ts_e {v : St} {A : Ab} (oA : okA A) (hv : RV v A) {k r : Nat} (hk : k < 65536) (hr : r < 5) : ∃ T, f_X0_tuplesOfSolutions v (nI r) (nI k) = some (nI T) ∧ T < 2 ^ (2 ^ r) ∧ ∀ t, tb T t = true ↔ ∃ s, ps A s = true ∧ tpl (fun p => k / 2 ^ (4 * p) % 16) s r = t := by
  have hV := oA.2.2.2.1
  obtain ⟨w1, w2, w3, w4, w5⟩ := wc_f (aV A) (by omega)
  have h := loop_at (step := f_X0_tuplesOfSolutions_s5 v (nI r) (nI k)) (fun i s => ∃ T, s = (nI T, nI i) ∧ ∀ t, tb T t = true ↔ ∃ s, s < 64 * i ∧ ps A s = true ∧ tpl (fun p => k / 2 ^ (4 * p) % 16) s r = t) (fun q => ∃ T, q = .inl (nI T, nI (wc (aV A))) ∧ ∀ t, tb T t = true ↔ ∃ s, s < 64 * wc (aV A) ∧ ps A s = true ∧ tpl (fun p => k / 2 ^ (4 * p) % 16) s r = t) (wc (aV A)) (s := (0, 0)) (by omega) ⟨0, rfl, fun x => ⟨fun h => tb0_n h, fun ⟨s, h, _⟩ => absurd h (Nat.not_lt_zero _)⟩⟩ (by
    rintro i _ hi ⟨T, rfl, hT⟩
    unfold f_X0_tuplesOfSolutions_s5
    rw [wc_e oA hv, bd_s]
    by_cases h : i < wc (aV A)
    · have q : ¬ nI (wc (aV A)) ≤ nI i := fun e => by have := (n_le (by omega) (by omega)).mp e; omega
      obtain ⟨X, x1, x2⟩ := si_0 oA hv h
      obtain ⟨T2, y1, y2⟩ := ts26 (v := v) (T := T) (show i < 16 by omega) hk hr x2
      refine Or.inl ⟨h, (nI T2, nI (i + 1)), ?_, T2, rfl, fun t => ?_⟩
      · rw [if_neg q, x1, bd_s, y1, bl_l, nI_1]
      · rw [y2 t, hT t, ex64]
        constructor
        · rintro (h1 | ⟨h1, h2⟩)
          · exact Or.inl h1
          · exact Or.inr h2
        · rintro (h1 | h1)
          · exact Or.inl h1
          · refine Or.inr ⟨?_, h1⟩
            obtain ⟨b, _, _, b3⟩ := h1
            rw [← b3]
            exact tpl_lt _ _ _
    · have e2 : i = wc (aV A) := by omega
      subst e2
      rw [if_pos ((n_le (by omega) (by omega)).mpr (Nat.le_refl _))]
      exact Or.inr ⟨_, rfl, T, rfl, hT⟩)
  obtain ⟨q, h1, T, rfl, h3⟩ := h
  have h4 : ∀ t, tb T t = true ↔ ∃ s, ps A s = true ∧ tpl (fun p => k / 2 ^ (4 * p) % 16) s r = t := fun t => by
    rw [h3 t]
    exact ⟨fun ⟨s, _, b⟩ => ⟨s, b⟩, fun ⟨s, b⟩ => ⟨s, by have := ps_lt b.1; omega, b⟩⟩
  refine ⟨T, ?_, tb_bound (fun j hj => ?_), h4⟩
  · unfold f_X0_tuplesOfSolutions
    rw [h1]
    rfl
  · cases hb : tb T j
    · rfl
    · obtain ⟨s, _, s2⟩ := (h4 j).mp hb
      have := tpl_lt (fun p => k / 2 ^ (4 * p) % 16) s r
      omega
theorem o_0 (x : Nat) : nI x ||| 0 = nI x := by
  rw [show (0 : Int32) = nI 0 from rfl, n_or, Nat.or_zero]
theorem sl1 (x : Nat) : jshl (nI x) 1 = nI (x * 2 ^ 1) := n_shlG x (k := 1) (by decide)
theorem sl2 (x : Nat) : jshl (nI x) 2 = nI (x * 2 ^ 2) := n_shlG x (k := 2) (by decide)
theorem sl3 (x : Nat) : jshl (nI x) 3 = nI (x * 2 ^ 3) := n_shlG x (k := 3) (by decide)
theorem tpl1 (g : Nat → Nat) (a : Nat) : bi a (g 0) = tpl g a 1 := by
  show _ = 0 + bi a (g 0) * 2 ^ 0
  omega
theorem tpl2 (g : Nat → Nat) (a : Nat) : tpl g a 1 ||| bi a (g 1) * 2 ^ 1 = tpl g a 2 := or_add (tpl_lt g a 1)
theorem tpl3 (g : Nat → Nat) (a : Nat) : tpl g a 2 ||| bi a (g 2) * 2 ^ 2 = tpl g a 3 := or_add (tpl_lt g a 2)
theorem tpl4 (g : Nat → Nat) (a : Nat) : tpl g a 3 ||| bi a (g 3) * 2 ^ 3 = tpl g a 4 := or_add (tpl_lt g a 3)
theorem df56 {m : St} {A : Ab} (oA : okA A) (hm : RM m A) {g : Nat → Nat} {r i T : Nat} (r1 : 1 ≤ r) (r4 : r ≤ 4) (hg : ∀ p, p < r → g p < aV A) {p1 p2 p3 p4 : Int32} (g1 : p1 = nI (g 0)) (g2 : 2 ≤ r → p2 = nI (g 1)) (g3 : 3 ≤ r → p3 = nI (g 2)) (g4 : 4 ≤ r → p4 = nI (g 3)) (hi : i < 2 ^ aV A) :
    f_X2_define_s56 m (nI r) p1 p2 p3 p4 (nI T, nI i) = some (.inl (nI (if ps A i = true then T ||| 2 ^ tpl g i r else T), nI (i + 1))) := by
  have hV := oA.2.2.2.1
  have hp := pv_e oA
  have e2 : jshl 1 (m 0 6) = nI (2 ^ aV A) := by rw [hm.2.2.1, n_sh1 (by omega)]
  have q : ¬ nI (2 ^ aV A) ≤ nI i := fun e => by have := (n_le (by omega) (by omega)).mp e; omega
  have e := p2_e r (by omega)
  have hl := tpl_lt g i r
  have hi2 : i < 2147483648 := by omega
  unfold f_X2_define_s56
  simp only [e2, q, if_false, sol_e oA hm (show i < 1024 by omega), bd_s, nI_1, ← ps_in hi]
  cases ps A i
  · rfl
  · rw [if_neg (by decide)]
    have c0 := hg 0 (by omega)
    subst g1
    have hr : r = 1 ∨ r = 2 ∨ r = 3 ∨ r = 4 := by omega
    rcases hr with rfl | rfl | rfl | rfl
    · simp only [lt_e, show nI 1 ≤ 1 by decide, show nI 1 ≤ 2 by decide, show nI 1 ≤ 3 by decide, if_true, n_bi (show g 0 < 32 by omega) hi2, o_0, tpl1]
      rw [n_sh1 (show tpl g i 1 < 32 by omega), n_or]
    · have c1 := hg 1 (by omega)
      rw [g2 (by decide)]
      simp only [lt_e, show ¬ nI 2 ≤ 1 by decide, show nI 2 ≤ 2 by decide, show nI 2 ≤ 3 by decide, if_true, if_false, n_bi (show g 0 < 32 by omega) hi2, n_bi (show g 1 < 32 by omega) hi2, o_0, sl1, n_or]
      rw [tpl1, tpl2, n_sh1 (show tpl g i 2 < 32 by omega), n_or]
    · have c1 := hg 1 (by omega)
      have c2 := hg 2 (by omega)
      rw [g2 (by decide), g3 (by decide)]
      simp only [lt_e, show ¬ nI 3 ≤ 1 by decide, show ¬ nI 3 ≤ 2 by decide, show nI 3 ≤ 3 by decide, if_true, if_false, n_bi (show g 0 < 32 by omega) hi2, n_bi (show g 1 < 32 by omega) hi2, n_bi (show g 2 < 32 by omega) hi2, o_0, sl1, sl2, n_or]
      rw [tpl1, tpl2, tpl3, n_sh1 (show tpl g i 3 < 32 by omega), n_or]
    · have c1 := hg 1 (by omega)
      have c2 := hg 2 (by omega)
      have c3 := hg 3 (by omega)
      rw [g2 (by decide), g3 (by decide), g4 (by decide)]
      simp only [lt_e, show ¬ nI 4 ≤ 1 by decide, show ¬ nI 4 ≤ 2 by decide, show ¬ nI 4 ≤ 3 by decide, if_true, if_false, n_bi (show g 0 < 32 by omega) hi2, n_bi (show g 1 < 32 by omega) hi2, n_bi (show g 2 < 32 by omega) hi2, n_bi (show g 3 < 32 by omega) hi2, sl1, sl2, sl3, n_or]
      rw [tpl1, tpl2, tpl3, tpl4, n_sh1 (show tpl g i 4 < 32 by omega), n_or]
theorem df_e {m : St} {A : Ab} (oA : okA A) (hm : RM m A) {g : Nat → Nat} {r : Nat} (r1 : 1 ≤ r) (r4 : r ≤ 4) (hg : ∀ p, p < r → g p < aV A) {p1 p2 p3 p4 : Int32} (g1 : p1 = nI (g 0)) (g2 : 2 ≤ r → p2 = nI (g 1)) (g3 : 3 ≤ r → p3 = nI (g 2)) (g4 : 4 ≤ r → p4 = nI (g 3)) :
    ∃ T, loopN (f_X2_define_s56 m (nI r) p1 p2 p3 p4) FU (0, 0) = some (.inl (nI T, nI (2 ^ aV A))) ∧ ∀ t, tb T t = true ↔ ∃ s, ps A s = true ∧ tpl g s r = t := by
  have hV := oA.2.2.2.1
  have hp := pv_e oA
  have h := loop_at (step := f_X2_define_s56 m (nI r) p1 p2 p3 p4) (fun i s => ∃ T, s = (nI T, nI i) ∧ ∀ t, tb T t = true ↔ ∃ s, s < i ∧ ps A s = true ∧ tpl g s r = t) (fun q => ∃ T, q = .inl (nI T, nI (2 ^ aV A)) ∧ ∀ t, tb T t = true ↔ ∃ s, s < 2 ^ aV A ∧ ps A s = true ∧ tpl g s r = t) (2 ^ aV A) (s := (0, 0)) (by omega) ⟨0, rfl, fun x => ⟨fun h => tb0_n h, fun ⟨s, h, _⟩ => absurd h (Nat.not_lt_zero _)⟩⟩ (by
    rintro i _ hi ⟨T, rfl, hT⟩
    by_cases h : i < 2 ^ aV A
    · refine Or.inl ⟨h, _, df56 oA hm r1 r4 hg g1 g2 g3 g4 h, _, rfl, fun t => ?_⟩
      rw [lt_suc, ← hT t]
      cases ps A i
      · simp
      · simp [tb_or, tb_pow]
    · have e2 : i = 2 ^ aV A := by omega
      subst e2
      have e2 : jshl 1 (m 0 6) = nI (2 ^ aV A) := by rw [hm.2.2.1, n_sh1 (by omega)]
      unfold f_X2_define_s56
      rw [e2, if_pos ((n_le (by omega) (by omega)).mpr (Nat.le_refl _))]
      exact Or.inr ⟨_, rfl, T, rfl, hT⟩)
  obtain ⟨q, h1, T, rfl, h3⟩ := h
  refine ⟨T, h1, fun t => ?_⟩
  rw [h3 t]
  exact ⟨fun ⟨s, _, b⟩ => ⟨s, b⟩, fun ⟨s, b⟩ => ⟨s, ps_lt b.1, b⟩⟩
theorem define_j {u v w m : St} (hI : Inv u v w m) (p p1 p2 p3 p4 : Int32) : J [eIA, eIO, eIS] u w (f_X1_define u v w p p1 p2 p3 p4) (f_X2_define m p p1 p2 p3 p4) := by
  obtain ⟨A, oA, hv, hm⟩ := hI.1
  unfold f_X1_define f_X2_define
  rcases ar14 p with ⟨h1, h2⟩ | ⟨r, ra, rb, rfl, h1, h2⟩
  · rw [h1, h2, bz_r, bd_s, if_pos e00]
    exact J_fail hI 0 (by decide) rfl rfl
  · rw [h1, h2, bz_l, bd_s, if_neg e10]
    rcases varsc (u := u) (w := w) oA hv hm ra rb p1 p2 p3 p4 with ⟨h3, h4⟩ | ⟨h3, h4, k, k1, k2, k3, k4, k5, k6, k7⟩
    · rw [h3, h4, bz_r, bd_s, if_pos e00]
      exact J_fail hI 1 (by decide) rfl rfl
    · have hk : k < 65536 := Nat.lt_of_lt_of_le k2 (by
        have : 2 ^ (4 * r) ≤ 2 ^ 16 := Nat.pow_le_pow_right (by decide) (by omega)
        omega)
      obtain ⟨T, t1, t2, t3⟩ := ts_e oA hv hk (show r < 5 by omega)
      obtain ⟨T2, s1, s2⟩ := df_e (g := fun p => k / 2 ^ (4 * p) % 16) oA hm ra rb k3 (p1 := p1) (p2 := p2) (p3 := p3) (p4 := p4) (by rw [k4]; show _ = nI (k / 2 ^ 0 % 16); rw [Nat.pow_zero, Nat.div_one]) k5 k6 k7
      have eT : T2 = T := tb_ext (fun t => Bool.eq_iff_iff.mpr (by rw [t3 t, s2 t]))
      subst eT
      rw [h3, h4, bz_l, bd_s, if_neg e10, k1, bd_s, t1, bd_s, s1]
      refine J_add hI oA hv hm ra rb (t := T2) t2 2 (by decide) rfl ?_ ?_ ?_
      · intro z v' h
        rw [h]
        cases z <;> rfl
      · intro h
        rw [if_pos h]
        rfl
      · intro h b m' h'
        rw [if_neg h, bl_l, h']
        rfl
