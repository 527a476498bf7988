/-! ===== redundant constraints ===== -/
/-- a constraint follows from the others but those of a set -/
def Red (A : Ab) (c : Nat) (lo : Nat → Bool) : Prop := ∀ s, s < 2 ^ aV A → Slv A lo (aC A) s → Sat A c s = true
theorem spare_e {v : St} {A : Ab} (oA : okA A) (hv : RV v A) {c L : Nat} (hc : c < aC A) (hL : L < 1048576) :
    (Red A c (tb (L ||| 2 ^ c)) ∧ f_X0_isSpare v (nI c) (nI L) = some 1) ∨ (¬ Red A c (tb (L ||| 2 ^ c)) ∧ f_X0_isSpare v (nI c) (nI L) = some 0) := by
  have hV := oA.2.2.2.1
  have h20 := oA.2.2.2.2.1
  obtain ⟨w1, w2, w3, w4, w5⟩ := wc_f (aV A) (by omega)
  have hp : 2 ^ c ≤ 2 ^ 19 := Nat.pow_le_pow_right (by decide) (by omega)
  have hLc : L ||| 2 ^ c < 2 ^ 20 := lt_or hL (by omega)
  have h := loop_find (step := f_X0_isSpare_s2 v (nI c) (nI L)) (fun w => ∃ t, t < 64 ∧ psl A (L ||| 2 ^ c) (64 * w + t) = true ∧ Sat A c (64 * w + t) = false) (fun _ t => t = 0) (wc (aV A)) (by omega) (by
    intro w hw
    unfold f_X0_isSpare_s2
    have q : ¬ nI (wc (aV A)) ≤ nI w := fun e => by have := (n_le (by omega) (by omega)).mp e; omega
    obtain ⟨X, x1, x2⟩ := si_e (L := L ||| 2 ^ c) oA hv hw (by omega)
    obtain ⟨Y, y1, y2⟩ := sty_e oA hv hc (show w < 16 by omega)
    have hz := Wd_lg (Wd_and x2 (Wd_not y2))
    rw [wc_e oA hv, bd_s, if_neg q, n_sh1 (show c < 32 by omega), n_or, x1, bd_s, y1, bd_s, l_not, l_and, nI_1]
    by_cases g : lg_cmp (lN (X &&& (Y ^^^ 18446744073709551615))) 0 = 0
    · rw [if_pos g]
      refine Or.inl ⟨?_, rfl⟩
      rintro ⟨t, t1, t2, t3⟩
      have := hz.mp g t t1
      rw [t2, t3] at this
      cases this
    · rw [if_neg g]
      refine Or.inr ⟨?_, _, rfl, rfl⟩
      refine Classical.byContradiction (fun hn => g (hz.mpr (fun t ht => ?_)))
      cases h1 : psl A (L ||| 2 ^ c) (64 * w + t)
      · rfl
      · cases h2 : Sat A c (64 * w + t)
        · exact absurd ⟨t, ht, h1, h2⟩ hn
        · rfl) (by
    unfold f_X0_isSpare_s2
    rw [wc_e oA hv, bd_s, if_pos ((n_le (by omega) (by omega)).mpr (Nat.le_refl _))])
  unfold f_X0_isSpare
  rcases h with ⟨g1, g2⟩ | ⟨w, g1, ⟨t, t1, t2, t3⟩, g3, r, g4, rfl⟩
  · rw [g2]
    refine Or.inl ⟨fun s hs h1 => ?_, rfl⟩
    cases hb : Sat A c s
    · refine absurd ?_ (g1 (s / 64) (by omega))
      refine ⟨s % 64, Nat.mod_lt _ (by decide), ?_⟩
      rw [show 64 * (s / 64) + s % 64 = s by omega]
      exact ⟨psl_i.mpr ⟨hs, h1⟩, hb⟩
    · rfl
  · rw [g4]
    refine Or.inr ⟨fun h => ?_, rfl⟩
    obtain ⟨p1, p2⟩ := psl_i.mp t2
    have := h _ p1 p2
    rw [t3] at this
    cases this
theorem idle_e {m : St} {A : Ab} (oA : okA A) (hm : RM m A) {c : Nat} (hc : c < aC A) :
    (Red A c (fun j => decide (j = c)) ∧ f_X2_isIdle m (nI c) = some 1) ∨ (¬ Red A c (fun j => decide (j = c)) ∧ f_X2_isIdle m (nI c) = some 0) := by
  have hV := oA.2.2.2.1
  have h20 := oA.2.2.2.2.1
  have hp := pv_e oA
  have e2 : jshl 1 (m 0 6) = nI (2 ^ aV A) := by rw [hm.2.2.1, n_sh1 (by omega)]
  have h := loop_find (step := f_X2_isIdle_s2 m (nI c)) (fun s => Sat A c s = false ∧ slv A (fun j => decide (j = c)) s = true) (fun _ t => t = 0) (2 ^ aV A) (by omega) (by
    intro s hs
    unfold f_X2_isIdle_s2
    have q : ¬ nI (2 ^ aV A) ≤ nI s := fun e => by have := (n_le (by omega) (by omega)).mp e; omega
    have hl : ∀ d, d < aC A → (nI d = nI c ↔ (fun j => decide (j = c)) d = true) := fun d hd => by
      rw [n_eq (by omega) (by omega)]
      exact decide_eq_true_iff.symm
    rw [e2, if_neg q, sat2 oA hm hc (show s < 1024 by omega), bd_s, solves_e oA hm (show s < 1024 by omega) hl, nI_1]
    cases Sat A c s
    · rw [if_pos (by decide), bd_s]
      cases slv A (fun j => decide (j = c)) s
      · exact Or.inl ⟨(fun b => by cases b.2), rfl⟩
      · exact Or.inr ⟨⟨rfl, rfl⟩, _, rfl, rfl⟩
    · exact Or.inl ⟨(fun b => by cases b.1), rfl⟩) (by
    unfold f_X2_isIdle_s2
    rw [e2, if_pos ((n_le (by omega) (by omega)).mpr (Nat.le_refl _))])
  unfold f_X2_isIdle
  rcases h with ⟨g1, g2⟩ | ⟨s, g1, ⟨t1, t2⟩, g3, r, g4, rfl⟩
  · rw [g2]
    refine Or.inl ⟨fun s hs h1 => ?_, rfl⟩
    cases hb : Sat A c s
    · exact absurd ⟨hb, slv_i.mpr h1⟩ (g1 s hs)
    · rfl
  · rw [g4]
    refine Or.inr ⟨fun h => ?_, rfl⟩
    have := h s g1 (slv_i.mp t2)
    rw [t1] at this
    cases this
theorem tb_one (c : Nat) : tb (0 ||| 2 ^ c) = fun j => decide (j = c) := by
  funext j
  rw [Nat.zero_or, tb_pow]
  by_cases e : c = j
  · rw [decide_eq_true e, decide_eq_true e.symm]
  · rw [decide_eq_false e, decide_eq_false (fun h => e h.symm)]
theorem isRedundant_j {u v w m : St} (hI : Inv u v w m) (p : Int32) : JP [eIO] u v w (f_X1_isRedundant u v w p) (f_X2_isRedundant m p) := by
  obtain ⟨A, oA, hv, hm⟩ := hI.1
  have h20 := oA.2.2.2.2.1
  unfold f_X1_isRedundant f_X2_isRedundant
  rw [hv.2.2.2.1, hm.2.2.2.1]
  by_cases h0 : aC A = 0
  · have hb : f_X2_isBetween p 0 (nI (aC A) - 1) = some 0 := by
      unfold f_X2_isBetween
      rcases nn p with h | ⟨a, ha, rfl⟩
      · rw [if_pos h]
      · have q : nI (aC A) - 1 < nI a := by
          rw [h0]
          exact (n_neg0 (x := nI 0 - 1) (by decide) ha).1
        rw [if_neg (n_pos ha), if_pos q]
    rw [hb, bd_s, if_pos e00]
    rcases nn p with h | ⟨a, ha, rfl⟩
    · rw [if_pos h]
      exact JP_fail hI 0 (by decide) rfl rfl
    · have q : ¬ nI a < nI (aC A) := fun e => by have := (n_lt ha (by omega)).mp e; omega
      rw [if_neg (n_pos ha), if_neg q]
      exact JP_fail hI 0 (by decide) rfl rfl
  · rcases posc (k := aC A) (by omega) (by omega) p with ⟨h1, h2⟩ | ⟨c, hc, rfl, h1, h2, h3⟩
    · rw [h2, bd_s, if_pos e00]
      rcases h1 with h1 | ⟨h1, h3⟩
      · rw [if_pos h1]
        exact JP_fail hI 0 (by decide) rfl rfl
      · rw [if_neg h1, if_neg h3]
        exact JP_fail hI 0 (by decide) rfl rfl
    · rw [if_neg h1, if_pos h2, h3, bd_s, if_neg e10]
      have k1 := spare_e (L := 0) oA hv hc (by decide)
      have k2 := idle_e oA (RM_us hm 0) hc
      rw [tb_one] at k1
      rcases k1 with ⟨g1, g2⟩ | ⟨g1, g2⟩
      · rcases k2 with ⟨g3, g4⟩ | ⟨g3, g4⟩
        · rw [show f_X0_isSpare v (nI c) 0 = _ from g2, g4]
          exact JP_ok hI rfl rfl
        · exact absurd g1 g3
      · rcases k2 with ⟨g3, g4⟩ | ⟨g3, g4⟩
        · exact absurd g3 g1
        · rw [show f_X0_isSpare v (nI c) 0 = _ from g2, g4]
          exact JP_ok hI rfl rfl
