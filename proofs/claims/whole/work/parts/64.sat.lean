/-! ===== the tuple that an assignment gives, and whether it satisfies a constraint ===== -/
def tpl (g : Nat → Nat) (a : Nat) : Nat → Nat
  | 0 => 0
  | r + 1 => tpl g a r + bi a (g r) * 2 ^ r
theorem tpl_lt (g : Nat → Nat) (a : Nat) : ∀ r, tpl g a r < 2 ^ r
  | 0 => Nat.one_pos
  | r + 1 => by
    have h := tpl_lt g a r
    have hb := bi_lt a (g r)
    have e : bi a (g r) = 0 ∨ bi a (g r) = 1 := by omega
    show tpl g a r + bi a (g r) * 2 ^ r < 2 ^ (r + 1)
    rw [Nat.pow_succ]
    rcases e with e | e <;> rw [e] <;> omega
theorem tpl_cong {g h : Nat → Nat} (a : Nat) : ∀ r, (∀ p, p < r → g p = h p) → tpl g a r = tpl h a r
  | 0, _ => rfl
  | r + 1, e => by
    show tpl g a r + bi a (g r) * 2 ^ r = tpl h a r + bi a (h r) * 2 ^ r
    rw [tpl_cong a r (fun p hp => e p (by omega)), e r (by omega)]
theorem bi_tb (a x : Nat) : bi a x = if tb a x then 1 else 0 := tb_mod a x
def Sat (A : Ab) (c a : Nat) : Bool := tb (aT A (aQ A c)) (tpl (aW A c) a (aR A (aQ A c)))
theorem va_e {k p : Nat} (hp : p < 8) (hk : k < 4294967296) : f_X0_variableAt (nI k) (nI p) = some (nI (k / 2 ^ (4 * p) % 16)) := by
  unfold f_X0_variableAt
  rw [m4_e p (by omega), n_ushr (by omega) hk, show (15 : Int32) = nI (2 ^ 4 - 1) from rfl, fa_mask]
theorem sat1 {v : St} {A : Ab} (oA : okA A) (hv : RV v A) {c a : Nat} (hc : c < aC A) (ha : a < 1024) : f_X0_isSatisfied v (nI c) (nI a) = some (if Sat A c a = true then 1 else 0) := by
  have h20 := oA.2.2.2.2.1
  have hV := oA.2.2.2.1
  have hc20 : c < 20 := by omega
  obtain ⟨o1, o2⟩ := oA.2.2.2.2.2 c hc
  have h8 := oA.1
  have hq8 : aQ A c < 8 := by omega
  obtain ⟨a1, a2, a3⟩ := oA.2.1 _ o1
  have e := p2_e (aR A (aQ A c)) (by omega)
  obtain ⟨v1, k, v2, v3, v4⟩ := hv.2.2.2.2 c hc
  have hl : loopN (f_X0_isSatisfied_s13 v (nI c) (nI a) (nI (aQ A c))) FU (0, 0) = some (.inl (nI (tpl (aW A c) a (aR A (aQ A c))), nI (aR A (aQ A c)))) := by
    have h := loop_at (step := f_X0_isSatisfied_s13 v (nI c) (nI a) (nI (aQ A c))) (fun i s => s = (nI (tpl (aW A c) a i), nI i)) (fun r => r = .inl (nI (tpl (aW A c) a (aR A (aQ A c))), nI (aR A (aQ A c)))) (aR A (aQ A c)) (s := (0, 0)) (by omega) rfl (by
      rintro i _ hi rfl
      unfold f_X0_isSatisfied_s13
      simp only [gd_t (inb_t hq8 (by decide : 8 < 2147483648)), gd_t (inb_t hc20 (by decide : 20 < 2147483648)), n_ix (show aQ A c < 2147483648 by omega), n_ix (show c < 2147483648 by omega), (hv.2.1 _ o1).1, v2]
      by_cases h : i < aR A (aQ A c)
      · refine Or.inl ⟨h, _, ?_, rfl⟩
        have q : ¬ nI (aR A (aQ A c)) ≤ nI i := fun e => by have := (n_le (by omega) (by omega)).mp e; omega
        have o3 := o2 i h
        simp only [q, if_false, va_e (k := k) (p := i) (by omega) (by omega), v4 i h, bd_s, has_e (show a < 4294967296 by omega) (show aW A c i < 32 by omega), lt_e, nI_1, n_sh1 (show i < 32 by omega), n_or]
        show _ = some (Sum.inl (nI (tpl (aW A c) a i + bi a (aW A c i) * 2 ^ i), nI (i + 1)))
        rw [bi_tb, ← or_add (tpl_lt (aW A c) a i)]
        cases tb a (aW A c i)
        · simp
        · simp
      · have e2 : i = aR A (aQ A c) := by omega
        subst e2
        refine Or.inr ⟨_, ?_, rfl⟩
        have q : nI (aR A (aQ A c)) ≤ nI (aR A (aQ A c)) := (n_le (by omega) (by omega)).mpr (Nat.le_refl _)
        simp only [q, if_true])
    obtain ⟨r, h1, h2⟩ := h
    rw [h1, h2]
  have ht := tpl_lt (aW A c) a (aR A (aQ A c))
  unfold f_X0_isSatisfied Sat
  simp only [gd_t (inb_t hc20 (by decide : 20 < 2147483648)), n_ix (show c < 2147483648 by omega), v1, lt_e, hl, bl_l, gd_t (inb_t hq8 (by decide : 8 < 2147483648)), n_ix (show aQ A c < 2147483648 by omega), (hv.2.1 _ o1).2, has_e (show aT A (aQ A c) < 4294967296 by omega) (show tpl (aW A c) a (aR A (aQ A c)) < 32 by omega), bd_s, gd_t (okB_b _)]
theorem sat2 {m : St} {A : Ab} (oA : okA A) (hm : RM m A) {c a : Nat} (hc : c < aC A) (ha : a < 1024) : f_X2_isSatisfied m (nI c) (nI a) = some (if Sat A c a = true then 1 else 0) := by
  have h20 := oA.2.2.2.2.1
  have hV := oA.2.2.2.1
  have hc20 : c < 20 := by omega
  obtain ⟨o1, o2⟩ := oA.2.2.2.2.2 c hc
  have h8 := oA.1
  have hq8 : aQ A c < 8 := by omega
  obtain ⟨a1, a2, a3⟩ := oA.2.1 _ o1
  have e := p2_e (aR A (aQ A c)) (by omega)
  obtain ⟨v1, v4⟩ := hm.2.2.2.2 c hc
  have hl : loopN (f_X2_isSatisfied_s5 m (nI c) (nI a)) FU (0, 0) = some (.inl (nI (tpl (aW A c) a (aR A (aQ A c))), nI (aR A (aQ A c)))) := by
    have h := loop_at (step := f_X2_isSatisfied_s5 m (nI c) (nI a)) (fun i s => s = (nI (tpl (aW A c) a i), nI i)) (fun r => r = .inl (nI (tpl (aW A c) a (aR A (aQ A c))), nI (aR A (aQ A c)))) (aR A (aQ A c)) (s := (0, 0)) (by omega) rfl (by
      rintro i _ hi rfl
      unfold f_X2_isSatisfied_s5
      simp only [gd_t (inb_t hc20 (by decide : 20 < 2147483648)), n_ix (show c < 2147483648 by omega), v1, gd_t (inb_t hq8 (by decide : 8 < 2147483648)), n_ix (show aQ A c < 2147483648 by omega), (hm.2.1 _ o1).1]
      by_cases h : i < aR A (aQ A c)
      · refine Or.inl ⟨h, _, ?_, rfl⟩
        have q : ¬ nI (aR A (aQ A c)) ≤ nI i := fun e => by have := (n_le (by omega) (by omega)).mp e; omega
        have o3 := o2 i h
        simp only [q, if_false, m4_e c (show c < 21 by omega), nI_add, gd_t (inb_t (show 4 * c + i < 80 by omega) (by decide : 80 < 2147483648)), n_ix (show 4 * c + i < 2147483648 by omega), v4 i h, n_bi (show aW A c i < 32 by omega) (show a < 2147483648 by omega), n_shlG _ (show i < 32 by omega), n_or, or_add (tpl_lt (aW A c) a i), lt_e, nI_1]
        rfl
      · have e2 : i = aR A (aQ A c) := by omega
        subst e2
        refine Or.inr ⟨_, ?_, rfl⟩
        have q : nI (aR A (aQ A c)) ≤ nI (aR A (aQ A c)) := (n_le (by omega) (by omega)).mpr (Nat.le_refl _)
        simp only [q, if_true])
    obtain ⟨r, h1, h2⟩ := h
    rw [h1, h2]
  have ht := tpl_lt (aW A c) a (aR A (aQ A c))
  unfold f_X2_isSatisfied Sat
  simp only [hl, bl_l, gd_t (inb_t hc20 (by decide : 20 < 2147483648)), n_ix (show c < 2147483648 by omega), v1, gd_t (inb_t hq8 (by decide : 8 < 2147483648)), n_ix (show aQ A c < 2147483648 by omega), (hm.2.1 _ o1).2, n_bits (show tpl (aW A c) a (aR A (aQ A c)) < 32 by omega) (show aT A (aQ A c) < 2147483648 by omega)]
  cases tb (aT A (aQ A c)) (tpl (aW A c) a (aR A (aQ A c))) <;> rfl
/-! ===== all constraints but some ===== -/
def Slv (A : Ab) (lo : Nat → Bool) (n a : Nat) : Prop := ∀ c, c < n → lo c = true ∨ Sat A c a = true
noncomputable def slv (A : Ab) (lo : Nat → Bool) (a : Nat) : Bool := @decide (Slv A lo (aC A) a) (Classical.propDecidable _)
theorem slv_i {A : Ab} {lo : Nat → Bool} {a : Nat} : slv A lo a = true ↔ Slv A lo (aC A) a := ⟨fun h => @of_decide_eq_true _ (Classical.propDecidable _) h, fun h => @decide_eq_true _ (Classical.propDecidable _) h⟩
theorem slv_f {A : Ab} {lo : Nat → Bool} {a : Nat} (h : ¬ Slv A lo (aC A) a) : slv A lo a = false := @decide_eq_false _ (Classical.propDecidable _) h
theorem solves_e {m : St} {A : Ab} (oA : okA A) (hm : RM m A) {a : Nat} (ha : a < 1024) {lo : Nat → Bool} {L : Int32} (hL : ∀ c, c < aC A → (nI c = L ↔ lo c = true)) : f_X2_solves m (nI a) L = some (if slv A lo a = true then 1 else 0) := by
  unfold f_X2_solves
  have h20 := oA.2.2.2.2.1
  have h := loop_find (step := f_X2_solves_s2 m (nI a) L) (fun c => lo c = false ∧ Sat A c a = false) (fun _ t => t = 0) (aC A) (by omega) (by
    intro c hc
    unfold f_X2_solves_s2
    have q : ¬ nI (aC A) ≤ nI c := fun e => by have := (n_le (by omega) (by omega)).mp e; omega
    rw [hm.2.2.2.1, if_neg q, nI_1, sat2 oA hm hc ha]
    have h1 := hL c hc
    by_cases g : nI c = L
    · rw [if_pos g]
      exact Or.inl ⟨(fun b => by rw [h1.mp g] at b; cases b.1), rfl⟩
    · have h2 : lo c = false := by
        cases hb : lo c
        · rfl
        · exact absurd (h1.mpr hb) g
      rw [if_neg g]
      cases hs : Sat A c a
      · exact Or.inr ⟨⟨h2, rfl⟩, _, rfl, rfl⟩
      · exact Or.inl ⟨(fun b => by cases b.2), rfl⟩) (by
    unfold f_X2_solves_s2
    rw [hm.2.2.2.1, if_pos ((n_le (by omega) (by omega)).mpr (Nat.le_refl _))])
  rcases h with ⟨g1, g2⟩ | ⟨c, g1, g2, g3, t, g4, rfl⟩
  · have hs : Slv A lo (aC A) a := fun c hc => by
      cases h1 : lo c
      · cases h2 : Sat A c a
        · exact absurd ⟨h1, h2⟩ (g1 c hc)
        · exact Or.inr rfl
      · exact Or.inl rfl
    rw [g2, slv_i.mpr hs]
    rfl
  · rw [g4, slv_f (fun e => by
      rcases e c g1 with h | h
      · rw [g2.1] at h; cases h
      · rw [g2.2] at h; cases h)]
    rfl
noncomputable def sol (A : Ab) (a : Nat) : Bool := slv A (fun _ => false) a
theorem sol_e {m : St} {A : Ab} (oA : okA A) (hm : RM m A) {a : Nat} (ha : a < 1024) : f_X2_solves m (nI a) (-1) = some (if sol A a = true then 1 else 0) := by
  have h20 := oA.2.2.2.2.1
  refine solves_e oA hm ha (fun c hc => ⟨fun h => ?_, fun h => by cases h⟩)
  rw [n_m1] at h
  have := n_inj (by omega) (by decide) h
  omega
theorem pv_e {A : Ab} (oA : okA A) : 2 ^ aV A ≤ 1024 ∧ 1 ≤ 2 ^ aV A := by
  have h1 := oA.2.2.1
  have h2 := oA.2.2.2.1
  exact ⟨Nat.le_trans (Nat.pow_le_pow_right (by decide) h2) (by decide), Nat.two_pow_pos _⟩
theorem firstViolated_j {u v w m : St} (hI : Inv u v w m) (p : Int32) : JP [eIA, eNS] u v w (f_X1_firstViolated u v w p) (f_X2_firstViolated m p) := by
  obtain ⟨A, oA, hv, hm⟩ := hI.1
  have hp := pv_e oA
  have h20 := oA.2.2.2.2.1
  have hV := oA.2.2.2.1
  unfold f_X1_firstViolated f_X2_firstViolated f_X0_greatestAssignment
  rcases nn p with h | ⟨a, ha, rfl⟩
  · rw [if_pos h, if_pos h]
    exact JP_fail hI 0 (by decide) rfl rfl
  · have e1 : jshl 1 (nI (aV A)) - 1 = nI (2 ^ aV A - 1) := by rw [n_sh1 (by omega), n_1, n_sub hp.2]
    have e2 : jshl 1 (m 0 6) = nI (2 ^ aV A) := by rw [hm.2.2.1, n_sh1 (by omega)]
    rw [if_neg (n_pos ha), if_neg (n_pos ha), bd_s, hv.2.2.1, e1, e2]
    by_cases h1 : a < 2 ^ aV A
    · have q1 : nI a ≤ nI (2 ^ aV A - 1) := (n_le ha (by omega)).mpr (by omega)
      have q2 : nI a < nI (2 ^ aV A) := (n_lt ha (by omega)).mpr h1
      rw [if_pos q1, if_pos q2]
      have l1 := loop_find (step := f_X1_firstViolated_s27 u v w (nI a)) (fun c => Sat A c a = false) (fun c t => t = .inl (nI c)) (aC A) (by omega) (by
        intro c hc
        unfold f_X1_firstViolated_s27
        have q : ¬ nI (aC A) ≤ nI c := fun e => by have := (n_le (by omega) (by omega)).mp e; omega
        rw [hv.2.2.2.1, if_neg q, nI_1, sat1 oA hv hc (show a < 1024 by omega)]
        cases Sat A c a
        · exact Or.inr ⟨rfl, _, rfl, rfl⟩
        · exact Or.inl ⟨by decide, rfl⟩) (by
        unfold f_X1_firstViolated_s27
        rw [hv.2.2.2.1, if_pos ((n_le (by omega) (by omega)).mpr (Nat.le_refl _))])
      have l2 := loop_find (step := f_X2_firstViolated_s27 (us m 0 0) (nI a)) (fun c => Sat A c a = false) (fun c t => t = (nI c, us m 0 0)) (aC A) (by omega) (by
        intro c hc
        unfold f_X2_firstViolated_s27
        have q : ¬ nI (aC A) ≤ nI c := fun e => by have := (n_le (by omega) (by omega)).mp e; omega
        rw [(RM_us hm 0).2.2.2.1, if_neg q, nI_1, sat2 oA (RM_us hm 0) hc (show a < 1024 by omega)]
        cases Sat A c a
        · exact Or.inr ⟨rfl, _, rfl, rfl⟩
        · exact Or.inl ⟨by decide, rfl⟩) (by
        unfold f_X2_firstViolated_s27
        rw [(RM_us hm 0).2.2.2.1, if_pos ((n_le (by omega) (by omega)).mpr (Nat.le_refl _))])
      rcases l1 with ⟨g1, g2⟩ | ⟨j, g1, g2, g3, t, g4, rfl⟩
      · rcases l2 with ⟨g5, g6⟩ | ⟨i, g5, g6, g7, t, g8, rfl⟩
        · rw [g2, g6]
          exact JP_fail (m := us m 0 0) hI 1 (by decide) rfl rfl
        · exact (g1 i g5 g6).elim
      · rcases l2 with ⟨g5, g6⟩ | ⟨i, g5, g6, g7, t, g8, rfl⟩
        · exact (g5 j g1 g2).elim
        · rw [g4, g8, fb_first_one g2 g3 g6 g7]
          exact JP_ok hI rfl rfl
    · have q1 : ¬ nI a ≤ nI (2 ^ aV A - 1) := fun e => by have := (n_le ha (by omega)).mp e; omega
      have q2 : ¬ nI a < nI (2 ^ aV A) := fun e => h1 ((n_lt ha (by omega)).mp e)
      rw [if_neg q1, if_neg q2]
      exact JP_fail hI 0 (by decide) rfl rfl
