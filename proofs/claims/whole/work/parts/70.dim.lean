/-! ===== an affine set has a power of two of elements ===== -/
theorem px {n k : Nat} (h : k < 2 ^ n) : 2 ^ n + k = 2 ^ n ^^^ k := by
  apply tb_ext
  intro p
  rw [tb_xor, tb_pow]
  have h1 : tb (2 ^ n + k) p = if p < n then tb k p else tb 1 (p - n) := by
    have := Nat.testBit_two_pow_mul_add 1 h p
    rw [Nat.mul_one] at this
    exact this
  rw [h1]
  by_cases g : p < n
  · rw [if_pos g, decide_eq_false (by omega)]
    cases tb k p <;> rfl
  · rw [if_neg g, tb_lt h (by omega), tb_1]
    by_cases e : n = p
    · rw [decide_eq_true e, decide_eq_true (by omega)]
      rfl
    · rw [decide_eq_false e, decide_eq_false (by omega)]
      rfl
theorem ct_xor : ∀ (n : Nat) (f : Nat → Bool) (d : Nat), d < 2 ^ n → fb_ct (fun k => f (k ^^^ d)) (2 ^ n) = fb_ct f (2 ^ n)
  | 0, f, d, hd => by
    have e : d = 0 := by have h1 : d < 1 := hd; omega
    subst e
    exact fb_ct_cong (fun k _ => by rw [Nat.xor_zero])
  | n + 1, f, d, hd => by
    have e2 : 2 ^ (n + 1) = 2 ^ n + 2 ^ n := by rw [Nat.pow_succ, Nat.mul_two]
    rw [e2] at hd ⊢
    rw [fb_ct_split, fb_ct_split]
    by_cases h : d < 2 ^ n
    · rw [ct_xor n f d h]
      congr 1
      rw [← ct_xor n (fun k => f (2 ^ n + k)) d h]
      refine fb_ct_cong (fun k hk => ?_)
      show f ((2 ^ n + k) ^^^ d) = f (2 ^ n + (k ^^^ d))
      rw [px hk, px (Nat.xor_lt_two_pow hk h), Nat.xor_assoc]
    · have hd2 : d - 2 ^ n < 2 ^ n := by omega
      have ed : d = 2 ^ n ^^^ (d - 2 ^ n) := by rw [← px hd2]; omega
      rw [← ct_xor n f (d - 2 ^ n) hd2, ← ct_xor n (fun k => f (2 ^ n + k)) (d - 2 ^ n) hd2, Nat.add_comm]
      generalize d - 2 ^ n = c at hd2 ed
      subst ed
      congr 1
      · refine fb_ct_cong (fun k hk => ?_)
        show f ((2 ^ n + k) ^^^ (2 ^ n ^^^ c)) = f (k ^^^ c)
        rw [px hk]
        congr 1
        apply tb_ext
        intro p
        simp only [tb_xor]
        cases tb (2 ^ n) p <;> cases tb k p <;> cases tb c p <;> rfl
      · refine fb_ct_cong (fun k hk => ?_)
        show f (k ^^^ (2 ^ n ^^^ c)) = f (2 ^ n + (k ^^^ c))
        rw [px (Nat.xor_lt_two_pow hk hd2)]
        congr 1
        apply tb_ext
        intro p
        simp only [tb_xor]
        cases tb (2 ^ n) p <;> cases tb k p <;> cases tb c p <;> rfl
def Aff (f : Nat → Bool) (n : Nat) : Prop := ∀ a b c, a < 2 ^ n → b < 2 ^ n → c < 2 ^ n → f a = true → f b = true → f c = true → f (a ^^^ b ^^^ c) = true
theorem aff_ct : ∀ (n : Nat) (f : Nat → Bool), Aff f n → fb_ct f (2 ^ n) = 0 ∨ ∃ e, e ≤ n ∧ fb_ct f (2 ^ n) = 2 ^ e
  | 0, f, _ => by
    show 0 + (if f 0 = true then 1 else 0) = 0 ∨ ∃ e, e ≤ 0 ∧ 0 + (if f 0 = true then 1 else 0) = 2 ^ e
    cases f 0
    · exact Or.inl rfl
    · exact Or.inr ⟨0, Nat.le_refl _, rfl⟩
  | n + 1, f, h => by
    have e2 : 2 ^ (n + 1) = 2 ^ n + 2 ^ n := by rw [Nat.pow_succ, Nat.mul_two]
    have h1 : Aff f n := fun a b c ha hb hc => h a b c (by omega) (by omega) (by omega)
    have h2 : Aff (fun k => f (2 ^ n + k)) n := fun a b c ha hb hc fa fb fc => by
      have := h _ _ _ (show 2 ^ n + a < 2 ^ (n + 1) by omega) (show 2 ^ n + b < 2 ^ (n + 1) by omega) (show 2 ^ n + c < 2 ^ (n + 1) by omega) fa fb fc
      rw [px ha, px hb, px hc] at this
      show f (2 ^ n + (a ^^^ b ^^^ c)) = true
      rw [px (Nat.xor_lt_two_pow (Nat.xor_lt_two_pow ha hb) hc), ← this]
      congr 1
      apply tb_ext
      intro p
      simp only [tb_xor]
      cases tb (2 ^ n) p <;> cases tb a p <;> cases tb b p <;> cases tb c p <;> rfl
    rw [e2, fb_ct_split]
    rcases aff_ct n f h1 with g1 | ⟨e, g1, g2⟩
    · rw [g1, Nat.zero_add]
      rcases aff_ct n _ h2 with g3 | ⟨e, g3, g4⟩
      · exact Or.inl g3
      · exact Or.inr ⟨e, by omega, g4⟩
    · rcases Nat.eq_zero_or_pos (fb_ct (fun k => f (2 ^ n + k)) (2 ^ n)) with g3 | g3
      · rw [g3, Nat.add_zero]
        exact Or.inr ⟨e, by omega, g2⟩
      · obtain ⟨b, b1, b2⟩ := fb_ct_pos.mp g3
        obtain ⟨a, a1, a2⟩ := fb_ct_pos.mp (show 0 < fb_ct f (2 ^ n) by rw [g2]; exact Nat.two_pow_pos _)
        have b2' : f (2 ^ n + b) = true := b2
        have g4 : fb_ct (fun k => f (2 ^ n + k)) (2 ^ n) = fb_ct f (2 ^ n) := by
          rw [← ct_xor n f (a ^^^ b) (Nat.xor_lt_two_pow a1 b1)]
          refine fb_ct_cong (fun k hk => Bool.eq_iff_iff.mpr ⟨fun hf => ?_, fun hf => ?_⟩)
          · have := h (2 ^ n + k) (2 ^ n + b) a (by omega) (by omega) (by omega) hf b2' a2
            rw [px hk, px b1] at this
            rw [← this]
            congr 1
            apply tb_ext
            intro p
            simp only [tb_xor]
            cases tb (2 ^ n) p <;> cases tb a p <;> cases tb b p <;> cases tb k p <;> rfl
          · have hx := Nat.xor_lt_two_pow hk (Nat.xor_lt_two_pow a1 b1)
            have := h (k ^^^ (a ^^^ b)) (2 ^ n + b) a (by omega) (by omega) (by omega) hf b2' a2
            rw [px b1] at this
            show f (2 ^ n + k) = true
            rw [px hk, ← this]
            congr 1
            apply tb_ext
            intro p
            simp only [tb_xor]
            cases tb (2 ^ n) p <;> cases tb a p <;> cases tb b p <;> cases tb k p <;> rfl
        refine Or.inr ⟨e + 1, by omega, ?_⟩
        rw [g4, g2, Nat.pow_succ, Nat.mul_two]
/-! ===== the solutions of a language with kind 5 ===== -/
theorem ap150 : ∀ x, x < 16 → ∀ y, y < 16 → ∀ z, z < 16 → apN 150 x y z = x ^^^ y ^^^ z := by decide +kernel
theorem tb_tpl (g : Nat → Nat) (a : Nat) : ∀ r p, tb (tpl g a r) p = (decide (p < r) && tb a (g p))
  | 0, p => by
    show tb 0 p = _
    rw [tb_0, decide_eq_false (Nat.not_lt_zero _)]
    rfl
  | r + 1, p => by
    show tb (tpl g a r + bi a (g r) * 2 ^ r) p = _
    rw [← or_add (tpl_lt g a r), tb_or, tb_tpl g a r p, bi_tb]
    by_cases e : p = r
    · subst e
      rw [decide_eq_false (Nat.lt_irrefl _), decide_eq_true (Nat.lt_succ_self _)]
      cases tb a (g p)
      · simp [tb_0]
      · simp [tb_pow]
    · have h1 : tb ((if tb a (g r) = true then 1 else 0) * 2 ^ r) p = false := by
        cases tb a (g r)
        · simp [tb_0]
        · simp only [if_true, Nat.one_mul, tb_pow]
          exact decide_eq_false (fun h => e h.symm)
      rw [h1, Bool.or_false]
      have h2 : decide (p < r) = decide (p < r + 1) := by
        by_cases h : p < r
        · rw [decide_eq_true h, decide_eq_true (by omega)]
        · rw [decide_eq_false h, decide_eq_false (by omega)]
      rw [h2]
theorem tpl_xor (g : Nat → Nat) (a b c r : Nat) : tpl g (a ^^^ b ^^^ c) r = tpl g a r ^^^ tpl g b r ^^^ tpl g c r := by
  apply tb_ext
  intro p
  rw [tb_xor, tb_xor, tb_tpl, tb_tpl, tb_tpl, tb_tpl, tb_xor, tb_xor]
  cases decide (p < r) <;> cases tb a (g p) <;> cases tb b (g p) <;> cases tb c (g p) <;> rfl
theorem kd5 {A : Ab} (h : kd A 5 = true) (oA : okA A) {q x y z : Nat} (hq : q < aN A) (hx : tb (aT A q) x = true) (hy : tb (aT A q) y = true) (hz : tb (aT A q) z = true) : tb (aT A q) (x ^^^ y ^^^ z) = true := by
  have hk : Kp A 3 150 := kb_kp h
  obtain ⟨a1, a2, a3⟩ := oA.2.1 q hq
  have e := p2_e (aR A q) (by omega)
  have x1 := tb_in a3 hx
  have y1 := tb_in a3 hy
  have z1 := tb_in a3 hz
  have hm := Md_in (S := aT A q) (Y := aT A q) (k := 3) (c := 150) (j := x ^^^ y ^^^ z) (show aR A q < 5 by omega) ⟨x, y, z, x1, y1, z1, hx, hy, hz, ?_⟩ (hk q hq) (fun _ h => h)
  · exact hm
  · rw [ap150 x (by omega) y (by omega) z (by omega)]
    exact Nat.mod_eq_of_lt (Nat.xor_lt_two_pow (Nat.xor_lt_two_pow x1 y1) z1)
theorem ps_aff {A : Ab} (oA : okA A) (h : kd A 5 = true) : Aff (ps A) (aV A) := by
  intro a b c ha hb hc fa fb fc
  have fa2 := psl_i.mp fa
  have fb2 := psl_i.mp fb
  have fc2 := psl_i.mp fc
  refine psl_i.mpr ⟨Nat.xor_lt_two_pow (Nat.xor_lt_two_pow ha hb) hc, fun d hd => ?_⟩
  rcases fa2.2 d hd with g1 | g1
  · exact Or.inl g1
  · rcases fb2.2 d hd with g2 | g2
    · exact Or.inl g2
    · rcases fc2.2 d hd with g3 | g3
      · exact Or.inl g3
      · refine Or.inr ?_
        unfold Sat at g1 g2 g3 ⊢
        rw [tpl_xor]
        exact kd5 h oA (oA.2.2.2.2.2 d hd).1 g1 g2 g3
theorem dimension_j {u v w m : St} (hI : Inv u v w m) : JP [eUO, eNS] u v w (f_X1_dimension u v w) (f_X2_dimension m) := by
  obtain ⟨A, oA, hv, hm⟩ := hI.1
  have hV := oA.2.2.2.1
  unfold f_X1_dimension f_X2_dimension
  rcases ka_e (u := u) (w := w) (j := 5) oA hv hm (by decide) with ⟨h1, h2⟩ | ⟨hk, h1, h2⟩
  · rw [show f_X1_requireKindOfLanguage u v w 5 = _ from h1, show f_X2_has m 5 = _ from h2]
    exact JP_fail hI 0 (by decide) rfl rfl
  · rw [show f_X1_requireKindOfLanguage u v w 5 = _ from h1, show f_X2_has m 5 = _ from h2, bz_l, bd_s, if_neg e10, cs2 oA hm, bd_s]
    rcases rs_e (u := u) (w := w) oA hv with ⟨h3, h4⟩ | ⟨h3, h4⟩
    · rw [h4, h3]
      exact JP_fail hI 1 (by decide) rfl rfl
    · rcases aff_ct (aV A) (ps A) (ps_aff oA hk) with g | ⟨e, g1, g2⟩
      · exact absurd g h3
      · have g3 : nS A = 2 ^ e := g2
        have hp : 2 ^ e ≤ 1024 := by rw [← g3]; exact nS_le oA
        have hp1 := Nat.two_pow_pos e
        have hl : loopN (f_X2_dimension_s36 (us m 0 0) (nI (2 ^ e))) FU 0 = some (.inl (nI e)) := by
          have h := loop_at (step := f_X2_dimension_s36 (us m 0 0) (nI (2 ^ e))) (fun i s => s = nI i) (fun r => r = .inl (nI e)) e (s := 0) (by omega) rfl (by
            rintro i _ hi rfl
            unfold f_X2_dimension_s36
            have hpi : 2 ^ i ≤ 2 ^ e := Nat.pow_le_pow_right (by decide) hi
            rw [n_sh1 (show i < 32 by omega)]
            by_cases h : i < e
            · have hp2 : 2 ^ i < 2 ^ e := Nat.pow_lt_pow_right (by decide) h
              rw [if_neg (fun e => by have := (n_le (by omega) (by omega)).mp e; omega)]
              exact Or.inl ⟨h, _, rfl, nI_1 _⟩
            · have e2 : i = e := by omega
              subst e2
              rw [if_pos ((n_le (by omega) (by omega)).mpr (Nat.le_refl _))]
              exact Or.inr ⟨_, rfl, rfl⟩)
          obtain ⟨r, l1, l2⟩ := h
          rw [l1, l2]
        rw [h4, bz_l, if_neg (ns_ne oA h3), cs1 oA hv, bd_s, g3, hl, show (1 : Int32) = nI 1 from rfl, n_sub hp1, bc32 (by omega), ct_mask (show e ≤ 32 by omega)]
        exact JP_ok hI rfl rfl
