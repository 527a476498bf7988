/-! ===== a word of 64 assignments ===== -/
def Wd (X : Nat) (f : Nat → Bool) : Prop := X < 18446744073709551616 ∧ ∀ b, b < 64 → tb X b = f b
theorem Wd_cong {X : Nat} {f g : Nat → Bool} (h : Wd X f) (e : ∀ b, b < 64 → f b = g b) : Wd X g := ⟨h.1, fun b hb => (h.2 b hb).trans (e b hb)⟩
theorem Wd_0 : Wd 0 (fun _ => false) := ⟨by decide, fun b _ => tb_0 b⟩
theorem Wd_1 : Wd 18446744073709551615 (fun _ => true) := ⟨by decide, fun b hb => by
  rw [show (18446744073709551615 : Nat) = 2 ^ 64 - 1 by decide, tb_mask]
  exact decide_eq_true hb⟩
theorem Wd_and {X Y : Nat} {f g : Nat → Bool} (h : Wd X f) (h2 : Wd Y g) : Wd (X &&& Y) (fun b => f b && g b) :=
  ⟨Nat.lt_of_le_of_lt Nat.and_le_left h.1, fun b hb => by rw [tb_and, h.2 b hb, h2.2 b hb]⟩
theorem Wd_or {X Y : Nat} {f g : Nat → Bool} (h : Wd X f) (h2 : Wd Y g) : Wd (X ||| Y) (fun b => f b || g b) :=
  ⟨Nat.or_lt_two_pow (n := 64) h.1 h2.1, fun b hb => by rw [tb_or, h.2 b hb, h2.2 b hb]⟩
theorem Wd_not {X : Nat} {f : Nat → Bool} (h : Wd X f) : Wd (X ^^^ 18446744073709551615) (fun b => !f b) :=
  ⟨Nat.xor_lt_two_pow (n := 64) h.1 (by decide), fun b hb => by
    rw [tb_xor, h.2 b hb, Wd_1.2 b hb]
    show (f b ^^ true) = !f b
    cases f b <;> rfl⟩
theorem l_not (X : Nat) : lN X ^^^ (-1) = lN (X ^^^ 18446744073709551615) := by rw [l_m1, l_xor]
theorem Wd_zero {X : Nat} {f : Nat → Bool} (h : Wd X f) : X = 0 ↔ ∀ b, b < 64 → f b = false := by
  constructor
  · intro e b hb
    rw [← h.2 b hb, e, tb_0]
  · intro e
    apply tb_ext
    intro k
    rw [tb_0]
    by_cases hk : k < 64
    · rw [h.2 k hk, e k hk]
    · exact tb_lt (n := 64) h.1 (by omega)
theorem lg0 {X : Nat} (hX : X < 18446744073709551616) : (lg_cmp (lN X) 0 = 0) ↔ X = 0 := by
  constructor
  · intro h
    refine Classical.byContradiction (fun hn => ?_)
    have e : ¬ lN X = 0 := fun e => hn (l_inj hX (by decide : 0 < 18446744073709551616) e)
    unfold lg_cmp at h
    rw [if_neg e] at h
    split at h
    · exact absurd h (by decide)
    · exact absurd h (by decide)
  · intro h
    subst h
    rfl
theorem Wd_lg {X : Nat} {f : Nat → Bool} (h : Wd X f) : (lg_cmp (lN X) 0 = 0) ↔ ∀ b, b < 64 → f b = false := (lg0 h.1).trans (Wd_zero h)
theorem tb64 {w b x : Nat} (hb : b < 64) : tb (64 * w + b) x = if x < 6 then tb b x else tb w (x - 6) := by
  unfold tb
  rw [show 64 * w = 2 ^ 6 * w by rfl, Nat.testBit_two_pow_mul_add w (show b < 2 ^ 6 from hb)]
def oN : Nat → Nat := fun j => ([12297829382473034410, 14757395258967641292, 17361641481138401520, 18374966859414961920, 18446462603027742720, 18446744069414584320] : List Nat).getD j 0
theorem on_e : ∀ x, x < 6 → onL x = lN (oN x) ∧ oN x < 18446744073709551616 ∧ ∀ b, b < 64 → tb (oN x) b = tb b x := by decide +kernel
theorem aw1 {x w : Nat} (hx : x < 16) (hw : w < 4294967296) : ∃ X, f_X0_assignmentsWithOne (nI x) (nI w) = some (lN X) ∧ Wd X (fun b => tb (64 * w + b) x) := by
  unfold f_X0_assignmentsWithOne
  by_cases h : x < 6
  · have q : ¬ (6 : Int32) ≤ nI x := fun e => by have := (n_le (by decide : 6 < 2147483648) (by omega)).mp e; omega
    obtain ⟨o1, o2, o3⟩ := on_e x h
    rw [if_neg q, gd_t (inb_t h (by decide)), n_ix (by omega), o1]
    exact ⟨_, rfl, o2, fun b hb => by
      show _ = tb (64 * w + b) x
      rw [o3 b hb, tb64 hb, if_pos h]⟩
  · have q : (6 : Int32) ≤ nI x := (n_le (by decide : 6 < 2147483648) (by omega)).mpr (by omega)
    have e : nI x - 6 = nI (x - 6) := by rw [show (6 : Int32) = nI 6 from rfl, n_sub (by omega)]
    rw [if_pos q, e, has_e hw (show x - 6 < 32 by omega), bd_s]
    cases hb : tb w (x - 6)
    · exact ⟨0, rfl, Wd_cong Wd_0 (fun b hb2 => by rw [tb64 hb2, if_neg h, hb])⟩
    · refine ⟨18446744073709551615, ?_, Wd_cong Wd_1 (fun b hb2 => by rw [tb64 hb2, if_neg h, hb])⟩
      rw [← l_m1]
      rfl
theorem ai_s (dd : Nat) (p0 p1 p2 p3 : Int32) : f_X0_assignmentsInto (dd + 1) p0 p1 p2 p3 = if p0 = 0 then some 0 else if p1 ≤ 0 then some (-1) else bd (f_X1_allTuples p1) (fun r1 => if p0 = r1 then some (-1) else bd (f_X0_variableAt p2 (p1 - 1)) (fun r3 => bd (f_X0_assignmentsWithOne r3 p3) (fun r4 => bd (f_X1_allTuples (p1 - 1)) (fun r5 => bd (f_X0_assignmentsInto dd (p0 &&& r5) (p1 - 1) p2 p3) (fun r6 => bd (f_X0_assignmentsInto dd (jushr p0 (jshl 1 (p1 - 1))) (p1 - 1) p2 p3) (fun r7 => some ((r6 &&& (r4 ^^^ (-1))) ||| (r7 &&& r4)))))))) := rfl
theorem ai_e {w : Nat} (hw : w < 16) {k : Nat} (hk : k < 65536) : ∀ d r, r < d → r < 5 → ∀ S, S < 2 ^ (2 ^ r) → ∃ X, f_X0_assignmentsInto d (nI S) (nI r) (nI k) (nI w) = some (lN X) ∧ Wd X (fun b => tb S (tpl (fun p => k / 2 ^ (4 * p) % 16) (64 * w + b) r)) := by
  intro d
  induction d with
  | zero => intro r h; omega
  | succ d ih =>
    intro r hr hr5 S hS
    have e := p2_e r hr5
    rw [ai_s]
    by_cases h0 : S = 0
    · subst h0
      exact ⟨0, rfl, Wd_cong Wd_0 (fun b _ => (tb_0 _).symm)⟩
    have q0 : ¬ nI S = 0 := fun e2 => h0 (n_inj (by omega) (by decide : 0 < 4294967296) e2)
    rw [if_neg q0]
    rcases r with _ | t
    · rw [if_pos (by decide)]
      refine ⟨18446744073709551615, by rw [← l_m1], Wd_cong Wd_1 (fun b _ => ?_)⟩
      have e1 : S = 1 := by omega
      subst e1
      show true = tb 1 0
      decide
    · have q1 : ¬ nI (t + 1) ≤ 0 := nI_nle (by omega) (by omega)
      unfold f_X1_allTuples
      rw [if_neg q1, bd_s, all_e (t + 1) hr5]
      by_cases hf : S = 2 ^ (2 ^ (t + 1)) - 1
      · rw [hf, if_pos rfl]
        refine ⟨18446744073709551615, by rw [← l_m1], Wd_cong Wd_1 (fun b _ => ?_)⟩
        rw [tb_mask]
        exact (decide_eq_true (tpl_lt _ _ _)).symm
      · have et := p2_e t (by omega)
        have e4 : 2 ^ (2 ^ (t + 1)) = 2 ^ (2 ^ t) * 2 ^ (2 ^ t) := by rw [Nat.pow_succ, Nat.mul_two, Nat.pow_add]
        rw [if_neg (fun e2 => hf (n_inj (by omega) (by omega) e2)), nI_pred, va_e (by omega) (by omega), bd_s]
        have hx : k / 2 ^ (4 * t) % 16 < 16 := Nat.mod_lt _ (by decide)
        obtain ⟨X1, x1, x2⟩ := aw1 hx (show w < 4294967296 by omega)
        have s0 : S % 2 ^ (2 ^ t) < 2 ^ (2 ^ t) := Nat.mod_lt _ (Nat.two_pow_pos _)
        have s1 : S / 2 ^ (2 ^ t) < 2 ^ (2 ^ t) := Nat.div_lt_of_lt_mul (by rw [← e4]; exact hS)
        obtain ⟨X6, y1, y2⟩ := ih t (by omega) (by omega) _ s0
        obtain ⟨X7, z1, z2⟩ := ih t (by omega) (by omega) _ s1
        rw [x1, bd_s, bd_s, all_e t (by omega), n_and, Nat.and_two_pow_sub_one_eq_mod, y1, bd_s, n_sh1 (show t < 32 by omega), n_ushr (show 2 ^ t < 32 by omega) (show S < 4294967296 by omega), z1, bd_s, l_not, l_and, l_and, l_or]
        refine ⟨_, rfl, Wd_cong (Wd_or (Wd_and y2 (Wd_not x2)) (Wd_and z2 x2)) (fun b hb => ?_)⟩
        show (tb (S % 2 ^ (2 ^ t)) (tpl _ (64 * w + b) t) && !tb (64 * w + b) (k / 2 ^ (4 * t) % 16) || tb (S / 2 ^ (2 ^ t)) (tpl _ (64 * w + b) t) && tb (64 * w + b) (k / 2 ^ (4 * t) % 16)) = tb S (tpl (fun p => k / 2 ^ (4 * p) % 16) (64 * w + b) t + bi (64 * w + b) (k / 2 ^ (4 * t) % 16) * 2 ^ t)
        rw [bi_tb, tb_shr, tb_mod2]
        have hlt := tpl_lt (fun p => k / 2 ^ (4 * p) % 16) (64 * w + b) t
        cases tb (64 * w + b) (k / 2 ^ (4 * t) % 16)
        · simp [hlt]
        · simp [Nat.add_comm]
theorem sty_e {v : St} {A : Ab} (oA : okA A) (hv : RV v A) {c w : Nat} (hc : c < aC A) (hw : w < 16) : ∃ X, f_X0_satisfying v (nI c) (nI w) = some (lN X) ∧ Wd X (fun b => Sat A c (64 * w + b)) := by
  have h20 := oA.2.2.2.2.1
  have hc20 : c < 20 := by omega
  obtain ⟨o1, o2⟩ := oA.2.2.2.2.2 c hc
  have h8 := oA.1
  have hq8 : aQ A c < 8 := by omega
  obtain ⟨a1, a2, a3⟩ := oA.2.1 _ o1
  obtain ⟨v1, k, v2, v3, v4⟩ := hv.2.2.2.2 c hc
  obtain ⟨X, x1, x2⟩ := ai_e hw v3 6 (aR A (aQ A c)) (by omega) (by omega) _ a3
  refine ⟨X, ?_, Wd_cong x2 (fun b _ => ?_)⟩
  · unfold f_X0_satisfying
    simp only [gd_t (inb_t hc20 (by decide : 20 < 2147483648)), n_ix (show c < 2147483648 by omega), v1, lt_e, gd_t (inb_t hq8 (by decide : 8 < 2147483648)), n_ix (show aQ A c < 2147483648 by omega), (hv.2.1 _ o1).1, (hv.2.1 _ o1).2, v2, x1, bd_s]
  · unfold Sat
    rw [tpl_cong (64 * w + b) (aR A (aQ A c)) v4]
/-! ===== the solutions of a word ===== -/
def wc (n : Nat) : Nat := if n ≤ 6 then 1 else 2 ^ (n - 6)
theorem wc_f : ∀ n, n < 11 → wc n ≤ 16 ∧ 1 ≤ wc n ∧ 2 ^ n ≤ 64 * wc n ∧ (6 ≤ n → 64 * wc n = 2 ^ n) ∧ (n < 6 → wc n = 1 ∧ 2 ^ n ≤ 32) := by decide +kernel
theorem wc_b : ∀ n, n < 11 → (if 6 < nI n then some (jshl 1 (nI n - 6)) else some 1) = some (nI (wc n)) := by decide +kernel
theorem ow_b : ∀ n, n < 6 → jlshl 1 (jshl 1 (nI n)) - 1 = lN (2 ^ (2 ^ n) - 1) := by decide +kernel
theorem wc_e {v : St} {A : Ab} (oA : okA A) (hv : RV v A) : f_X0_wordCount v = some (nI (wc (aV A))) := by
  have hV := oA.2.2.2.1
  unfold f_X0_wordCount
  rw [hv.2.2.1]
  exact wc_b _ (by omega)
theorem ow_e {v : St} {A : Ab} (oA : okA A) (hv : RV v A) {w : Nat} (hw : w < wc (aV A)) : ∃ X, f_X0_assignmentsOfAWord v = some (lN X) ∧ Wd X (fun b => decide (64 * w + b < 2 ^ aV A)) := by
  have hV := oA.2.2.2.1
  obtain ⟨w1, w2, w3, w4, w5⟩ := wc_f (aV A) (by omega)
  unfold f_X0_assignmentsOfAWord
  rw [hv.2.2.1]
  by_cases h : aV A < 6
  · have q : nI (aV A) < 6 := (n_lt (by omega) (by decide : 6 < 2147483648)).mpr h
    obtain ⟨w6, w7⟩ := w5 h
    rw [if_pos q, ow_b _ h]
    have hp : 2 ^ (2 ^ aV A) ≤ 2 ^ 32 := Nat.pow_le_pow_right (by decide) w7
    refine ⟨_, rfl, by omega, fun b hb => ?_⟩
    have e : w = 0 := by omega
    subst e
    show _ = decide (64 * 0 + b < 2 ^ aV A)
    rw [tb_mask, Nat.mul_zero, Nat.zero_add]
  · have q : ¬ nI (aV A) < 6 := fun e => h ((n_lt (by omega) (by decide : 6 < 2147483648)).mp e)
    have w6 := w4 (by omega)
    rw [if_neg q]
    refine ⟨18446744073709551615, by rw [← l_m1], Wd_cong Wd_1 (fun b hb => ?_)⟩
    exact (decide_eq_true (by omega)).symm
theorem Slv_s {A : Ab} {lo : Nat → Bool} {i a : Nat} : Slv A lo (i + 1) a ↔ Slv A lo i a ∧ (lo i = true ∨ Sat A i a = true) := by
  constructor
  · exact fun h => ⟨fun c hc => h c (by omega), h i (by omega)⟩
  · rintro ⟨h1, h2⟩ c hc
    by_cases e : c = i
    · subst e
      exact h2
    · exact h1 c (by omega)
noncomputable def psl (A : Ab) (L a : Nat) : Bool := decide (a < 2 ^ aV A) && slv A (tb L) a
theorem psl_i {A : Ab} {L a : Nat} : psl A L a = true ↔ a < 2 ^ aV A ∧ Slv A (tb L) (aC A) a := by
  unfold psl
  rw [Bool.and_eq_true, decide_eq_true_iff, slv_i]
theorem si_e {v : St} {A : Ab} (oA : okA A) (hv : RV v A) {w L : Nat} (hw : w < wc (aV A)) (hL : L < 4294967296) : ∃ X, f_X0_solutionsIn v (nI w) (nI L) = some (lN X) ∧ Wd X (fun b => psl A L (64 * w + b)) := by
  have hV := oA.2.2.2.1
  have h20 := oA.2.2.2.2.1
  obtain ⟨w1, w2, w3, w4, w5⟩ := wc_f (aV A) (by omega)
  obtain ⟨X0, x1, x2⟩ := ow_e oA hv hw
  have h := loop_at (step := f_X0_solutionsIn_s8 v (nI w) (nI L)) (fun i s => ∃ X, s = (lN X, nI i) ∧ X < 18446744073709551616 ∧ ∀ b, b < 64 → (tb X b = true ↔ 64 * w + b < 2 ^ aV A ∧ Slv A (tb L) i (64 * w + b))) (fun r => ∃ X s2, r = .inl (lN X, s2) ∧ X < 18446744073709551616 ∧ ∀ b, b < 64 → (tb X b = true ↔ 64 * w + b < 2 ^ aV A ∧ Slv A (tb L) (aC A) (64 * w + b))) (aC A) (s := (lN X0, 0)) (by omega) ⟨X0, rfl, x2.1, fun b hb => by rw [x2.2 b hb, decide_eq_true_iff]; exact ⟨fun h => ⟨h, fun c hc => absurd hc (Nat.not_lt_zero _)⟩, fun h => h.1⟩⟩ (by
    rintro i _ hi ⟨X, rfl, y1, y2⟩
    unfold f_X0_solutionsIn_s8
    rw [hv.2.2.2.1]
    by_cases h : i < aC A
    · have q : ¬ nI (aC A) ≤ nI i := fun e => by have := (n_le (by omega) (by omega)).mp e; omega
      simp only [q, if_false, lg0 y1]
      by_cases h0 : X = 0
      · rw [if_pos h0]
        refine Or.inr ⟨_, rfl, X, _, rfl, y1, fun b hb => ⟨fun h => ?_, fun h => ?_⟩⟩
        · rw [h0, tb_0] at h
          cases h
        · exact (y2 b hb).mpr ⟨h.1, fun c hc => h.2 c (by omega)⟩
      · obtain ⟨Y, z1, z2⟩ := sty_e oA hv h (show w < 16 by omega)
        rw [if_neg h0, has_e hL (show i < 32 by omega), bd_s, z1, nI_1]
        refine Or.inl ⟨h, ?_⟩
        cases hb : tb L i
        · refine ⟨(lN (X &&& Y), nI (i + 1)), ?_, X &&& Y, rfl, Nat.lt_of_le_of_lt Nat.and_le_left y1, fun b hb2 => ?_⟩
          · rw [if_pos (by decide), bd_s, lt_e, l_and]
          · rw [tb_and, Bool.and_eq_true, y2 b hb2, z2.2 b hb2, Slv_s, hb]
            simp [and_assoc]
        · refine ⟨(lN X, nI (i + 1)), ?_, X, rfl, y1, fun b hb2 => ?_⟩
          · rw [if_neg (by decide)]
          · rw [y2 b hb2, Slv_s, hb]
            simp
    · have e2 : i = aC A := by omega
      subst e2
      rw [if_pos ((n_le (by omega) (by omega)).mpr (Nat.le_refl _))]
      exact Or.inr ⟨_, rfl, X, _, rfl, y1, y2⟩)
  obtain ⟨r, h1, X, s2, rfl, h3, h4⟩ := h
  refine ⟨X, ?_, h3, fun b hb => Bool.eq_iff_iff.mpr ?_⟩
  · unfold f_X0_solutionsIn
    rw [x1, bd_s, h1]
    rfl
  · rw [h4 b hb, psl_i]
noncomputable def ps (A : Ab) (a : Nat) : Bool := psl A 0 a
theorem ps_e (A : Ab) (a : Nat) : ps A a = (decide (a < 2 ^ aV A) && sol A a) := by
  unfold ps psl sol
  rw [show tb 0 = fun _ => false from funext tb_0]
theorem ps_in {A : Ab} {a : Nat} (h : a < 2 ^ aV A) : ps A a = sol A a := by
  rw [ps_e, decide_eq_true h, Bool.true_and]
theorem ps_lt {A : Ab} {a : Nat} (h : ps A a = true) : a < 2 ^ aV A := by
  rw [ps_e, Bool.and_eq_true] at h
  exact of_decide_eq_true h.1
theorem si_0 {v : St} {A : Ab} (oA : okA A) (hv : RV v A) {w : Nat} (hw : w < wc (aV A)) : ∃ X, f_X0_solutionsIn v (nI w) 0 = some (lN X) ∧ Wd X (fun b => ps A (64 * w + b)) := si_e (L := 0) oA hv hw (by decide)
