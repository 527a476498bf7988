theorem ch_e {c x y z r : Nat} (hc : c < 256) (hz : z < 16) (hr : r < 5) {L H : Int32} (hL : L &&& 15 = nI (apN (c % 16) x y 0)) (hH : H &&& 15 = nI (apN (c / 16) x y 0)) : ((L &&& (nI z ^^^ (-1))) ||| (H &&& nI z)) &&& nI (2 ^ r - 1) = nI (apN c x y z % 2 ^ r) := by
  rw [n_of L] at hL ⊢
  rw [n_of H] at hH ⊢
  generalize L.toBitVec.toNat = l at hL ⊢
  generalize H.toBitVec.toNat = h at hH ⊢
  rw [show (15 : Int32) = nI (2 ^ 4 - 1) from rfl, n_and, Nat.and_two_pow_sub_one_eq_mod] at hL hH
  have a1 := apN_lt (c % 16) x y 0
  have a2 := apN_lt (c / 16) x y 0
  have hl : l % 2 ^ 4 = apN (c % 16) x y 0 := n_inj (by omega) (by omega) hL
  have hh : h % 2 ^ 4 = apN (c / 16) x y 0 := n_inj (by omega) (by omega) hH
  rw [n_m1, n_xor, n_and, n_and, n_or, n_and, Nat.and_two_pow_sub_one_eq_mod, ← mx_ap hc x y z, ← mx_e _ a1 _ a2 z hz, ← hl, ← hh]
  congr 1
  apply tb_ext
  intro k
  rw [tb_mod2, tb_mod2, tb_or, tb_or, tb_and, tb_and, tb_and, tb_and, tb_mod2, tb_mod2]
  by_cases e : k < r
  · have e4 : k < 4 := by omega
    simp [e, e4]
  · simp [e]
/-! ===== the reference's way ===== -/
def apS (c x y z : Nat) : Nat → Nat
  | 0 => 0
  | n + 1 => apS c x y z n + bi c (bi x n + 2 * bi y n + 4 * bi z n) * 2 ^ n
theorem apS_4 (c x y z : Nat) : apS c x y z 4 = apN c x y z := by
  unfold apN
  simp only [apS]
  omega
theorem apS_lt (c x y z : Nat) : ∀ n, apS c x y z n < 2 ^ n
  | 0 => Nat.one_pos
  | n + 1 => by
    have h := apS_lt c x y z n
    have hb := bi_lt c (bi x n + 2 * bi y n + 4 * bi z n)
    have e : bi c (bi x n + 2 * bi y n + 4 * bi z n) = 0 ∨ bi c (bi x n + 2 * bi y n + 4 * bi z n) = 1 := by omega
    show apS c x y z n + bi c (bi x n + 2 * bi y n + 4 * bi z n) * 2 ^ n < 2 ^ (n + 1)
    rw [Nat.pow_succ]
    rcases e with e | e <;> rw [e] <;> omega
theorem n_bi {a k : Nat} (hk : k < 32) (h : a < 2147483648) : jshr (nI a) (nI k) &&& 1 = nI (bi a k) := by rw [n_shr hk h, n_and1]; rfl
def plk (k e : Nat) : Bool := (decide (k < 1) || (decide (k < 2) && decide (e / 2 % 2 ≠ 0)) || (decide (k < 3) && decide (e / 4 ≠ 0))) || decide (f_X2_placeOf (nI k) (nI (e % 2)) (nI (e / 2 % 2)) (nI (e / 4)) = some (nI e))
theorem pl_b : ∀ k, k < 4 → ∀ e, e < 8 → plk k e = true := by decide +kernel
theorem pl_e {k : Nat} (hk : k < 4) (k1 : 1 ≤ k) {a b d : Nat} (ha : a < 2) (hb : b < 2) (b0 : k < 2 → b = 0) (hd : d < 2) (d0 : k < 3 → d = 0) : f_X2_placeOf (nI k) (nI a) (nI b) (nI d) = some (nI (a + 2 * b + 4 * d)) := by
  have h := pl_b k hk (a + 2 * b + 4 * d) (by omega)
  unfold plk at h
  rw [show (a + 2 * b + 4 * d) % 2 = a by omega, show (a + 2 * b + 4 * d) / 2 % 2 = b by omega, show (a + 2 * b + 4 * d) / 4 = d by omega] at h
  have n1 : ¬ k < 1 := by omega
  have n2 : ¬ (k < 2 ∧ b ≠ 0) := fun e => e.2 (b0 e.1)
  have n3 : ¬ (k < 3 ∧ d ≠ 0) := fun e => e.2 (d0 e.1)
  rw [Bool.or_eq_true, Bool.or_eq_true, Bool.or_eq_true, Bool.and_eq_true, Bool.and_eq_true, decide_eq_true_iff, decide_eq_true_iff, decide_eq_true_iff, decide_eq_true_iff, decide_eq_true_iff, decide_eq_true_iff] at h
  rcases h with ((h | h) | h) | h
  · exact absurd h n1
  · exact absurd h n2
  · exact absurd h n3
  · exact h
theorem applied_e {k c x y z : Nat} (hk : k < 4) (k1 : 1 ≤ k) (hc : c < 256) (hx : x < 16) (hy : y < 16) (hz : z < 16) (y0 : k < 2 → y = 0) (z0' : k < 3 → z = 0) : f_X2_applied (nI k) (nI c) (nI x) (nI y) (nI z) = some (nI (apN c x y z)) := by
  unfold f_X2_applied
  have h := loop_at (step := f_X2_applied_s6 (nI k) (nI c) (nI x) (nI y) (nI z)) (fun i st => st = (nI (apS c x y z i), nI i)) (fun r => r = .inl (nI (apN c x y z), nI 4)) 4 (s := (0, 0)) (by decide) rfl (by
    rintro i _ hi rfl
    unfold f_X2_applied_s6
    by_cases h : i < 4
    · refine Or.inl ⟨h, _, ?_, rfl⟩
      have q2 : ¬ (4 : Int32) ≤ nI i := fun e => by have := (n_le (by decide : 4 < 2147483648) (by omega)).mp e; omega
      have hp := pl_e hk k1 (bi_lt x i) (bi_lt y i) (fun e => by rw [y0 e, bi_0]) (bi_lt z i) (fun e => by rw [z0' e, bi_0])
      have hb1 := bi_lt x i
      have hb2 := bi_lt y i
      have hb3 := bi_lt z i
      have hb4 := bi_lt c (bi x i + 2 * bi y i + 4 * bi z i)
      have hp2 : 2 ^ i ≤ 2 ^ 3 := Nat.pow_le_pow_right (by decide) (by omega)
      simp only [q2, if_false, n_bi (show i < 32 by omega) (show x < 2147483648 by omega), n_bi (show i < 32 by omega) (show y < 2147483648 by omega), n_bi (show i < 32 by omega) (show z < 2147483648 by omega), hp, bd_s, lt_e, n_bi (show bi x i + 2 * bi y i + 4 * bi z i < 32 by omega) (show c < 2147483648 by omega), n_shlG _ (show i < 32 by omega), n_or, or_add (apS_lt c x y z i), nI_1]
      rfl
    · have e : i = 4 := by omega
      subst e
      rw [apS_4]
      exact Or.inr ⟨_, rfl, rfl⟩)
  obtain ⟨r, h1, h2⟩ := h
  rw [h1, h2]
  rfl
