/-! ===== Int32 by natural numbers ===== -/
theorem n_tn {a : Nat} (h : a < 4294967296) : (nI a).toBitVec.toNat = a := pk_tn h
theorem n_inj {a b : Nat} (ha : a < 4294967296) (hb : b < 4294967296) (h : nI a = nI b) : a = b := by
  have := congrArg (fun q : Int32 => q.toBitVec.toNat) h
  simpa [n_tn ha, n_tn hb] using this
theorem n_eq {a b : Nat} (ha : a < 4294967296) (hb : b < 4294967296) : nI a = nI b ↔ a = b := ⟨n_inj ha hb, fun h => by rw [h]⟩
theorem n_m1 : (-1 : Int32) = nI 4294967295 := by decide +kernel
theorem n_sl : ∀ n, n < 32 → ((nI n &&& 31).toBitVec.smod 32).toNat = n := by decide +kernel
theorem n_su : ∀ n, n < 32 → (((nI n).toUInt32 &&& Int32.toUInt32 31).toBitVec % 32).toNat = n := by decide +kernel
theorem n_shl {a k : Nat} (hk : k < 32) (h : a * 2 ^ k < 4294967296) : jshl (nI a) (nI k) = nI (a * 2 ^ k) := pk_shlN _ k (n_sl k hk) h
theorem n_shr {a k : Nat} (hk : k < 32) (h : a < 2147483648) : jshr (nI a) (nI k) = nI (a / 2 ^ k) := pk_shrN h _ k (n_sl k hk)
theorem n_ushr {a k : Nat} (hk : k < 32) (h : a < 4294967296) : jushr (nI a) (nI k) = nI (a / 2 ^ k) := pk_ushrN h _ k (n_su k hk)
theorem n_lit (k : Nat) : (OfNat.ofNat k : Int32) = nI k := fa_lit k
theorem n_1 : (1 : Int32) = nI 1 := rfl
theorem n_sh1 {k : Nat} (hk : k < 32) : jshl 1 (nI k) = nI (2 ^ k) := by
  have h : 2 ^ k < 4294967296 := Nat.lt_of_lt_of_le (Nat.pow_lt_pow_right (by decide) hk) (by decide)
  rw [n_1, n_shl hk (by omega), Nat.one_mul]
theorem n_and (a b : Nat) : nI a &&& nI b = nI (a &&& b) := fa_and a b
theorem n_or (a b : Nat) : nI a ||| nI b = nI (a ||| b) := fa_or a b
theorem n_xor (a b : Nat) : nI a ^^^ nI b = nI (a ^^^ b) := fb_xorI a b
theorem n_and1 (a : Nat) : nI a &&& 1 = nI (a % 2) := by rw [n_1, n_and, Nat.and_one_is_mod]
/-- the bit k of a set -/
def tb (a k : Nat) : Bool := a.testBit k
theorem tb_def (a k : Nat) : tb a k = decide (a / 2 ^ k % 2 = 1) := Nat.testBit_eq_decide_div_mod_eq
theorem tb_mod (a k : Nat) : a / 2 ^ k % 2 = if tb a k then 1 else 0 := by
  rw [tb_def]
  rcases Nat.mod_two_eq_zero_or_one (a / 2 ^ k) with h | h <;> simp [h]
theorem n_bitu {a k : Nat} (hk : k < 32) (h : a < 4294967296) : jushr (nI a) (nI k) &&& 1 = nI (if tb a k then 1 else 0) := by rw [n_ushr hk h, n_and1, tb_mod]
theorem n_bits {a k : Nat} (hk : k < 32) (h : a < 2147483648) : jshr (nI a) (nI k) &&& 1 = nI (if tb a k then 1 else 0) := by rw [n_shr hk h, n_and1, tb_mod]
theorem tb_ext {a b : Nat} (h : ∀ k, tb a k = tb b k) : a = b := Nat.eq_of_testBit_eq h
theorem tb_or (a b k : Nat) : tb (a ||| b) k = (tb a k || tb b k) := Nat.testBit_or a b k
theorem tb_and (a b k : Nat) : tb (a &&& b) k = (tb a k && tb b k) := Nat.testBit_and a b k
theorem tb_xor (a b k : Nat) : tb (a ^^^ b) k = (tb a k ^^ tb b k) := Nat.testBit_xor a b k
theorem tb_pow (n k : Nat) : tb (2 ^ n) k = decide (n = k) := by unfold tb; rw [Nat.testBit_two_pow]
theorem tb_0 (k : Nat) : tb 0 k = false := Nat.zero_testBit k
theorem tb_lt {a n k : Nat} (h : a < 2 ^ n) (hk : n ≤ k) : tb a k = false := Nat.testBit_lt_two_pow (Nat.lt_of_lt_of_le h (Nat.pow_le_pow_right (by decide) hk))
theorem tb_mask (n k : Nat) : tb (2 ^ n - 1) k = decide (k < n) := Nat.testBit_two_pow_sub_one n k
theorem tb_not {b k : Nat} : tb (b ^^^ 4294967295) k = (tb b k ^^ decide (k < 32)) := by
  rw [tb_xor, show (4294967295 : Nat) = 2 ^ 32 - 1 by decide, tb_mask]
theorem tb_shr (a n k : Nat) : tb (a / 2 ^ n) k = tb a (n + k) := by
  unfold tb; rw [← Nat.shiftRight_eq_div_pow, Nat.testBit_shiftRight]
theorem tb_bound {a n : Nat} (h : ∀ k, n ≤ k → tb a k = false) : a < 2 ^ n := Nat.lt_pow_two_of_testBit a h
theorem lt_or {a b n : Nat} (ha : a < 2 ^ n) (hb : b < 2 ^ n) : a ||| b < 2 ^ n := Nat.or_lt_two_pow ha hb
theorem lt_and {a b n : Nat} (ha : a < 2 ^ n) : a &&& b < 2 ^ n := Nat.lt_of_le_of_lt Nat.and_le_left ha
/-! ===== comparisons ===== -/
theorem n_lt {a b : Nat} (ha : a < 2147483648) (hb : b < 2147483648) : nI a < nI b ↔ a < b := nI_ltI ha hb
theorem n_le {a b : Nat} (ha : a < 2147483648) (hb : b < 2147483648) : nI a ≤ nI b ↔ a ≤ b := nI_leI ha hb
theorem n_pos {a : Nat} (ha : a < 2147483648) : ¬ nI a < 0 := nI_pos ha
theorem n_neg0 {x : Int32} (h : x < 0) {a : Nat} (ha : a < 2147483648) : x < nI a ∧ ¬ nI a ≤ x ∧ ¬ nI a < x ∧ x ≠ nI a := by
  have h0 := fa_trans h (nI_pos' ha)
  exact ⟨h0, (fa_of_lt h0).2.1, (fa_of_lt h0).2.2.1, (fa_of_lt h0).2.2.2.1⟩
theorem n_ix {a : Nat} (ha : a < 2147483648) : (nI a).toNatClampNeg = a := nI_clamp ha
theorem inb_t {a N : Nat} (h : a < N) (hN : N < 2147483648) : inb (nI a) N = true := decide_eq_true (vp_in_nI h hN)
/-! ===== a counted loop ===== -/
theorem loop_inv {σ ρ : Type} (step : σ → Option (σ ⊕ ρ)) (I : Nat → σ → Prop) (Q : ρ → Prop) (N : Nat)
    (h : ∀ i s, i ≤ N → I i s → (i < N ∧ ∃ s2, step s = some (.inl s2) ∧ I (i + 1) s2) ∨ ∃ r, step s = some (.inr r) ∧ Q r) : ∀ (fuel i : Nat) (s : σ), i ≤ N → N < fuel + i → I i s → ∃ r, loopN step fuel s = some r ∧ Q r := by
  intro fuel
  induction fuel with
  | zero => intro i s h1 h2; omega
  | succ n ih =>
    intro i s h1 h2 hI
    rcases h i s h1 hI with ⟨h3, s2, h4, h5⟩ | ⟨r, h4, h5⟩
    · obtain ⟨r, h6, h7⟩ := ih (i + 1) s2 h3 (by omega) h5
      exact ⟨r, by unfold loopN; rw [h4]; exact h6, h7⟩
    · exact ⟨r, by unfold loopN; rw [h4], h5⟩
theorem loop_at {σ ρ : Type} {step : σ → Option (σ ⊕ ρ)} (I : Nat → σ → Prop) (Q : ρ → Prop) (N : Nat) {s : σ} (hN : N < 2000) (h0 : I 0 s)
    (h : ∀ i s, i ≤ N → I i s → (i < N ∧ ∃ s2, step s = some (.inl s2) ∧ I (i + 1) s2) ∨ ∃ r, step s = some (.inr r) ∧ Q r) : ∃ r, loopN step FU s = some r ∧ Q r :=
  loop_inv step I Q N h FU 0 s (Nat.zero_le _) (by unfold FU; omega) h0
