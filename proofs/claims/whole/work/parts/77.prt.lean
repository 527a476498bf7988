/-! ===== the whole text ===== -/
def tpx (ch : Nat → Int32) (b : Nat) : Nat → Nat
  | 0 => 0
  | k + 1 => tpx ch b k + (if ch (b + k) = 49 then 1 else 0) * 2 ^ k
theorem tpx_lt (ch : Nat → Int32) (b : Nat) : ∀ k, tpx ch b k < 2 ^ k
  | 0 => Nat.one_pos
  | k + 1 => by
    have h := tpx_lt ch b k
    show tpx ch b k + (if ch (b + k) = 49 then 1 else 0) * 2 ^ k < 2 ^ (k + 1)
    rw [Nat.pow_succ]
    split <;> omega
def stx (ch : Nat → Int32) (r : Nat) : Nat → Nat
  | 0 => 0
  | j + 1 => stx ch r j ||| 2 ^ tpx ch ((r + 1) * j) r
theorem stx_lt (ch : Nat → Int32) (r : Nat) : ∀ j, stx ch r j < 2 ^ (2 ^ r)
  | 0 => Nat.two_pow_pos _
  | j + 1 => lt_or (stx_lt ch r j) (Nat.pow_lt_pow_right (by decide) (tpx_lt _ _ _))
def PIv (ch : Nat → Int32) (i L D T S q : Nat) : Prop := L ≤ 4 ∧ D ≤ lim L ∧ i = (L + 1) * q + D ∧ (L = 0 → q = 0) ∧ (L ≠ 0 → 1 ≤ q ∧ ch L = 44) ∧ T = tpx ch ((L + 1) * q) D ∧ S = stx ch L q ∧ ∀ j, j < (if L = 0 then D else L) → ch j ≠ 44
theorem lim_le {L : Nat} (h : L ≤ 4) : lim L ≤ 4 := by unfold lim; split <;> omega
theorem lim_ne {L : Nat} (h : L ≠ 0) : lim L = L := by unfold lim; rw [if_neg h]
theorem PI_d {ch : Nat → Int32} {i L D T S q a : Nat} (h : PIv ch i L D T S q) (hD : D < lim L) (ha : a < 2) (hx : ch i = nI (48 + a)) : PIv ch (i + 1) L (D + 1) (T + a * 2 ^ D) S q := by
  obtain ⟨p1, p2, p3, p4, p5, p6, p7, p8⟩ := h
  refine ⟨p1, hD, by omega, p4, p5, ?_, p7, fun j hj => ?_⟩
  · show _ = tpx ch ((L + 1) * q) D + (if ch ((L + 1) * q + D) = 49 then 1 else 0) * 2 ^ D
    rw [← p3, hx, ← p6]
    have e : a = 0 ∨ a = 1 := by omega
    rcases e with rfl | rfl <;> rfl
  · by_cases e : L = 0
    · rw [if_pos e] at hj
      by_cases e2 : j = D
      · have e3 := p4 e
        have e4 : j = i := by rw [p3, e, e3, e2]; omega
        rw [e4, hx]
        have e : a = 0 ∨ a = 1 := by omega
        rcases e with rfl | rfl <;> decide
      · exact p8 j (by rw [if_pos e]; omega)
    · rw [if_neg e] at hj
      exact p8 j (by rw [if_neg e]; exact hj)
theorem PI_c {ch : Nat → Int32} {i L D T S q : Nat} (h : PIv ch i L D T S q) (hw : whl L D = true) (hx : ch i = 44) : PIv ch (i + 1) D 0 0 (S ||| 2 ^ T) (q + 1) := by
  obtain ⟨p1, p2, p3, p4, p5, p6, p7, p8⟩ := h
  have hl := lim_le p1
  unfold whl at hw
  by_cases e : L = 0
  · rw [if_pos e] at hw
    have h0 : 0 < D := of_decide_eq_true hw
    have e3 := p4 e
    subst e
    subst e3
    have e4 : i = D := by omega
    subst e4
    refine ⟨by omega, Nat.zero_le _, by omega, fun h => by omega, fun _ => ⟨by omega, hx⟩, rfl, ?_, fun j hj => p8 j (by rw [if_neg (by omega)] at hj; rw [if_pos rfl]; exact hj)⟩
    show _ = stx ch i 0 ||| 2 ^ tpx ch ((i + 1) * 0) i
    rw [p7, p6, Nat.mul_zero, Nat.mul_zero]
    rfl
  · rw [if_neg e] at hw
    have h0 : D = L := of_decide_eq_true hw
    subst h0
    refine ⟨by omega, Nat.zero_le _, ?_, fun h => absurd h e, fun _ => ⟨by omega, (p5 e).2⟩, rfl, ?_, fun j hj => p8 j (by rw [if_neg e] at hj ⊢; exact hj)⟩
    · rw [p3, Nat.mul_succ]
      omega
    · show _ = stx ch D q ||| 2 ^ tpx ch ((D + 1) * q) D
      rw [p7, p6]
theorem dig_e (x : Int32) : (x = 44 ∧ f_X1_isDigit x = some 0) ∨ (∃ a, a < 2 ∧ x = nI (48 + a) ∧ ¬ x = 44 ∧ f_X1_isDigit x = some 1) ∨ (¬ x = 44 ∧ ¬ x = 48 ∧ ¬ x = 49 ∧ f_X1_isDigit x = some 0) := by
  by_cases h1 : x = 44
  · subst h1
    exact Or.inl ⟨rfl, rfl⟩
  · by_cases h2 : x = 48
    · subst h2
      exact Or.inr (Or.inl ⟨0, by decide, rfl, h1, rfl⟩)
    · by_cases h3 : x = 49
      · subst h3
        exact Or.inr (Or.inl ⟨1, by decide, rfl, h1, rfl⟩)
      · refine Or.inr (Or.inr ⟨h1, h2, h3, ?_⟩)
        unfold f_X1_isDigit
        rw [if_neg h2, if_neg h3]
def PQ (m : St) (ch : Nat → Int32) (n : Nat) (r : (Int32 × Int32 × Int32) ⊕ Int32) (t : (Int32 × Int32 × Int32 × St) ⊕ (Int32 × St)) : Prop :=
  (∃ k L S, k ≤ n ∧ r = .inr (nI k) ∧ t = .inr (nI k, Mx m (nI L) (nI S))) ∨ ∃ L D T S q, PIv ch n L D T S q ∧ r = .inl (nI L, nI D, nI n) ∧ t = .inl (nI D, nI T, nI n, Mx m (nI L) (nI S))
theorem prs_l {u v w m : St} {n : Nat} (hn : n ≤ 60) (h1 : m 0 10 = nI n) (hc : ∀ j, j < n → u 3 j = m 8 j) : ∃ r t, loopN (f_X1_wrongPosition_s7 u v w (nI n)) FU (0, 0, 0) = some r ∧ loopN f_X2_reads_s16 FU (0, 0, 0, us (us m 13 0) 14 0) = some t ∧ PQ m (u 3) n r t := by
  refine loop_pair (f := f_X1_wrongPosition_s7 u v w (nI n)) (g := f_X2_reads_s16) (fun i s t => ∃ L D T S q, PIv (u 3) i L D T S q ∧ s = (nI L, nI D, nI i) ∧ t = (nI D, nI T, nI i, Mx m (nI L) (nI S))) (PQ m (u 3) n) n ?_ FU 0 (0, 0, 0) (0, 0, 0, us (us m 13 0) 14 0) (Nat.zero_le _) (by unfold FU; omega) ⟨0, 0, 0, 0, 0, ⟨by decide, by decide, rfl, fun _ => rfl, fun h => absurd rfl h, rfl, rfl, fun j hj => absurd hj (Nat.not_lt_zero _)⟩, rfl, rfl⟩
  rintro i _ _ hi ⟨L, D, T, S, q, hP, rfl, rfl⟩
  by_cases h : i < n
  · obtain ⟨p1, p2, p3, p4, p5, p6, p7, p8⟩ := id hP
    have hl := lim_le p1
    have hx := hc i h
    rcases dig_e (u 3 i) with ⟨d1, d2⟩ | ⟨a, ha, d1, d2, d3⟩ | ⟨d1, d2, d3, d4⟩
    · have hT : T < 16 := by
        have h1 := tpx_lt (u 3) ((L + 1) * q) D
        have h2 : 2 ^ D ≤ 2 ^ 4 := Nat.pow_le_pow_right (by decide) (by omega)
        omega
      rw [wp_c hn h (by omega) (by omega) d1, rd_c (T := T) hn h1 h (by omega) (by omega) (fun e => by rw [lim_ne e] at p2; exact p2) hT (by rw [← hx]; exact d1)]
      cases hw : whl L D
      · exact Or.inr ⟨_, _, rfl, rfl, Or.inl ⟨i, L, S, hi, rfl, rfl⟩⟩
      · exact Or.inl ⟨h, _, _, rfl, rfl, D, 0, 0, S ||| 2 ^ T, q + 1, PI_c hP hw d1, rfl, rfl⟩
    · rw [wp_d hn h (by omega) (by omega) d2 d3, rd_d (T := T) hn h1 h (by omega) (by omega) p2 (by rw [p6]; exact tpx_lt _ _ _) ha (by rw [← hx]; exact d1)]
      by_cases hD : D < lim L
      · rw [if_pos hD, if_pos hD]
        exact Or.inl ⟨h, _, _, rfl, rfl, L, D + 1, T + a * 2 ^ D, S, q, PI_d hP hD ha d1, rfl, rfl⟩
      · rw [if_neg hD, if_neg hD]
        exact Or.inr ⟨_, _, rfl, rfl, Or.inl ⟨i, L, S, hi, rfl, rfl⟩⟩
    · rw [wp_o hn h d1 d4, rd_o hn h1 h (by rw [← hx]; exact d1) (by rw [← hx]; exact d2) (by rw [← hx]; exact d3)]
      exact Or.inr ⟨_, _, rfl, rfl, Or.inl ⟨i, L, S, hi, rfl, rfl⟩⟩
  · have e2 : i = n := by omega
    subst e2
    have q : nI i ≤ nI i := (n_le (by omega) (by omega)).mpr (Nat.le_refl _)
    refine Or.inr ⟨.inl (nI L, nI D, nI i), .inl (nI D, nI T, nI i, Mx m (nI L) (nI S)), ?_, ?_, Or.inr ⟨L, D, T, S, _, hP, rfl, rfl⟩⟩
    · unfold f_X1_wrongPosition_s7
      rw [if_pos q]
    · unfold f_X2_reads_s16
      simp only [Mx_10, h1, q, if_true]
/-! ===== reading a text that is right ===== -/
theorem ftl {u v w : St} {n r : Nat} (hn : n ≤ 60) (hr : r ≤ 4) (hrn : r ≤ n) (h1 : ∀ j, j < r → u 3 j ≠ 44) (h2 : r = n ∨ r = 4 ∨ u 3 r = 44) : f_X1_firstTupleLength u v w (nI n) = some (nI r) := by
  have h := loop_at (step := f_X1_firstTupleLength_s2 u v w (nI n)) (fun i s => s = nI i) (fun q => q = .inl (nI r)) r (s := 0) (by omega) rfl (by
    rintro i _ hi rfl
    unfold f_X1_firstTupleLength_s2
    by_cases h : i < r
    · have q1 : ¬ nI n ≤ nI i := fun e => by have := (n_le (by omega) (by omega)).mp e; omega
      have q2 : ¬ (4 : Int32) ≤ nI i := fun e => by have := (n_le (by decide : 4 < 2147483648) (by omega)).mp e; omega
      rw [if_neg q1, if_neg q2, gd_t (inb_t (show i < 60 by omega) (by decide)), n_ix (by omega), if_neg (h1 i h), nI_1]
      exact Or.inl ⟨h, _, rfl, rfl⟩
    · have e2 : i = r := by omega
      subst e2
      refine Or.inr ⟨_, ?_, rfl⟩
      by_cases g1 : nI n ≤ nI i
      · rw [if_pos g1]
      · rw [if_neg g1]
        by_cases g2 : (4 : Int32) ≤ nI i
        · rw [if_pos g2]
        · rw [if_neg g2]
          have g3 : i < n := by
            refine Classical.byContradiction (fun hx => g1 ((n_le (by omega) (by omega)).mpr (by omega)))
          have g4 : ¬ i = 4 := fun e => g2 (by rw [e]; decide)
          rcases h2 with h2 | h2 | h2
          · omega
          · exact absurd h2 g4
          · rw [gd_t (inb_t (show i < 60 by omega) (by decide)), n_ix (by omega), if_pos h2])
  obtain ⟨q, g1, g2⟩ := h
  unfold f_X1_firstTupleLength
  rw [g1, g2]
  rfl
theorem rt19 {u v w : St} {a2 a3 : Int32} {r b : Nat} (hr : r ≤ 4) (hb : b + r ≤ 60) : loopN (f_X1_readTuples_s19 u v w (nI r) a2 a3 (nI b)) FU (0, 0) = some (.inl (nI (tpx (u 3) b r), nI r)) := by
  have h := loop_at (step := f_X1_readTuples_s19 u v w (nI r) a2 a3 (nI b)) (fun i s => s = (nI (tpx (u 3) b i), nI i)) (fun q => q = .inl (nI (tpx (u 3) b r), nI r)) r (s := (0, 0)) (by omega) rfl (by
    rintro i _ hi rfl
    unfold f_X1_readTuples_s19
    by_cases h : i < r
    · have q1 : ¬ nI r ≤ nI i := fun e => by have := (n_le (by omega) (by omega)).mp e; omega
      refine Or.inl ⟨h, _, ?_, rfl⟩
      simp only [q1, if_false, nI_add, gd_t (inb_t (show b + i < 60 by omega) (by decide : 60 < 2147483648)), n_ix (show b + i < 2147483648 by omega), lt_e, n_sh1 (show i < 32 by omega), n_or, nI_1]
      show _ = some (Sum.inl (nI (tpx (u 3) b i + (if u 3 (b + i) = 49 then 1 else 0) * 2 ^ i), nI (i + 1)))
      rw [← or_add (tpx_lt (u 3) b i)]
      by_cases g : u 3 (b + i) = 49
      · rw [if_pos g, if_pos g, Nat.one_mul]
      · rw [if_neg g, if_neg g, Nat.zero_mul, Nat.or_zero]
    · have e2 : i = r := by omega
      subst e2
      have q : nI i ≤ nI i := (n_le (by omega) (by omega)).mpr (Nat.le_refl _)
      rw [if_pos q]
      exact Or.inr ⟨_, rfl, rfl⟩)
  obtain ⟨q, g1, g2⟩ := h
  rw [g1, g2]
theorem rt_e {u v w : St} {n r q : Nat} (hn : n ≤ 60) (hr : r ≤ 4) (r1 : 1 ≤ r) (e : n = (r + 1) * q + r) : f_X1_readTuples u v w (nI r) (nI n) = some (nI (stx (u 3) r (q + 1))) := by
  have hq : q ≤ 30 := by
    have : 2 * q ≤ (r + 1) * q := Nat.mul_le_mul_right q (by omega)
    omega
  have h := loop_at (step := f_X1_readTuples_s5 u v w (nI r) (nI n)) (fun i s => s = (nI (stx (u 3) r i), nI ((r + 1) * i))) (fun t => ∃ x, t = .inl (nI (stx (u 3) r (q + 1)), x)) (q + 1) (s := (0, 0)) (by omega) rfl (by
    rintro i _ hi rfl
    unfold f_X1_readTuples_s5
    have hm : (r + 1) * i ≤ (r + 1) * (q + 1) := Nat.mul_le_mul_left _ hi
    rw [Nat.mul_succ] at hm
    by_cases h : i < q + 1
    · have hm2 : (r + 1) * i ≤ (r + 1) * q := Nat.mul_le_mul_left _ (by omega)
      have ht := tpx_lt (u 3) ((r + 1) * i) r
      have h2 : 2 ^ r ≤ 2 ^ 4 := Nat.pow_le_pow_right (by decide) hr
      have q1 : ¬ nI n < nI ((r + 1) * i + r) := fun e => by have := (n_lt (by omega) (by omega)).mp e; omega
      refine Or.inl ⟨h, _, ?_, rfl⟩
      simp only [nI_add, q1, if_false]
      rw [rt19 hr (by omega)]
      simp only [bl_l, lt_e, n_sh1 (show tpx (u 3) ((r + 1) * i) r < 32 by omega), n_or, nI_1, nI_add]
      rfl
    · have e2 : i = q + 1 := by omega
      subst e2
      have q1 : nI n < nI ((r + 1) * (q + 1) + r) := (n_lt (by omega) (by rw [Nat.mul_succ]; omega)).mpr (by rw [Nat.mul_succ]; omega)
      simp only [nI_add, q1, if_true]
      exact Or.inr ⟨_, rfl, _, rfl⟩)
  obtain ⟨t, g1, x, rfl⟩ := h
  unfold f_X1_readTuples
  rw [g1]
  rfl
