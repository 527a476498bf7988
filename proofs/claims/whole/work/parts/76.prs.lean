/-! ===== two loops side by side ===== -/
theorem loop_pair {σ τ ρ κ : Type} {f : σ → Option (σ ⊕ ρ)} {g : τ → Option (τ ⊕ κ)} (I : Nat → σ → τ → Prop) (Q : ρ → κ → Prop) (N : Nat)
    (h : ∀ i s t, i ≤ N → I i s t → (i < N ∧ ∃ s2 t2, f s = some (.inl s2) ∧ g t = some (.inl t2) ∧ I (i + 1) s2 t2) ∨ ∃ r q, f s = some (.inr r) ∧ g t = some (.inr q) ∧ Q r q) : ∀ (fuel i : Nat) (s : σ) (t : τ), i ≤ N → N < fuel + i → I i s t → ∃ r q, loopN f fuel s = some r ∧ loopN g fuel t = some q ∧ Q r q := by
  intro fuel
  induction fuel with
  | zero => intro i s t h1 h2; omega
  | succ n ih =>
    intro i s t h1 h2 hI
    unfold loopN
    rcases h i s t h1 hI with ⟨h3, s2, t2, h4, h5, h6⟩ | ⟨r, q, h4, h5, h6⟩
    · rw [h4, h5]
      exact ih (i + 1) s2 t2 h3 (by omega) h6
    · rw [h4, h5]
      exact ⟨r, q, rfl, rfl, h6⟩
/-! ===== one character of a text: the class ===== -/
def whl (L D : Nat) : Bool := if L = 0 then decide (0 < D) else decide (D = L)
def lim (L : Nat) : Nat := if L = 0 then 4 else L
theorem iw_e : ∀ D, D < 5 → ∀ L, L < 5 → f_X1_isWholeTuple (nI D) (nI L) = some (if whl L D = true then 1 else 0) := by decide +kernel
theorem z_e {L : Nat} (h : L < 2147483648) : (nI L = 0) = (L = 0) := propext (n_eq (b := 0) (by omega) (by decide))
theorem wp_c {u v w : St} {n i L D : Nat} (hn : n ≤ 60) (hi : i < n) (hL : L < 5) (hD : D < 5) (hx : u 3 i = 44) : f_X1_wrongPosition_s7 u v w (nI n) (nI L, nI D, nI i) = if whl L D = true then some (.inl (nI D, 0, nI (i + 1))) else some (.inr (.inr (nI i))) := by
  unfold f_X1_wrongPosition_s7
  have q : ¬ nI n ≤ nI i := fun e => by have := (n_le (by omega) (by omega)).mp e; omega
  simp only [q, if_false, gd_t (inb_t (show i < 60 by omega) (by decide : 60 < 2147483648)), n_ix (show i < 2147483648 by omega), hx, lt_e, if_true, iw_e D hD L hL, bd_s, nI_1]
  cases whl L D <;> rfl
theorem wp_d {u v w : St} {n i L D : Nat} (hn : n ≤ 60) (hi : i < n) (hL : L < 5) (hD : D < 5) (h0 : ¬ u 3 i = 44) (hx : f_X1_isDigit (u 3 i) = some 1) : f_X1_wrongPosition_s7 u v w (nI n) (nI L, nI D, nI i) = if D < lim L then some (.inl (nI L, nI (D + 1), nI (i + 1))) else some (.inr (.inr (nI i))) := by
  unfold f_X1_wrongPosition_s7
  have q : ¬ nI n ≤ nI i := fun e => by have := (n_le (by omega) (by omega)).mp e; omega
  simp only [q, if_false, gd_t (inb_t (show i < 60 by omega) (by decide : 60 < 2147483648)), n_ix (show i < 2147483648 by omega), h0, hx, lt_e, bd_s, nI_1, e10, z_e (show L < 2147483648 by omega)]
  unfold lim
  by_cases g : L = 0
  · simp only [g, if_true]
    by_cases g2 : D < 4
    · rw [if_pos g2, if_neg (fun e => by have := (n_le (by decide : 4 < 2147483648) (by omega)).mp e; omega)]
    · have q4 : (4 : Int32) ≤ nI D := (n_le (by decide : 4 < 2147483648) (by omega)).mpr (by omega)
      rw [if_neg g2, if_pos q4]
  · simp only [g, if_false]
    by_cases g2 : D < L
    · rw [if_pos g2, if_neg (fun e => by have := (n_le (by omega) (by omega)).mp e; omega)]
    · rw [if_neg g2, if_pos ((n_le (by omega) (by omega)).mpr (by omega))]
theorem wp_o {u v w : St} {n i L D : Nat} (hn : n ≤ 60) (hi : i < n) (h0 : ¬ u 3 i = 44) (hx : f_X1_isDigit (u 3 i) = some 0) : f_X1_wrongPosition_s7 u v w (nI n) (nI L, nI D, nI i) = some (.inr (.inr (nI i))) := by
  unfold f_X1_wrongPosition_s7
  have q : ¬ nI n ≤ nI i := fun e => by have := (n_le (by omega) (by omega)).mp e; omega
  simp only [q, if_false, gd_t (inb_t (show i < 60 by omega) (by decide : 60 < 2147483648)), n_ix (show i < 2147483648 by omega), h0, hx, lt_e, bd_s, if_true]
/-! ===== .. and the reference ===== -/
def Mx (m : St) (a b : Int32) : St := us (us m 13 a) 14 b
theorem Mx_u (m : St) (a b c d : Int32) : us (us (Mx m a b) 13 c) 14 d = Mx m c d := by
  funext i
  by_cases h0 : i = 0
  · subst h0
    funext j
    show (bif Nat.beq j 14 then d else bif Nat.beq j 13 then c else bif Nat.beq j 14 then b else bif Nat.beq j 13 then a else m 0 j) = (bif Nat.beq j 14 then d else bif Nat.beq j 13 then c else m 0 j)
    cases Nat.beq j 14 <;> cases Nat.beq j 13 <;> rfl
  · unfold Mx
    rw [us_r _ _ _ h0, us_r _ _ _ h0, us_r _ _ _ h0, us_r _ _ _ h0, us_r _ _ _ h0, us_r _ _ _ h0]
theorem Mx_13 (m : St) (a b : Int32) : Mx m a b 0 13 = a := rfl
theorem Mx_10 (m : St) (a b : Int32) : Mx m a b 0 10 = m 0 10 := rfl
theorem Mx_8 (m : St) (a b : Int32) : Mx m a b 8 = m 8 := rfl
theorem Mx_u14 (m : St) (a b c : Int32) : us (Mx m a b) 13 c 0 14 = b := rfl
theorem le0 {L : Nat} (h : L < 2147483648) : (nI L ≤ 0) = (L = 0) := propext ⟨fun e => by have := (n_le (b := 0) h (by decide)).mp e; omega, fun e => by rw [e]; decide⟩
theorem rd_c {m : St} {n i L D T S : Nat} (hn : n ≤ 60) (h1 : m 0 10 = nI n) (hi : i < n) (hL : L < 5) (hD : D < 5) (hDL : L ≠ 0 → D ≤ L) (hT : T < 16) (hx : m 8 i = 44) : f_X2_reads_s16 (nI D, nI T, nI i, Mx m (nI L) (nI S)) = if whl L D = true then some (.inl (0, 0, nI (i + 1), Mx m (nI D) (nI (S ||| 2 ^ T)))) else some (.inr (.inr (nI i, Mx m (nI L) (nI S)))) := by
  unfold f_X2_reads_s16
  have q : ¬ nI n ≤ nI i := fun e => by have := (n_le (by omega) (by omega)).mp e; omega
  simp only [Mx_10, h1, q, if_false, gd_t (inb_t (show i < 60 by omega) (by decide : 60 < 2147483648)), n_ix (show i < 2147483648 by omega), Mx_8, hx, lt_e, show ¬ (44 : Int32) = 48 by decide, show ¬ (44 : Int32) = 49 by decide, if_true, Mx_13, z_e (show D < 2147483648 by omega), le0 (show L < 2147483648 by omega), Mx_u14, n_sh1 (show T < 32 by omega), n_or, Mx_u, nI_1]
  unfold whl
  by_cases g : L = 0
  · simp only [g, if_true]
    by_cases g2 : D = 0
    · rw [if_pos g2, if_neg (by simp; omega)]
    · rw [if_neg g2, if_pos (by simp; omega)]
  · simp only [g, if_false]
    by_cases g2 : D = 0
    · rw [if_pos g2, if_neg (by simp; omega)]
    · rw [if_neg g2]
      by_cases g3 : D = L
      · rw [if_pos ((n_le (by omega) (by omega)).mpr (by omega)), if_pos (decide_eq_true g3)]
      · have g4 := hDL g
        rw [if_neg (fun e => by have := (n_le (by omega) (by omega)).mp e; omega), if_neg (by simp; omega)]
theorem rd_d {m : St} {n i L D T S a : Nat} (hn : n ≤ 60) (h1 : m 0 10 = nI n) (hi : i < n) (hL : L < 5) (hD : D < 5) (hDL : D ≤ lim L) (hT : T < 2 ^ D) (ha : a < 2) (hx : m 8 i = nI (48 + a)) : f_X2_reads_s16 (nI D, nI T, nI i, Mx m (nI L) (nI S)) = if D < lim L then some (.inl (nI (D + 1), nI (T + a * 2 ^ D), nI (i + 1), Mx m (nI L) (nI S))) else some (.inr (.inr (nI i, Mx m (nI L) (nI S)))) := by
  unfold f_X2_reads_s16
  have q : ¬ nI n ≤ nI i := fun e => by have := (n_le (by omega) (by omega)).mp e; omega
  have e1 : nI (48 + a) - 48 = nI a := by
    rw [show (48 : Int32) = nI 48 from rfl, n_sub (by omega), Nat.add_sub_cancel_left]
  have q4 : (nI D = 4) = (D = 4) := propext (n_eq (b := 4) (by omega) (by decide))
  have qL : (nI D = nI L) = (D = L) := propext (n_eq (by omega) (by omega))
  simp only [Mx_10, h1, q, if_false, gd_t (inb_t (show i < 60 by omega) (by decide : 60 < 2147483648)), n_ix (show i < 2147483648 by omega), Mx_8, hx, lt_e, Mx_13, le0 (show L < 2147483648 by omega), e1, n_shlG _ (show D < 32 by omega), n_or, or_add hT, nI_1, q4, qL]
  have hsame : ∀ {α : Type} (x y : α), (if nI (48 + a) = 48 then x else if nI (48 + a) = 49 then x else y) = x := by
    intro α x y
    have e : a = 0 ∨ a = 1 := by omega
    rcases e with rfl | rfl
    · rfl
    · rfl
  rw [hsame]
  unfold lim at hDL ⊢
  by_cases g : L = 0
  · simp only [g, if_true] at hDL ⊢
    by_cases g2 : D = 4
    · rw [if_pos g2, if_neg (by omega)]
    · rw [if_neg g2, if_pos (by omega)]
  · simp only [g, if_false] at hDL ⊢
    by_cases g2 : D = L
    · rw [if_pos g2, if_neg (by omega)]
    · rw [if_neg g2, if_pos (by omega)]
theorem rd_o {m : St} {n i L D T S : Nat} (hn : n ≤ 60) (h1 : m 0 10 = nI n) (hi : i < n) (x1 : ¬ m 8 i = 44) (x2 : ¬ m 8 i = 48) (x3 : ¬ m 8 i = 49) : f_X2_reads_s16 (nI D, nI T, nI i, Mx m (nI L) (nI S)) = some (.inr (.inr (nI i, Mx m (nI L) (nI S)))) := by
  unfold f_X2_reads_s16
  have q : ¬ nI n ≤ nI i := fun e => by have := (n_le (by omega) (by omega)).mp e; omega
  simp only [Mx_10, h1, q, if_false, gd_t (inb_t (show i < 60 by omega) (by decide : 60 < 2147483648)), n_ix (show i < 2147483648 by omega), Mx_8, x1, x2, x3, lt_e]
