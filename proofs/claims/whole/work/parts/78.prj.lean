/-! ===== parse ===== -/
def JW (cs : List String) (w : St) (X : Option ((Int32 ⊕ String) × St × St)) (Y : Option (Int32 × St)) : Prop := ∃ z u' v' b m', X = some (z, u', v') ∧ Y = some (b, m') ∧ Out cs z b (m' 0 0) ∧ Inv u' v' w m'
theorem PI_e {ch : Nat → Int32} {n L D T S q : Nat} (h : PIv ch n L D T S q) (hw : whl L D = true) : 1 ≤ D ∧ D ≤ 4 ∧ n = (D + 1) * q + D ∧ S ||| 2 ^ T = stx ch D (q + 1) ∧ (∀ j, j < D → ch j ≠ 44) ∧ (D = n ∨ ch D = 44) := by
  obtain ⟨p1, p2, p3, p4, p5, p6, p7, p8⟩ := h
  have hl := lim_le p1
  unfold whl at hw
  by_cases e : L = 0
  · rw [if_pos e] at hw
    have h0 : 0 < D := of_decide_eq_true hw
    have e3 := p4 e
    subst e
    subst e3
    have e4 : n = D := by omega
    refine ⟨h0, by omega, by omega, ?_, fun j hj => p8 j (by rw [if_pos rfl]; exact hj), Or.inl e4.symm⟩
    show _ = stx ch D 0 ||| 2 ^ tpx ch ((D + 1) * 0) D
    rw [p7, p6, Nat.mul_zero, Nat.mul_zero]
    rfl
  · rw [if_neg e] at hw
    have h0 : D = L := of_decide_eq_true hw
    subst h0
    refine ⟨by omega, by omega, p3, ?_, fun j hj => p8 j (by rw [if_neg e]; exact hj), Or.inr (p5 e).2⟩
    show _ = stx ch D q ||| 2 ^ tpx ch ((D + 1) * q) D
    rw [p7, p6]
theorem rd_e {m : St} {n L D T S : Nat} (h1 : m 0 10 = nI n) (hL : L < 5) (hD : D < 5) (hDL : L ≠ 0 → D ≤ L) (hT : T < 16) :
    (if nI D = 0 then some (Mx m (nI L) (nI S) 0 10, Mx m (nI L) (nI S)) else if Mx m (nI L) (nI S) 0 13 ≤ 0 then some ((-1), us (us (Mx m (nI L) (nI S)) 13 (nI D)) 14 ((us (Mx m (nI L) (nI S)) 13 (nI D) 0 14) ||| jshl 1 (nI T))) else if Mx m (nI L) (nI S) 0 13 ≤ nI D then some ((-1), us (us (Mx m (nI L) (nI S)) 13 (nI D)) 14 ((us (Mx m (nI L) (nI S)) 13 (nI D) 0 14) ||| jshl 1 (nI T))) else some (Mx m (nI L) (nI S) 0 10, Mx m (nI L) (nI S))) = if whl L D = true then some ((-1 : Int32), Mx m (nI D) (nI (S ||| 2 ^ T))) else some (nI n, Mx m (nI L) (nI S)) := by
  simp only [Mx_10, h1, Mx_13, z_e (show D < 2147483648 by omega), le0 (show L < 2147483648 by omega), Mx_u14, n_sh1 (show T < 32 by omega), n_or, Mx_u]
  unfold whl
  by_cases g : L = 0
  · simp only [g, if_true]
    by_cases g2 : D = 0
    · rw [if_pos g2, if_neg (by simp; omega)]
    · rw [if_neg g2, if_pos (by simp; omega)]
  · simp only [g, if_false]
    by_cases g2 : D = 0
    · rw [if_pos g2, if_neg (by simp; omega)]
    · rw [if_neg g2]
      by_cases g3 : D = L
      · rw [if_pos ((n_le (by omega) (by omega)).mpr (by omega)), if_pos (decide_eq_true g3)]
      · have g4 := hDL g
        rw [if_neg (fun e => by have := (n_le (by omega) (by omega)).mp e; omega), if_neg (by simp; omega)]
theorem parse_j {u v w m : St} (hI : Inv u v w m) : JW [eIA, eIS] w (f_X1_parse u v w) (f_X2_parse m) := by
  obtain ⟨⟨A, oA, hv, hm⟩, hS, ⟨n, hn, t1, t2, t3⟩, hE, hO, hF⟩ := hI
  obtain ⟨r, t, l1, l2, hq⟩ := prs_l (u := us u 4 0) (v := v) (w := w) (m := m) hn t2 t3
  have err : ∀ k L S, k ≤ n → f_X1_wrongPosition (us u 4 0) v w (nI n) = some (nI k) → f_X2_reads m = some (nI k, Mx m (nI L) (nI S)) → JW [eIA, eIS] w (f_X1_parse u v w) (f_X2_parse m) := by
    intro k L S hk h1 h2
    unfold f_X1_parse f_X2_parse
    have q1 : ¬ nI k = (-1) := fun e => by rw [n_m1] at e; have := n_inj (by omega) (by decide) e; omega
    have q2 : ¬ nI k < 0 := n_pos (by omega)
    rw [lt_e, t1, h1, h2, bd_s, bd_s, if_neg q1, if_neg q2]
    exact ⟨_, _, _, _, _, rfl, rfl, Or.inr ⟨0, by decide, rfl, rfl⟩, ⟨A, oA, hv, hm⟩, hS, ⟨0, Nat.zero_le _, rfl, rfl, fun j hj => absurd hj (Nat.not_lt_zero _)⟩, Or.inr ⟨k, by omega, rfl, rfl⟩, hO, hF⟩
  rcases hq with ⟨k, L, S, hk, rfl, rfl⟩ | ⟨L, D, T, S, q, hP, rfl, rfl⟩
  · refine err k L S hk ?_ ?_
    · unfold f_X1_wrongPosition
      rw [l1]
      rfl
    · unfold f_X2_reads
      rw [l2]
      rfl
  · obtain ⟨p1, p2, p3, p4, p5, p6, p7, p8⟩ := id hP
    have hl := lim_le p1
    have hT : T < 16 := by
      have h1 := tpx_lt (us u 4 0 3) ((L + 1) * q) D
      have h2 : 2 ^ D ≤ 2 ^ 4 := Nat.pow_le_pow_right (by decide) (by omega)
      omega
    have w1 : f_X1_wrongPosition (us u 4 0) v w (nI n) = some (if whl L D = true then (-1) else nI n) := by
      unfold f_X1_wrongPosition
      rw [l1, bl_l, iw_e D (by omega) L (by omega), bd_s]
      cases whl L D <;> rfl
    have w2 : f_X2_reads m = if whl L D = true then some ((-1 : Int32), Mx m (nI D) (nI (S ||| 2 ^ T))) else some (nI n, Mx m (nI L) (nI S)) := by
      unfold f_X2_reads
      rw [l2, bl_l]
      exact rd_e t2 (by omega) (by omega) (fun e => by rw [lim_ne e] at p2; exact p2) hT
    cases hw : whl L D
    · rw [hw] at w1 w2
      exact err n L S (Nat.le_refl _) w1 w2
    · rw [hw] at w1 w2
      obtain ⟨e1, e2, e3, e4, e5, e6⟩ := PI_e hP hw
      have hDn : D ≤ n := by omega
      have f1 := ftl (u := us u 4 0) (v := v) (w := w) hn e2 hDn e5 (e6.elim Or.inl (fun h => Or.inr (Or.inr h)))
      have f2 := rt_e (u := us u 4 0) (v := v) (w := w) hn e2 e1 e3
      rw [← e4] at f2
      have hS2 : S ||| 2 ^ T < 2 ^ (2 ^ D) := by rw [e4]; exact stx_lt _ _ _
      have hm2 : RM (us (Mx m (nI D) (nI (S ||| 2 ^ T))) 10 0) A := hm
      have hr0 : ∀ a b : Int32, RTi (us u 4 0) (us (Mx m a b) 10 0) := fun a b => ⟨0, Nat.zero_le _, rfl, rfl, fun j hj => absurd hj (Nat.not_lt_zero _)⟩
      unfold f_X1_parse f_X2_parse
      rw [lt_e, t1, w1, w2, if_pos rfl, if_pos rfl, bd_s, bd_s, if_pos rfl, f1, bd_s, f2, bd_s, if_pos (show (-1 : Int32) < 0 by decide)]
      by_cases hn8 : aN A = 8
      · have q8 : us (Mx m (nI D) (nI (S ||| 2 ^ T))) 10 0 0 3 = 8 := by
          rw [hm2.1, hn8]
          rfl
        rw [addNew_full (u := us u 4 0) (w := w) hv hn8, if_pos q8]
        exact ⟨_, _, _, _, _, rfl, rfl, Or.inr ⟨1, by decide, rfl, rfl⟩, ⟨A, oA, hv, hm⟩, hS, ⟨0, Nat.zero_le _, rfl, rfl, fun j hj => absurd hj (Nat.not_lt_zero _)⟩, hE, hO, hF⟩
      · have h8 := oA.1
        have hn2 : aN A < 8 := by omega
        have q8 : ¬ us (Mx m (nI D) (nI (S ||| 2 ^ T))) 10 0 0 3 = 8 := by
          rw [hm2.1]
          intro e
          exact hn8 (n_inj (by omega) (by decide : 8 < 4294967296) e)
        rw [addNew_ok (u := us u 4 0) (w := w) hv hn2, if_neg q8, show us (Mx m (nI D) (nI (S ||| 2 ^ T))) 10 0 0 13 = nI D from rfl, show us (Mx m (nI D) (nI (S ||| 2 ^ T))) 10 0 0 14 = nI (S ||| 2 ^ T) from rfl, adds_ok hm2 hn2]
        exact ⟨_, _, _, _, _, rfl, rfl, Or.inl ⟨rfl, rfl⟩, ⟨addA A D (S ||| 2 ^ T), okA_add oA hn2 e1 e2 hS2, RV_add oA hv _ _, RM_add oA hm2 _ _⟩, hS, ⟨0, Nat.zero_le _, rfl, rfl, fun j hj => absurd hj (Nat.not_lt_zero _)⟩, hE, hO, hF⟩
