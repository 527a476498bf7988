/-! ===== write ===== -/
abbrev Xo : Type := (Nat → Int32) × Nat
def pch (s : Xo) (c : Int32) : Xo := (upd s.1 s.2 c, s.2 + 1)
def cc0 : Int32 := vp_nar .char 48
def cc1 : Int32 := vp_nar .char 49
def ccc : Int32 := vp_nar .char 44
def wdg (t : Nat) : Nat → Xo → Xo
  | 0, s => s
  | p + 1, s => pch (wdg t p s) (if tb t p = true then cc1 else cc0)
def wcm (s : Xo) : Xo := if s.2 = 0 then s else pch s ccc
def wtp (r t : Nat) (s : Xo) : Xo := wdg t r (wcm s)
def wal (S r : Nat) : Nat → Xo → Xo
  | 0, s => s
  | t + 1, s => if tb S t = true then wtp r t (wal S r t s) else wal S r t s
theorem wdg_2 (t : Nat) (s : Xo) : ∀ p, (wdg t p s).2 = s.2 + p
  | 0 => rfl
  | p + 1 => by
    show (wdg t p s).2 + 1 = s.2 + (p + 1)
    rw [wdg_2 t s p]
    rfl
theorem wcm_2 (s : Xo) : (wcm s).2 = if s.2 = 0 then 0 else s.2 + 1 := by
  unfold wcm
  by_cases h : s.2 = 0
  · rw [if_pos h, if_pos h, h]
  · rw [if_neg h, if_neg h]
    rfl
theorem wal_2 (S r : Nat) (F : Nat → Int32) : ∀ t, (wal S r t (F, 0)).2 = 0 ∨ (wal S r t (F, 0)).2 + 1 ≤ (r + 1) * t
  | 0 => Or.inl rfl
  | t + 1 => by
    have h := wal_2 S r F t
    rw [Nat.mul_succ]
    unfold wal
    by_cases g : tb S t = true
    · rw [if_pos g]
      unfold wtp
      rw [wdg_2, wcm_2]
      right
      split
      · omega
      · omega
    · rw [if_neg g]
      omega
theorem wal_more {S r M : Nat} (h : S < 2 ^ M) (s : Xo) : ∀ d, wal S r (M + d) s = wal S r M s
  | 0 => rfl
  | d + 1 => by
    show (if tb S (M + d) = true then wtp r (M + d) (wal S r (M + d) s) else wal S r (M + d) s) = _
    rw [if_neg (by rw [tb_lt h (by omega)]; decide)]
    exact wal_more h s d
/-- two outputs alike as far as they go -/
def EX (s t : Xo) : Prop := s.2 = t.2 ∧ ∀ j, j < s.2 → s.1 j = t.1 j ∧ okC (s.1 j) = true
theorem EX_p {s t : Xo} (h : EX s t) {c : Int32} (hc : okC c = true) : EX (pch s c) (pch t c) := by
  refine ⟨by show s.2 + 1 = t.2 + 1; rw [h.1], fun j hj => ?_⟩
  have hj' : j < s.2 + 1 := hj
  show upd s.1 s.2 c j = upd t.1 t.2 c j ∧ okC (upd s.1 s.2 c j) = true
  rw [← h.1]
  by_cases e : j = s.2
  · subst e
    rw [upd_s, upd_s]
    exact ⟨rfl, hc⟩
  · rw [upd_o _ _ e, upd_o _ _ e]
    exact h.2 j (by omega)
theorem ok_0 : okC cc0 = true := by decide +kernel
theorem ok_1 : okC cc1 = true := by decide +kernel
theorem ok_c : okC ccc = true := by decide +kernel
theorem EX_d {s t : Xo} (h : EX s t) (x : Nat) : ∀ p, EX (wdg x p s) (wdg x p t)
  | 0 => h
  | p + 1 => EX_p (EX_d h x p) (by cases tb x p <;> decide +kernel)
theorem EX_c {s t : Xo} (h : EX s t) : EX (wcm s) (wcm t) := by
  unfold wcm
  rw [← h.1]
  by_cases e : s.2 = 0
  · rw [if_pos e, if_pos e]
    exact h
  · rw [if_neg e, if_neg e]
    exact EX_p h ok_c
theorem EX_a {s t : Xo} (h : EX s t) (S r : Nat) : ∀ x, EX (wal S r x s) (wal S r x t)
  | 0 => h
  | x + 1 => by
    unfold wal
    by_cases g : tb S x = true
    · rw [if_pos g, if_pos g]
      exact EX_d (EX_c (EX_a h S r x)) x r
    · rw [if_neg g, if_neg g]
      exact EX_a h S r x
/-! ===== the class's state and the reference's ===== -/
def UW (u : St) (s : Xo) : St := us (ua u 6 s.1) 7 (nI s.2)
def MW (m : St) (s : Xo) : St := us (ua m 9 s.1) 11 (nI s.2)
theorem UW_7 (u : St) (s : Xo) : UW u s 0 7 = nI s.2 := rfl
theorem UW_6 (u : St) (s : Xo) : UW u s 6 = s.1 := rfl
theorem MW_11 (u : St) (s : Xo) : MW u s 0 11 = nI s.2 := rfl
theorem MW_9 (u : St) (s : Xo) : MW u s 9 = s.1 := rfl
theorem MW_1 (u : St) (s : Xo) : MW u s 1 = u 1 := rfl
theorem MW_2 (u : St) (s : Xo) : MW u s 2 = u 2 := rfl
theorem usua (u : St) {a : Nat} (ha : a ≠ 0) (k : Nat) (F G : Nat → Int32) (x y : Int32) : us (ua (us (ua u a F) k x) a G) k y = us (ua u a G) k y := by
  funext i
  by_cases h0 : i = 0
  · subst h0
    have e0 : Nat.beq 0 a = false := Bool.eq_false_iff.mpr (fun e => ha (Nat.eq_of_beq_eq_true e).symm)
    funext j
    by_cases e : j = k
    · subst e
      rw [us_s, us_s]
    · rw [us_o _ _ e, us_o _ _ e, ua_o _ _ (fun h => ha h.symm), us_o _ _ e, ua_o _ _ (fun h => ha h.symm), ua_o _ _ (fun h => ha h.symm)]
  · rw [us_r _ _ _ h0, us_r _ _ _ h0]
    by_cases e : i = a
    · subst e
      rw [ua_s, ua_s]
    · rw [ua_o _ _ e, ua_o _ _ e, us_r _ _ _ h0, ua_o _ _ e]
theorem wch1 {u v w : St} {s : Xo} (h : s.2 < 79) (c : Int32) : f_X1_writeCharacter (UW u s) v w c = some (UW u (pch s (vp_nar .char c))) := by
  unfold f_X1_writeCharacter
  have q : ¬ (79 : Int32) ≤ nI s.2 := fun e => by have := (n_le (by decide : 79 < 2147483648) (by omega)).mp e; omega
  have e : (ua (UW u s) 6 (upd (UW u s 6) (UW u s 0 7).toNatClampNeg (vp_nar .char c))) 0 7 = nI s.2 := rfl
  rw [e]
  rw [UW_7, if_neg q, gd_t (inb_t h (by decide)), n_ix (by omega), UW_6, nI_1]
  unfold UW
  rw [usua u (by decide)]
  rfl
theorem puts_e {m : St} {s : Xo} (h : s.2 < 80) (c : Int32) : f_X2_puts (MW m s) c = some (MW m (pch s (vp_nar .char c))) := by
  unfold f_X2_puts
  have e : (ua (MW m s) 9 (upd (MW m s 9) (MW m s 0 11).toNatClampNeg (vp_nar .char c))) 0 11 = nI s.2 := rfl
  rw [e]
  rw [MW_11, gd_t (inb_t h (by decide)), n_ix (by omega), MW_9, nI_1]
  unfold MW
  rw [usua m (by decide)]
  rfl
theorem wt15 {u v w : St} {r t : Nat} {s : Xo} (hr : r ≤ 4) (ht : t < 16) (h : s.2 + r ≤ 79) : loopN (f_X1_writeTuple_s15 v w (nI r) (nI t)) FU (0, UW u s) = some (.inl (nI r, UW u (wdg t r s))) := by
  have h := loop_at (step := f_X1_writeTuple_s15 v w (nI r) (nI t)) (fun i q => q = (nI i, UW u (wdg t i s))) (fun q => q = .inl (nI r, UW u (wdg t r s))) r (s := (0, UW u s)) (by omega) rfl (by
    rintro i _ hi rfl
    unfold f_X1_writeTuple_s15
    by_cases g : i < r
    · have q1 : ¬ nI r ≤ nI i := fun e => by have := (n_le (by omega) (by omega)).mp e; omega
      have h2 : (wdg t i s).2 < 79 := by rw [wdg_2]; omega
      rw [if_neg q1, has_e (show t < 4294967296 by omega) (show i < 32 by omega), bd_s, wch1 h2, wch1 h2, nI_1]
      refine Or.inl ⟨g, (nI (i + 1), UW u (wdg t (i + 1) s)), ?_, rfl⟩
      show _ = some (Sum.inl (nI (i + 1), UW u (pch (wdg t i s) (if tb t i = true then cc1 else cc0))))
      cases tb t i <;> rfl
    · have e2 : i = r := by omega
      subst e2
      have q : nI i ≤ nI i := (n_le (by omega) (by omega)).mpr (Nat.le_refl _)
      rw [if_pos q]
      exact Or.inr ⟨_, rfl, rfl⟩)
  obtain ⟨q, g1, g2⟩ := h
  rw [g1, g2]
theorem wtp1 {u v w : St} {r t : Nat} {s : Xo} (hr : r ≤ 4) (ht : t < 16) (h : s.2 = 0 ∨ s.2 + 1 + r ≤ 79) : f_X1_writeTuple (UW u s) v w (nI r) (nI t) = some (UW u (wtp r t s)) := by
  unfold f_X1_writeTuple wtp wcm
  rw [UW_7]
  by_cases e : s.2 = 0
  · rw [if_pos (show nI s.2 ≤ 0 by rw [e]; decide), if_pos e, wt15 hr ht (by omega)]
    rfl
  · have h79 : s.2 + 1 + r ≤ 79 := h.resolve_left e
    rw [if_neg (nI_nle (by omega) (by omega)), if_neg e, wch1 (by omega), bd_s, wt15 (s := pch s (vp_nar .char 44)) hr ht (by show s.2 + 1 + r ≤ 79; omega)]
    rfl
theorem wr1 {u v w : St} {S r q : Nat} (hq : q < 8) (hv2 : v 2 q = nI S) (hS : S < 65536) (hr : r < 5) : loopN (f_X1_write_s22 v w (nI q) (nI r)) FU (0, us u 7 0) = some (.inl (nI (2 ^ r), UW u (wal S r (2 ^ r) (u 6, 0)))) := by
  have e := p2_e r hr
  have h := loop_at (step := f_X1_write_s22 v w (nI q) (nI r)) (fun i t => t = (nI i, UW u (wal S r i (u 6, 0)))) (fun t => t = .inl (nI (2 ^ r), UW u (wal S r (2 ^ r) (u 6, 0)))) (2 ^ r) (s := (0, us u 7 0)) (by omega) (by
    show (0, us u 7 0) = (nI 0, us (ua u 6 (u 6)) 7 (nI 0))
    rw [ua_id u 6 rfl]
    rfl) (by
    rintro i _ hi rfl
    unfold f_X1_write_s22 f_X1_greatestTuple
    rw [bd_s, gt_e r hr]
    by_cases g : i < 2 ^ r
    · have q1 : ¬ nI (2 ^ r - 1) < nI i := fun e => by have := (n_lt (by omega) (by omega)).mp e; omega
      have hw := wal_2 S r (u 6) i
      have hm : (r + 1) * i ≤ (r + 1) * 15 := Nat.mul_le_mul_left _ (by omega)
      rw [if_neg q1, gd_t (inb_t hq (by decide)), n_ix (by omega), hv2, has_e (show S < 4294967296 by omega) (show i < 32 by omega), bd_s, wtp1 (t := i) (show r ≤ 4 by omega) (by omega) (by omega), nI_1]
      refine Or.inl ⟨g, (nI (i + 1), UW u (wal S r (i + 1) (u 6, 0))), ?_, rfl⟩
      show _ = some (Sum.inl (nI (i + 1), UW u (if tb S i = true then wtp r i (wal S r i (u 6, 0)) else wal S r i (u 6, 0))))
      cases tb S i <;> rfl
    · have e2 : i = 2 ^ r := by omega
      subst e2
      have q1 : nI (2 ^ r - 1) < nI (2 ^ r) := (n_lt (by omega) (by omega)).mpr (by omega)
      rw [if_pos q1]
      exact Or.inr ⟨_, rfl, rfl⟩)
  obtain ⟨t, g1, g2⟩ := h
  rw [g1, g2]
theorem wt63 {m : St} {r t q : Nat} {s : Xo} (hq : q < 8) (hm1 : m 1 q = nI r) (hr : r ≤ 4) (ht : t < 16) (h : s.2 + r ≤ 79) : loopN (f_X2_write_s63 (nI q) (nI t)) FU (0, MW m s) = some (.inl (nI r, MW m (wdg t r s))) := by
  have h := loop_at (step := f_X2_write_s63 (nI q) (nI t)) (fun i x => x = (nI i, MW m (wdg t i s))) (fun x => x = .inl (nI r, MW m (wdg t r s))) r (s := (0, MW m s)) (by omega) rfl (by
    rintro i _ hi rfl
    unfold f_X2_write_s63
    simp only [gd_t (inb_t hq (by decide : 8 < 2147483648)), n_ix (show q < 2147483648 by omega), MW_1, hm1]
    by_cases g : i < r
    · have q1 : ¬ nI r ≤ nI i := fun e => by have := (n_le (by omega) (by omega)).mp e; omega
      have h2 : (wdg t i s).2 < 80 := by rw [wdg_2]; omega
      rw [if_neg q1, n_bits (show i < 32 by omega) (show t < 2147483648 by omega), puts_e h2, puts_e h2, nI_1]
      refine Or.inl ⟨g, (nI (i + 1), MW m (wdg t (i + 1) s)), ?_, rfl⟩
      show _ = some (Sum.inl (nI (i + 1), MW m (pch (wdg t i s) (if tb t i = true then cc1 else cc0))))
      cases tb t i <;> rfl
    · have e2 : i = r := by omega
      subst e2
      have q : nI i ≤ nI i := (n_le (by omega) (by omega)).mpr (Nat.le_refl _)
      rw [if_pos q]
      exact Or.inr ⟨_, rfl, rfl⟩)
  obtain ⟨x, g1, g2⟩ := h
  rw [g1, g2]
theorem wr2 {m : St} {S r q : Nat} (hq : q < 8) (hm1 : m 1 q = nI r) (hm2 : m 2 q = nI S) (hS : S < 65536) (hr : r < 5) : loopN (f_X2_write_s26 (nI q)) FU (0, us m 11 0) = some (.inl (nI 16, MW m (wal S r 16 (m 9, 0)))) := by
  have h := loop_at (step := f_X2_write_s26 (nI q)) (fun i t => t = (nI i, MW m (wal S r i (m 9, 0)))) (fun t => t = .inl (nI 16, MW m (wal S r 16 (m 9, 0)))) 16 (s := (0, us m 11 0)) (by decide) (by
    show (0, us m 11 0) = (nI 0, us (ua m 9 (m 9)) 11 (nI 0))
    rw [ua_id m 9 rfl]
    rfl) (by
    rintro i _ hi rfl
    unfold f_X2_write_s26
    by_cases g : i < 16
    · have q1 := lt16 g
      have hw := wal_2 S r (m 9) i
      have hm : (r + 1) * i ≤ (r + 1) * 15 := Nat.mul_le_mul_left _ (by omega)
      simp only [q1, if_false, gd_t (inb_t hq (by decide : 8 < 2147483648)), n_ix (show q < 2147483648 by omega), MW_2, hm2, n_bits (show i < 32 by omega) (show S < 2147483648 by omega), MW_11, nI_1]
      refine Or.inl ⟨g, (nI (i + 1), MW m (wal S r (i + 1) (m 9, 0))), ?_, rfl⟩
      show _ = some (Sum.inl (nI (i + 1), MW m (if tb S i = true then wtp r i (wal S r i (m 9, 0)) else wal S r i (m 9, 0))))
      cases tb S i
      · rfl
      · rw [if_neg (by decide)]
        unfold wtp wcm
        by_cases e : (wal S r i (m 9, 0)).2 = 0
        · have q0 : nI (wal S r i (m 9, 0)).2 ≤ 0 := by rw [e]; decide
          rw [if_pos q0, wt63 hq hm1 (by omega) g (by omega), if_pos e]
          rfl
        · rw [if_neg (nI_nle (by omega) (by omega)), puts_e (by omega), bd_s, wt63 (s := pch (wal S r i (m 9, 0)) (vp_nar .char 44)) hq hm1 (by omega) g (by show (wal S r i (m 9, 0)).2 + 1 + r ≤ 79; omega), if_neg e]
          rfl
    · have e2 : i = 16 := by omega
      subst e2
      exact Or.inr ⟨_, rfl, rfl⟩)
  obtain ⟨t, g1, g2⟩ := h
  rw [g1, g2]
theorem write_j {u v w m : St} (hI : Inv u v w m) (p : Int32) : JU [eIO] v w (f_X1_write u v w p) (f_X2_write m p) := by
  obtain ⟨⟨A, oA, hv, hm⟩, hR⟩ := id hI
  unfold f_X1_write f_X2_write
  rcases relc (u := u) (w := w) oA hv hm p with ⟨h1, h2⟩ | ⟨q, hq, rfl, h1, h2⟩
  · rw [h1, h2, bz_r, bd_s, if_pos e00]
    exact JU_fail hI 0 (by decide) rfl rfl
  · have h8 := oA.1
    have hq8 : q < 8 := by omega
    obtain ⟨a1, a2, a3⟩ := oA.2.1 q hq
    have e := p2_e (aR A q) (by omega)
    have hS := aT_lt oA hq
    obtain ⟨d, hd⟩ : ∃ d, 16 = 2 ^ aR A q + d := ⟨16 - 2 ^ aR A q, by omega⟩
    have l2 := wr2 (m := us m 0 0) hq8 (hm.2.1 q hq).1 (hm.2.1 q hq).2 hS (show aR A q < 5 by omega)
    rw [show wal (aT A q) (aR A q) 16 = wal (aT A q) (aR A q) (2 ^ aR A q + d) by rw [← hd], wal_more a3] at l2
    rw [h1, h2, bz_l, bd_s, if_neg e10, gd_t (inb_t hq8 (by decide)), n_ix (by omega), (hv.2.1 q hq).1, lt_e, wr1 (u := u) (w := w) hq8 (hv.2.1 q hq).2 hS (show aR A q < 5 by omega), l2, bl_l, bl_l]
    have hE : EX (wal (aT A q) (aR A q) (2 ^ aR A q) (u 6, 0)) (wal (aT A q) (aR A q) (2 ^ aR A q) (m 9, 0)) := EX_a (s := (u 6, 0)) (t := (m 9, 0)) ⟨rfl, fun j hj => absurd hj (Nat.not_lt_zero _)⟩ _ _ _
    have hw := wal_2 (aT A q) (aR A q) (u 6) (2 ^ aR A q)
    have hmm : (aR A q + 1) * 2 ^ aR A q ≤ 5 * 16 := Nat.mul_le_mul (by omega) (by omega)
    obtain ⟨r1, r2, r3, r4, r5⟩ := hR
    refine ⟨_, _, _, _, rfl, rfl, Or.inl ⟨?_, rfl⟩, ⟨A, oA, hv, hm⟩, r1, r2, r3, ⟨(wal (aT A q) (aR A q) (2 ^ aR A q) (u 6, 0)).2, by omega, rfl, ?_, hE.2⟩, r5⟩
    · show Sum.inl (nI (wal (aT A q) (aR A q) (2 ^ aR A q) (u 6, 0)).2) = Sum.inl (nI (wal (aT A q) (aR A q) (2 ^ aR A q) (m 9, 0)).2)
      rw [hE.1]
    · show nI (wal (aT A q) (aR A q) (2 ^ aR A q) (m 9, 0)).2 = nI (wal (aT A q) (aR A q) (2 ^ aR A q) (u 6, 0)).2
      rw [hE.1]
