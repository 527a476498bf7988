/-! ===== tuples sent along a map ===== -/
def pjS (S : Nat) (g : Nat → Nat) : Nat → Nat
  | 0 => 0
  | n + 1 => pjS S g n ||| (if tb S n then 2 ^ g n else 0)
theorem pjS_s (S : Nat) (g : Nat → Nat) (n : Nat) : pjS S g (n + 1) = pjS S g n ||| (if tb S n then 2 ^ g n else 0) := rfl
theorem pjS_lt {S : Nat} {g : Nat → Nat} {M : Nat} : ∀ n, (∀ t, t < n → g t < M) → pjS S g n < 2 ^ M
  | 0, _ => Nat.two_pow_pos _
  | n + 1, h => by
    rw [pjS_s]
    refine lt_or (pjS_lt n (fun t ht => h t (by omega))) ?_
    split
    · exact Nat.pow_lt_pow_right (by decide) (h n (by omega))
    · exact Nat.two_pow_pos _
theorem pjS_more {S : Nat} {g : Nat → Nat} {n : Nat} (h : S < 2 ^ n) : ∀ d, pjS S g (n + d) = pjS S g n
  | 0 => rfl
  | d + 1 => by
    show pjS S g (n + d + 1) = _
    rw [pjS_s, pjS_more h d, tb_lt h (by omega)]
    simp
theorem pjS_16 {S : Nat} {g : Nat → Nat} {n : Nat} (h : S < 2 ^ n) (hn : n ≤ 16) : pjS S g 16 = pjS S g n := by
  have := pjS_more (g := g) h (16 - n)
  rw [show n + (16 - n) = 16 by omega] at this
  exact this
def pjg (q t : Nat) : Nat := t % 2 ^ q + t / 2 ^ (q + 1) * 2 ^ q
theorem pj_c : ∀ q, q < 4 → ∀ t, t < 16 → ((nI t &&& nI (2 ^ q - 1)) ||| ((jushr (nI t) 1) &&& (nI (2 ^ q - 1) ^^^ (-1)))) = nI (pjg q t) := by decide +kernel
theorem pj_m : ∀ q, q < 4 → ∀ t, t < 16 → ((nI t &&& nI (2 ^ q - 1)) ||| jshl (jshr (nI t) (nI (q + 1))) (nI q)) = nI (pjg q t) := by decide +kernel
theorem pj_l : ∀ r, r < 5 → ∀ q, q < r → ∀ t, t < 2 ^ r → pjg q t < 2 ^ (r - 1) := by decide +kernel
theorem pj_16 : ∀ q, q < 4 → ∀ t, t < 16 → pjg q t < 16 := by decide +kernel
theorem lt16 {i : Nat} (h : i < 16) : ¬ (16 : Int32) ≤ nI i := fun e => by have := (n_le (by decide : 16 < 2147483648) (by omega)).mp e; omega
theorem prj1 {S q : Nat} (hS : S < 65536) (hq : q < 4) : f_X1_tuplesWithoutPosition (nI S) (nI q) = some (nI (pjS S (pjg q) 16)) := by
  unfold f_X1_tuplesWithoutPosition
  rw [lt_e, gt_e q (by omega)]
  have h := loop_at (step := f_X1_tuplesWithoutPosition_s11 (nI S) (nI (2 ^ q - 1))) (fun i s => s = (nI (pjS S (pjg q) i), nI i)) (fun r => r = .inl (nI (pjS S (pjg q) 16), nI 16)) 16 (s := (0, 0)) (by decide) rfl (by
    rintro i _ hi rfl
    unfold f_X1_tuplesWithoutPosition_s11
    by_cases h : i < 16
    · refine Or.inl ⟨h, _, ?_, rfl⟩
      simp only [lt16 h, if_false, has_e (show S < 4294967296 by omega) (show i < 32 by omega), bd_s, pj_c q hq i h, n_sh1 (show pjg q i < 32 by have := pj_16 q hq i h; omega), lt_e, n_or, nI_1, pjS_s]
      cases tb S i
      · simp
      · simp [e10]
    · have e : i = 16 := by omega
      subst e
      exact Or.inr ⟨_, rfl, rfl⟩)
  obtain ⟨r, h1, h2⟩ := h
  rw [h1, h2]
  rfl
theorem bitI (b : Bool) (g : Nat) (hg : g < 16) : jshl (nI (if b = true then 1 else 0)) (nI g) = nI (if b = true then 2 ^ g else 0) := by
  have h : 2 ^ g < 2 ^ 16 := Nat.pow_lt_pow_right (by decide) hg
  cases b
  · rw [if_neg (by decide), if_neg (by decide), n_shl (by omega) (by omega), Nat.zero_mul]
  · rw [if_pos rfl, if_pos rfl, n_shl (by omega) (by omega), Nat.one_mul]
theorem prj2 {u : St} {S r q c : Nat} (hc : c < 8) (hr : r < 5) (h1 : u 1 c = nI r) (h2 : u 2 c = nI S) (hS : S < 65536) (hq : q < r) : loopN (f_X2_addProjection_s66 u (nI c) (nI q)) FU (0, 0) = some (.inl (nI (pjS S (pjg q) (2 ^ r)), nI (2 ^ r))) := by
  have e := p2_e r hr
  have h := loop_at (step := f_X2_addProjection_s66 u (nI c) (nI q)) (fun i s => s = (nI (pjS S (pjg q) i), nI i)) (fun x => x = .inl (nI (pjS S (pjg q) (2 ^ r)), nI (2 ^ r))) (2 ^ r) (s := (0, 0)) (by omega) rfl (by
    rintro i _ hi rfl
    unfold f_X2_addProjection_s66
    by_cases h : i < 2 ^ r
    · refine Or.inl ⟨h, _, ?_, rfl⟩
      have q2 : ¬ nI (2 ^ r) ≤ nI i := fun e => by have := (n_le (by omega) (by omega)).mp e; omega
      simp only [gd_t (inb_t hc (by decide : 8 < 2147483648)), n_ix (show c < 2147483648 by omega), h1, h2, n_sh1 (show r < 32 by omega), q2, if_false, lt_e, gt_e q (by omega), pj_m q (by omega) i (by omega), n_bits (show i < 32 by omega) (show S < 2147483648 by omega), bitI _ _ (pj_16 q (by omega) i (by omega)), n_or, nI_1, pjS_s]
    · have e2 : i = 2 ^ r := by omega
      subst e2
      refine Or.inr ⟨_, ?_, rfl⟩
      have q2 : nI (2 ^ r) ≤ nI (2 ^ r) := (n_le (by omega) (by omega)).mpr (Nat.le_refl _)
      simp only [gd_t (inb_t hc (by decide : 8 < 2147483648)), n_ix (show c < 2147483648 by omega), h1, n_sh1 (show r < 32 by omega), q2, if_true])
  obtain ⟨x, h3, h4⟩ := h
  rw [h3, h4]
theorem addProjection_j {u v w m : St} (hI : Inv u v w m) (p q : Int32) : J [eIO, eIA, eIS] u w (f_X1_addProjection u v w p q) (f_X2_addProjection m p q) := by
  obtain ⟨A, oA, hv, hm⟩ := hI.1
  unfold f_X1_addProjection f_X2_addProjection f_X1_requirePosition
  rcases relc (u := u) (w := w) oA hv hm p with ⟨h1, h2⟩ | ⟨r, hr, rfl, h1, h2⟩
  · simp only [h1, h2, bz_r, bd_s, if_true]
    exact J_fail hI 0 (by decide) rfl rfl
  · have hr8 : r < 8 := Nat.lt_of_lt_of_le hr oA.1
    obtain ⟨r1, r4, r5⟩ := oA.2.1 r hr
    have hT := aT_lt oA hr
    have e := p2_e (aR A r) (by omega)
    simp only [h1, h2, bz_l, bd_s, lt_e, e10, if_false, gd_t (inb_t hr8 (by decide : 8 < 2147483648)), n_ix (show r < 2147483648 by omega), (hv.2.1 r hr).1, (hm.2.1 r hr).1, (hv.2.1 r hr).2]
    rcases posc r1 (by omega) q with ⟨h3, h4⟩ | ⟨a, ha, rfl, h3, h4, h5⟩
    · rcases h3 with h3 | ⟨h3, h5⟩
      · simp only [h3, h4, bz_r, bd_s, if_true]
        exact J_fail hI 0 (by decide) rfl rfl
      · simp only [h3, h4, h5, bz_r, bd_s, if_true, if_false]
        exact J_fail hI 0 (by decide) rfl rfl
    · simp only [h3, h4, h5, e10, bz_l, bd_s, if_true, if_false]
      by_cases e1 : aR A r = 1
      · rw [e1]
        exact J_fail hI 1 (by decide) rfl rfl
      · have q2 : ¬ nI (aR A r) = 1 := fun e => e1 (n_inj (by omega) (by decide : 1 < 4294967296) e)
        rw [if_neg q2, if_neg q2, prj1 hT (by omega), bd_s, prj2 hr8 (by omega) (hm.2.1 r hr).1 (hm.2.1 r hr).2 hT ha, bl_l, n_1, n_sub r1, pjS_16 (n := 2 ^ aR A r) r5 (by omega)]
        refine J_add hI oA hv hm (r := aR A r - 1) (by omega) (by omega) (t := pjS (aT A r) (pjg a) (2 ^ aR A r)) (pjS_lt _ (fun t ht => pj_l (aR A r) (by omega) a ha t ht)) 2 (by decide) rfl ?_ ?_ ?_
        · intro z v' h
          rw [h]
          cases z <;> rfl
        · intro h
          rw [if_pos h]
          rfl
        · intro h b m' h'
          rw [if_neg h, h']
          rfl
