/-! ===== close ===== -/
theorem ua_ua (u : St) (i : Nat) (f g : Nat → Int32) : ua (ua u i f) i g = ua u i g := by
  funext j
  unfold ua
  cases Nat.beq j i <;> rfl
theorem ua_id (u : St) (i : Nat) {f : Nat → Int32} (h : f = u i) : ua u i f = u := by
  funext j
  by_cases e : j = i
  · subst e
    rw [ua_s, h]
  · rw [ua_o u f e]
theorem upd_upd (f : Nat → Int32) (k : Nat) (x y : Int32) : upd (upd f k x) k y = upd f k y := by
  funext j
  by_cases e : j = k
  · subst e
    rw [upd_s, upd_s]
  · rw [upd_o _ _ e, upd_o _ _ e, upd_o _ _ e]
theorem upd_id (f : Nat → Int32) (k : Nat) {x : Int32} (h : x = f k) : upd f k x = f := by
  funext j
  by_cases e : j = k
  · subst e
    rw [upd_s, h]
  · rw [upd_o _ _ e]
def mTs (m : St) (q T : Nat) : St := ua (us m 0 0) 2 (upd (m 2) q (nI T))
theorem mTs_1 (m : St) (q T j : Nat) : mTs m q T 1 j = m 1 j := rfl
theorem mTs_2 (m : St) (q T : Nat) : mTs m q T 2 q = nI T := by
  unfold mTs
  rw [ua_s, upd_s]
theorem mTs_u (m : St) (q T X : Nat) : ua (mTs m q T) 2 (upd (mTs m q T 2) q (nI X)) = mTs m q X := by
  unfold mTs
  rw [ua_ua, ua_s, upd_upd]
theorem mTs_0 {m : St} {q S : Nat} (h : m 2 q = nI S) : us m 0 0 = mTs m q S := by
  unfold mTs
  rw [upd_id (m 2) q h.symm, ua_id (us m 0 0) 2 (us_r m 0 0 (by decide)).symm]
theorem sbs_ne {P T : Nat} (h : sbs P T) (hn : P ≠ T) : ∃ j, tb T j = true ∧ tb P j = false := by
  refine Classical.byContradiction (fun hx => hn (sbs_eq h (fun j hj => ?_)))
  cases hb : tb P j
  · exact absurd ⟨j, hj, hb⟩ hx
  · rfl
theorem cls2 {m : St} {S r k c q : Nat} (hq : q < 8) (h1 : m 1 q = nI r) (h2 : m 2 q = nI S) (hS : S < 2 ^ (2 ^ r)) (hr : r < 5) (hk : k < 4) (k1 : 1 ≤ k) (hc : c < 256) :
    ∃ X, Lc S r k c X ∧ loopN (f_X2_close_s36 (nI q) (nI k) (nI c)) FU ((-1), us m 0 0) = some (.inl (nI X, mTs m q X)) := by
  have e := p2_e r hr
  have h := loop_at (step := f_X2_close_s36 (nI q) (nI k) (nI c)) (fun i st => ∃ T W, st = (W, mTs m q T) ∧ ClI S r k c T ∧ ((W = (-1) ∧ i = 0) ∨ ∃ P, W = nI P ∧ P < 65536 ∧ sbs P T ∧ (∀ j, Md P r k c j → tb T j = true) ∧ i ≤ fb_ct (tb P) 16 + 1)) (fun t => ∃ X, Lc S r k c X ∧ t = .inl (nI X, mTs m q X)) 17 (s := ((-1), us m 0 0)) (by decide) ⟨S, (-1), by rw [mTs_0 h2], ⟨hS, fun _ h => h, fun _ _ h => h⟩, Or.inl ⟨rfl, rfl⟩⟩ (by
    rintro i _ hi ⟨T, W, rfl, hT, hW⟩
    unfold f_X2_close_s36
    have hT2 : T < 2 ^ (2 ^ r) := hT.1
    obtain ⟨M, g1, g2, g3⟩ := made_e hT2 hr hk k1 hc
    have hn := ClI_or hr hT g2 (fun j hj => (g3 j).mp hj)
    simp only [gd_t (inb_t hq (by decide : 8 < 2147483648)), n_ix (show q < 2147483648 by omega), mTs_1, mTs_2, h1, lt_e, gt_e r hr, g1, bd_s, n_or, mTs_u]
    have md : ∀ j, Md T r k c j → tb (T ||| M) j = true := fun j hj => by rw [tb_or, (g3 j).mpr hj]; simp
    rcases hW with ⟨rfl, rfl⟩ | ⟨P, rfl, p1, p2, p3, p4⟩
    · have q1 : ¬ (-1 : Int32) = nI T := fun e2 => by rw [n_m1] at e2; have := n_inj (by decide) (by omega) e2; omega
      rw [if_neg q1]
      exact Or.inl ⟨by decide, _, rfl, T ||| M, nI T, rfl, hn, Or.inr ⟨T, rfl, by omega, sbs_or M (fun _ h => h), md, by omega⟩⟩
    · by_cases hPT : P = T
      · subst hPT
        rw [if_pos rfl]
        exact Or.inr ⟨_, rfl, P, ⟨hT.1, hT.2.1, Md_cl hr p3, hT.2.2⟩, rfl⟩
      · have q1 : ¬ nI P = nI T := fun e2 => hPT (n_inj (by omega) (by omega) e2)
        obtain ⟨j, j1, j2⟩ := sbs_ne p2 hPT
        have j3 : j < 16 := by have := tb_in hT2 j1; omega
        have h3 := ct_more (p := tb P) (q := tb T) 16 (fun k _ hk => p2 k hk) j j3 j2 j1
        have h4 := fb_ct_le (tb T) 16
        rw [if_neg q1]
        exact Or.inl ⟨by omega, _, rfl, T ||| M, nI T, rfl, hn, Or.inr ⟨T, rfl, by omega, sbs_or M (fun _ h => h), md, by omega⟩⟩)
  obtain ⟨t, g1, X, g2, rfl⟩ := h
  exact ⟨X, g2, g1⟩
theorem close_j {u v w m : St} (hI : Inv u v w m) (p a c : Int32) : J [eIO, eIA] u w (f_X1_close u v w p a c) (f_X2_close m p a c) := by
  obtain ⟨A, oA, hv, hm⟩ := hI.1
  unfold f_X1_close f_X2_close
  rcases relc (u := u) (w := w) oA hv hm p with ⟨h1, h2⟩ | ⟨r, hr, rfl, h1, h2⟩
  · simp only [h1, h2, bz_r, bd_s, if_true]
    exact J_fail hI 0 (by decide) rfl rfl
  · rcases opc a c with ⟨h3, h4⟩ | ⟨k, d, hk, k1, hd, rfl, rfl, h3, h4⟩
    · simp only [h1, h2, h3, h4, bz_l, bz_r, bd_s, e10, if_true, if_false]
      exact J_fail hI 1 (by decide) rfl rfl
    · have e8 := p2c k hk
      have hr8 : r < 8 := Nat.lt_of_lt_of_le hr oA.1
      obtain ⟨a1, a2, a3⟩ := oA.2.1 r hr
      have hr5 : aR A r < 5 := by omega
      have e := p2_e (aR A r) hr5
      obtain ⟨M, g1, g2, g3, g4⟩ := esc_M (k := k) (c := d) a3 hr5 hk (by omega)
      obtain ⟨X, s, x1, x2⟩ := cls1 (u := u) (v := v) (w := w) (q := r) a3 hr5 hk (show d < 256 by omega) g2 g3 g4
      obtain ⟨Y, y1, y2⟩ := cls2 (m := m) hr8 (hm.2.1 r hr).1 (hm.2.1 r hr).2 a3 hr5 hk k1 (show d < 256 by omega)
      have hXY := Lc_one x1 y1
      subst hXY
      have hX : X < 65536 := by have := x1.1; omega
      simp only [h1, h2, h3, h4, bz_l, bd_s, e10, if_false, gd_t (inb_t hr8 (by decide : 8 < 2147483648)), n_ix (show r < 2147483648 by omega), (hv.2.1 r hr).1, (hv.2.1 r hr).2, lt_e, g1, x2, y2, bl_l, bc32 (show X < 4294967296 by omega), ct_16 hX, bits_e hX]
      exact J_ok rfl rfl rfl (Inv_set (m := us m 0 0) hI oA hv hm x1.1)
