theorem storeFlags_j {u v w m : St} (hI : Inv u v w m) (p q x : Int32) : JU [eIO, eIA] v w (f_X1_storeFlags u v w p q x) (f_X2_storeFlags m p q x) := by
  obtain ⟨A, oA, hv, hm⟩ := hI.1
  have hF := hI.2.2.2.2.2
  unfold f_X1_storeFlags f_X2_storeFlags
  rcases slotc p with ⟨h1, h2⟩ | ⟨s, hs, rfl, h1, h2⟩
  · simp only [h1, h2, bz_r, bd_s, if_true]
    exact JU_fail hI 0 (by decide) rfl rfl
  rcases relc (u := u) (w := w) oA hv hm x with ⟨h3, h4⟩ | ⟨r, hr, rfl, h3, h4⟩
  · simp only [h1, h2, h3, h4, e10, bz_r, bz_l, bd_s, if_true, if_false]
    exact JU_fail hI 0 (by decide) rfl rfl
  have hr8 : r < 8 := Nat.lt_of_lt_of_le hr oA.1
  have hT := aT_lt oA hr
  have hb := btw (lo := 0) (hi := 16) (by decide) (by decide) q
  rw [show nI 0 = 0 from rfl, show nI 16 = 16 from rfl] at hb
  rcases hb with ⟨g1, g2⟩ | ⟨n, _, hn, rfl, g1, g2, g3⟩
  · rcases g1 with g1 | ⟨g1, g3⟩
    · simp only [h1, h2, h3, h4, g1, g2, e10, bz_l, bd_s, if_true, if_false]
      exact JU_fail hI 1 (by decide) rfl rfl
    · simp only [h1, h2, h3, h4, g1, g2, g3, e10, bz_l, bd_s, if_true, if_false]
      exact JU_fail hI 1 (by decide) rfl rfl
  have hp := Nat.two_pow_pos n
  have hp2 : 2 ^ n ≤ 2 ^ 16 := Nat.pow_le_pow_right (by decide) hn
  have em : jshl 1 (nI n) - 1 = nI (2 ^ n - 1) := by rw [n_sh1 (by omega), n_1, n_sub hp]
  have hlt : aT A r % 2 ^ n < 2 ^ n := Nat.mod_lt _ hp
  have e9 : ∀ f, ua u 8 f 9 = u 9 := fun f => ua_o u f (by decide)
  have e16 : us m 0 0 16 = m 16 := us_r m 0 0 (by decide)
  have hc : f_J6_bitCount_0f7a4 (nI (aT A r % 2 ^ n)) = some (nI (fb_ct (tb (aT A r)) n)) := by
    rw [bc32 (by omega), ct_16 (by omega), ct_low hlt hn, ct_mod]
  obtain ⟨y, g, k1, k2, k3⟩ := store2 (m1 := ua (us m 0 0) 16 (upd (m 16) s (nI n))) (s := s) (n := n) (c := r) (T := aT A r) hs hn hr8 hT (hm.2.1 r hr).2
  simp only [h1, h2, h3, h4, g1, g2, g3, e10, bz_l, bd_s, if_true, if_false, gd_t (inb_t hs (by decide : 3 < 2147483648)), gd_t (inb_t hr8 (by decide : 8 < 2147483648)), n_ix (show r < 2147483648 by omega), n_ix (show s < 2147483648 by omega), e9, e16, em, (hv.2.1 r hr).2, n_and, Nat.and_two_pow_sub_one_eq_mod, ua_s, upd_s, hc, k1, bl_l]
  refine JU_ok rfl rfl rfl ⟨hI.1, hI.2.1, hI.2.2.1, hI.2.2.2.1, hI.2.2.2.2.1, ?_⟩
  refine RF_set (m := us m 0 0) hF hs hn hlt (upd_s _ _ _) (upd_s _ _ _) (upd_s _ _ _) (fun i hi => ?_) (fun t ht => upd_o _ _ ht) (fun t ht => upd_o _ _ ht) (fun t ht => upd_o _ _ ht) k3
  rw [k2 i hi, tb_mod2]
  simp [hi]
