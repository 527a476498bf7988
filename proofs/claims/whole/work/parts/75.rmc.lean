/-! ===== removeRedundant: the class ===== -/
theorem rmr1 {u v w : St} {A : Ab} (oA : okA A) (hv : RV v A) : loopN (f_X1_removeRedundant_s12 u v w) FU (0, nI (aC A) - 1) = some (.inl (nI (rmR A (aC A)), (-1))) := by
  have h20 := oA.2.2.2.2.1
  have h := loop_at (step := f_X1_removeRedundant_s12 u v w) (fun i s => s = (nI (rmR A i), dn (aC A) i)) (fun r => r = .inl (nI (rmR A (aC A)), (-1))) (aC A) (s := (0, nI (aC A) - 1)) (by omega) (by rw [dn_0]; rfl) (by
    rintro i _ hi rfl
    unfold f_X1_removeRedundant_s12
    by_cases h : i < aC A
    · have hcn : aC A - 1 - i < aC A := by omega
      have q : ¬ nI (aC A - 1 - i) < 0 := n_pos (by omega)
      simp only [dn_in h, q, if_false, lt_e, n_sh1 (show aC A - 1 - i < 32 by omega), n_or]
      rw [dn_s h]
      rcases spare_e oA hv hcn (rmR_lt oA (Nat.le_of_lt h)) with ⟨g1, g2⟩ | ⟨g1, g2⟩
      · rw [g2, bd_s, if_neg e10, ← rmR_t g1]
        exact Or.inl ⟨h, _, rfl, rfl⟩
      · rw [g2, bd_s, if_pos e00, ← rmR_f g1]
        exact Or.inl ⟨h, _, rfl, rfl⟩
    · have e2 : i = aC A := by omega
      subst e2
      have q : dn (aC A) (aC A) < 0 := by rw [dn_out (Nat.lt_irrefl _)]; decide
      rw [if_pos q]
      refine Or.inr ⟨_, rfl, ?_⟩
      rw [dn_out (Nat.lt_irrefl _)])
  obtain ⟨r, h1, h2⟩ := h
  rw [h1, h2]
def VK (v : St) (F G : Nat → Int32) : St := ua (ua v 5 F) 6 G
theorem VK_5 (v : St) (F G H : Nat → Int32) : ua (VK v F G) 5 H = VK v H G := by
  funext a
  unfold VK
  by_cases h5 : a = 5
  · subst h5
    rw [ua_s, ua_o _ _ (by decide), ua_s]
  · rw [ua_o _ _ h5]
    by_cases h6 : a = 6
    · subst h6
      rw [ua_s, ua_s]
    · rw [ua_o _ _ h6, ua_o _ _ h6, ua_o _ _ h5, ua_o _ _ h5]
theorem VK_6 (v : St) (F G H : Nat → Int32) : ua (VK v F G) 6 H = VK v F H := by
  unfold VK
  rw [ua_ua]
theorem VK_r5 (v : St) (F G : Nat → Int32) : VK v F G 5 = F := rfl
theorem VK_r6 (v : St) (F G : Nat → Int32) : VK v F G 6 = G := rfl
theorem VK_04 (v : St) (F G : Nat → Int32) : VK v F G 0 4 = v 0 4 := rfl
theorem VK_id (v : St) : v = VK v (v 5) (v 6) := by
  unfold VK
  rw [ua_id v 5 rfl, ua_id v 6 rfl]
theorem rmc {v : St} {n R : Nat} (hn : v 0 4 = nI n) (h20 : n ≤ 20) (hR : R < 4294967296) : ∃ F G, f_X0_removeConstraints v (nI R) = some (us (VK v F G) 4 (nI (fb_ct (nt R) n))) ∧ ∀ d, d < n → nt R d = true → F (fb_ct (nt R) d) = v 5 d ∧ G (fb_ct (nt R) d) = v 6 d := by
  have h := loop_at (step := f_X0_removeConstraints_s4 (nI R)) (fun i s => ∃ F G, s = (nI (fb_ct (nt R) i), nI i, VK v F G) ∧ (∀ d, d < i → nt R d = true → F (fb_ct (nt R) d) = v 5 d ∧ G (fb_ct (nt R) d) = v 6 d) ∧ ∀ d, i ≤ d → F d = v 5 d ∧ G d = v 6 d) (fun r => ∃ F G, r = .inl (nI (fb_ct (nt R) n), nI n, VK v F G) ∧ ∀ d, d < n → nt R d = true → F (fb_ct (nt R) d) = v 5 d ∧ G (fb_ct (nt R) d) = v 6 d) n (s := (0, 0, v)) (by omega) ⟨v 5, v 6, by rw [← VK_id]; rfl, fun d hd => absurd hd (Nat.not_lt_zero _), fun d _ => ⟨rfl, rfl⟩⟩ (by
    rintro i _ hi ⟨F, G, rfl, h1, h2⟩
    unfold f_X0_removeConstraints_s4
    simp only [VK_04, hn]
    by_cases h : i < n
    · have q : ¬ nI n ≤ nI i := fun e => by have := (n_le (by omega) (by omega)).mp e; omega
      have hle := fb_ct_le (nt R) i
      have hs := fb_ct_succ (nt R) i
      simp only [q, if_false, has_e hR (show i < 32 by omega), bd_s, nI_1, gd_t (inb_t (show i < 20 by omega) (by decide : 20 < 2147483648)), gd_t (inb_t (show fb_ct (nt R) i < 20 by omega) (by decide : 20 < 2147483648)), n_ix (show i < 2147483648 by omega), n_ix (show fb_ct (nt R) i < 2147483648 by omega), VK_5, VK_6, VK_r5, VK_r6]
      cases hb : tb R i
      · have hnt : nt R i = true := by unfold nt; rw [hb]; rfl
        rw [hnt] at hs
        simp only [if_true] at hs
        refine Or.inl ⟨h, _, rfl, upd F (fb_ct (nt R) i) (F i), upd G (fb_ct (nt R) i) (G i), ?_, fun d hd hd2 => ?_, fun d hd => ?_⟩
        · rw [hs]
        · by_cases e : d = i
          · subst e
            rw [upd_s, upd_s]
            exact h2 d (Nat.le_refl _)
          · have hd3 : d < i := by omega
            have hne : fb_ct (nt R) d ≠ fb_ct (nt R) i := Nat.ne_of_lt (kth_lt hd3 hd2)
            rw [upd_o _ _ hne, upd_o _ _ hne]
            exact h1 d hd3 hd2
        · have hne : d ≠ fb_ct (nt R) i := by omega
          rw [upd_o _ _ hne, upd_o _ _ hne]
          exact h2 d (by omega)
      · have hnt : nt R i = false := by unfold nt; rw [hb]; rfl
        rw [hnt] at hs
        refine Or.inl ⟨h, _, rfl, F, G, ?_, fun d hd hd2 => ?_, fun d hd => h2 d (by omega)⟩
        · rw [hs]
          rfl
        · by_cases e : d = i
          · subst e
            rw [hnt] at hd2
            cases hd2
          · exact h1 d (by omega) hd2
    · have e2 : i = n := by omega
      subst e2
      have q : nI i ≤ nI i := (n_le (by omega) (by omega)).mpr (Nat.le_refl _)
      rw [if_pos q]
      exact Or.inr ⟨_, rfl, F, G, rfl, h1⟩)
  obtain ⟨r, h1, F, G, rfl, h3⟩ := h
  refine ⟨F, G, ?_, h3⟩
  unfold f_X0_removeConstraints
  rw [h1]
  rfl
theorem RV_flt {v : St} {A : Ab} (hv : RV v A) {f : Nat → Bool} {F G : Nat → Int32} (h : ∀ d, d < aC A → f d = true → F (fb_ct f d) = v 5 d ∧ G (fb_ct f d) = v 6 d) : RV (us (VK v F G) 4 (nI (fb_ct f (aC A)))) (flt A f) := by
  obtain ⟨b1, b2, b3, b4, b5⟩ := hv
  refine ⟨b1, b2, b3, rfl, fun j hj => ?_⟩
  obtain ⟨d, ⟨d1, d2, d3⟩, d4⟩ := flt_k (show j < fb_ct f (aC A) from hj)
  obtain ⟨g1, g2⟩ := h d d1 d2
  rw [d3] at g1 g2
  show F j = nI (aQ A (ek f (aC A) j)) ∧ ∃ k, G j = nI k ∧ k < 65536 ∧ ∀ p, p < aR A (aQ A (ek f (aC A) j)) → k / 2 ^ (4 * p) % 16 = aW A (ek f (aC A) j) p
  rw [d4, g1, g2]
  exact b5 d d1
theorem removeRedundant_j {u v w m : St} (hI : Inv u v w m) : ∃ b v' m', f_X1_removeRedundant u v w = some (b, v') ∧ f_X2_removeRedundant m = some (b, m') ∧ m' 0 0 = 0 ∧ Inv u v' w m' := by
  obtain ⟨A, oA, hv, hm⟩ := hI.1
  have h20 := oA.2.2.2.2.1
  have hR := rmR_lt oA (Nat.le_refl (aC A))
  obtain ⟨F, G, f1, f2⟩ := rmr2 oA (RM_us hm 0)
  obtain ⟨F2, G2, g1, g2⟩ := rmc (R := rmR A (aC A)) hv.2.2.2.1 h20 (by omega)
  refine ⟨nI (fb_ct (tb (rmR A (aC A))) 32), us (VK v F2 G2) 4 (nI (fb_ct (nt (rmR A (aC A))) (aC A))), MK (us m 0 0) (nI (fb_ct (nt (rmR A (aC A))) (aC A))) F G, ?_, ?_, rfl, ⟨⟨flt A (nt (rmR A (aC A))), okA_flt oA _, RV_flt hv g2, f1⟩, hI.2⟩⟩
  · unfold f_X1_removeRedundant
    rw [lt_e, hv.2.2.2.1, rmr1 (u := u) (w := w) oA hv, bl_l, g1, bd_s, bc32 (by omega), bd_s]
  · unfold f_X2_removeRedundant
    rw [lt_e, (RM_us hm 0).2.2.2.1, f2, bl_l]
