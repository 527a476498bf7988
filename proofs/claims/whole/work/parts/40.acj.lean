theorem m4_e : ∀ n, n < 21 → (4 : Int32) * nI n = nI (4 * n) := by decide +kernel
def f_acT (m : St) (p0 p1 p2 p3 p4 : Int32) : Option (Int32 × St) := if m 0 7 = 20 then some (0, us m 0 2) else gd (inb (m 0 7) 20) (gd (inb (4 * m 0 7) 80) (gd (inb (4 * m 0 7 + 1) 80) (gd (inb (4 * m 0 7 + 2) 80) (gd (inb (4 * m 0 7 + 3) 80) (some ((m 0 7 + 1) - 1, us (ua (ua (ua (ua (ua (us m 0 0) 4 (upd (m 4) (m 0 7).toNatClampNeg p0)) 5 (upd (m 5) (4 * m 0 7).toNatClampNeg p1)) 5 (upd (upd (m 5) (4 * m 0 7).toNatClampNeg p1) (4 * m 0 7 + 1).toNatClampNeg p2)) 5 (upd (upd (upd (m 5) (4 * m 0 7).toNatClampNeg p1) (4 * m 0 7 + 1).toNatClampNeg p2) (4 * m 0 7 + 2).toNatClampNeg p3)) 5 (upd (upd (upd (upd (m 5) (4 * m 0 7).toNatClampNeg p1) (4 * m 0 7 + 1).toNatClampNeg p2) (4 * m 0 7 + 2).toNatClampNeg p3) (4 * m 0 7 + 3).toNatClampNeg p4)) 7 (m 0 7 + 1)))))))
theorem acT_e (m : St) (p0 p1 p2 p3 p4 : Int32) : f_X2_addConstraint m p0 p1 p2 p3 p4 = bd (f_X2_isRelation m p0) (fun r1 => if r1 = 0 then some (0, us m 0 1) else gd (inb p0 8) (bd (f_X2_areVariables m (m 1 p0.toNatClampNeg) p1 p2 p3 p4) (fun r3 => if r3 = 0 then some (0, us m 0 1) else f_acT m p0 p1 p2 p3 p4))) := rfl
theorem acT_ok {m : St} {n : Nat} (h : m 0 7 = nI n) (hn : n < 20) (p0 p1 p2 p3 p4 : Int32) : f_acT m p0 p1 p2 p3 p4 = some (nI n, amC m n p0 p1 p2 p3 p4) := by
  unfold f_acT
  have q2 : ¬ nI n = 20 := fun e => by
    have := n_inj (by omega) (by decide : 20 < 4294967296) e
    omega
  have a1 : nI (4 * n) + 1 = nI (4 * n + 1) := nI_1 _
  have a2 : nI (4 * n) + 2 = nI (4 * n + 2) := n_add _ 2
  have a3 : nI (4 * n) + 3 = nI (4 * n + 3) := n_add _ 3
  rw [h, if_neg q2, m4_e n (by omega), a1, a2, a3, gd_t (inb_t hn (by decide)), gd_t (inb_t (by omega) (by decide)), gd_t (inb_t (by omega) (by decide)), gd_t (inb_t (by omega) (by decide)), gd_t (inb_t (by omega) (by decide)), n_ix (by omega), n_ix (by omega), n_ix (by omega), n_ix (by omega), n_ix (by omega), nI_1, nI_pred]
  rfl
theorem addConstraint_j {u v w m : St} (hI : Inv u v w m) (p p1 p2 p3 p4 : Int32) : J [eIO, eIS] u w (f_X1_addConstraint u v w p p1 p2 p3 p4) (f_X2_addConstraint m p p1 p2 p3 p4) := by
  obtain ⟨A, oA, hv, hm⟩ := hI.1
  rw [acT_e]
  unfold f_X1_addConstraint
  rcases relc (u := u) (w := w) oA hv hm p with ⟨h1, h2⟩ | ⟨r, hr, rfl, h1, h2⟩
  · simp only [h1, h2, bz_r, bd_s, if_true]
    exact J_fail hI 0 (by decide) rfl rfl
  · have hr8 : r < 8 := Nat.lt_of_lt_of_le hr oA.1
    obtain ⟨r1, r4, _⟩ := oA.2.1 r hr
    have hC := oA.2.2.2.2.1
    rw [h1, h2, bz_l, bd_s, if_neg e10, gd_t (inb_t hr8 (by decide)), gd_t (inb_t hr8 (by decide)), lt_e, n_ix (by omega), (hv.2.1 r hr).1, (hm.2.1 r hr).1]
    rcases varsc (u := u) (w := w) oA hv hm r1 r4 p1 p2 p3 p4 with ⟨h3, h4⟩ | ⟨h3, h4, k, k1, k2, k3, g1, g2, g3, g4⟩
    · rw [h3, h4, bz_r, bd_s, if_pos e00]
      exact J_fail hI 0 (by decide) rfl rfl
    · rw [h3, h4, bz_l, bd_s, if_neg e10, hv.2.2.2.1]
      by_cases hf : aC A = 20
      · have e : f_acT m (nI r) p1 p2 p3 p4 = some (0, us m 0 2) := by
          unfold f_acT
          rw [hm.2.2.2.1, hf]
          rfl
        rw [e, hf]
        exact J_fail hI 1 (by decide) rfl rfl
      · have hc : aC A < 20 := by omega
        have hk : k < 65536 := by
          have : 2 ^ (4 * aR A r) ≤ 2 ^ 16 := Nat.pow_le_pow_right (by decide) (by omega)
          omega
        have q1 : nI (aC A) < 20 := (n_lt (by omega) (by decide : 20 < 2147483648)).mpr hc
        rw [acT_ok hm.2.2.2.1 hc, if_pos q1, lt_e, gd_t (inb_t hc (by decide)), k1, bd_s, gd_t (inb_t hc (by decide)), n_ix (by omega)]
        refine J_ok (b := nI (aC A)) (v' := avC v (aC A) (nI r) (nI k)) ?_ rfl rfl ⟨⟨addC A r k, okA_addC oA hc hr k3, RV_addC hv hk, RM_addC oA hm hr g1 g2 g3 g4⟩, hI.2⟩
        show some (Sum.inl (nI (aC A)), us (ua (ua v 5 (upd (v 5) (aC A) (nI r))) 6 (upd (v 6) (aC A) (nI k))) 4 (v 0 4 + 1)) = _
        rw [hv.2.2.2.1, nI_1]
        rfl
