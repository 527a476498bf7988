/-! ===== one relation's set changed ===== -/
def setA (A : Ab) (r t : Nat) : Ab := (aN A, aR A, (fun i => if i = r then t else aT A i), aV A, aC A, aQ A, aW A)
theorem okA_set {A : Ab} (h : okA A) {r t : Nat} (ht : t < 2 ^ (2 ^ aR A r)) : okA (setA A r t) := by
  obtain ⟨a1, a2, a3, a4, a5, a6⟩ := h
  refine ⟨a1, fun i hi => ?_, a3, a4, a5, a6⟩
  obtain ⟨b1, b2, b3⟩ := a2 i hi
  refine ⟨b1, b2, ?_⟩
  show (if i = r then t else aT A i) < 2 ^ (2 ^ aR A i)
  by_cases e : i = r
  · rw [if_pos e, e]
    exact ht
  · rw [if_neg e]
    exact b3
theorem RV_set {v : St} {A : Ab} (hv : RV v A) (r t : Nat) : RV (ua v 2 (upd (v 2) r (nI t))) (setA A r t) := by
  obtain ⟨b1, b2, b3, b4, b5⟩ := hv
  refine ⟨b1, fun i hi => ⟨(b2 i hi).1, ?_⟩, b3, b4, b5⟩
  show upd (v 2) r (nI t) i = nI (if i = r then t else aT A i)
  by_cases e : i = r
  · rw [if_pos e, e, upd_s]
  · rw [if_neg e, upd_o _ _ e]
    exact (b2 i hi).2
theorem RM_set {m : St} {A : Ab} (hm : RM m A) (r t : Nat) : RM (ua m 2 (upd (m 2) r (nI t))) (setA A r t) := by
  obtain ⟨b1, b2, b3, b4, b5⟩ := hm
  refine ⟨b1, fun i hi => ⟨(b2 i hi).1, ?_⟩, b3, b4, b5⟩
  show upd (m 2) r (nI t) i = nI (if i = r then t else aT A i)
  by_cases e : i = r
  · rw [if_pos e, e, upd_s]
  · rw [if_neg e, upd_o _ _ e]
    exact (b2 i hi).2
theorem Inv_set {u v w m : St} {A : Ab} (hI : Inv u v w m) (oA : okA A) (hv : RV v A) (hm : RM m A) {r t : Nat} (ht : t < 2 ^ (2 ^ aR A r)) : Inv u (ua v 2 (upd (v 2) r (nI t))) w (ua m 2 (upd (m 2) r (nI t))) :=
  ⟨⟨setA A r t, okA_set oA ht, RV_set hv r t, RM_set hm r t⟩, hI.2⟩
theorem aT_lt {A : Ab} (oA : okA A) {r : Nat} (hr : r < aN A) : aT A r < 65536 := by
  obtain ⟨a1, a2, a3⟩ := oA.2.1 r hr
  have := (p2_e (aR A r) (by omega)).2.1
  omega
theorem tup_lt {A : Ab} (oA : okA A) {r t : Nat} (hr : r < aN A) (ht : t < 2 ^ aR A r) : t < 16 := by
  obtain ⟨a1, a2, a3⟩ := oA.2.1 r hr
  have := (p2_e (aR A r) (by omega)).1
  omega
theorem okB_b (b : Bool) : okB (if b = true then 1 else 0) = true := by cases b <;> decide
theorem le00 : (0 : Int32) ≤ 0 := by decide
theorem nle10 : ¬ (1 : Int32) ≤ 0 := by decide
theorem nle20 : ¬ (2 : Int32) ≤ 0 := by decide
theorem e20 : ¬ (2 : Int32) = 0 := by decide
theorem addTuple_j {u v w m : St} (hI : Inv u v w m) (p q : Int32) : J [eIO, eIA] u w (f_X1_addTuple u v w p q) (f_X2_addTuple m p q) := by
  obtain ⟨A, oA, hv, hm⟩ := hI.1
  unfold f_X1_addTuple f_X2_addTuple
  rcases notup (u := u) (w := w) oA hv hm p q with ⟨h1, h2⟩ | ⟨h1, h2, h3⟩ | ⟨r, t, hr, ht, rfl, rfl, h1, h2, h3⟩
  · simp only [h1, h2, bz_r, bd_s, us_s, nle10, if_false]
    exact J_fail hI 0 (by decide) rfl rfl
  · simp only [h1, h2, h3, bz_r, bz_l, bd_s, us_s, nle20, if_false]
    exact J_fail hI 1 (by decide) rfl rfl
  · have hr8 : r < 8 := Nat.lt_of_lt_of_le hr oA.1
    have ha := aT_lt oA hr
    have ht16 := tup_lt oA hr ht
    have e2 : us m 0 0 2 = m 2 := us_r m 0 0 (by decide)
    have eo : nI (aT A r) ||| jshl 1 (nI t) = nI (aT A r ||| 2 ^ t) := by rw [n_sh1 (by omega), n_or]
    have hlt : aT A r ||| 2 ^ t < 2 ^ (2 ^ aR A r) := lt_or (oA.2.1 r hr).2.2 (Nat.pow_lt_pow_right (by decide) ht)
    simp only [h1, h2, h3, bz_l, bd_s, us_s, le00, if_true, gd_t (inb_t hr8 (by decide : 8 < 2147483648)), n_ix (show r < 2147483648 by omega), e2, (hv.2.1 r hr).2, (hm.2.1 r hr).2, eo, has_e (show aT A r < 4294967296 by omega) (show t < 32 by omega), n_bits (show t < 32 by omega) (show aT A r < 2147483648 by omega)]
    have hK := Inv_set hI oA hv hm (r := r) hlt
    cases tb (aT A r) t
    · exact J_ok rfl rfl rfl hK
    · exact J_ok rfl rfl rfl hK
theorem clr_e {a t : Nat} (ht : t < 32) : nI a &&& (jshl 1 (nI t) ^^^ (-1)) = nI (a &&& (2 ^ t ^^^ 4294967295)) := by
  rw [n_sh1 ht, n_m1, n_xor, n_and]
theorem removeTuple_j {u v w m : St} (hI : Inv u v w m) (p q : Int32) : J [eIO, eIA] u w (f_X1_removeTuple u v w p q) (f_X2_removeTuple m p q) := by
  obtain ⟨A, oA, hv, hm⟩ := hI.1
  unfold f_X1_removeTuple f_X2_removeTuple
  rcases notup (u := u) (w := w) oA hv hm p q with ⟨h1, h2⟩ | ⟨h1, h2, h3⟩ | ⟨r, t, hr, ht, rfl, rfl, h1, h2, h3⟩
  · simp only [h1, h2, bz_r, bd_s, us_s, nle10, if_false]
    exact J_fail hI 0 (by decide) rfl rfl
  · simp only [h1, h2, h3, bz_r, bz_l, bd_s, us_s, nle20, if_false]
    exact J_fail hI 1 (by decide) rfl rfl
  · have hr8 : r < 8 := Nat.lt_of_lt_of_le hr oA.1
    have ha := aT_lt oA hr
    have ht16 := tup_lt oA hr ht
    have e2 : us m 0 0 2 = m 2 := us_r m 0 0 (by decide)
    have hlt : aT A r &&& (2 ^ t ^^^ 4294967295) < 2 ^ (2 ^ aR A r) := lt_and (oA.2.1 r hr).2.2
    simp only [h1, h2, h3, bz_l, bd_s, us_s, le00, if_true, gd_t (inb_t hr8 (by decide : 8 < 2147483648)), n_ix (show r < 2147483648 by omega), e2, (hv.2.1 r hr).2, (hm.2.1 r hr).2, clr_e (show t < 32 by omega), has_e (show aT A r < 4294967296 by omega) (show t < 32 by omega), n_bits (show t < 32 by omega) (show aT A r < 2147483648 by omega)]
    have hK := Inv_set hI oA hv hm (r := r) hlt
    cases tb (aT A r) t
    · exact J_ok rfl rfl rfl hK
    · exact J_ok rfl rfl rfl hK
theorem contains_j {u v w m : St} (hI : Inv u v w m) (p q : Int32) : JP [eIO, eIA] u v w (f_X1_contains u v w p q) (f_X2_contains m p q) := by
  obtain ⟨A, oA, hv, hm⟩ := hI.1
  unfold f_X1_contains f_X2_contains
  rcases notup (u := u) (w := w) oA hv hm p q with ⟨h1, h2⟩ | ⟨h1, h2, h3⟩ | ⟨r, t, hr, ht, rfl, rfl, h1, h2, h3⟩
  · simp only [h1, h2, bz_r, bd_s, us_s, e10, if_false]
    exact JP_fail hI 0 (by decide) rfl rfl
  · simp only [h1, h2, h3, bz_r, bz_l, bd_s, us_s, e20, if_false]
    exact JP_fail hI 1 (by decide) rfl rfl
  · have hr8 : r < 8 := Nat.lt_of_lt_of_le hr oA.1
    have ha := aT_lt oA hr
    have ht16 := tup_lt oA hr ht
    have e2 : us m 0 0 2 = m 2 := us_r m 0 0 (by decide)
    simp only [h1, h2, h3, bz_l, bd_s, us_s, if_true, gd_t (inb_t hr8 (by decide : 8 < 2147483648)), n_ix (show r < 2147483648 by omega), e2, (hv.2.1 r hr).2, (hm.2.1 r hr).2, has_e (show aT A r < 4294967296 by omega) (show t < 32 by omega), n_bits (show t < 32 by omega) (show aT A r < 2147483648 by omega)]
    cases tb (aT A r) t
    · exact JP_ok hI rfl rfl
    · exact JP_ok hI rfl rfl
theorem arity_j {u v w m : St} (hI : Inv u v w m) (p : Int32) : JP [eIO] u v w (f_X1_arity u v w p) (f_X2_arity m p) := by
  obtain ⟨A, oA, hv, hm⟩ := hI.1
  unfold f_X1_arity f_X2_arity
  rcases relc (u := u) (w := w) oA hv hm p with ⟨h1, h2⟩ | ⟨r, hr, rfl, h1, h2⟩
  · simp only [h1, h2, bz_r, bd_s, us_s, nle10, if_true, if_false]
    exact JP_fail hI 0 (by decide) rfl rfl
  · have hr8 : r < 8 := Nat.lt_of_lt_of_le hr oA.1
    have e2 : us m 0 0 1 = m 1 := us_r m 0 0 (by decide)
    simp only [h1, h2, bz_l, bd_s, us_s, le00, e10, if_true, if_false, gd_t (inb_t hr8 (by decide : 8 < 2147483648)), n_ix (show r < 2147483648 by omega), e2, (hv.2.1 r hr).1, (hm.2.1 r hr).1]
    exact JP_ok hI rfl rfl
theorem relationCount_j {u v w m : St} (hI : Inv u v w m) : ∃ b m', f_X1_relationCount u v w = some b ∧ f_X2_relationCount m = some (b, m') ∧ m' 0 0 = 0 ∧ Inv u v w m' := by
  obtain ⟨A, oA, hv, hm⟩ := hI.1
  refine ⟨nI (aN A), us m 0 0, ?_, ?_, rfl, hI⟩
  · unfold f_X1_relationCount
    rw [hv.1]
  · unfold f_X2_relationCount
    show some (m 0 3, _) = _
    rw [hm.1]
theorem areEqual_j {u v w m : St} (hI : Inv u v w m) (p q : Int32) : JP [eIO] u v w (f_X1_areEqual u v w p q) (f_X2_areEqual m p q) := by
  obtain ⟨A, oA, hv, hm⟩ := hI.1
  unfold f_X1_areEqual f_X2_areEqual
  rcases relc (u := u) (w := w) oA hv hm p with ⟨h1, h2⟩ | ⟨r, hr, rfl, h1, h2⟩
  · simp only [h1, h2, bz_r, bd_s, us_s, e10, if_true, if_false]
    exact JP_fail hI 0 (by decide) rfl rfl
  · have hr8 : r < 8 := Nat.lt_of_lt_of_le hr oA.1
    rcases relc (u := u) (w := w) oA hv hm q with ⟨h3, h4⟩ | ⟨s, hs, rfl, h3, h4⟩
    · simp only [h1, h2, h3, h4, bz_r, bz_l, bd_s, us_s, e10, if_true, if_false]
      exact JP_fail hI 0 (by decide) rfl rfl
    · have hs8 : s < 8 := Nat.lt_of_lt_of_le hs oA.1
      have e1 : us m 0 0 1 = m 1 := us_r m 0 0 (by decide)
      have e2 : us m 0 0 2 = m 2 := us_r m 0 0 (by decide)
      simp only [h1, h2, h3, h4, bz_l, bd_s, us_s, e10, if_true, if_false, gd_t (inb_t hr8 (by decide : 8 < 2147483648)), gd_t (inb_t hs8 (by decide : 8 < 2147483648)), n_ix (show r < 2147483648 by omega), n_ix (show s < 2147483648 by omega), e1, e2, (hv.2.1 r hr).1, (hm.2.1 r hr).1, (hv.2.1 r hr).2, (hm.2.1 r hr).2, (hv.2.1 s hs).1, (hm.2.1 s hs).1, (hv.2.1 s hs).2, (hm.2.1 s hs).2]
      by_cases c1 : nI (aR A r) = nI (aR A s)
      · rw [if_pos c1, if_pos c1]
        by_cases c2 : nI (aT A r) = nI (aT A s)
        · rw [if_pos c2, if_pos c2]
          exact JP_ok hI rfl rfl
        · rw [if_neg c2, if_neg c2]
          exact JP_ok hI rfl rfl
      · rw [if_neg c1, if_neg c1]
        exact JP_ok hI rfl rfl
theorem clear_j {u v w m : St} (hI : Inv u v w m) : ∃ b v' m', f_X1_clear u v w = some (b, v') ∧ f_X2_clear m = some (b, m') ∧ m' 0 0 = 0 ∧ Inv u v' w m' := by
  obtain ⟨A, oA, hv, hm⟩ := hI.1
  refine ⟨nI (aN A), us (us v 0 0) 4 0, us (us (us m 0 0) 3 0) 7 0, ?_, ?_, rfl, ⟨⟨(0, aR A, aT A, aV A, 0, aQ A, aW A), ?_, ?_, ?_⟩, hI.2⟩⟩
  · unfold f_X1_clear
    rw [lt_e, hv.1]
  · unfold f_X2_clear
    rw [lt_e]
    show some (m 0 3, _) = _
    rw [hm.1]
  · exact ⟨Nat.zero_le _, fun r h => absurd h (Nat.not_lt_zero _), oA.2.2.1, oA.2.2.2.1, Nat.zero_le _, fun r h => absurd h (Nat.not_lt_zero _)⟩
  · exact ⟨rfl, fun r h => absurd h (Nat.not_lt_zero _), hv.2.2.1, rfl, fun r h => absurd h (Nat.not_lt_zero _)⟩
  · exact ⟨rfl, fun r h => absurd h (Nat.not_lt_zero _), hm.2.2.1, rfl, fun r h => absurd h (Nat.not_lt_zero _)⟩
theorem cpl_e {r a : Nat} (hr : r < 5) : (jshl 1 (jshl 1 (nI r)) - 1) &&& (nI a ^^^ (-1)) = nI ((2 ^ (2 ^ r) - 1) &&& (a ^^^ 4294967295)) := by
  rw [all_e r hr, n_m1, n_xor, n_and]
theorem addComplement_j {u v w m : St} (hI : Inv u v w m) (p : Int32) : J [eIO, eIS] u w (f_X1_addComplement u v w p) (f_X2_addComplement m p) := by
  obtain ⟨A, oA, hv, hm⟩ := hI.1
  unfold f_X1_addComplement f_X2_addComplement
  rcases relc (u := u) (w := w) oA hv hm p with ⟨h1, h2⟩ | ⟨r, hr, rfl, h1, h2⟩
  · simp only [h1, h2, bz_r, bd_s, if_true]
    exact J_fail hI 0 (by decide) rfl rfl
  · have hr8 : r < 8 := Nat.lt_of_lt_of_le hr oA.1
    obtain ⟨a1, a2, a3⟩ := oA.2.1 r hr
    unfold f_X1_allTuples f_X2_allOf
    simp only [h1, h2, bz_l, bd_s, lt_e, e10, if_true, if_false, gd_t (inb_t hr8 (by decide : 8 < 2147483648)), n_ix (show r < 2147483648 by omega), (hv.2.1 r hr).1, (hm.2.1 r hr).1, (hv.2.1 r hr).2, (hm.2.1 r hr).2, cpl_e (r := aR A r) (a := aT A r) (by omega)]
    refine J_add hI oA hv hm a1 a2 (t := (2 ^ (2 ^ aR A r) - 1) &&& (aT A r ^^^ 4294967295)) (lt_and (Nat.sub_lt (Nat.two_pow_pos _) Nat.one_pos)) 1 (by decide) rfl ?_ ?_ ?_
    · intro z v' h
      rw [h]
      cases z <;> rfl
    · intro h
      rw [if_pos h]
      rfl
    · intro h b m' h'
      rw [if_neg h, h']
      rfl
theorem addIntersection_j {u v w m : St} (hI : Inv u v w m) (p q : Int32) : J [eIO, eIA, eIS] u w (f_X1_addIntersection u v w p q) (f_X2_addIntersection m p q) := by
  obtain ⟨A, oA, hv, hm⟩ := hI.1
  unfold f_X1_addIntersection f_X2_addIntersection
  rcases relc (u := u) (w := w) oA hv hm p with ⟨h1, h2⟩ | ⟨r, hr, rfl, h1, h2⟩
  · simp only [h1, h2, bz_r, bd_s, if_true]
    exact J_fail hI 0 (by decide) rfl rfl
  · have hr8 : r < 8 := Nat.lt_of_lt_of_le hr oA.1
    rcases relc (u := u) (w := w) oA hv hm q with ⟨h3, h4⟩ | ⟨s, hs, rfl, h3, h4⟩
    · simp only [h1, h2, h3, h4, bz_r, bz_l, bd_s, us_s, e10, if_true, if_false]
      exact J_fail hI 0 (by decide) rfl rfl
    · have hs8 : s < 8 := Nat.lt_of_lt_of_le hs oA.1
      obtain ⟨a1, a2, a3⟩ := oA.2.1 r hr
      simp only [h1, h2, h3, h4, bz_l, bd_s, e10, if_true, if_false, gd_t (inb_t hr8 (by decide : 8 < 2147483648)), gd_t (inb_t hs8 (by decide : 8 < 2147483648)), n_ix (show r < 2147483648 by omega), n_ix (show s < 2147483648 by omega), (hv.2.1 r hr).1, (hm.2.1 r hr).1, (hv.2.1 r hr).2, (hm.2.1 r hr).2, (hv.2.1 s hs).1, (hm.2.1 s hs).1, (hv.2.1 s hs).2, (hm.2.1 s hs).2, n_and]
      by_cases c1 : nI (aR A r) = nI (aR A s)
      · rw [if_pos c1, if_pos c1]
        refine J_add hI oA hv hm a1 a2 (t := aT A r &&& aT A s) (lt_and a3) 2 (by decide) rfl ?_ ?_ ?_
        · intro z v' h
          rw [h]
          cases z <;> rfl
        · intro h
          rw [if_pos h]
          rfl
        · intro h b m' h'
          rw [if_neg h, h']
          rfl
      · rw [if_neg c1, if_neg c1]
        exact J_fail hI 1 (by decide) rfl rfl
