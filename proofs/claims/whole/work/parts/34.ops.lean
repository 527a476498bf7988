/-! ===== the arguments: the class's check and the reference's say the same ===== -/
theorem e10 : ¬ (1 : Int32) = 0 := by decide
theorem e00 : (0 : Int32) = 0 := rfl
theorem nn (x : Int32) : x < 0 ∨ ∃ a, a < 2147483648 ∧ x = nI a := by
  by_cases h : x < 0
  · exact Or.inl h
  · refine Or.inr ⟨x.toInt.toNat, ?_, ?_⟩
    · have := x.toInt_lt
      omega
    · have h0 : 0 ≤ x.toInt := by
        have h1 : ¬ x.toInt < (0 : Int32).toInt := fun e => h (Int32.lt_iff_toInt_lt.mpr e)
        have : (0 : Int32).toInt = 0 := rfl
        omega
      have h2 := x.toInt_lt
      apply Int32.toInt_inj.mp
      rw [nI_toInt (by omega)]
      omega
theorem ar14 (p : Int32) : (f_X1_requireRelationArity p = some (.inr eIA) ∧ f_X2_isBetween p 1 4 = some 0) ∨ ∃ r, 1 ≤ r ∧ r ≤ 4 ∧ p = nI r ∧ f_X1_requireRelationArity p = some (.inl ()) ∧ f_X2_isBetween p 1 4 = some 1 := by
  unfold f_X1_requireRelationArity f_X2_isBetween
  rcases nn p with h | ⟨a, ha, rfl⟩
  · have h1 : p < 1 := (n_neg0 h (a := 1) (by decide)).1
    rw [if_pos h1, if_pos h1]
    exact Or.inl ⟨rfl, rfl⟩
  · by_cases h1 : a < 1
    · have h2 : nI a < 1 := (n_lt ha (by decide : 1 < 2147483648)).mpr h1
      rw [if_pos h2, if_pos h2]
      exact Or.inl ⟨rfl, rfl⟩
    · have h2 : ¬ nI a < 1 := fun e => h1 ((n_lt ha (by decide : 1 < 2147483648)).mp e)
      rw [if_neg h2, if_neg h2]
      by_cases h3 : a ≤ 4
      · have h4 : nI a ≤ 4 := (n_le ha (by decide : 4 < 2147483648)).mpr h3
        have h5 : ¬ (4 : Int32) < nI a := fun e => by have := (n_lt (by decide : 4 < 2147483648) ha).mp e; omega
        rw [if_pos h4, if_neg h5]
        exact Or.inr ⟨a, by omega, h3, rfl, rfl, rfl⟩
      · have h4 : ¬ nI a ≤ 4 := fun e => h3 ((n_le ha (by decide : 4 < 2147483648)).mp e)
        have h5 : (4 : Int32) < nI a := (n_lt (by decide : 4 < 2147483648) ha).mpr (by omega)
        rw [if_neg h4, if_pos h5]
        exact Or.inl ⟨rfl, rfl⟩
theorem relc {u v w m : St} {A : Ab} (oA : okA A) (hv : RV v A) (hm : RM m A) (p : Int32) : (f_X1_requireRelation u v w p = some (.inr eIO) ∧ f_X2_isRelation m p = some 0) ∨ ∃ r, r < aN A ∧ p = nI r ∧ f_X1_requireRelation u v w p = some (.inl ()) ∧ f_X2_isRelation m p = some 1 := by
  unfold f_X1_requireRelation f_X2_isRelation
  have hN : aN A < 2147483648 := Nat.lt_of_le_of_lt oA.1 (by decide)
  rcases nn p with h | ⟨a, ha, rfl⟩
  · rw [if_pos h, if_pos h]
    exact Or.inl ⟨rfl, rfl⟩
  · rw [if_neg (n_pos ha), if_neg (n_pos ha), hv.1, hm.1]
    by_cases h1 : a < aN A
    · rw [if_pos ((n_lt ha hN).mpr h1), if_neg (fun e => by have := (n_le hN ha).mp e; omega)]
      exact Or.inr ⟨a, h1, rfl, rfl, rfl⟩
    · rw [if_neg (fun e => h1 ((n_lt ha hN).mp e)), if_pos ((n_le hN ha).mpr (by omega))]
      exact Or.inl ⟨rfl, rfl⟩
theorem all_e : ∀ r, r < 5 → jshl 1 (jshl 1 (nI r)) - 1 = nI (2 ^ (2 ^ r) - 1) := by decide +kernel
theorem gt_e : ∀ r, r < 5 → jshl 1 (nI r) - 1 = nI (2 ^ r - 1) := by decide +kernel
theorem p2_e : ∀ r, r < 5 → 2 ^ r ≤ 16 ∧ 2 ^ (2 ^ r) ≤ 65536 ∧ 1 ≤ 2 ^ r := by decide +kernel
/-- a tuple of a relation of arity `r`: below 2 ^ r -/
theorem tupc {r : Nat} (hr : r < 5) (p : Int32) : ((p < 0 ∨ (¬ p < 0 ∧ ¬ p ≤ jshl 1 (nI r) - 1)) ∧ f_X2_isTuple (nI r) p = some 0) ∨ ∃ t, t < 2 ^ r ∧ p = nI t ∧ ¬ p < 0 ∧ p ≤ jshl 1 (nI r) - 1 ∧ f_X2_isTuple (nI r) p = some 1 := by
  unfold f_X2_isTuple
  have e := p2_e r hr
  rcases nn p with h | ⟨a, ha, rfl⟩
  · rw [if_pos h]
    exact Or.inl ⟨Or.inl h, rfl⟩
  · rw [if_neg (n_pos ha), gt_e r hr, n_sh1 (by omega)]
    by_cases h1 : a < 2 ^ r
    · rw [if_neg (fun e2 => by have := (n_le (by omega) ha).mp e2; omega)]
      exact Or.inr ⟨a, h1, rfl, n_pos ha, (n_le ha (by omega)).mpr (by omega), rfl⟩
    · rw [if_pos ((n_le (by omega) ha).mpr (by omega))]
      exact Or.inl ⟨Or.inr ⟨n_pos ha, fun e2 => by have := (n_le ha (by omega)).mp e2; omega⟩, rfl⟩
theorem notup {u v w m : St} {A : Ab} (oA : okA A) (hv : RV v A) (hm : RM m A) (p q : Int32) :
    (f_X1_requireRelation u v w p = some (.inr eIO) ∧ f_X2_noTuple m p q = some 1) ∨
    (f_X1_requireRelation u v w p = some (.inl ()) ∧ f_X1_requireTuple u v w p q = some (.inr eIA) ∧ f_X2_noTuple m p q = some 2) ∨
    ∃ r t, r < aN A ∧ t < 2 ^ aR A r ∧ p = nI r ∧ q = nI t ∧ f_X1_requireRelation u v w p = some (.inl ()) ∧ f_X1_requireTuple u v w p q = some (.inl ()) ∧ f_X2_noTuple m p q = some 0 := by
  unfold f_X2_noTuple
  rcases relc (u := u) (w := w) oA hv hm p with ⟨h1, h2⟩ | ⟨r, hr, rfl, h1, h2⟩
  · rw [h2]
    exact Or.inl ⟨h1, rfl⟩
  · have hr8 : r < 8 := Nat.lt_of_lt_of_le hr oA.1
    obtain ⟨a1, a2, _⟩ := oA.2.1 r hr
    rw [h2, bd_s, if_neg e10, gd_t (inb_t hr8 (by decide)), n_ix (by omega), (hm.2.1 r hr).1]
    unfold f_X1_requireTuple
    rcases tupc (r := aR A r) (by omega) q with ⟨h3, h4⟩ | ⟨t, ht, rfl, h3, h4, h5⟩
    · rw [h4, bd_s, if_pos e00]
      rcases h3 with h3 | ⟨h3, h5⟩
      · rw [if_pos h3]
        exact Or.inr (Or.inl ⟨h1, rfl, rfl⟩)
      · rw [if_neg h3, gd_t (inb_t hr8 (by decide)), n_ix (by omega), (hv.2.1 r hr).1]
        unfold f_X1_greatestTuple
        rw [bd_s, if_neg h5]
        exact Or.inr (Or.inl ⟨h1, rfl, rfl⟩)
    · rw [h5, bd_s, if_neg e10, if_neg h3, gd_t (inb_t hr8 (by decide)), n_ix (by omega), (hv.2.1 r hr).1]
      unfold f_X1_greatestTuple
      rw [bd_s, if_pos h4]
      exact Or.inr (Or.inr ⟨r, t, hr, ht, rfl, rfl, h1, rfl, rfl⟩)
theorem bitc (p : Int32) : (f_X1_requireBit p = some (.inr eIA) ∧ f_X2_isBit p = some 0) ∨ ∃ b, b < 2 ∧ p = nI b ∧ f_X1_requireBit p = some (.inl ()) ∧ f_X2_isBit p = some 1 := by
  unfold f_X1_requireBit f_X2_isBit
  by_cases h0 : p = 0
  · rw [if_pos h0, if_pos h0]
    exact Or.inr ⟨0, by decide, h0, rfl, rfl⟩
  · rw [if_neg h0, if_neg h0]
    by_cases h1 : p = 1
    · rw [if_pos h1, if_pos h1]
      exact Or.inr ⟨1, by decide, h1, rfl, rfl⟩
    · rw [if_neg h1, if_neg h1]
      exact Or.inl ⟨rfl, rfl⟩
theorem has_e {a t : Nat} (ha : a < 4294967296) (ht : t < 32) : f_X1_has (nI a) (nI t) = some (if tb a t then 1 else 0) := by
  unfold f_X1_has
  rw [n_bitu ht ha]
  cases tb a t <;> rfl
/-! ===== the class's call beside the reference's ===== -/
def J (cs : List String) (u w : St) (X : Option ((Int32 ⊕ String) × St)) (Y : Option (Int32 × St)) : Prop := ∃ z v' b m', X = some (z, v') ∧ Y = some (b, m') ∧ Out cs z b (m' 0 0) ∧ Inv u v' w m'
def JP (cs : List String) (u v w : St) (X : Option (Int32 ⊕ String)) (Y : Option (Int32 × St)) : Prop := ∃ z b m', X = some z ∧ Y = some (b, m') ∧ Out cs z b (m' 0 0) ∧ Inv u v w m'
theorem J_fail {cs : List String} {u v w m : St} {X : Option ((Int32 ⊕ String) × St)} {Y : Option (Int32 × St)} (hI : Inv u v w m) (i : Nat) (hi : i < cs.length) {b : Int32} (hX : X = some (.inr (cs.getD i ""), v)) (hY : Y = some (b, us m 0 (nI (i + 1)))) : J cs u w X Y :=
  ⟨_, _, _, _, hX, hY, Or.inr ⟨i, hi, rfl, us_s _ _ _⟩, hI⟩
theorem J_ok {cs : List String} {u v' w m' : St} {X : Option ((Int32 ⊕ String) × St)} {Y : Option (Int32 × St)} {b : Int32} (hX : X = some (.inl b, v')) (hY : Y = some (b, m')) (h0 : m' 0 0 = 0) (hI : Inv u v' w m') : J cs u w X Y :=
  ⟨_, _, _, _, hX, hY, Or.inl ⟨rfl, h0⟩, hI⟩
theorem JP_fail {cs : List String} {u v w m : St} {X : Option (Int32 ⊕ String)} {Y : Option (Int32 × St)} (hI : Inv u v w m) (i : Nat) (hi : i < cs.length) {b : Int32} (hX : X = some (.inr (cs.getD i ""))) (hY : Y = some (b, us m 0 (nI (i + 1)))) : JP cs u v w X Y :=
  ⟨_, _, _, hX, hY, Or.inr ⟨i, hi, rfl, us_s _ _ _⟩, hI⟩
theorem JP_ok {cs : List String} {u v w m : St} {X : Option (Int32 ⊕ String)} {Y : Option (Int32 × St)} {b : Int32} (hI : Inv u v w m) (hX : X = some (.inl b)) (hY : Y = some (b, us m 0 0)) : JP cs u v w X Y :=
  ⟨_, _, _, hX, hY, Or.inl ⟨rfl, us_s _ _ _⟩, hI⟩
theorem J_add {cs : List String} {u v w m : St} {A : Ab} {X : Option ((Int32 ⊕ String) × St)} {Y : Option (Int32 × St)} (hI : Inv u v w m) (oA : okA A) (hv : RV v A) (hm : RM m A) {r t : Nat} (h1 : 1 ≤ r) (h2 : r ≤ 4) (ht : t < 2 ^ (2 ^ r)) (i : Nat) (hi : i < cs.length) (hc : cs.getD i "" = eIS)
    (hX : ∀ z v', f_X1_addNew u v w (nI r) (nI t) = some (z, v') → X = some (z, v'))
    (hY8 : m 0 3 = 8 → Y = some (0, us m 0 (nI (i + 1))))
    (hY : m 0 3 ≠ 8 → ∀ b m', f_X2_adds m (nI r) (nI t) = some (b, m') → Y = some (b, m')) : J cs u w X Y := by
  by_cases hn : aN A = 8
  · refine J_fail hI i hi (b := 0) ?_ (hY8 ?_)
    · rw [hc]
      exact hX _ _ (addNew_full hv hn _ _)
    · rw [hm.1, hn]
      rfl
  · have hn2 : aN A < 8 := by have := oA.1; omega
    refine J_ok (hX _ _ (addNew_ok hv hn2 r t)) (hY ?_ _ _ (adds_ok hm hn2 r t)) rfl ⟨⟨addA A r t, okA_add oA hn2 h1 h2 ht, RV_add oA hv r t, RM_add oA hm r t⟩, hI.2⟩
    rw [hm.1]
    intro e
    exact hn (n_inj (by omega) (by decide : 8 < 4294967296) e)
theorem addRelation_j {u v w m : St} (hI : Inv u v w m) (p : Int32) : J [eIA, eIS] u w (f_X1_addRelation u v w p) (f_X2_addRelation m p) := by
  obtain ⟨A, oA, hv, hm⟩ := hI.1
  unfold f_X1_addRelation f_X2_addRelation
  rcases ar14 p with ⟨h1, h2⟩ | ⟨r, ra, rb, rfl, h1, h2⟩
  · rw [h1, h2, bz_r, bd_s, if_pos e00]
    exact J_fail hI 0 (by decide) rfl rfl
  · rw [h1, h2, bz_l, bd_s, if_neg e10]
    refine J_add hI oA hv hm ra rb (t := 0) (Nat.two_pow_pos _) 1 (by decide) rfl ?_ ?_ ?_
    · intro z v' h
      rw [show (0 : Int32) = nI 0 from rfl, h]
      cases z <;> rfl
    · intro h
      rw [if_pos h]
      rfl
    · intro h b m' h'
      rw [if_neg h, show (0 : Int32) = nI 0 from rfl, h']
      rfl
theorem msk_e {r t : Nat} (hr : r < 5) (ht : t < 32) : (jshl 1 (jshl 1 (nI r)) - 1) &&& (jshl 1 (nI t) ^^^ (-1)) = nI ((2 ^ (2 ^ r) - 1) &&& (2 ^ t ^^^ 4294967295)) := by
  rw [all_e r hr, n_sh1 ht, n_m1, n_xor, n_and]
theorem addClause_j {u v w m : St} (hI : Inv u v w m) (p q : Int32) : J [eIA, eIS] u w (f_X1_addClause u v w p q) (f_X2_addClause m p q) := by
  obtain ⟨A, oA, hv, hm⟩ := hI.1
  unfold f_X1_addClause f_X2_addClause
  rcases ar14 p with ⟨h1, h2⟩ | ⟨r, ra, rb, rfl, h1, h2⟩
  · rw [h1, h2, bz_r, bd_s, if_pos e00]
    exact J_fail hI 0 (by decide) rfl rfl
  · rw [h1, h2, bz_l, bd_s, if_neg e10]
    unfold f_X1_greatestTuple f_X1_allTuples f_X2_allOf
    have e := p2_e r (by omega)
    rcases tupc (r := r) (by omega) q with ⟨h3, h4⟩ | ⟨t, ht, rfl, h3, h4, h5⟩
    · rcases h3 with h3 | ⟨h3, h5⟩
      · simp only [h4, bd_s, e00, h3, if_true]
        exact J_fail hI 0 (by decide) rfl rfl
      · simp only [h4, bd_s, e00, h3, h5, if_true, if_false]
        exact J_fail hI 0 (by decide) rfl rfl
    · simp only [h5, h3, bd_s, h4, e10, if_true, if_false, msk_e (r := r) (t := t) (by omega) (by omega)]
      refine J_add hI oA hv hm ra rb (t := (2 ^ (2 ^ r) - 1) &&& (2 ^ t ^^^ 4294967295)) (lt_and (Nat.sub_lt (Nat.two_pow_pos _) Nat.one_pos)) 1 (by decide) rfl ?_ ?_ ?_
      · intro z v' h
        rw [h]
        cases z <;> rfl
      · intro h
        rw [if_pos h]
        rfl
      · intro h b m' h'
        rw [if_neg h, h']
        rfl
