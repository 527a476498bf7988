def at_k (c x y : Nat) : Bool := match f_X1_appliedToTwo (nI c) (nI x) (nI y) with
  | some L => decide (L &&& 15 = nI (apN c x y 0))
  | none => false
theorem at_b : ∀ c, c < 16 → ∀ x, x < 16 → ∀ y, y < 16 → at_k c x y = true := by decide +kernel
theorem at_low {c : Nat} (hc : c < 256) (x y : Int32) : f_X1_appliedToTwo (nI c) x y = f_X1_appliedToTwo (nI (c % 16)) x y := by
  obtain ⟨e1, e2, e3, e4⟩ := at_c c hc
  unfold f_X1_appliedToTwo
  simp only [e1, e2, e3, e4]
theorem at_e {c x y : Nat} (hc : c < 256) (hx : x < 16) (hy : y < 16) : ∃ L, f_X1_appliedToTwo (nI c) (nI x) (nI y) = some L ∧ L &&& 15 = nI (apN (c % 16) x y 0) := by
  rw [at_low hc]
  have h := at_b (c % 16) (Nat.mod_lt _ (by decide)) x hx y hy
  unfold at_k at h
  revert h
  rcases f_X1_appliedToTwo (nI (c % 16)) (nI x) (nI y) with _ | L
  · intro h; cases h
  · intro h
    exact ⟨L, rfl, of_decide_eq_true h⟩
theorem bi_lo : ∀ c, c < 256 → ∀ a, a < 4 → bi (c % 16) a = bi c a ∧ bi (c / 16) a = bi c (a + 4) := by decide +kernel
def mx (l h z : Nat) : Nat := (if bi z 0 = 1 then bi h 0 else bi l 0) + 2 * (if bi z 1 = 1 then bi h 1 else bi l 1) + 4 * (if bi z 2 = 1 then bi h 2 else bi l 2) + 8 * (if bi z 3 = 1 then bi h 3 else bi l 3)
theorem mx_e : ∀ l, l < 16 → ∀ h, h < 16 → ∀ z, z < 16 → (l &&& (z ^^^ 4294967295)) ||| (h &&& z) = mx l h z := by decide +kernel
theorem bi_4 {a b c d : Nat} (ha : a < 2) (hb : b < 2) (hc : c < 2) (hd : d < 2) : bi (a + 2 * b + 4 * c + 8 * d) 0 = a ∧ bi (a + 2 * b + 4 * c + 8 * d) 1 = b ∧ bi (a + 2 * b + 4 * c + 8 * d) 2 = c ∧ bi (a + 2 * b + 4 * c + 8 * d) 3 = d := by
  unfold bi
  refine ⟨?_, ?_, ?_, ?_⟩ <;> omega
theorem bi_apN (c x y z : Nat) : bi (apN c x y z) 0 = bi c (bi x 0 + 2 * bi y 0 + 4 * bi z 0) ∧ bi (apN c x y z) 1 = bi c (bi x 1 + 2 * bi y 1 + 4 * bi z 1) ∧ bi (apN c x y z) 2 = bi c (bi x 2 + 2 * bi y 2 + 4 * bi z 2) ∧ bi (apN c x y z) 3 = bi c (bi x 3 + 2 * bi y 3 + 4 * bi z 3) :=
  bi_4 (bi_lt _ _) (bi_lt _ _) (bi_lt _ _) (bi_lt _ _)
theorem bi_0 (i : Nat) : bi 0 i = 0 := by
  unfold bi
  rw [Nat.zero_div]
theorem mx_one {c : Nat} (hc : c < 256) {a t : Nat} (ha : a < 4) (ht : t < 2) : (if t = 1 then bi (c / 16) a else bi (c % 16) a) = bi c (a + 4 * t) := by
  obtain ⟨h1, h2⟩ := bi_lo c hc a ha
  have e : t = 0 ∨ t = 1 := by omega
  rcases e with rfl | rfl
  · rw [if_neg (by decide), h1, Nat.mul_zero, Nat.add_zero]
  · rw [if_pos rfl, h2]
theorem mx_ap {c : Nat} (hc : c < 256) (x y z : Nat) : mx (apN (c % 16) x y 0) (apN (c / 16) x y 0) z = apN c x y z := by
  obtain ⟨p0, p1, p2, p3⟩ := bi_apN (c % 16) x y 0
  obtain ⟨q0, q1, q2, q3⟩ := bi_apN (c / 16) x y 0
  have b : ∀ i, bi x i + 2 * bi y i < 4 := fun i => by
    have := bi_lt x i
    have := bi_lt y i
    omega
  unfold mx
  rw [p0, p1, p2, p3, q0, q1, q2, q3]
  simp only [bi_0, Nat.mul_zero, Nat.add_zero]
  rw [mx_one hc (b 0) (bi_lt z 0), mx_one hc (b 1) (bi_lt z 1), mx_one hc (b 2) (bi_lt z 2), mx_one hc (b 3) (bi_lt z 3)]
  rfl
