/-! ===== the law ===== -/
theorem law_sw {xs : Nat → Int32} {LL : Nat} {i : Int32} {u v w m : St} {f : Nat → Int64} (hI : Inv u v w m) (g1 : inb (i + 1) LL = true) (g2 : inb (i + 2) LL = true) (g3 : inb (i + 3) LL = true) (g4 : inb (i + 4) LL = true) (g5 : inb (i + 5) LL = true) (z : Int32) : LSt (f_law_sw xs LL i u v w m f z) i := by
  unfold f_law_sw
  by_cases h : z = 0
  · rw [if_pos h]
    exact law_c0 hI g1 g2 g3 g4 g5
  rw [if_neg h]
  clear h
  by_cases h : z = 1
  · rw [if_pos h]
    exact law_c1 hI g1 g2 g3 g4 g5
  rw [if_neg h]
  clear h
  by_cases h : z = 2
  · rw [if_pos h]
    exact law_c2 hI g1 g2 g3 g4 g5
  rw [if_neg h]
  clear h
  by_cases h : z = 3
  · rw [if_pos h]
    exact law_c3 hI g1 g2 g3 g4 g5
  rw [if_neg h]
  clear h
  by_cases h : z = 4
  · rw [if_pos h]
    exact law_c4 hI g1 g2 g3 g4 g5
  rw [if_neg h]
  clear h
  by_cases h : z = 5
  · rw [if_pos h]
    exact law_c5 hI g1 g2 g3 g4 g5
  rw [if_neg h]
  clear h
  by_cases h : z = 6
  · rw [if_pos h]
    exact law_c6 hI g1 g2 g3 g4 g5
  rw [if_neg h]
  clear h
  by_cases h : z = 7
  · rw [if_pos h]
    exact law_c7 hI g1 g2 g3 g4 g5
  rw [if_neg h]
  clear h
  by_cases h : z = 8
  · rw [if_pos h]
    exact law_c8 hI g1 g2 g3 g4 g5
  rw [if_neg h]
  clear h
  by_cases h : z = 9
  · rw [if_pos h]
    exact law_c9 hI g1 g2 g3 g4 g5
  rw [if_neg h]
  clear h
  by_cases h : z = 10
  · rw [if_pos h]
    exact law_c10 hI g1 g2 g3 g4 g5
  rw [if_neg h]
  clear h
  by_cases h : z = 11
  · rw [if_pos h]
    exact law_c11 hI g1 g2 g3 g4 g5
  rw [if_neg h]
  clear h
  by_cases h : z = 12
  · rw [if_pos h]
    exact law_c12 hI g1 g2 g3 g4 g5
  rw [if_neg h]
  clear h
  by_cases h : z = 13
  · rw [if_pos h]
    exact law_c13 hI g1 g2 g3 g4 g5
  rw [if_neg h]
  clear h
  by_cases h : z = 14
  · rw [if_pos h]
    exact law_c14 hI g1 g2 g3 g4 g5
  rw [if_neg h]
  clear h
  by_cases h : z = 15
  · rw [if_pos h]
    exact law_c15 hI g1 g2 g3 g4 g5
  rw [if_neg h]
  clear h
  by_cases h : z = 16
  · rw [if_pos h]
    exact law_c16 hI g1 g2 g3 g4 g5
  rw [if_neg h]
  clear h
  by_cases h : z = 17
  · rw [if_pos h]
    exact law_c17 hI g1 g2 g3 g4 g5
  rw [if_neg h]
  clear h
  by_cases h : z = 18
  · rw [if_pos h]
    exact law_c18 hI g1 g2 g3 g4 g5
  rw [if_neg h]
  clear h
  by_cases h : z = 19
  · rw [if_pos h]
    exact law_c19 hI g1 g2 g3 g4 g5
  rw [if_neg h]
  clear h
  by_cases h : z = 20
  · rw [if_pos h]
    exact law_c20 hI g1 g2 g3 g4 g5
  rw [if_neg h]
  clear h
  by_cases h : z = 21
  · rw [if_pos h]
    exact law_c21 hI g1 g2 g3 g4 g5
  rw [if_neg h]
  clear h
  by_cases h : z = 22
  · rw [if_pos h]
    exact law_c22 hI g1 g2 g3 g4 g5
  rw [if_neg h]
  clear h
  by_cases h : z = 23
  · rw [if_pos h]
    exact law_c23 hI g1 g2 g3 g4 g5
  rw [if_neg h]
  clear h
  by_cases h : z = 24
  · rw [if_pos h]
    exact law_c24 hI g1 g2 g3 g4 g5
  rw [if_neg h]
  clear h
  by_cases h : z = 25
  · rw [if_pos h]
    exact law_c25 hI g1 g2 g3 g4 g5
  rw [if_neg h]
  clear h
  by_cases h : z = 26
  · rw [if_pos h]
    exact law_c26 hI g1 g2 g3 g4 g5
  rw [if_neg h]
  clear h
  by_cases h : z = 27
  · rw [if_pos h]
    exact law_c27 hI g1 g2 g3 g4 g5
  rw [if_neg h]
  clear h
  by_cases h : z = 28
  · rw [if_pos h]
    exact law_c28 hI g1 g2 g3 g4 g5
  rw [if_neg h]
  clear h
  by_cases h : z = 29
  · rw [if_pos h]
    exact law_c29 hI g1 g2 g3 g4 g5
  rw [if_neg h]
  clear h
  by_cases h : z = 30
  · rw [if_pos h]
    exact law_c30 hI g1 g2 g3 g4 g5
  rw [if_neg h]
  clear h
  by_cases h : z = 31
  · rw [if_pos h]
    exact law_c31 hI g1 g2 g3 g4 g5
  rw [if_neg h]
  clear h
  by_cases h : z = 32
  · rw [if_pos h]
    exact law_c32 hI g1 g2 g3 g4 g5
  rw [if_neg h]
  clear h
  by_cases h : z = 33
  · rw [if_pos h]
    exact law_c33 hI g1 g2 g3 g4 g5
  rw [if_neg h]
  clear h
  by_cases h : z = 34
  · rw [if_pos h]
    exact law_c34 hI g1 g2 g3 g4 g5
  rw [if_neg h]
  clear h
  by_cases h : z = 35
  · rw [if_pos h]
    exact law_c35 hI g1 g2 g3 g4 g5
  rw [if_neg h]
  clear h
  by_cases h : z = 36
  · rw [if_pos h]
    exact law_c36 hI g1 g2 g3 g4 g5
  rw [if_neg h]
  clear h
  by_cases h : z = 37
  · rw [if_pos h]
    exact law_c37 hI g1 g2 g3 g4 g5
  rw [if_neg h]
  clear h
  by_cases h : z = 38
  · rw [if_pos h]
    exact law_c38 hI g1 g2 g3 g4 g5
  rw [if_neg h]
  clear h
  by_cases h : z = 39
  · rw [if_pos h]
    exact law_c39 hI g1 g2 g3 g4 g5
  rw [if_neg h]
  clear h
  by_cases h : z = 40
  · rw [if_pos h]
    exact law_c40 hI g1 g2 g3 g4 g5
  rw [if_neg h]
  clear h
  by_cases h : z = 41
  · rw [if_pos h]
    exact law_c41 hI g1 g2 g3 g4 g5
  rw [if_neg h]
  clear h
  by_cases h : z = 42
  · rw [if_pos h]
    exact law_c42 hI g1 g2 g3 g4 g5
  rw [if_neg h]
  clear h
  by_cases h : z = 43
  · rw [if_pos h]
    exact law_c43 hI g1 g2 g3 g4 g5
  rw [if_neg h]
  clear h
  by_cases h : z = 44
  · rw [if_pos h]
    exact law_c44 hI g1 g2 g3 g4 g5
  rw [if_neg h]
  clear h
  by_cases h : z = 45
  · rw [if_pos h]
    exact law_c45 hI g1 g2 g3 g4 g5
  rw [if_neg h]
  clear h
  by_cases h : z = 46
  · rw [if_pos h]
    exact law_c46 hI g1 g2 g3 g4 g5
  rw [if_neg h]
  clear h
  by_cases h : z = 47
  · rw [if_pos h]
    exact law_c47 hI g1 g2 g3 g4 g5
  rw [if_neg h]
  clear h
  by_cases h : z = 48
  · rw [if_pos h]
    exact law_c48 hI g1 g2 g3 g4 g5
  rw [if_neg h]
  clear h
  by_cases h : z = 49
  · rw [if_pos h]
    exact law_c49 hI g1 g2 g3 g4 g5
  rw [if_neg h]
  clear h
  by_cases h : z = 50
  · rw [if_pos h]
    exact law_c50 hI g1 g2 g3 g4 g5
  rw [if_neg h]
  clear h
  by_cases h : z = 51
  · rw [if_pos h]
    exact law_c51 hI g1 g2 g3 g4 g5
  rw [if_neg h]
  clear h
  by_cases h : z = 52
  · rw [if_pos h]
    exact law_c52 hI g1 g2 g3 g4 g5
  rw [if_neg h]
  clear h
  by_cases h : z = 53
  · rw [if_pos h]
    exact law_c53 hI g1 g2 g3 g4 g5
  rw [if_neg h]
  clear h
  exact law_c54 hI g1 g2 g3 g4 g5
def A0 : Ab := (0, (fun _ => 0), (fun _ => 0), 1, 0, (fun _ => 0), (fun _ _ => 0))
theorem Inv_0 : Inv u0X v0I v0I m0M := by
  refine ⟨⟨A0, ⟨by decide, fun r h => absurd h (Nat.not_lt_zero _), by decide, by decide, by decide, fun r h => absurd h (Nat.not_lt_zero _)⟩, ⟨rfl, fun r h => absurd h (Nat.not_lt_zero _), rfl, rfl, fun r h => absurd h (Nat.not_lt_zero _)⟩, ⟨rfl, fun r h => absurd h (Nat.not_lt_zero _), rfl, rfl, fun r h => absurd h (Nat.not_lt_zero _)⟩⟩, Or.inl ⟨rfl, rfl⟩, ⟨0, Nat.zero_le _, rfl, rfl, fun j h => absurd h (Nat.not_lt_zero _)⟩, Or.inl ⟨rfl, rfl⟩, ⟨0, Nat.zero_le _, rfl, rfl, fun j h => absurd h (Nat.not_lt_zero _)⟩, fun s hs => Or.inl ?_⟩
  have e : s = 0 ∨ s = 1 ∨ s = 2 := by omega
  rcases e with rfl | rfl | rfl
  · exact ⟨by decide +kernel, by decide +kernel⟩
  · exact ⟨by decide +kernel, by decide +kernel⟩
  · exact ⟨by decide +kernel, by decide +kernel⟩
theorem law_ok (xs : Nat → Int32) (LL : Nat) (hL : LL ≤ 3072) : ∃ s, f_law xs LL = some (.inl s) := by
  have h := loop_inv (f_law_step xs LL) (fun j s => ∃ u v w m f, s = (nI (6 * j), u, v, w, m, f) ∧ Inv u v w m) (fun r => ∃ s, r = .inl s) 512 (by
    rintro j _ hj ⟨u, v, w, m, f, rfl, hI⟩
    unfold f_law_step
    by_cases h : 6 * j + 6 ≤ LL
    · have e6 : Int32.ofNat LL - 6 = nI (LL - 6) := by
        show nI LL - nI 6 = nI (LL - 6)
        rw [n_sub (by omega)]
      have q : ¬ nI (LL - 6) < nI (6 * j) := fun e => by have := (n_lt (by omega) (by omega)).mp e; omega
      have ea : ∀ a, nI (6 * j) + nI a = nI (6 * j + a) := fun a => nI_add _ _
      have g1 : inb (nI (6 * j) + 1) LL = true := by rw [show (1 : Int32) = nI 1 from rfl, ea]; exact inb_t (by omega) (by omega)
      have g2 : inb (nI (6 * j) + 2) LL = true := by rw [show (2 : Int32) = nI 2 from rfl, ea]; exact inb_t (by omega) (by omega)
      have g3 : inb (nI (6 * j) + 3) LL = true := by rw [show (3 : Int32) = nI 3 from rfl, ea]; exact inb_t (by omega) (by omega)
      have g4 : inb (nI (6 * j) + 4) LL = true := by rw [show (4 : Int32) = nI 4 from rfl, ea]; exact inb_t (by omega) (by omega)
      have g5 : inb (nI (6 * j) + 5) LL = true := by rw [show (5 : Int32) = nI 5 from rfl, ea]; exact inb_t (by omega) (by omega)
      obtain ⟨u', v', w', m', f', h1, h2⟩ := law_sw (xs := xs) (f := f) hI g1 g2 g3 g4 g5 (xs (nI (6 * j)).toNatClampNeg &&& 63)
      refine Or.inl ⟨by omega, _, ?_, u', v', w', m', f', rfl, h2⟩
      rw [e6, if_neg q, gd_t (inb_t (by omega) (by omega)), h1, show (6 : Int32) = nI 6 from rfl, nI_add]
      rfl
    · have q : Int32.ofNat LL - 6 < nI (6 * j) := by
        by_cases h6 : 6 ≤ LL
        · show nI LL - nI 6 < nI (6 * j)
          rw [n_sub h6]
          exact (n_lt (by omega) (by omega)).mpr (by omega)
        · have e : LL = 0 ∨ LL = 1 ∨ LL = 2 ∨ LL = 3 ∨ LL = 4 ∨ LL = 5 := by omega
          have hn : Int32.ofNat LL - 6 < 0 := by rcases e with rfl | rfl | rfl | rfl | rfl | rfl <;> decide
          exact (n_neg0 hn (by omega)).1
      rw [if_pos q]
      exact Or.inr ⟨_, rfl, _, rfl⟩) 600 0 (0, u0X, v0I, v0I, m0M, fun _ => 0) (Nat.zero_le _) (by decide) ⟨u0X, v0I, v0I, m0M, fun _ => 0, rfl, Inv_0⟩
  obtain ⟨r, h1, s, rfl⟩ := h
  exact ⟨s, h1⟩
