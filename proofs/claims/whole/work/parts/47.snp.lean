/-! ===== the snapshot: cell c of what is saved, and where it lies in the reference's state ===== -/
def lr (c : Nat) : Nat := if c < 3 then 0 else if c < 11 then 1 else if c < 19 then 2 else if c < 39 then 4 else 5
def lc (c : Nat) : Nat := if c < 3 then (if c = 0 then 3 else if c = 1 then 6 else 7) else if c < 11 then c - 3 else if c < 19 then c - 11 else if c < 39 then c - 19 else c - 39
theorem l_facts (c : Nat) : (lr c = 0 ∧ (lc c = 3 ∨ lc c = 6 ∨ lc c = 7)) ∨ lr c = 1 ∨ lr c = 2 ∨ lr c = 4 ∨ lr c = 5 := by
  unfold lr lc
  repeat' split
  all_goals omega
theorem lrc_inj {c d : Nat} (h : lr c = lr d) (h2 : lc c = lc d) : c = d := by
  unfold lr at h
  unfold lc at h2
  repeat' split at h
  all_goals first | omega | (repeat' split at h2) <;> omega
def src (sav : Bool) (m0 : St) (c : Nat) : Int32 := if sav = true then m0 (lr c) (lc c) else m0 17 c
def PS (sav : Bool) (m0 s : St) (k : Nat) : Prop := s 0 18 = nI k ∧ s 0 20 = (if sav = true then 1 else 0) ∧ s 0 0 = 0 ∧ (∀ j, (j ≠ 0 ∧ j ≠ 3 ∧ j ≠ 6 ∧ j ≠ 7 ∧ j ≠ 18 ∧ j ≠ 20) → s 0 j = m0 0 j) ∧ (∀ i, (i ≠ 0 ∧ i ≠ 1 ∧ i ≠ 2 ∧ i ≠ 4 ∧ i ≠ 5 ∧ i ≠ 17) → s i = m0 i) ∧ ∀ c, c < 119 → s 17 c = (if c < k then src sav m0 c else m0 17 c) ∧ s (lr c) (lc c) = if c < k then src sav m0 c else m0 (lr c) (lc c)
theorem at2 (s : St) (i j : Nat) (x : Int32) (a b : Nat) : ua s i (upd (s i) j x) a b = if a = i ∧ b = j then x else s a b := by
  by_cases e : a = i
  · subst e
    rw [ua_s]
    by_cases e2 : b = j
    · subst e2
      rw [upd_s, if_pos ⟨rfl, rfl⟩]
    · rw [upd_o _ _ e2, if_neg (fun h => e2 h.2)]
  · rw [ua_o _ _ e, if_neg (fun h => e h.1)]
theorem us_at (s : St) (j : Nat) (x : Int32) (a b : Nat) : us s j x a b = if a = 0 ∧ b = j then x else s a b := by
  by_cases e : a = 0
  · subst e
    by_cases e2 : b = j
    · subst e2
      rw [us_s, if_pos ⟨rfl, rfl⟩]
    · rw [us_o _ _ e2, if_neg (fun h => e2 h.2)]
  · rw [us_r _ _ _ e, if_neg (fun h => e h.1)]
theorem pass_s {sav : Bool} {m0 s : St} {k : Nat} (h : PS sav m0 s k) (hk : k < 119) : ∃ s', f_X2_passes s (s (lr k) (lc k)) = some (src sav m0 k, s') ∧ PS sav m0 (ua s' (lr k) (upd (s' (lr k)) (lc k) (src sav m0 k))) (k + 1) := by
  obtain ⟨p1, p2, p3, p4, p5, p6⟩ := h
  have pk := p6 k hk
  rw [if_neg (Nat.lt_irrefl k), if_neg (Nat.lt_irrefl k)] at pk
  refine ⟨us (ua s 17 (upd (s 17) k (src sav m0 k))) 18 (nI (k + 1)), ?_, ?_⟩
  · unfold f_X2_passes
    rw [p1, p2, gd_t (inb_t (show k < 128 by omega) (by decide)), n_ix (by omega)]
    cases sav
    · rw [if_pos (by decide), lt_e, pk.1, gd_t (inb_t (show k < 128 by omega) (by decide))]
      show some (src false m0 k, us (ua s 17 (upd (s 17) k (m0 17 k))) 18 (s 0 18 + 1)) = _
      rw [p1, nI_1]
      rfl
    · rw [if_neg (by decide), pk.2, gd_t (inb_t (show k < 128 by omega) (by decide))]
      show some (src true m0 k, us (ua s 17 (upd (s 17) k (m0 (lr k) (lc k)))) 18 (s 0 18 + 1)) = _
      rw [p1, nI_1]
      rfl
  · have lk := l_facts k
    refine ⟨?_, ?_, ?_, fun j hj => ?_, fun i hi => ?_, fun c hc => ?_⟩
    · rw [at2, us_at, if_neg (by omega), if_pos ⟨rfl, rfl⟩]
    · rw [at2, us_at, at2, if_neg (by omega), if_neg (by omega), if_neg (by omega), p2]
    · rw [at2, us_at, at2, if_neg (by omega), if_neg (by omega), if_neg (by omega), p3]
    · rw [at2, us_at, at2, if_neg (by omega), if_neg (by omega), if_neg (by omega), p4 j hj]
    · funext b
      rw [at2, us_at, at2, if_neg (by omega), if_neg (by omega), if_neg (by omega), p5 i hi]
    · have lc' := l_facts c
      obtain ⟨q1, q2⟩ := p6 c hc
      by_cases e : c = k
      · subst e
        constructor
        · rw [at2, us_at, at2, if_neg (by omega), if_neg (by omega), if_pos ⟨rfl, rfl⟩, if_pos (Nat.lt_succ_self c)]
        · rw [at2, if_pos ⟨rfl, rfl⟩, if_pos (Nat.lt_succ_self c)]
      · have hne : ¬ (lr c = lr k ∧ lc c = lc k) := fun h => e (lrc_inj h.1 h.2)
        have hck : (c < k + 1) = (c < k) := by
          apply propext
          omega
        constructor
        · rw [at2, us_at, at2, if_neg (by omega), if_neg (by omega), if_neg (by omega), q1]
          simp only [hck]
        · rw [at2, us_at, at2, if_neg hne, if_neg (by omega), if_neg (by omega), q2]
          simp only [hck]
