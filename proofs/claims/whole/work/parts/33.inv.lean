/-! ===== the abstract instance: relations (count, arities, sets), variables, constraints (count, relation of each, variable of each place) ===== -/
abbrev Ab : Type := Nat × (Nat → Nat) × (Nat → Nat) × Nat × Nat × (Nat → Nat) × (Nat → Nat → Nat)
abbrev aN (A : Ab) : Nat := A.1
abbrev aR (A : Ab) : Nat → Nat := A.2.1
abbrev aT (A : Ab) : Nat → Nat := A.2.2.1
abbrev aV (A : Ab) : Nat := A.2.2.2.1
abbrev aC (A : Ab) : Nat := A.2.2.2.2.1
abbrev aQ (A : Ab) : Nat → Nat := A.2.2.2.2.2.1
abbrev aW (A : Ab) : Nat → Nat → Nat := A.2.2.2.2.2.2
def okA (A : Ab) : Prop := aN A ≤ 8 ∧ (∀ r, r < aN A → 1 ≤ aR A r ∧ aR A r ≤ 4 ∧ aT A r < 2 ^ (2 ^ aR A r)) ∧ 1 ≤ aV A ∧ aV A ≤ 10 ∧ aC A ≤ 20 ∧ ∀ c, c < aC A → aQ A c < aN A ∧ ∀ p, p < aR A (aQ A c) → aW A c p < aV A
def RV (v : St) (A : Ab) : Prop := v 0 0 = nI (aN A) ∧ (∀ r, r < aN A → v 1 r = nI (aR A r) ∧ v 2 r = nI (aT A r)) ∧ v 0 3 = nI (aV A) ∧ v 0 4 = nI (aC A) ∧ ∀ c, c < aC A → v 5 c = nI (aQ A c) ∧ ∃ k, v 6 c = nI k ∧ k < 65536 ∧ ∀ p, p < aR A (aQ A c) → k / 2 ^ (4 * p) % 16 = aW A c p
def RM (m : St) (A : Ab) : Prop := m 0 3 = nI (aN A) ∧ (∀ r, r < aN A → m 1 r = nI (aR A r) ∧ m 2 r = nI (aT A r)) ∧ m 0 6 = nI (aV A) ∧ m 0 7 = nI (aC A) ∧ ∀ c, c < aC A → m 4 c = nI (aQ A c) ∧ ∀ p, p < aR A (aQ A c) → m 5 (4 * c + p) = nI (aW A c p)
/-- what the reference's snapshot holds, as if it were its state -/
def sv (m : St) : St := fun i j => bif Nat.beq i 0 then (bif Nat.beq j 3 then m 17 0 else bif Nat.beq j 6 then m 17 1 else bif Nat.beq j 7 then m 17 2 else 0) else bif Nat.beq i 1 then m 17 (3 + j) else bif Nat.beq i 2 then m 17 (11 + j) else bif Nat.beq i 4 then m 17 (19 + j) else m 17 (39 + j)
def RS (u w m : St) : Prop := (u 0 2 = 0 ∧ m 0 19 = 0) ∨ (u 0 2 = 1 ∧ m 0 19 = 1 ∧ ∃ B, okA B ∧ RV w B ∧ RM (sv m) B)
def RTi (u m : St) : Prop := ∃ n, n ≤ 60 ∧ u 0 4 = nI n ∧ m 0 10 = nI n ∧ ∀ j, j < n → u 3 j = m 8 j
def RTe (u m : St) : Prop := (u 0 5 = (-1) ∧ m 0 12 = (-1)) ∨ ∃ k, k ≤ 60 ∧ u 0 5 = nI k ∧ m 0 12 = nI k
def RTo (u m : St) : Prop := ∃ n, n ≤ 79 ∧ u 0 7 = nI n ∧ m 0 11 = nI n ∧ ∀ j, j < n → u 6 j = m 9 j ∧ okC (u 6 j) = true
def RF (u m : St) : Prop := ∀ s, s < 3 → (u 8 s = (-1) ∧ m 16 s = (-1)) ∨ ∃ n b, n ≤ 16 ∧ b < 2 ^ n ∧ u 8 s = nI n ∧ m 16 s = nI n ∧ u 9 s = nI b ∧ ∀ i, i < n → m 15 (16 * s + i) = if tb b i then 1 else 0
def Inv (u v w m : St) : Prop := (∃ A, okA A ∧ RV v A ∧ RM m A) ∧ RS u w m ∧ RTi u m ∧ RTe u m ∧ RTo u m ∧ RF u m
/-- the class's outcome and the reference's: an answer and no code, or an exception and its number in the list -/
def Out (cs : List String) (z : Int32 ⊕ String) (b th : Int32) : Prop := (z = .inl b ∧ th = 0) ∨ ∃ i, i < cs.length ∧ z = .inr (cs.getD i "") ∧ th = nI (i + 1)
/-! ===== reading states ===== -/
theorem ua_s (u : St) (i : Nat) (f : Nat → Int32) : ua u i f i = f := by simp [ua]
theorem ua_o (u : St) {i j : Nat} (f : Nat → Int32) (h : j ≠ i) : ua u i f j = u j := by
  have : Nat.beq j i = false := Bool.eq_false_iff.mpr (fun e => h (Nat.eq_of_beq_eq_true e))
  simp [ua, this]
theorem us_r (u : St) (k : Nat) (x : Int32) {i : Nat} (h : i ≠ 0) : us u k x i = u i := ua_o u _ h
theorem us_s (u : St) (k : Nat) (x : Int32) : us u k x 0 k = x := by simp [us, ua]
theorem us_o (u : St) {k j : Nat} (x : Int32) (h : j ≠ k) : us u k x 0 j = u 0 j := by
  have : Nat.beq j k = false := Bool.eq_false_iff.mpr (fun e => h (Nat.eq_of_beq_eq_true e))
  simp [us, ua, this]
theorem upd_s (f : Nat → Int32) (k : Nat) (x : Int32) : upd f k x k = x := pk_us
theorem upd_o (f : Nat → Int32) {k j : Nat} (x : Int32) (h : j ≠ k) : upd f k x j = f j := pk_un h
theorem gd_t {α : Type} {b : Bool} (h : b = true) (a : Option α) : gd b a = a := by rw [h]; rfl
theorem bd_s {α β : Type} (a : α) (k : α → Option β) : bd (some a) k = k a := rfl
theorem bx_l {ρ σ τ : Type} (r : ρ) (s : σ) (ke : String → σ → Option τ) (k : ρ → σ → Option τ) : bx (some (.inl r, s)) ke k = k r s := rfl
theorem bx_r {ρ σ τ : Type} (E : String) (s : σ) (ke : String → σ → Option τ) (k : ρ → σ → Option τ) : bx (some (.inr E, s)) ke k = ke E s := rfl
theorem bz_l {ρ τ : Type} (r : ρ) (ke : String → Option τ) (k : ρ → Option τ) : bz (some (.inl r)) ke k = k r := rfl
theorem bz_r {ρ τ : Type} (E : String) (ke : String → Option τ) (k : ρ → Option τ) : bz (some (.inr E)) ke k = ke E := rfl
theorem bl_l {σ τ υ : Type} (s : σ) (kr : τ → Option υ) (k : σ → Option υ) : bl (some (.inl s)) kr k = k s := rfl
theorem bl_r {σ τ υ : Type} (t : τ) (kr : τ → Option υ) (k : σ → Option υ) : bl (some (.inr t)) kr k = kr t := rfl
theorem lt_e {α β : Type} (e : α) (k : α → β) : lt e k = k e := rfl
/-! ===== a new relation ===== -/
def addA (A : Ab) (r t : Nat) : Ab := (aN A + 1, (fun i => if i = aN A then r else aR A i), (fun i => if i = aN A then t else aT A i), aV A, aC A, aQ A, aW A)
theorem okA_add {A : Ab} (h : okA A) {r t : Nat} (hn : aN A < 8) (h1 : 1 ≤ r) (h2 : r ≤ 4) (ht : t < 2 ^ (2 ^ r)) : okA (addA A r t) := by
  obtain ⟨a1, a2, a3, a4, a5, a6⟩ := h
  refine ⟨hn, fun i hi => ?_, a3, a4, a5, fun c hc => ?_⟩
  · by_cases e : i = aN A
    · simp only [addA, aR, aT, e, if_true]
      exact ⟨h1, h2, ht⟩
    · have hi2 : i < aN A := by have h9 : i < aN A + 1 := hi; omega
      simp only [addA, aR, aT, e, if_false]
      exact a2 i hi2
  · obtain ⟨q1, q2⟩ := a6 c hc
    have e : aQ A c ≠ aN A := by omega
    refine ⟨by simp only [addA, aN, aQ]; exact Nat.lt_succ_of_lt q1, fun p hp => q2 p ?_⟩
    simp only [addA, aR, aQ] at hp
    rw [if_neg e] at hp
    exact hp
def avX (v : St) (n r t : Nat) : St := us (ua (ua v 1 (upd (v 1) n (nI r))) 2 (upd (v 2) n (nI t))) 0 (nI (n + 1))
def amX (m : St) (n r t : Nat) : St := us (ua (ua (us m 0 0) 1 (upd (m 1) n (nI r))) 2 (upd (m 2) n (nI t))) 3 (nI (n + 1))
theorem RV_add {v : St} {A : Ab} (h : okA A) (hv : RV v A) (r t : Nat) : RV (avX v (aN A) r t) (addA A r t) := by
  obtain ⟨b1, b2, b3, b4, b5⟩ := hv
  refine ⟨rfl, fun i hi => ?_, b3, b4, fun c hc => ?_⟩
  · show upd (v 1) (aN A) (nI r) i = _ ∧ upd (v 2) (aN A) (nI t) i = _
    by_cases e : i = aN A
    · subst e
      simp only [upd_s, addA, aR, aT, if_true]
      exact ⟨trivial, trivial⟩
    · have hi2 : i < aN A := by have h9 : i < aN A + 1 := hi; omega
      rw [upd_o _ _ e, upd_o _ _ e]
      simp only [addA, aR, aT, e, if_false]
      exact b2 i hi2
  · obtain ⟨q1, k, q2, q3, q4⟩ := b5 c hc
    have e : aQ A c ≠ aN A := by have := (h.2.2.2.2.2 c hc).1; omega
    refine ⟨q1, k, q2, q3, fun p hp => q4 p ?_⟩
    simp only [addA, aR, aQ] at hp
    rw [if_neg e] at hp
    exact hp
theorem RM_add {m : St} {A : Ab} (h : okA A) (hm : RM m A) (r t : Nat) : RM (amX m (aN A) r t) (addA A r t) := by
  obtain ⟨b1, b2, b3, b4, b5⟩ := hm
  refine ⟨rfl, fun i hi => ?_, b3, b4, fun c hc => ?_⟩
  · show upd (m 1) (aN A) (nI r) i = _ ∧ upd (m 2) (aN A) (nI t) i = _
    by_cases e : i = aN A
    · subst e
      simp only [upd_s, addA, aR, aT, if_true]
      exact ⟨trivial, trivial⟩
    · have hi2 : i < aN A := by have h9 : i < aN A + 1 := hi; omega
      rw [upd_o _ _ e, upd_o _ _ e]
      simp only [addA, aR, aT, e, if_false]
      exact b2 i hi2
  · obtain ⟨q1, q4⟩ := b5 c hc
    have e : aQ A c ≠ aN A := by have := (h.2.2.2.2.2 c hc).1; omega
    refine ⟨q1, fun p hp => q4 p ?_⟩
    simp only [addA, aR, aQ] at hp
    rw [if_neg e] at hp
    exact hp
theorem room_full {u v w : St} {A : Ab} (hv : RV v A) (hn : aN A = 8) : f_X1_requireRoomForRelation u v w = some (.inr eIS) := by
  unfold f_X1_requireRoomForRelation
  rw [hv.1, hn]
  rfl
theorem room_left {u v w : St} {A : Ab} (hv : RV v A) (hn : aN A < 8) : f_X1_requireRoomForRelation u v w = some (.inl ()) := by
  unfold f_X1_requireRoomForRelation
  rw [hv.1, if_pos]
  exact (n_lt (by omega) (by decide)).mpr hn
theorem addNew_full {u v w : St} {A : Ab} (hv : RV v A) (hn : aN A = 8) (p q : Int32) : f_X1_addNew u v w p q = some (.inr eIS, v) := by
  unfold f_X1_addNew
  rw [room_full hv hn, bz_r]
theorem addNew_ok {u v w : St} {A : Ab} (hv : RV v A) (hn : aN A < 8) (r t : Nat) : f_X1_addNew u v w (nI r) (nI t) = some (.inl (nI (aN A)), avX v (aN A) r t) := by
  unfold f_X1_addNew
  rw [room_left hv hn, bz_l, lt_e, hv.1, gd_t (inb_t hn (by decide)), gd_t (inb_t hn (by decide)), n_ix (by omega)]
  show some (Sum.inl (nI (aN A)), us (ua (ua v 1 (upd (v 1) (aN A) (nI r))) 2 (upd (v 2) (aN A) (nI t))) 0 (v 0 0 + 1)) = _
  rw [hv.1, nI_1]
  rfl
theorem adds_ok {m : St} {A : Ab} (hm : RM m A) (hn : aN A < 8) (r t : Nat) : f_X2_adds m (nI r) (nI t) = some (nI (aN A), amX m (aN A) r t) := by
  unfold f_X2_adds
  show gd (inb (m 0 3) 8) (gd (inb (m 0 3) 8) (some ((m 0 3 + 1) - 1, us (ua (ua (us m 0 0) 1 (upd (m 1) (m 0 3).toNatClampNeg (nI r))) 2 (upd (m 2) (m 0 3).toNatClampNeg (nI t))) 3 (m 0 3 + 1)))) = _
  rw [hm.1, gd_t (inb_t hn (by decide)), gd_t (inb_t hn (by decide)), n_ix (by omega), nI_1, nI_pred]
  rfl
