/-! ===== the text that is given ===== -/
def JU (cs : List String) (v w : St) (X : Option ((Int32 ⊕ String) × St)) (Y : Option (Int32 × St)) : Prop := ∃ z u' b m', X = some (z, u') ∧ Y = some (b, m') ∧ Out cs z b (m' 0 0) ∧ Inv u' v w m'
theorem JU_fail {cs : List String} {u v w m : St} {X : Option ((Int32 ⊕ String) × St)} {Y : Option (Int32 × St)} (hI : Inv u v w m) (i : Nat) (hi : i < cs.length) {b : Int32} (hX : X = some (.inr (cs.getD i ""), u)) (hY : Y = some (b, us m 0 (nI (i + 1)))) : JU cs v w X Y :=
  ⟨_, _, _, _, hX, hY, Or.inr ⟨i, hi, rfl, us_s _ _ _⟩, hI⟩
theorem JU_ok {cs : List String} {u' v w m' : St} {X : Option ((Int32 ⊕ String) × St)} {Y : Option (Int32 × St)} {b : Int32} (hX : X = some (.inl b, u')) (hY : Y = some (b, m')) (h0 : m' 0 0 = 0) (hI : Inv u' v w m') : JU cs v w X Y :=
  ⟨_, _, _, _, hX, hY, Or.inl ⟨rfl, h0⟩, hI⟩
theorem append_j {u v w m : St} (hI : Inv u v w m) (p : Int32) : JU [eIA, eIS] v w (f_X1_append u v w p) (f_X2_append m p) := by
  obtain ⟨hA, hS, ⟨n, hn, t1, t2, t3⟩, hR⟩ := hI
  have hI : Inv u v w m := ⟨hA, hS, ⟨n, hn, t1, t2, t3⟩, hR⟩
  have hb := btw (lo := 32) (hi := 126) (by decide) (by decide) p
  rw [show nI 32 = 32 from rfl, show nI 126 = 126 from rfl] at hb
  unfold f_X1_append f_X2_append
  rcases hb with ⟨h1, h2⟩ | ⟨a, a1, a2, rfl, h1, h2, h3⟩
  · rcases h1 with h1 | ⟨h1, h3⟩
    · simp only [h1, h2, bd_s, if_true]
      exact JU_fail hI 0 (by decide) rfl rfl
    · simp only [h1, h2, h3, bd_s, if_true, if_false]
      exact JU_fail hI 0 (by decide) rfl rfl
  · rw [if_neg h1, if_pos h2, h3, bd_s, if_neg e10]
    generalize vp_nar .char (nI a) = y
    by_cases hf : n = 60
    · rw [t1, t2, hf]
      exact JU_fail hI 1 (by decide) rfl rfl
    · have q1 : nI n < 60 := (n_lt (by omega) (by decide : 60 < 2147483648)).mpr (by omega)
      have q2 : ¬ nI n = 60 := fun e => hf (n_inj (by omega) (by decide : 60 < 4294967296) e)
      have ib := inb_t (show n < 60 by omega) (by decide)
      show JU _ v w (if u 0 4 < 60 then gd (inb (u 0 4) 60) (some (.inl (u 0 4 + 1), us (ua u 3 (upd (u 3) (u 0 4).toNatClampNeg y)) 4 (u 0 4 + 1))) else some (.inr eIS, u)) (if m 0 10 = 60 then some (0, us m 0 2) else gd (inb (m 0 10) 60) (some (m 0 10 + 1, us (ua (us m 0 0) 8 (upd (m 8) (m 0 10).toNatClampNeg y)) 10 (m 0 10 + 1))))
      rw [t1, t2, if_pos q1, if_neg q2, gd_t ib, gd_t ib, n_ix (by omega), nI_1]
      refine JU_ok rfl rfl rfl ⟨hA, hS, ⟨n + 1, by omega, rfl, rfl, fun j hj => ?_⟩, hR⟩
      show upd (u 3) n y j = upd (m 8) n y j
      by_cases e : j = n
      · rw [e, upd_s, upd_s]
      · rw [upd_o _ _ e, upd_o _ _ e]
        exact t3 j (by omega)
/-! ===== a new constraint ===== -/
theorem n_shlG (a : Nat) {k : Nat} (hk : k < 32) : jshl (nI a) (nI k) = nI (a * 2 ^ k) := by
  have h : (jshl (nI a) (nI k)).toBitVec = (nI (a * 2 ^ k)).toBitVec := by
    show (nI a <<< (nI k &&& 31)).toBitVec = _
    rw [Int32.toBitVec_shiftLeft]
    apply BitVec.eq_of_toNat_eq
    rw [BitVec.shiftLeft_eq', BitVec.toNat_shiftLeft, n_sl k hk]
    show (BitVec.ofNat 32 a).toNat <<< k % 2 ^ 32 = (BitVec.ofNat 32 (a * 2 ^ k)).toNat
    rw [BitVec.toNat_ofNat, BitVec.toNat_ofNat, Nat.shiftLeft_eq, Nat.mul_mod, Nat.mod_mod, ← Nat.mul_mod]
  revert h
  generalize jshl (nI a) (nI k) = x
  generalize nI (a * 2 ^ k) = y
  intro h
  cases x; cases y; rename_i x y; cases x; cases y; cases h; rfl
theorem varc {u v w m : St} {A : Ab} (oA : okA A) (hv : RV v A) (hm : RM m A) (p : Int32) : (f_X1_requireVariable u v w p = some (.inr eIO) ∧ f_X2_isVariable m p = some 0) ∨ ∃ r, r < aV A ∧ p = nI r ∧ f_X1_requireVariable u v w p = some (.inl ()) ∧ f_X2_isVariable m p = some 1 := by
  unfold f_X1_requireVariable f_X2_isVariable
  have hN : aV A < 2147483648 := Nat.lt_of_le_of_lt oA.2.2.2.1 (by decide)
  rcases nn p with h | ⟨a, ha, rfl⟩
  · rw [if_pos h, if_pos h]
    exact Or.inl ⟨rfl, rfl⟩
  · rw [if_neg (n_pos ha), if_neg (n_pos ha), hv.2.2.1, hm.2.2.1]
    by_cases h1 : a < aV A
    · rw [if_pos ((n_lt ha hN).mpr h1), if_neg (fun e => by have := (n_le hN ha).mp e; omega)]
      exact Or.inr ⟨a, h1, rfl, rfl, rfl⟩
    · rw [if_neg (fun e => h1 ((n_lt ha hN).mp e)), if_pos ((n_le hN ha).mpr (by omega))]
      exact Or.inl ⟨rfl, rfl⟩
theorem or_add {a b n : Nat} (h : a < 2 ^ n) : a ||| b * 2 ^ n = a + b * 2 ^ n := by
  rw [Nat.or_comm, Nat.mul_comm, ← Nat.two_pow_add_eq_or_of_lt h, Nat.add_comm]
/-- the variables of a constraint of arity r, checked and packed -/
theorem varsc {u v w m : St} {A : Ab} (oA : okA A) (hv : RV v A) (hm : RM m A) {r : Nat} (r1 : 1 ≤ r) (r4 : r ≤ 4) (p1 p2 p3 p4 : Int32) :
    (f_X1_requireVariables u v w (nI r) p1 p2 p3 p4 = some (.inr eIO) ∧ f_X2_areVariables m (nI r) p1 p2 p3 p4 = some 0) ∨
    (f_X1_requireVariables u v w (nI r) p1 p2 p3 p4 = some (.inl ()) ∧ f_X2_areVariables m (nI r) p1 p2 p3 p4 = some 1 ∧ ∃ k, f_X1_packedVariables (nI r) p1 p2 p3 p4 = some (nI k) ∧ k < 2 ^ (4 * r) ∧ (∀ p, p < r → k / 2 ^ (4 * p) % 16 < aV A) ∧ p1 = nI (k % 16) ∧ (2 ≤ r → p2 = nI (k / 16 % 16)) ∧ (3 ≤ r → p3 = nI (k / 256 % 16)) ∧ (4 ≤ r → p4 = nI (k / 4096 % 16))) := by
  have hV := oA.2.2.2.1
  have pk : ∀ a b c d : Nat, f_X1_packedVariables (nI r) (nI a) (nI b) (nI c) (nI d) = some (nI ((((a ||| b * 2 ^ 4) ||| c * 2 ^ 8) ||| d * 2 ^ 12) % 2 ^ (4 * r))) := by
    intro a b c d
    unfold f_X1_packedVariables
    have em : ∀ r, r < 5 → jshl 1 (4 * nI r) - 1 = nI (2 ^ (4 * r) - 1) := by decide +kernel
    rw [lt_e, em r (by omega), show (4 : Int32) = nI 4 from rfl, show (8 : Int32) = nI 8 from rfl, show (12 : Int32) = nI 12 from rfl, n_shlG b (by decide), n_shlG c (by decide), n_shlG d (by decide), n_or, n_or, n_or, n_and, Nat.and_two_pow_sub_one_eq_mod]
  unfold f_X1_requireVariables f_X2_areVariables
  rcases varc (u := u) (w := w) oA hv hm p1 with ⟨h1, h2⟩ | ⟨a, ha, rfl, h1, h2⟩
  · rw [h1, h2]
    exact Or.inl ⟨rfl, rfl⟩
  rw [h1, h2, bz_l, bd_s, if_neg e10]
  have hr : r = 1 ∨ r = 2 ∨ r = 3 ∨ r = 4 := by omega
  have h1' := n_of p2
  have h2' := n_of p3
  have h3' := n_of p4
  rcases hr with rfl | rfl | rfl | rfl
  · refine Or.inr ⟨rfl, rfl, a, ?_, by omega, ?_, ?_, fun h => absurd h (by decide), fun h => absurd h (by decide), fun h => absurd h (by decide)⟩
    · rw [h1', h2', h3', pk, Nat.or_mod_two_pow, Nat.or_mod_two_pow, Nat.or_mod_two_pow]
      congr 2
      rw [show p2.toBitVec.toNat * 2 ^ 4 % 2 ^ (4 * 1) = 0 by omega, show p3.toBitVec.toNat * 2 ^ 8 % 2 ^ (4 * 1) = 0 by omega, show p4.toBitVec.toNat * 2 ^ 12 % 2 ^ (4 * 1) = 0 by omega, Nat.or_zero, Nat.or_zero, Nat.or_zero]
      omega
    · intro p hp
      have e : p = 0 := by omega
      subst e
      omega
    · rw [Nat.mod_eq_of_lt (by omega)]
  · rcases varc (u := u) (w := w) oA hv hm p2 with ⟨h3, h4⟩ | ⟨b, hb, rfl, h3, h4⟩
    · rw [h3, h4]
      exact Or.inl ⟨rfl, rfl⟩
    rw [h3, h4]
    refine Or.inr ⟨rfl, rfl, a + b * 2 ^ 4, ?_, by omega, ?_, by congr 1; omega, fun _ => by congr 1; omega, fun h => absurd h (by decide), fun h => absurd h (by decide)⟩
    · rw [h2', h3', pk, Nat.or_mod_two_pow, Nat.or_mod_two_pow, or_add (by omega)]
      congr 2
      rw [show p3.toBitVec.toNat * 2 ^ 8 % 2 ^ (4 * 2) = 0 by omega, show p4.toBitVec.toNat * 2 ^ 12 % 2 ^ (4 * 2) = 0 by omega, Nat.or_zero, Nat.or_zero]
      omega
    · intro p hp
      have e : p = 0 ∨ p = 1 := by omega
      rcases e with rfl | rfl <;> omega
  · rcases varc (u := u) (w := w) oA hv hm p2 with ⟨h3, h4⟩ | ⟨b, hb, rfl, h3, h4⟩
    · rw [h3, h4]
      exact Or.inl ⟨rfl, rfl⟩
    rcases varc (u := u) (w := w) oA hv hm p3 with ⟨h5, h6⟩ | ⟨c, hc, rfl, h5, h6⟩
    · rw [h3, h4, h5, h6]
      exact Or.inl ⟨rfl, rfl⟩
    rw [h3, h4, h5, h6]
    refine Or.inr ⟨rfl, rfl, a + b * 2 ^ 4 + c * 2 ^ 8, ?_, by omega, ?_, by congr 1; omega, fun _ => by congr 1; omega, fun _ => by congr 1; omega, fun h => absurd h (by decide)⟩
    · have o1 : a ||| b * 2 ^ 4 = a + b * 2 ^ 4 := or_add (by omega)
      have o2 : (a + b * 2 ^ 4) ||| c * 2 ^ 8 = a + b * 2 ^ 4 + c * 2 ^ 8 := or_add (by omega)
      rw [h3', pk, Nat.or_mod_two_pow, o1, o2]
      congr 2
      rw [show p4.toBitVec.toNat * 2 ^ 12 % 2 ^ (4 * 3) = 0 by omega, Nat.or_zero]
      omega
    · intro p hp
      have e : p = 0 ∨ p = 1 ∨ p = 2 := by omega
      rcases e with rfl | rfl | rfl <;> omega
  · rcases varc (u := u) (w := w) oA hv hm p2 with ⟨h3, h4⟩ | ⟨b, hb, rfl, h3, h4⟩
    · rw [h3, h4]
      exact Or.inl ⟨rfl, rfl⟩
    rcases varc (u := u) (w := w) oA hv hm p3 with ⟨h5, h6⟩ | ⟨c, hc, rfl, h5, h6⟩
    · rw [h3, h4, h5, h6]
      exact Or.inl ⟨rfl, rfl⟩
    rcases varc (u := u) (w := w) oA hv hm p4 with ⟨h7, h8⟩ | ⟨d, hd, rfl, h7, h8⟩
    · rw [h3, h4, h5, h6, h7, h8]
      exact Or.inl ⟨rfl, rfl⟩
    rw [h3, h4, h5, h6, h7, h8]
    refine Or.inr ⟨rfl, rfl, a + b * 2 ^ 4 + c * 2 ^ 8 + d * 2 ^ 12, ?_, by omega, ?_, by congr 1; omega, fun _ => by congr 1; omega, fun _ => by congr 1; omega, fun _ => by congr 1; omega⟩
    · have o1 : a ||| b * 2 ^ 4 = a + b * 2 ^ 4 := or_add (by omega)
      have o2 : (a + b * 2 ^ 4) ||| c * 2 ^ 8 = a + b * 2 ^ 4 + c * 2 ^ 8 := or_add (by omega)
      have o3 : (a + b * 2 ^ 4 + c * 2 ^ 8) ||| d * 2 ^ 12 = a + b * 2 ^ 4 + c * 2 ^ 8 + d * 2 ^ 12 := or_add (by omega)
      rw [pk, o1, o2, o3]
      congr 2
      omega
    · intro p hp
      have e : p = 0 ∨ p = 1 ∨ p = 2 ∨ p = 3 := by omega
      rcases e with rfl | rfl | rfl | rfl <;> omega
def addC (A : Ab) (q k : Nat) : Ab := (aN A, aR A, aT A, aV A, aC A + 1, (fun c => if c = aC A then q else aQ A c), (fun c p => if c = aC A then k / 2 ^ (4 * p) % 16 else aW A c p))
def avC (v : St) (n : Nat) (p k : Int32) : St := us (ua (ua v 5 (upd (v 5) n p)) 6 (upd (v 6) n k)) 4 (nI (n + 1))
def amC (m : St) (n : Nat) (p p1 p2 p3 p4 : Int32) : St := us (ua (ua (ua (ua (ua (us m 0 0) 4 (upd (m 4) n p)) 5 (upd (m 5) (4 * n) p1)) 5 (upd (upd (m 5) (4 * n) p1) (4 * n + 1) p2)) 5 (upd (upd (upd (m 5) (4 * n) p1) (4 * n + 1) p2) (4 * n + 2) p3)) 5 (upd (upd (upd (upd (m 5) (4 * n) p1) (4 * n + 1) p2) (4 * n + 2) p3) (4 * n + 3) p4)) 7 (nI (n + 1))
theorem okA_addC {A : Ab} (h : okA A) {q k : Nat} (hc : aC A < 20) (hq : q < aN A) (hk : ∀ p, p < aR A q → k / 2 ^ (4 * p) % 16 < aV A) : okA (addC A q k) := by
  obtain ⟨a1, a2, a3, a4, a5, a6⟩ := h
  refine ⟨a1, a2, a3, a4, hc, fun c hc2 => ?_⟩
  show (if c = aC A then q else aQ A c) < aN A ∧ ∀ p, p < aR A (if c = aC A then q else aQ A c) → (if c = aC A then k / 2 ^ (4 * p) % 16 else aW A c p) < aV A
  by_cases e : c = aC A
  · simp only [e, if_true]
    exact ⟨hq, hk⟩
  · simp only [e, if_false]
    have h9 : c < aC A + 1 := hc2
    exact a6 c (by omega)
theorem RV_addC {v : St} {A : Ab} (hv : RV v A) {q k : Nat} (hk : k < 65536) : RV (avC v (aC A) (nI q) (nI k)) (addC A q k) := by
  obtain ⟨b1, b2, b3, b4, b5⟩ := hv
  refine ⟨b1, b2, b3, rfl, fun c hc2 => ?_⟩
  show upd (v 5) (aC A) (nI q) c = nI (if c = aC A then q else aQ A c) ∧ ∃ x, upd (v 6) (aC A) (nI k) c = nI x ∧ x < 65536 ∧ ∀ p, p < aR A (if c = aC A then q else aQ A c) → x / 2 ^ (4 * p) % 16 = (if c = aC A then k / 2 ^ (4 * p) % 16 else aW A c p)
  by_cases e : c = aC A
  · subst e
    simp only [if_true, upd_s]
    exact ⟨trivial, k, rfl, hk, fun _ _ => rfl⟩
  · have h9 : c < aC A + 1 := hc2
    rw [upd_o _ _ e, upd_o _ _ e]
    simp only [e, if_false]
    exact b5 c (by omega)
theorem RM_addC {m : St} {A : Ab} (oA : okA A) (hm : RM m A) {q k : Nat} (hq : q < aN A) {p1 p2 p3 p4 : Int32} (g1 : p1 = nI (k % 16)) (g2 : 2 ≤ aR A q → p2 = nI (k / 16 % 16)) (g3 : 3 ≤ aR A q → p3 = nI (k / 256 % 16)) (g4 : 4 ≤ aR A q → p4 = nI (k / 4096 % 16)) : RM (amC m (aC A) (nI q) p1 p2 p3 p4) (addC A q k) := by
  obtain ⟨b1, b2, b3, b4, b5⟩ := hm
  refine ⟨b1, b2, b3, rfl, fun c hc2 => ?_⟩
  show upd (m 4) (aC A) (nI q) c = nI (if c = aC A then q else aQ A c) ∧ ∀ p, p < aR A (if c = aC A then q else aQ A c) → upd (upd (upd (upd (m 5) (4 * aC A) p1) (4 * aC A + 1) p2) (4 * aC A + 2) p3) (4 * aC A + 3) p4 (4 * c + p) = nI (if c = aC A then k / 2 ^ (4 * p) % 16 else aW A c p)
  by_cases e : c = aC A
  · subst e
    simp only [if_true, upd_s]
    refine ⟨trivial, fun p hp => ?_⟩
    have h4 := (oA.2.1 q hq).2.1
    have e : p = 0 ∨ p = 1 ∨ p = 2 ∨ p = 3 := by omega
    rcases e with rfl | rfl | rfl | rfl
    · rw [upd_o _ _ (by omega), upd_o _ _ (by omega), upd_o _ _ (by omega), Nat.add_zero, upd_s, g1]
      congr 1
      omega
    · rw [upd_o _ _ (by omega), upd_o _ _ (by omega), upd_s, g2 (by omega)]
    · rw [upd_o _ _ (by omega), upd_s, g3 (by omega)]
    · rw [upd_s, g4 (by omega)]
  · have h9 : c < aC A + 1 := hc2
    rw [upd_o _ _ e]
    simp only [e, if_false]
    obtain ⟨q1, q4⟩ := b5 c (by omega)
    refine ⟨q1, fun p hp => ?_⟩
    have h4 := (oA.2.1 _ (oA.2.2.2.2.2 c (by omega)).1).2.1
    rw [upd_o _ _ (by omega), upd_o _ _ (by omega), upd_o _ _ (by omega), upd_o _ _ (by omega)]
    exact q4 p hp
