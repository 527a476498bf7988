/-! ===== removeRedundant: the reference ===== -/
theorem RM_off {m : St} {A : Ab} {f : Nat → Bool} {c K : Nat} {F G : Nat → Int32} (oA : okA A) (hm : RM (MK m (nI (fb_ct f (aC A))) F G) (flt A f)) (hc : c < aC A) (hf : ∀ d, d ≤ c → f d = true) (hK : K = fb_ct (off f c) (aC A)) :
    RM (MK m (nI K) (fb_put F (fun x => F (c + 1 + x)) c (K - c)) (fb_put G (fun x => G (4 * c + 4 + x)) (4 * c) (4 * (K - c)))) (flt A (off f c)) := by
  have h1 := off_ct hc (hf c (Nat.le_refl _))
  obtain ⟨b1, b2, b3, b4, b5⟩ := hm
  refine ⟨b1, b2, b3, by rw [hK]; rfl, fun j hj => ?_⟩
  have hj' : j < fb_ct (off f c) (aC A) := hj
  have e := off_ek hc hf hj'
  have hjj : (if j < c then j else j + 1) < fb_ct f (aC A) := by split <;> omega
  obtain ⟨q1, q2⟩ := b5 _ hjj
  have q3 := (okA_flt oA f).2.2.2.2.2 _ hjj
  have q4 := (oA.2.1 _ q3.1).2.1
  have q1' : F (if j < c then j else j + 1) = nI (aQ A (ek f (aC A) (if j < c then j else j + 1))) := q1
  have q2' : ∀ p, p < aR A (aQ A (ek f (aC A) (if j < c then j else j + 1))) → G (4 * (if j < c then j else j + 1) + p) = nI (aW A (ek f (aC A) (if j < c then j else j + 1)) p) := q2
  have q4' : aR A (aQ A (ek f (aC A) (if j < c then j else j + 1))) ≤ 4 := q4
  show fb_put F (fun x => F (c + 1 + x)) c (K - c) j = nI (aQ A (ek (off f c) (aC A) j)) ∧ ∀ p, p < aR A (aQ A (ek (off f c) (aC A) j)) → fb_put G (fun x => G (4 * c + 4 + x)) (4 * c) (4 * (K - c)) (4 * j + p) = nI (aW A (ek (off f c) (aC A) j) p)
  rw [e]
  refine ⟨?_, fun p hp => ?_⟩
  · rw [← q1']
    by_cases h : j < c
    · rw [fb_put_out (by omega), if_pos h]
    · rw [fb_put_in (by omega) (by omega), if_neg h]
      show F (c + 1 + (j - c)) = _
      congr 1
      omega
  · rw [← q2' p hp]
    by_cases h : j < c
    · rw [fb_put_out (by omega), if_pos h]
    · rw [fb_put_in (by omega) (by omega), if_neg h]
      show G (4 * c + 4 + (4 * j + p - 4 * c)) = _
      congr 1
      omega
noncomputable def rmR (A : Ab) : Nat → Nat
  | 0 => 0
  | i + 1 => @ite Nat (Red A (aC A - 1 - i) (tb (rmR A i ||| 2 ^ (aC A - 1 - i)))) (Classical.propDecidable _) (rmR A i ||| 2 ^ (aC A - 1 - i)) (rmR A i)
theorem rmR_t {A : Ab} {i : Nat} (h : Red A (aC A - 1 - i) (tb (rmR A i ||| 2 ^ (aC A - 1 - i)))) : rmR A (i + 1) = rmR A i ||| 2 ^ (aC A - 1 - i) := @if_pos _ (Classical.propDecidable _) h _ _ _
theorem rmR_f {A : Ab} {i : Nat} (h : ¬ Red A (aC A - 1 - i) (tb (rmR A i ||| 2 ^ (aC A - 1 - i)))) : rmR A (i + 1) = rmR A i := @if_neg _ (Classical.propDecidable _) h _ _ _
theorem rmR_b {A : Ab} : ∀ i, i ≤ aC A → ∀ d, tb (rmR A i) d = true → aC A - i ≤ d ∧ d < aC A
  | 0, _, d, h => tb0_n h
  | i + 1, hi, d, h => by
    by_cases g : Red A (aC A - 1 - i) (tb (rmR A i ||| 2 ^ (aC A - 1 - i)))
    · rw [rmR_t g, tb_or, Bool.or_eq_true, tb_pow, decide_eq_true_iff] at h
      rcases h with h | h
      · have := rmR_b i (by omega) d h
        omega
      · omega
    · rw [rmR_f g] at h
      have := rmR_b i (by omega) d h
      omega
theorem rmR_lt {A : Ab} (oA : okA A) {i : Nat} (hi : i ≤ aC A) : rmR A i < 1048576 := by
  have h20 := oA.2.2.2.2.1
  refine tb_bound (n := 20) (fun k hk => ?_)
  cases hb : tb (rmR A i) k
  · rfl
  · have := rmR_b i hi k hb
    omega
def nt (R : Nat) : Nat → Bool := fun d => !tb R d
theorem nt_low {A : Ab} {i d : Nat} (hi : i < aC A) (hd : d ≤ aC A - 1 - i) : nt (rmR A i) d = true := by
  unfold nt
  cases hb : tb (rmR A i) d
  · rfl
  · have := rmR_b i (by omega) d hb
    omega
theorem nt_off (R c : Nat) : off (nt R) c = nt (R ||| 2 ^ c) := by
  funext d
  unfold off nt
  rw [tb_or, tb_pow]
  by_cases e : d = c
  · rw [if_pos e, decide_eq_true e.symm, Bool.or_true]
    rfl
  · rw [if_neg e, decide_eq_false (fun h => e h.symm), Bool.or_false]
theorem nt_lo (R c : Nat) : (fun d => !nt R d || decide (d = c)) = tb (R ||| 2 ^ c) := by
  funext d
  unfold nt
  rw [tb_or, tb_pow]
  by_cases e : d = c
  · rw [decide_eq_true e, decide_eq_true e.symm, Bool.or_true, Bool.or_true]
  · rw [decide_eq_false e, decide_eq_false (fun h => e h.symm), Bool.or_false, Bool.or_false, Bool.not_not]
theorem ct_bit {R c : Nat} (hc : c < 32) (h : tb R c = false) : fb_ct (tb (R ||| 2 ^ c)) 32 = fb_ct (tb R) 32 + 1 := by
  have h1 := fb_ct_upd (tb R) true hc
  rw [h] at h1
  have h2 : (fun k => if k = c then true else tb R k) = tb (R ||| 2 ^ c) := by
    funext d
    rw [tb_or, tb_pow]
    by_cases e : d = c
    · rw [if_pos e, decide_eq_true e.symm, Bool.or_true]
    · rw [if_neg e, decide_eq_false (fun h => e h.symm), Bool.or_false]
  rw [h2] at h1
  exact h1
def dn (n i : Nat) : Int32 := if i < n then nI (n - 1 - i) else (-1)
theorem dn_in {n i : Nat} (h : i < n) : dn n i = nI (n - 1 - i) := if_pos h
theorem dn_out {n i : Nat} (h : ¬ i < n) : dn n i = (-1) := if_neg h
theorem dn_s {n i : Nat} (h : i < n) : nI (n - 1 - i) + (-1) = dn n (i + 1) := by
  by_cases g : i + 1 < n
  · rw [dn_in g, n_pr (by omega), show n - 1 - i - 1 = n - 1 - (i + 1) by omega]
  · rw [dn_out g, show n - 1 - i = 0 by omega]
    decide
theorem dn_0 (n : Nat) : nI n - 1 = dn n 0 := by
  by_cases g : 0 < n
  · rw [dn_in g, show (1 : Int32) = nI 1 from rfl, n_sub (by omega)]
    rfl
  · rw [dn_out g, show n = 0 by omega]
    decide
theorem rmr2 {m : St} {A : Ab} (oA : okA A) (hm : RM m A) : ∃ F G, RM (MK m (nI (fb_ct (nt (rmR A (aC A))) (aC A))) F G) (flt A (nt (rmR A (aC A)))) ∧ loopN f_X2_removeRedundant_s14 FU (0, nI (aC A) - 1, m) = some (.inl (nI (fb_ct (tb (rmR A (aC A))) 32), (-1), MK m (nI (fb_ct (nt (rmR A (aC A))) (aC A))) F G)) := by
  have h20 := oA.2.2.2.2.1
  have hn0 : ∀ d, nt 0 d = true := fun d => by unfold nt; rw [tb_0]; rfl
  have hc0 : ∀ j, fb_ct (nt 0) j = j := fun j => fb_ct_all.mpr (fun k _ => hn0 k)
  have h := loop_at (step := f_X2_removeRedundant_s14) (fun i s => ∃ F G, s = (nI (fb_ct (tb (rmR A i)) 32), dn (aC A) i, MK m (nI (fb_ct (nt (rmR A i)) (aC A))) F G) ∧ RM (MK m (nI (fb_ct (nt (rmR A i)) (aC A))) F G) (flt A (nt (rmR A i)))) (fun r => ∃ F G, RM (MK m (nI (fb_ct (nt (rmR A (aC A))) (aC A))) F G) (flt A (nt (rmR A (aC A)))) ∧ r = .inl (nI (fb_ct (tb (rmR A (aC A))) 32), (-1), MK m (nI (fb_ct (nt (rmR A (aC A))) (aC A))) F G)) (aC A) (s := (0, nI (aC A) - 1, m)) (by omega) (by
    refine ⟨m 4, m 5, ?_, ?_⟩
    · have e1 : fb_ct (tb (rmR A 0)) 32 = 0 := fb_ct_zero.mpr (fun k _ => tb_0 k)
      have e2 : fb_ct (nt (rmR A 0)) (aC A) = aC A := hc0 _
      rw [e1, e2, dn_0, ← hm.2.2.2.1, ← MK_id]
      rfl
    · have e2 : fb_ct (nt (rmR A 0)) (aC A) = aC A := hc0 _
      rw [e2]
      obtain ⟨b1, b2, b3, b4, b5⟩ := hm
      refine ⟨b1, b2, b3, by show nI (aC A) = nI (fb_ct (nt (rmR A 0)) (aC A)); rw [e2], fun j hj => ?_⟩
      have hj' : j < fb_ct (nt (rmR A 0)) (aC A) := hj
      rw [e2] at hj'
      have e3 : ek (nt (rmR A 0)) (aC A) j = j := ek_e ⟨hj', hn0 j, hc0 j⟩
      show m 4 j = nI (aQ A (ek (nt (rmR A 0)) (aC A) j)) ∧ ∀ p, p < aR A (aQ A (ek (nt (rmR A 0)) (aC A) j)) → m 5 (4 * j + p) = nI (aW A (ek (nt (rmR A 0)) (aC A) j) p)
      rw [e3]
      exact b5 j hj') (by
    rintro i _ hi ⟨F, G, rfl, hR⟩
    unfold f_X2_removeRedundant_s14
    by_cases h : i < aC A
    · have hlow : ∀ d, d ≤ aC A - 1 - i → nt (rmR A i) d = true := fun d hd => nt_low h hd
      have hcn : aC A - 1 - i < aC A := by omega
      have hcc := ct_lo hlow (show aC A - 1 - i ≤ aC A - 1 - i + 1 by omega)
      have hlt := kth_lt hcn (hlow _ (Nat.le_refl _))
      have hrf := red_flt hcn hlow
      rw [nt_lo] at hrf
      have hid := idle_e (okA_flt oA (nt (rmR A i))) hR (c := aC A - 1 - i) (by show aC A - 1 - i < fb_ct (nt (rmR A i)) (aC A); omega)
      have q : ¬ nI (aC A - 1 - i) < 0 := n_pos (by omega)
      simp only [dn_in h, q, if_false]
      rw [dn_s h]
      rcases hid with ⟨g1, g2⟩ | ⟨g1, g2⟩
      · have g3 := rmR_t (hrf.mp g1)
        have hofc := off_ct hcn (hlow _ (Nat.le_refl _))
        have htb : tb (rmR A i) (aC A - 1 - i) = false := by
          have := hlow _ (Nat.le_refl (aC A - 1 - i))
          unfold nt at this
          cases hb : tb (rmR A i) (aC A - 1 - i)
          · rfl
          · rw [hb] at this
            cases this
        have hle := fb_ct_le (nt (rmR A i)) (aC A)
        rw [g2, bd_s, if_neg e10, MK_07, ← hofc, nI_pred, MK_us, s44 (c := aC A - 1 - i) (K := fb_ct (off (nt (rmR A i)) (aC A - 1 - i)) (aC A)) (by omega) (by omega), bl_l, nI_1]
        have hRM := RM_off oA hR hcn hlow rfl
        have hcb : fb_ct (tb (rmR A (i + 1))) 32 = fb_ct (tb (rmR A i)) 32 + 1 := by rw [g3, ct_bit (by omega) htb]
        rw [nt_off, ← g3] at hRM
        refine Or.inl ⟨h, _, rfl, _, _, ?_, hRM⟩
        rw [nt_off, ← g3, hcb]
      · have g3 := rmR_f (fun e => g1 (hrf.mpr e))
        rw [g2, bd_s, if_pos e00, g3]
        exact Or.inl ⟨h, _, rfl, F, G, rfl, hR⟩
    · have e2 : i = aC A := by omega
      subst e2
      have q : dn (aC A) (aC A) < 0 := by rw [dn_out (Nat.lt_irrefl _)]; decide
      rw [if_pos q]
      refine Or.inr ⟨_, rfl, F, G, hR, ?_⟩
      rw [dn_out (Nat.lt_irrefl _)])
  obtain ⟨r, h1, F, G, h2, rfl⟩ := h
  exact ⟨F, G, h2, h1⟩
