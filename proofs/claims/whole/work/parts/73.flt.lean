/-! ===== an instance without some of its constraints ===== -/
def ek (f : Nat → Bool) : Nat → Nat → Nat
  | 0, _ => 0
  | n + 1, j => if f n = true ∧ fb_ct f n = j then n else ek f n j
theorem ek_e {f : Nat → Bool} {j c : Nat} : ∀ {n : Nat}, Kth f n j c → ek f n j = c
  | 0, h => absurd h.1 (Nat.not_lt_zero _)
  | n + 1, h => by
    unfold ek
    by_cases g : f n = true ∧ fb_ct f n = j
    · rw [if_pos g]
      exact fb_ct_kth_one g.1 h.2.1 (g.2.trans h.2.2.symm)
    · rw [if_neg g]
      refine ek_e ⟨?_, h.2⟩
      have h1 := h.1
      by_cases e : c = n
      · subst e
        exact absurd h.2 g
      · omega
def flt (A : Ab) (f : Nat → Bool) : Ab := (aN A, aR A, aT A, aV A, fb_ct f (aC A), (fun j => aQ A (ek f (aC A) j)), (fun j => aW A (ek f (aC A) j)))
theorem flt_k {f : Nat → Bool} {n j : Nat} (hj : j < fb_ct f n) : ∃ d, Kth f n j d ∧ ek f n j = d := by
  obtain ⟨d, h1, h2, h3⟩ := fb_ct_kth hj
  exact ⟨d, ⟨h1, h2, h3⟩, ek_e ⟨h1, h2, h3⟩⟩
theorem okA_flt {A : Ab} (h : okA A) (f : Nat → Bool) : okA (flt A f) := by
  obtain ⟨a1, a2, a3, a4, a5, a6⟩ := h
  refine ⟨a1, a2, a3, a4, Nat.le_trans (fb_ct_le _ _) a5, fun j hj => ?_⟩
  obtain ⟨d, h1, h2⟩ := flt_k (show j < fb_ct f (aC A) from hj)
  have h3 := a6 d h1.1
  show aQ A (ek f (aC A) j) < aN A ∧ ∀ p, p < aR A (aQ A (ek f (aC A) j)) → aW A (ek f (aC A) j) p < aV A
  rw [h2]
  exact h3
theorem flt_sat (A : Ab) (f : Nat → Bool) (j s : Nat) : Sat (flt A f) j s = Sat A (ek f (aC A) j) s := rfl
theorem ct_lo {f : Nat → Bool} {c j : Nat} (hf : ∀ d, d ≤ c → f d = true) (hj : j ≤ c + 1) : fb_ct f j = j := fb_ct_all.mpr (fun k hk => hf k (by omega))
theorem kth_low {f : Nat → Bool} {c j n : Nat} (hf : ∀ d, d ≤ c → f d = true) (hj : j ≤ c) (hn : c < n) : Kth f n j j := ⟨by omega, hf j hj, ct_lo hf (by omega)⟩
theorem kth_lt {f : Nat → Bool} {n d : Nat} (hd : d < n) (hf : f d = true) : fb_ct f d < fb_ct f n := by
  have h6 := fb_ct_mono f (show d + 1 ≤ n from hd)
  rw [fb_ct_succ, hf] at h6
  simp only [if_true] at h6
  omega
theorem red_flt {A : Ab} {f : Nat → Bool} {c : Nat} (hc : c < aC A) (hf : ∀ d, d ≤ c → f d = true) : Red (flt A f) c (fun j => decide (j = c)) ↔ Red A c (fun d => !f d || decide (d = c)) := by
  have hk := ek_e (kth_low hf (Nat.le_refl c) hc)
  have hcc := ct_lo hf (show c ≤ c + 1 by omega)
  constructor
  · intro h s hs h1
    have h2 : Sat (flt A f) c s = true := by
      refine h s hs (fun j hj => ?_)
      obtain ⟨d, d1, d2⟩ := flt_k (show j < fb_ct f (aC A) from hj)
      rw [flt_sat, d2]
      rcases h1 d d1.1 with g | g
      · left
        have g' : (!f d || decide (d = c)) = true := g
        rw [d1.2.1] at g'
        have e : d = c := by simpa using g'
        subst e
        exact decide_eq_true (by rw [← d1.2.2, hcc])
      · exact Or.inr g
    rw [flt_sat, hk] at h2
    exact h2
  · intro h s hs h1
    rw [flt_sat, hk]
    refine h s hs (fun d hd => ?_)
    cases hfd : f d
    · left
      show (!f d || decide (d = c)) = true
      rw [hfd]
      rfl
    · have hl := kth_lt hd hfd
      have hkd : Kth f (aC A) (fb_ct f d) d := ⟨hd, hfd, rfl⟩
      rcases h1 (fb_ct f d) hl with g | g
      · left
        have e : fb_ct f d = c := of_decide_eq_true g
        have e2 : d = c := fb_ct_kth_one hfd (hf c (Nat.le_refl _)) (by rw [e, hcc])
        rw [e2]
        simp
      · right
        rw [flt_sat, ek_e hkd] at g
        exact g
def off (f : Nat → Bool) (c : Nat) : Nat → Bool := fun d => if d = c then false else f d
theorem off_ct {f : Nat → Bool} {c n : Nat} (hc : c < n) (hf : f c = true) : fb_ct (off f c) n + 1 = fb_ct f n := by
  have := fb_ct_upd f false hc
  rw [hf] at this
  exact this
theorem off_ek {f : Nat → Bool} {c n j : Nat} (hc : c < n) (hf : ∀ d, d ≤ c → f d = true) (hj : j < fb_ct (off f c) n) : ek (off f c) n j = ek f n (if j < c then j else j + 1) := by
  have h1 := off_ct hc (hf c (Nat.le_refl _))
  have hcc := ct_lo hf (show c ≤ c + 1 by omega)
  by_cases h : j < c
  · rw [if_pos h, ek_e (kth_low hf (by omega) hc)]
    refine ek_e ⟨by omega, ?_, ?_⟩
    · unfold off
      rw [if_neg (by omega)]
      exact hf j (by omega)
    · exact fb_ct_all.mpr (fun k hk => by unfold off; rw [if_neg (by omega)]; exact hf k (by omega))
  · rw [if_neg h]
    obtain ⟨d, ⟨d1, d2, d3⟩, d4⟩ := flt_k (show j + 1 < fb_ct f n by omega)
    rw [d4]
    have h5 : c < d := by
      refine Classical.byContradiction (fun hn => ?_)
      have := ct_lo hf (show d ≤ c + 1 by omega)
      omega
    have h6 := off_ct h5 (hf c (Nat.le_refl _))
    refine ek_e ⟨d1, ?_, by omega⟩
    unfold off
    rw [if_neg (by omega)]
    exact d2
/-! ===== the rows of the reference, shifted ===== -/
def MK (m : St) (k : Int32) (F G : Nat → Int32) : St := ua (ua (us m 7 k) 4 F) 5 G
theorem MK_us (m : St) (k k' : Int32) (F G : Nat → Int32) : us (MK m k F G) 7 k' = MK m k' F G := by
  funext a
  by_cases h0 : a = 0
  · subst h0
    funext b
    show (bif Nat.beq b 7 then k' else bif Nat.beq b 7 then k else m 0 b) = (bif Nat.beq b 7 then k' else m 0 b)
    cases Nat.beq b 7 <;> rfl
  · rw [us_r _ _ _ h0]
    unfold MK
    by_cases h5 : a = 5
    · subst h5
      rw [ua_s, ua_s]
    · rw [ua_o _ _ h5, ua_o _ _ h5]
      by_cases h4 : a = 4
      · subst h4
        rw [ua_s, ua_s]
      · rw [ua_o _ _ h4, ua_o _ _ h4, us_r _ _ _ h0, us_r _ _ _ h0]
theorem MK_4 (m : St) (k : Int32) (F G H : Nat → Int32) : ua (MK m k F G) 4 H = MK m k H G := by
  funext a
  unfold MK
  by_cases h4 : a = 4
  · subst h4
    rw [ua_s, ua_o _ _ (by decide), ua_s]
  · rw [ua_o _ _ h4]
    by_cases h5 : a = 5
    · subst h5
      rw [ua_s, ua_s]
    · rw [ua_o _ _ h5, ua_o _ _ h5, ua_o _ _ h4, ua_o _ _ h4]
theorem MK_5 (m : St) (k : Int32) (F G H : Nat → Int32) : ua (MK m k F G) 5 H = MK m k F H := by
  unfold MK
  rw [ua_ua]
theorem MK_r4 (m : St) (k : Int32) (F G : Nat → Int32) : MK m k F G 4 = F := rfl
theorem MK_r5 (m : St) (k : Int32) (F G : Nat → Int32) : MK m k F G 5 = G := rfl
theorem MK_07 (m : St) (k : Int32) (F G : Nat → Int32) : MK m k F G 0 7 = k := rfl
theorem MK_id (m : St) : m = MK m (m 0 7) (m 4) (m 5) := by
  funext a
  unfold MK
  by_cases h5 : a = 5
  · subst h5
    rw [ua_s]
  · rw [ua_o _ _ h5]
    by_cases h4 : a = 4
    · subst h4
      rw [ua_s]
    · rw [ua_o _ _ h4]
      by_cases h0 : a = 0
      · subst h0
        funext b
        by_cases e : b = 7
        · subst e
          rw [us_s]
        · rw [us_o _ _ e]
      · rw [us_r _ _ _ h0]
theorem s69 {m : St} {k a1 a2 : Int32} {F G : Nat → Int32} {f5 g5 : Nat → Int32} {c t : Nat} (hg : ∀ x, g5 x = f5 (4 * c + 4 + x)) (hct : c + t < 19) (hG : G = fb_put f5 g5 (4 * c) (4 * t)) :
    loopN (f_X2_removeRedundant_s69 a1 a2 (nI (c + t))) FU (0, MK m k F G) = some (.inl (nI 4, MK m k F (fb_put f5 g5 (4 * c) (4 * (t + 1))))) := by
  have h := loop_at (step := f_X2_removeRedundant_s69 a1 a2 (nI (c + t))) (fun i s => s = (nI i, MK m k F (fb_put f5 g5 (4 * c) (4 * t + i)))) (fun r => r = .inl (nI 4, MK m k F (fb_put f5 g5 (4 * c) (4 * t + 4)))) 4 (s := (0, MK m k F G)) (by decide) (by rw [hG]; rfl) (by
    rintro i _ hi rfl
    unfold f_X2_removeRedundant_s69
    by_cases h : i < 4
    · have q : ¬ (4 : Int32) ≤ nI i := fun e => by have := (n_le (by decide : 4 < 2147483648) (by omega)).mp e; omega
      refine Or.inl ⟨h, _, ?_, rfl⟩
      have e1 : 4 * nI (c + t) + 4 + nI i = nI (4 * (c + t) + 4 + i) := by
        rw [m4_e (c + t) (by omega), show (4 : Int32) = nI 4 from rfl, nI_add, nI_add]
      have e2 : 4 * nI (c + t) + nI i = nI (4 * (c + t) + i) := by rw [m4_e (c + t) (by omega), nI_add]
      simp only [q, if_false, e1, e2, gd_t (inb_t (show 4 * (c + t) + 4 + i < 80 by omega) (by decide : 80 < 2147483648)), gd_t (inb_t (show 4 * (c + t) + i < 80 by omega) (by decide : 80 < 2147483648)), n_ix (show 4 * (c + t) + 4 + i < 2147483648 by omega), n_ix (show 4 * (c + t) + i < 2147483648 by omega), MK_r5, MK_5, nI_1]
      have e3 : fb_put f5 g5 (4 * c) (4 * t + i) (4 * (c + t) + 4 + i) = g5 (4 * t + i) := by
        rw [fb_put_out (by omega), hg]
        congr 1
        omega
      rw [e3, show 4 * (c + t) + i = 4 * c + (4 * t + i) by omega, fb_put_succ]
      rfl
    · have e2 : i = 4 := by omega
      subst e2
      exact Or.inr ⟨_, rfl, rfl⟩)
  obtain ⟨r, h1, h2⟩ := h
  rw [h1, h2]
  rfl
theorem s44 {m : St} {a1 a2 : Int32} {F G : Nat → Int32} {c K : Nat} (hc : c ≤ K) (hK : K < 20) :
    loopN (f_X2_removeRedundant_s44 a1 a2) FU (nI c, MK m (nI K) F G) = some (.inl (nI K, MK m (nI K) (fb_put F (fun x => F (c + 1 + x)) c (K - c)) (fb_put G (fun x => G (4 * c + 4 + x)) (4 * c) (4 * (K - c))))) := by
  have h := loop_at (step := f_X2_removeRedundant_s44 a1 a2) (fun t s => s = (nI (c + t), MK m (nI K) (fb_put F (fun x => F (c + 1 + x)) c t) (fb_put G (fun x => G (4 * c + 4 + x)) (4 * c) (4 * t)))) (fun r => r = .inl (nI K, MK m (nI K) (fb_put F (fun x => F (c + 1 + x)) c (K - c)) (fb_put G (fun x => G (4 * c + 4 + x)) (4 * c) (4 * (K - c))))) (K - c) (s := (nI c, MK m (nI K) F G)) (by omega) (by rw [fb_put_0]; show _ = (nI c, MK m (nI K) F (fb_put G _ (4 * c) 0)); rw [fb_put_0]) (by
    rintro t _ ht rfl
    unfold f_X2_removeRedundant_s44
    by_cases h : t < K - c
    · have q : ¬ nI K ≤ nI (c + t) := fun e => by have := (n_le (by omega) (by omega)).mp e; omega
      refine Or.inl ⟨h, _, ?_, rfl⟩
      simp only [MK_07, q, if_false, nI_1, gd_t (inb_t (show c + t + 1 < 20 by omega) (by decide : 20 < 2147483648)), gd_t (inb_t (show c + t < 20 by omega) (by decide : 20 < 2147483648)), n_ix (show c + t + 1 < 2147483648 by omega), n_ix (show c + t < 2147483648 by omega), MK_r4, MK_4]
      have e3 : fb_put F (fun x => F (c + 1 + x)) c t (c + t + 1) = (fun x => F (c + 1 + x)) t := by
        rw [fb_put_out (by omega)]
        show F (c + t + 1) = F (c + 1 + t)
        congr 1
        omega
      rw [e3, fb_put_succ, s69 (c := c) (t := t) (f5 := G) (g5 := fun x => G (4 * c + 4 + x)) (fun x => rfl) (by omega) rfl]
      rfl
    · have e2 : t = K - c := by omega
      subst e2
      have q : nI K ≤ nI (c + (K - c)) := (n_le (by omega) (by omega)).mpr (by omega)
      refine Or.inr ⟨_, ?_, rfl⟩
      simp only [MK_07, q, if_true]
      rw [show c + (K - c) = K by omega])
  obtain ⟨r, h1, h2⟩ := h
  rw [h1, h2]
