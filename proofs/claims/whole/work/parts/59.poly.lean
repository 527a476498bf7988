theorem p2c : ∀ k, k < 4 → 2 ^ (2 ^ k) ≤ 256 := by decide
/-! ===== preserved, of one relation and of all ===== -/
noncomputable def pb (A : Ab) (q k c : Nat) : Bool := @decide (¬ Esc (aT A q) (aR A q) k c) (Classical.propDecidable _)
def Kp (A : Ab) (k c : Nat) : Prop := ∀ r, r < aN A → ¬ Esc (aT A r) (aR A r) k c
noncomputable def kb (A : Ab) (k c : Nat) : Bool := @decide (Kp A k c) (Classical.propDecidable _)
theorem pb_t {A : Ab} {q k c : Nat} (h : ¬ Esc (aT A q) (aR A q) k c) : pb A q k c = true := @decide_eq_true _ (Classical.propDecidable _) h
theorem pb_f {A : Ab} {q k c : Nat} (h : Esc (aT A q) (aR A q) k c) : pb A q k c = false := @decide_eq_false _ (Classical.propDecidable _) (fun e => e h)
theorem kb_t {A : Ab} {k c : Nat} (h : Kp A k c) : kb A k c = true := @decide_eq_true _ (Classical.propDecidable _) h
theorem kb_f {A : Ab} {k c : Nat} (h : ¬ Kp A k c) : kb A k c = false := @decide_eq_false _ (Classical.propDecidable _) h
theorem kb_kp {A : Ab} {k c : Nat} (h : kb A k c = true) : Kp A k c := @of_decide_eq_true _ (Classical.propDecidable _) h
theorem isPres_e {u v w : St} {A : Ab} (oA : okA A) (hv : RV v A) {q k c : Nat} (hq : q < aN A) (hk : k < 4) (hc : c < 256) : f_X1_isPreserved u v w (nI q) (nI k) (nI c) = some (if pb A q k c = true then 1 else 0) := by
  have hq8 : q < 8 := Nat.lt_of_lt_of_le hq oA.1
  obtain ⟨a1, a2, a3⟩ := oA.2.1 q hq
  have hr : aR A q < 5 := by omega
  unfold f_X1_isPreserved
  simp only [gd_t (inb_t hq8 (by decide : 8 < 2147483648)), n_ix (show q < 2147483648 by omega), (hv.2.1 q hq).1, (hv.2.1 q hq).2]
  rcases escaping_e a3 hr hk hc with ⟨g1, g2⟩ | ⟨g1, x, y, x1, x2, y1, y2, g2⟩
  · rw [g2, pb_t g1]
    rfl
  · have hlt := escT_lt (S := aT A q) (c := c) (Z := zOf (aT A q) k) (x := x) (y := y) hr
    have g0 : ¬ nI (escT (aT A q) (aR A q) c (zOf (aT A q) k) x y) = 0 := fun e => y2.2 (n_inj (by omega) (by decide : 0 < 4294967296) e)
    rw [g2, bd_s, if_neg g0, pb_f g1]
    rfl
theorem doesP_e {m : St} {A : Ab} (oA : okA A) (hm : RM m A) {q k c : Nat} (hq : q < aN A) (hk : k < 4) (k1 : 1 ≤ k) (hc : c < 256) : f_X2_doesPreserve m (nI k) (nI c) (nI q) = some (if pb A q k c = true then 1 else 0) := by
  have hq8 : q < 8 := Nat.lt_of_lt_of_le hq oA.1
  obtain ⟨a1, a2, a3⟩ := oA.2.1 q hq
  have hr : aR A q < 5 := by omega
  rcases dp_e (u := m) hq8 (hm.2.1 q hq).1 (hm.2.1 q hq).2 a3 hr hk k1 hc with ⟨g1, g2⟩ | ⟨g1, g2⟩
  · rw [g2, pb_f g1]
    rfl
  · rw [g2, pb_t g1]
    rfl
theorem pb_kp {A : Ab} {k c : Nat} (h : ∀ r, r < aN A → ¬ pb A r k c = false) : Kp A k c := fun r hr e => h r hr (pb_f e)
theorem allP_e {u v w : St} {A : Ab} (oA : okA A) (hv : RV v A) {k c : Nat} (hk : k < 4) (hc : c < 256) : f_X1_areAllPreserved u v w (nI k) (nI c) = some (if kb A k c = true then 1 else 0) := by
  unfold f_X1_areAllPreserved
  have h8 : aN A ≤ 8 := oA.1
  have h := loop_find (step := f_X1_areAllPreserved_s2 u v w (nI k) (nI c)) (fun r => pb A r k c = false) (fun _ t => t = 0) (aN A) (by omega) (by
    intro r hr
    unfold f_X1_areAllPreserved_s2
    have q : ¬ nI (aN A) ≤ nI r := fun e => by have := (n_le (by omega) (by omega)).mp e; omega
    rw [hv.1, if_neg q, nI_1, isPres_e (u := u) (w := w) oA hv hr hk hc]
    cases pb A r k c
    · exact Or.inr ⟨rfl, _, rfl, rfl⟩
    · exact Or.inl ⟨by decide, rfl⟩) (by
    unfold f_X1_areAllPreserved_s2
    rw [hv.1, if_pos ((n_le (by omega) (by omega)).mpr (Nat.le_refl _))])
  rcases h with ⟨g1, g2⟩ | ⟨r, g1, g2, g3, t, g4, rfl⟩
  · rw [g2, kb_t (pb_kp g1)]
    rfl
  · rw [g4, kb_f (fun e => by have := pb_t (e r g1); rw [g2] at this; cases this)]
    rfl
theorem kept_e {m : St} {A : Ab} (oA : okA A) (hm : RM m A) {k c : Nat} (hk : k < 4) (k1 : 1 ≤ k) (hc : c < 256) : f_X2_isKept m (nI k) (nI c) = some (if kb A k c = true then 1 else 0) := by
  unfold f_X2_isKept
  have h8 : aN A ≤ 8 := oA.1
  have h := loop_find (step := f_X2_isKept_s2 m (nI k) (nI c)) (fun r => pb A r k c = false) (fun _ t => t = 0) (aN A) (by omega) (by
    intro r hr
    unfold f_X2_isKept_s2
    have q : ¬ nI (aN A) ≤ nI r := fun e => by have := (n_le (by omega) (by omega)).mp e; omega
    rw [hm.1, if_neg q, nI_1, doesP_e oA hm hr hk k1 hc]
    cases pb A r k c
    · exact Or.inr ⟨rfl, _, rfl, rfl⟩
    · exact Or.inl ⟨by decide, rfl⟩) (by
    unfold f_X2_isKept_s2
    rw [hm.1, if_pos ((n_le (by omega) (by omega)).mpr (Nat.le_refl _))])
  rcases h with ⟨g1, g2⟩ | ⟨r, g1, g2, g3, t, g4, rfl⟩
  · rw [g2, kb_t (pb_kp g1)]
    rfl
  · rw [g4, kb_f (fun e => by have := pb_t (e r g1); rw [g2] at this; cases this)]
    rfl
theorem RM_us {m : St} {A : Ab} (hm : RM m A) (x : Int32) : RM (us m 0 x) A := hm
theorem preserves_j {u v w m : St} (hI : Inv u v w m) (p q s : Int32) : JP [eIA, eIO] u v w (f_X1_preserves u v w p q s) (f_X2_preserves m p q s) := by
  obtain ⟨A, oA, hv, hm⟩ := hI.1
  unfold f_X1_preserves f_X2_preserves
  rcases opc p q with ⟨h1, h2⟩ | ⟨k, c, hk, k1, hc, rfl, rfl, h1, h2⟩
  · simp only [h1, h2, bz_r, bd_s, if_true]
    exact JP_fail hI 0 (by decide) rfl rfl
  · have e8 := p2c k hk
    rcases relc (u := u) (w := w) oA hv hm s with ⟨h3, h4⟩ | ⟨r, hr, rfl, h3, h4⟩
    · simp only [h1, h2, h3, h4, bz_l, bz_r, bd_s, e10, if_true, if_false]
      exact JP_fail hI 1 (by decide) rfl rfl
    · simp only [h1, h2, h3, h4, bz_l, bd_s, e10, if_false, isPres_e (u := u) (w := w) oA hv hr hk (show c < 256 by omega), doesP_e oA (RM_us hm 0) hr hk k1 (show c < 256 by omega), gd_t (okB_b _)]
      exact JP_ok hI rfl rfl
theorem isPolymorphism_j {u v w m : St} (hI : Inv u v w m) (p q : Int32) : JP [eIA] u v w (f_X1_isPolymorphism u v w p q) (f_X2_isPolymorphism m p q) := by
  obtain ⟨A, oA, hv, hm⟩ := hI.1
  unfold f_X1_isPolymorphism f_X2_isPolymorphism
  rcases opc p q with ⟨h1, h2⟩ | ⟨k, c, hk, k1, hc, rfl, rfl, h1, h2⟩
  · simp only [h1, h2, bz_r, bd_s, if_true]
    exact JP_fail hI 0 (by decide) rfl rfl
  · have e8 := p2c k hk
    simp only [h1, h2, bz_l, bd_s, e10, if_false, allP_e (u := u) (w := w) oA hv hk (show c < 256 by omega), kept_e oA (RM_us hm 0) hk k1 (show c < 256 by omega), gd_t (okB_b _)]
    exact JP_ok hI rfl rfl
theorem n_a0 (a : Nat) : nI a + 0 = nI a := by
  rw [show (0 : Int32) = nI 0 from rfl, nI_add]
  rfl
theorem pcnt1 {u v w : St} {A : Ab} (oA : okA A) (hv : RV v A) {k : Nat} (hk : k < 4) : loopN (f_X1_polymorphismCount_s8 u v w (nI k)) FU (0, 0) = some (.inl (nI (fb_ct (kb A k) (2 ^ (2 ^ k))), nI (2 ^ (2 ^ k)))) := by
  have e := p2c k hk
  have e1 := Nat.two_pow_pos (2 ^ k)
  have h := loop_at (step := f_X1_polymorphismCount_s8 u v w (nI k)) (fun i st => st = (nI (fb_ct (kb A k) i), nI i)) (fun r => r = .inl (nI (fb_ct (kb A k) (2 ^ (2 ^ k))), nI (2 ^ (2 ^ k)))) (2 ^ (2 ^ k)) (s := (0, 0)) (by omega) rfl (by
    rintro i _ hi rfl
    unfold f_X1_polymorphismCount_s8 f_X1_allTuples
    rw [bd_s, all_e k (by omega)]
    by_cases h : i < 2 ^ (2 ^ k)
    · refine Or.inl ⟨h, _, ?_, rfl⟩
      have q : ¬ nI (2 ^ (2 ^ k) - 1) < nI i := fun e => by have := (n_lt (by omega) (by omega)).mp e; omega
      simp only [q, if_false, allP_e (u := u) (w := w) oA hv hk (show i < 256 by omega), bd_s, nI_1, fb_ct_succ]
      cases kb A k i <;> rfl
    · have e2 : i = 2 ^ (2 ^ k) := by omega
      subst e2
      refine Or.inr ⟨_, ?_, rfl⟩
      have q : nI (2 ^ (2 ^ k) - 1) < nI (2 ^ (2 ^ k)) := (n_lt (by omega) (by omega)).mpr (by omega)
      simp only [q, if_true])
  obtain ⟨r, h1, h2⟩ := h
  rw [h1, h2]
theorem pcnt2 {m : St} {A : Ab} (oA : okA A) (hm : RM m A) {k : Nat} (hk : k < 4) (k1 : 1 ≤ k) : loopN (f_X2_polymorphismCount_s24 m (nI k)) FU (0, 0) = some (.inl (nI (fb_ct (kb A k) (2 ^ (2 ^ k))), nI (2 ^ (2 ^ k)))) := by
  have e := p2c k hk
  have e1 := Nat.two_pow_pos (2 ^ k)
  have h := loop_at (step := f_X2_polymorphismCount_s24 m (nI k)) (fun i st => st = (nI (fb_ct (kb A k) i), nI i)) (fun r => r = .inl (nI (fb_ct (kb A k) (2 ^ (2 ^ k))), nI (2 ^ (2 ^ k)))) (2 ^ (2 ^ k)) (s := (0, 0)) (by omega) rfl (by
    rintro i _ hi rfl
    unfold f_X2_polymorphismCount_s24
    rw [sh2_e k (by omega)]
    by_cases h : i < 2 ^ (2 ^ k)
    · refine Or.inl ⟨h, _, ?_, rfl⟩
      have q : ¬ nI (2 ^ (2 ^ k)) ≤ nI i := fun e => by have := (n_le (by omega) (by omega)).mp e; omega
      simp only [q, if_false, kept_e oA hm hk k1 (show i < 256 by omega), bd_s, lt_e, nI_1, n_a0, fb_ct_succ]
      cases kb A k i <;> rfl
    · have e2 : i = 2 ^ (2 ^ k) := by omega
      subst e2
      refine Or.inr ⟨_, ?_, rfl⟩
      have q : nI (2 ^ (2 ^ k)) ≤ nI (2 ^ (2 ^ k)) := (n_le (by omega) (by omega)).mpr (Nat.le_refl _)
      simp only [q, if_true])
  obtain ⟨r, h1, h2⟩ := h
  rw [h1, h2]
theorem polymorphismCount_j {u v w m : St} (hI : Inv u v w m) (p : Int32) : JP [eIA] u v w (f_X1_polymorphismCount u v w p) (f_X2_polymorphismCount m p) := by
  obtain ⟨A, oA, hv, hm⟩ := hI.1
  unfold f_X1_polymorphismCount f_X2_polymorphismCount
  rcases ar13 p with ⟨h1, h2⟩ | ⟨k, ka, kb', rfl, h1, h2⟩
  · rw [h1, h2, bz_r, bd_s, if_pos e00]
    exact JP_fail hI 0 (by decide) rfl rfl
  · rw [h1, h2, bz_l, bd_s, if_neg e10, pcnt1 (u := u) (w := w) oA hv (show k < 4 by omega), pcnt2 oA (RM_us hm 0) (show k < 4 by omega) ka]
    exact JP_ok hI rfl rfl
