/-! ===== closed sets ===== -/
theorem Esc_i {S r k c : Nat} (hr : r < 5) : Esc S r k c ↔ ∃ x y z, x < 2 ^ r ∧ y < 2 ^ r ∧ z < 2 ^ r ∧ tb S x = true ∧ tb (yOf S k) y = true ∧ tb (zOf S k) z = true ∧ tb S (apN c x y z % 2 ^ r) = false := by
  rw [← esc_iff hr]
  constructor
  · rintro ⟨x, x1, x2, y, y1, y2, y3⟩
    obtain ⟨z, z1, z2, z3⟩ := (escT_ne hr).mp y3
    exact ⟨x, y, z, x1, y1, z1, x2, y2, z2, z3⟩
  · rintro ⟨x, y, z, x1, y1, z1, x2, y2, z2, z3⟩
    exact ⟨x, x1, x2, y, y1, y2, (escT_ne hr).mpr ⟨z, z1, z2, z3⟩⟩
def sbs (S T : Nat) : Prop := ∀ j, tb S j = true → tb T j = true
theorem sbs_y {S T k : Nat} (h : sbs S T) : sbs (yOf S k) (yOf T k) := by
  unfold yOf
  split
  · exact fun _ e => e
  · exact h
theorem sbs_z {S T k : Nat} (h : sbs S T) : sbs (zOf S k) (zOf T k) := by
  unfold zOf
  split
  · exact fun _ e => e
  · exact h
theorem sbs_eq {S T : Nat} (h1 : sbs S T) (h2 : sbs T S) : S = T := tb_ext (fun j => Bool.eq_iff_iff.mpr ⟨h1 j, h2 j⟩)
def Lc (S r k c X : Nat) : Prop := X < 2 ^ (2 ^ r) ∧ sbs S X ∧ ¬ Esc X r k c ∧ ∀ Y, ¬ Esc Y r k c → sbs S Y → sbs X Y
theorem Lc_one {S r k c X Y : Nat} (h : Lc S r k c X) (h2 : Lc S r k c Y) : X = Y := sbs_eq (h.2.2.2 Y h2.2.2.1 h2.2.1) (h2.2.2.2 X h.2.2.1 h.2.1)
/-- what an operation makes of tuples of a set -/
def Md (S r k c j : Nat) : Prop := ∃ x y z, x < 2 ^ r ∧ y < 2 ^ r ∧ z < 2 ^ r ∧ tb S x = true ∧ tb (yOf S k) y = true ∧ tb (zOf S k) z = true ∧ apN c x y z % 2 ^ r = j
theorem Md_in {S r k c j Y : Nat} (hr : r < 5) (h : Md S r k c j) (hY : ¬ Esc Y r k c) (hs : sbs S Y) : tb Y j = true := by
  obtain ⟨x, y, z, x1, y1, z1, x2, y2, z2, rfl⟩ := h
  cases hb : tb Y (apN c x y z % 2 ^ r)
  · exact (hY ((Esc_i hr).mpr ⟨x, y, z, x1, y1, z1, hs x x2, sbs_y hs y y2, sbs_z hs z z2, hb⟩)).elim
  · rfl
theorem Md_cl {S r k c : Nat} (hr : r < 5) (h : ∀ j, Md S r k c j → tb S j = true) : ¬ Esc S r k c := by
  intro he
  obtain ⟨x, y, z, x1, y1, z1, x2, y2, z2, z3⟩ := (Esc_i hr).mp he
  have := h _ ⟨x, y, z, x1, y1, z1, x2, y2, z2, rfl⟩
  rw [z3] at this
  cases this
theorem ct_more {p q : Nat → Bool} : ∀ n, (∀ k, k < n → p k = true → q k = true) → ∀ j, j < n → p j = false → q j = true → fb_ct p n + 1 ≤ fb_ct q n
  | 0, _, j, hj, _, _ => absurd hj (Nat.not_lt_zero _)
  | n + 1, h, j, hj, h1, h2 => by
    rw [fb_ct_succ, fb_ct_succ]
    by_cases e : j = n
    · subst e
      have h3 : fb_ct p j ≤ fb_ct q j := fb_ct_sub (fun k hk => h k (by omega))
      rw [h1, h2]
      simp
      omega
    · have h3 := ct_more n (fun k hk => h k (by omega)) j (by omega) h1 h2
      have h4 : (if p n = true then 1 else 0) ≤ (if q n = true then 1 else 0) := by
        cases hp : p n
        · simp
        · rw [h n (by omega) hp]
          exact Nat.le_refl _
      omega
theorem tb_in {S n j : Nat} (h : S < 2 ^ n) (hj : tb S j = true) : j < n := by
  refine Classical.byContradiction (fun hn => ?_)
  rw [tb_lt h (by omega)] at hj
  cases hj
theorem esc_M {C r k c : Nat} (hC : C < 2 ^ (2 ^ r)) (hr : r < 5) (hk : k < 4) (hc : c < 256) : ∃ M, f_X1_escapingTuples (nI C) (nI r) (nI k) (nI c) = some (nI M) ∧ M < 2 ^ (2 ^ r) ∧ (M = 0 → ¬ Esc C r k c) ∧ ∀ j, tb M j = true → tb C j = false ∧ Md C r k c j := by
  have e := p2_e r hr
  rcases escaping_e hC hr hk hc with ⟨g1, g2⟩ | ⟨g1, x, y, x1, x2, y1, y2, g2⟩
  · exact ⟨0, g2, Nat.two_pow_pos _, fun _ => g1, fun j h => by rw [tb_0] at h; cases h⟩
  · refine ⟨_, g2, ?_, fun h => absurd h y2.2, fun j h => ?_⟩
    · exact lt_and (pjS_lt _ (fun t _ => Nat.mod_lt _ (Nat.two_pow_pos _)))
    · unfold escT at h
      rw [tb_and, Bool.and_eq_true, tb_pjS] at h
      obtain ⟨⟨z, z1, z2, z3⟩, hs⟩ := h
      have z3' : apN c x y z % 2 ^ r = j := z3
      have hm := Nat.mod_lt (apN c x y z) (Nat.two_pow_pos r)
      refine ⟨?_, x, y, z, x1, y1, z1, x2, y2.1, z2, z3'⟩
      rw [tb_not] at hs
      have hi32 : j < 32 := by omega
      cases hb : tb C j
      · rfl
      · rw [hb] at hs
        simp [hi32] at hs
def ClI (S r k c C : Nat) : Prop := C < 2 ^ (2 ^ r) ∧ sbs S C ∧ ∀ Y, ¬ Esc Y r k c → sbs S Y → sbs C Y
theorem sbs_or {S C : Nat} (M : Nat) (h : sbs S C) : sbs S (C ||| M) := fun j hj => by rw [tb_or, h j hj]; rfl
theorem ClI_or {S r k c C M : Nat} (hr : r < 5) (h : ClI S r k c C) (hM : M < 2 ^ (2 ^ r)) (hm : ∀ j, tb M j = true → Md C r k c j) : ClI S r k c (C ||| M) := by
  refine ⟨lt_or h.1 hM, sbs_or M h.2.1, fun Y hY hs j hj => ?_⟩
  rw [tb_or, Bool.or_eq_true] at hj
  rcases hj with hj | hj
  · exact h.2.2 Y hY hs j hj
  · exact Md_in hr (hm j hj) hY (h.2.2 Y hY hs)
theorem cls1 {u v w : St} {S r k c q : Nat} {M0 : Nat} (hS : S < 2 ^ (2 ^ r)) (hr : r < 5) (hk : k < 4) (hc : c < 256) (hM : M0 < 2 ^ (2 ^ r)) (hM1 : M0 = 0 → ¬ Esc S r k c) (hM2 : ∀ j, tb M0 j = true → tb S j = false ∧ Md S r k c j) :
    ∃ X s, Lc S r k c X ∧ loopN (f_X1_close_s46 u v w (nI q) (nI k) (nI c) (nI r)) FU (nI S, nI M0, 0) = some (.inl (nI X, s)) := by
  have e := p2_e r hr
  have h := loop_at (step := f_X1_close_s46 u v w (nI q) (nI k) (nI c) (nI r)) (fun i st => ∃ C M, st = (nI C, nI M, nI i) ∧ ClI S r k c C ∧ i ≤ fb_ct (tb C) 16 ∧ M < 2 ^ (2 ^ r) ∧ (M = 0 → ¬ Esc C r k c) ∧ ∀ j, tb M j = true → tb C j = false ∧ Md C r k c j) (fun t => ∃ X s, Lc S r k c X ∧ t = .inl (nI X, s)) 16 (s := (nI S, nI M0, 0)) (by decide) ⟨S, M0, rfl, ⟨hS, fun _ h => h, fun _ _ h => h⟩, Nat.zero_le _, hM, hM1, hM2⟩ (by
    rintro i _ hi ⟨C, M, rfl, hC, hi2, m1, m2, m3⟩
    unfold f_X1_close_s46
    by_cases hM0 : M = 0
    · refine Or.inr ⟨.inl (nI C, nI M, nI i), ?_, C, _, ⟨hC.1, hC.2.1, m2 hM0, hC.2.2⟩, rfl⟩
      rw [hM0]
      by_cases g : (16 : Int32) ≤ nI i
      · simp only [g, if_true]
      · simp only [g, if_false]
        rfl
    · have hj : ∃ j, tb M j = true := by
        refine Classical.byContradiction (fun hn => hM0 (tb_ext (fun k => ?_)))
        rw [tb_0]
        cases hb : tb M k
        · rfl
        · exact absurd ⟨k, hb⟩ hn
      obtain ⟨j, hj⟩ := hj
      have hj16 : j < 16 := by have := tb_in m1 hj; omega
      have hi16 : i < 16 := by
        refine Classical.byContradiction (fun hn => ?_)
        have h16 : fb_ct (tb C) 16 = 16 := Nat.le_antisymm (fb_ct_le _ _) (by omega)
        have := fb_ct_all.mp h16 j hj16
        rw [(m3 j hj).1] at this
        cases this
      have q1 : ¬ (16 : Int32) ≤ nI i := lt16 hi16
      have q2 : ¬ nI M = 0 := fun e2 => hM0 (n_inj (by omega) (by decide : 0 < 4294967296) e2)
      have hC2 := ClI_or hr hC m1 (fun j hj => (m3 j hj).2)
      obtain ⟨M2, g1, g2, g3, g4⟩ := esc_M hC2.1 hr hk hc
      refine Or.inl ⟨hi16, (nI (C ||| M), nI M2, nI (i + 1)), ?_, C ||| M, M2, rfl, hC2, ?_, g2, g3, g4⟩
      · simp only [q1, q2, if_false, lt_e, n_or, g1, bd_s, nI_1]
      · have := ct_more (p := tb C) (q := tb (C ||| M)) 16 (fun k _ hk => sbs_or M (fun _ h => h) k hk) j hj16 (m3 j hj).1 (by rw [tb_or, hj]; simp)
        omega)
  obtain ⟨t, h1, X, s, h2, rfl⟩ := h
  exact ⟨X, s, h2, h1⟩
