/-! ===== one call of the law, by the shape of its answer ===== -/
theorem i01 : inb 0 1 = true := by decide
theorem lg_self (x : Int64) : lg_cmp x x = 0 := by
  unfold lg_cmp
  rw [if_neg (Int64.lt_irrefl), if_pos rfl]
theorem lgu (f : Nat → Int64) (x : Int64) : lg_cmp (vp_updL f (0 : Int32).toNatClampNeg x (0 : Int32).toNatClampNeg) x = 0 := by
  unfold vp_updL
  rw [if_pos rfl]
  exact lg_self x
def KX {σ : Type} (cs : List String) (X : Option ((Int32 ⊕ String) × σ)) (Y : Option (Int32 × St)) (P : σ → St → Prop) : Prop := ∃ z s b m', X = some (z, s) ∧ Y = some (b, m') ∧ Out cs z b (m' 0 0) ∧ P s m'
def KZ (cs : List String) (X : Option (Int32 ⊕ String)) (Y : Option (Int32 × St)) (P : St → Prop) : Prop := ∃ z b m', X = some z ∧ Y = some (b, m') ∧ Out cs z b (m' 0 0) ∧ P m'
theorem kX1i {σ ρ : Type} {a : String}  {X : Option ((Int32 ⊕ String) × σ)} {Y : Option (Int32 × St)} {P : σ → St → Prop} (H : Int32 → σ → (Nat → Int64) → ρ) (f : Nat → Int64) (h : KX [a] X Y P) : ∃ k s f' b' m', bx X (fun E z => if E = a then some (H 1 z f) else none) (fun r z => gd (inb 0 1) (some (H 0 z (vp_updL f (0 : Int32).toNatClampNeg r.toInt64)))) = some (H k s f') ∧ Y = some (b', m') ∧ m' 0 0 = k ∧ (k = 0 → lg_cmp (f' (0 : Int32).toNatClampNeg) b'.toInt64 = 0) ∧ P s m' := by
  obtain ⟨z, s, b', m', rfl, hY, hO, hP⟩ := h
  rcases hO with ⟨rfl, h0⟩ | ⟨i, hi, rfl, h0⟩
  · refine ⟨0, s, _, b', m', ?_, hY, h0, fun _ => lgu f b'.toInt64, hP⟩
    show gd (inb 0 1) _ = _
    rw [gd_t i01]
  · have hi' : i < 1 := hi
    have e : i = 0 := by omega
    subst e
    refine ⟨1, s, f, b', m', ?_, hY, h0, fun e => absurd e (by decide), hP⟩
    show (if a = a then _ else _) = _
    rw [if_pos rfl]
theorem kX1b {σ ρ : Type} {a : String}  {X : Option ((Int32 ⊕ String) × σ)} {Y : Option (Int32 × St)} {P : σ → St → Prop} (H : Int32 → σ → (Nat → Int64) → ρ) (f : Nat → Int64) (h : KX [a] X Y P) : ∃ k s f' b' m', bx X (fun E z => if E = a then some (H 1 z f) else none) (fun r z => if r = 0 then gd (inb 0 1) (some (H 0 z (vp_updL f (0 : Int32).toNatClampNeg 0))) else gd (inb 0 1) (some (H 0 z (vp_updL f (0 : Int32).toNatClampNeg 1)))) = some (H k s f') ∧ Y = some (b', m') ∧ m' 0 0 = k ∧ (k = 0 → (b' = 0 ∧ lg_cmp (f' (0 : Int32).toNatClampNeg) 0 = 0) ∨ (¬ b' = 0 ∧ lg_cmp (f' (0 : Int32).toNatClampNeg) 1 = 0)) ∧ P s m' := by
  obtain ⟨z, s, b', m', rfl, hY, hO, hP⟩ := h
  rcases hO with ⟨rfl, h0⟩ | ⟨i, hi, rfl, h0⟩
  · by_cases e : b' = 0
    · refine ⟨0, s, _, b', m', ?_, hY, h0, fun _ => Or.inl ⟨e, lgu f 0⟩, hP⟩
      show (if b' = 0 then gd (inb 0 1) _ else gd (inb 0 1) _) = _
      rw [if_pos e, gd_t i01]
    · refine ⟨0, s, _, b', m', ?_, hY, h0, fun _ => Or.inr ⟨e, lgu f 1⟩, hP⟩
      show (if b' = 0 then gd (inb 0 1) _ else gd (inb 0 1) _) = _
      rw [if_neg e, gd_t i01]
  · have hi' : i < 1 := hi
    have e : i = 0 := by omega
    subst e
    refine ⟨1, s, f, b', m', ?_, hY, h0, fun e => absurd e (by decide), hP⟩
    show (if a = a then _ else _) = _
    rw [if_pos rfl]
theorem kX2i {σ ρ : Type} {a b : String} (nba : ¬ b = a) {X : Option ((Int32 ⊕ String) × σ)} {Y : Option (Int32 × St)} {P : σ → St → Prop} (H : Int32 → σ → (Nat → Int64) → ρ) (f : Nat → Int64) (h : KX [a, b] X Y P) : ∃ k s f' b' m', bx X (fun E z => if E = a then some (H 1 z f) else if E = b then some (H 2 z f) else none) (fun r z => gd (inb 0 1) (some (H 0 z (vp_updL f (0 : Int32).toNatClampNeg r.toInt64)))) = some (H k s f') ∧ Y = some (b', m') ∧ m' 0 0 = k ∧ (k = 0 → lg_cmp (f' (0 : Int32).toNatClampNeg) b'.toInt64 = 0) ∧ P s m' := by
  obtain ⟨z, s, b', m', rfl, hY, hO, hP⟩ := h
  rcases hO with ⟨rfl, h0⟩ | ⟨i, hi, rfl, h0⟩
  · refine ⟨0, s, _, b', m', ?_, hY, h0, fun _ => lgu f b'.toInt64, hP⟩
    show gd (inb 0 1) _ = _
    rw [gd_t i01]
  · have hi' : i < 2 := hi
    have e : i = 0 ∨ i = 1 := by omega
    rcases e with rfl | rfl
    · refine ⟨1, s, f, b', m', ?_, hY, h0, fun e => absurd e (by decide), hP⟩
      show (if a = a then _ else if a = b then _ else _) = _
      rw [if_pos rfl]
    · refine ⟨2, s, f, b', m', ?_, hY, h0, fun e => absurd e (by decide), hP⟩
      show (if b = a then _ else if b = b then _ else _) = _
      rw [if_neg nba, if_pos rfl]
theorem kX2b {σ ρ : Type} {a b : String} (nba : ¬ b = a) {X : Option ((Int32 ⊕ String) × σ)} {Y : Option (Int32 × St)} {P : σ → St → Prop} (H : Int32 → σ → (Nat → Int64) → ρ) (f : Nat → Int64) (h : KX [a, b] X Y P) : ∃ k s f' b' m', bx X (fun E z => if E = a then some (H 1 z f) else if E = b then some (H 2 z f) else none) (fun r z => if r = 0 then gd (inb 0 1) (some (H 0 z (vp_updL f (0 : Int32).toNatClampNeg 0))) else gd (inb 0 1) (some (H 0 z (vp_updL f (0 : Int32).toNatClampNeg 1)))) = some (H k s f') ∧ Y = some (b', m') ∧ m' 0 0 = k ∧ (k = 0 → (b' = 0 ∧ lg_cmp (f' (0 : Int32).toNatClampNeg) 0 = 0) ∨ (¬ b' = 0 ∧ lg_cmp (f' (0 : Int32).toNatClampNeg) 1 = 0)) ∧ P s m' := by
  obtain ⟨z, s, b', m', rfl, hY, hO, hP⟩ := h
  rcases hO with ⟨rfl, h0⟩ | ⟨i, hi, rfl, h0⟩
  · by_cases e : b' = 0
    · refine ⟨0, s, _, b', m', ?_, hY, h0, fun _ => Or.inl ⟨e, lgu f 0⟩, hP⟩
      show (if b' = 0 then gd (inb 0 1) _ else gd (inb 0 1) _) = _
      rw [if_pos e, gd_t i01]
    · refine ⟨0, s, _, b', m', ?_, hY, h0, fun _ => Or.inr ⟨e, lgu f 1⟩, hP⟩
      show (if b' = 0 then gd (inb 0 1) _ else gd (inb 0 1) _) = _
      rw [if_neg e, gd_t i01]
  · have hi' : i < 2 := hi
    have e : i = 0 ∨ i = 1 := by omega
    rcases e with rfl | rfl
    · refine ⟨1, s, f, b', m', ?_, hY, h0, fun e => absurd e (by decide), hP⟩
      show (if a = a then _ else if a = b then _ else _) = _
      rw [if_pos rfl]
    · refine ⟨2, s, f, b', m', ?_, hY, h0, fun e => absurd e (by decide), hP⟩
      show (if b = a then _ else if b = b then _ else _) = _
      rw [if_neg nba, if_pos rfl]
theorem kX3i {σ ρ : Type} {a b c : String} (nba : ¬ b = a) (nca : ¬ c = a) (ncb : ¬ c = b) {X : Option ((Int32 ⊕ String) × σ)} {Y : Option (Int32 × St)} {P : σ → St → Prop} (H : Int32 → σ → (Nat → Int64) → ρ) (f : Nat → Int64) (h : KX [a, b, c] X Y P) : ∃ k s f' b' m', bx X (fun E z => if E = a then some (H 1 z f) else if E = b then some (H 2 z f) else if E = c then some (H 3 z f) else none) (fun r z => gd (inb 0 1) (some (H 0 z (vp_updL f (0 : Int32).toNatClampNeg r.toInt64)))) = some (H k s f') ∧ Y = some (b', m') ∧ m' 0 0 = k ∧ (k = 0 → lg_cmp (f' (0 : Int32).toNatClampNeg) b'.toInt64 = 0) ∧ P s m' := by
  obtain ⟨z, s, b', m', rfl, hY, hO, hP⟩ := h
  rcases hO with ⟨rfl, h0⟩ | ⟨i, hi, rfl, h0⟩
  · refine ⟨0, s, _, b', m', ?_, hY, h0, fun _ => lgu f b'.toInt64, hP⟩
    show gd (inb 0 1) _ = _
    rw [gd_t i01]
  · have hi' : i < 3 := hi
    have e : i = 0 ∨ i = 1 ∨ i = 2 := by omega
    rcases e with rfl | rfl | rfl
    · refine ⟨1, s, f, b', m', ?_, hY, h0, fun e => absurd e (by decide), hP⟩
      show (if a = a then _ else if a = b then _ else if a = c then _ else _) = _
      rw [if_pos rfl]
    · refine ⟨2, s, f, b', m', ?_, hY, h0, fun e => absurd e (by decide), hP⟩
      show (if b = a then _ else if b = b then _ else if b = c then _ else _) = _
      rw [if_neg nba, if_pos rfl]
    · refine ⟨3, s, f, b', m', ?_, hY, h0, fun e => absurd e (by decide), hP⟩
      show (if c = a then _ else if c = b then _ else if c = c then _ else _) = _
      rw [if_neg nca, if_neg ncb, if_pos rfl]
theorem kX3b {σ ρ : Type} {a b c : String} (nba : ¬ b = a) (nca : ¬ c = a) (ncb : ¬ c = b) {X : Option ((Int32 ⊕ String) × σ)} {Y : Option (Int32 × St)} {P : σ → St → Prop} (H : Int32 → σ → (Nat → Int64) → ρ) (f : Nat → Int64) (h : KX [a, b, c] X Y P) : ∃ k s f' b' m', bx X (fun E z => if E = a then some (H 1 z f) else if E = b then some (H 2 z f) else if E = c then some (H 3 z f) else none) (fun r z => if r = 0 then gd (inb 0 1) (some (H 0 z (vp_updL f (0 : Int32).toNatClampNeg 0))) else gd (inb 0 1) (some (H 0 z (vp_updL f (0 : Int32).toNatClampNeg 1)))) = some (H k s f') ∧ Y = some (b', m') ∧ m' 0 0 = k ∧ (k = 0 → (b' = 0 ∧ lg_cmp (f' (0 : Int32).toNatClampNeg) 0 = 0) ∨ (¬ b' = 0 ∧ lg_cmp (f' (0 : Int32).toNatClampNeg) 1 = 0)) ∧ P s m' := by
  obtain ⟨z, s, b', m', rfl, hY, hO, hP⟩ := h
  rcases hO with ⟨rfl, h0⟩ | ⟨i, hi, rfl, h0⟩
  · by_cases e : b' = 0
    · refine ⟨0, s, _, b', m', ?_, hY, h0, fun _ => Or.inl ⟨e, lgu f 0⟩, hP⟩
      show (if b' = 0 then gd (inb 0 1) _ else gd (inb 0 1) _) = _
      rw [if_pos e, gd_t i01]
    · refine ⟨0, s, _, b', m', ?_, hY, h0, fun _ => Or.inr ⟨e, lgu f 1⟩, hP⟩
      show (if b' = 0 then gd (inb 0 1) _ else gd (inb 0 1) _) = _
      rw [if_neg e, gd_t i01]
  · have hi' : i < 3 := hi
    have e : i = 0 ∨ i = 1 ∨ i = 2 := by omega
    rcases e with rfl | rfl | rfl
    · refine ⟨1, s, f, b', m', ?_, hY, h0, fun e => absurd e (by decide), hP⟩
      show (if a = a then _ else if a = b then _ else if a = c then _ else _) = _
      rw [if_pos rfl]
    · refine ⟨2, s, f, b', m', ?_, hY, h0, fun e => absurd e (by decide), hP⟩
      show (if b = a then _ else if b = b then _ else if b = c then _ else _) = _
      rw [if_neg nba, if_pos rfl]
    · refine ⟨3, s, f, b', m', ?_, hY, h0, fun e => absurd e (by decide), hP⟩
      show (if c = a then _ else if c = b then _ else if c = c then _ else _) = _
      rw [if_neg nca, if_neg ncb, if_pos rfl]
theorem kZ1i {ρ : Type} {a : String}  {X : Option (Int32 ⊕ String)} {Y : Option (Int32 × St)} {P : St → Prop} (H : Int32 → (Nat → Int64) → ρ) (f : Nat → Int64) (h : KZ [a] X Y P) : ∃ k f' b' m', bz X (fun E => if E = a then some (H 1 f) else none) (fun r => gd (inb 0 1) (some (H 0 (vp_updL f (0 : Int32).toNatClampNeg r.toInt64)))) = some (H k f') ∧ Y = some (b', m') ∧ m' 0 0 = k ∧ (k = 0 → lg_cmp (f' (0 : Int32).toNatClampNeg) b'.toInt64 = 0) ∧ P m' := by
  obtain ⟨z, b', m', rfl, hY, hO, hP⟩ := h
  rcases hO with ⟨rfl, h0⟩ | ⟨i, hi, rfl, h0⟩
  · refine ⟨0, _, b', m', ?_, hY, h0, fun _ => lgu f b'.toInt64, hP⟩
    show gd (inb 0 1) _ = _
    rw [gd_t i01]
  · have hi' : i < 1 := hi
    have e : i = 0 := by omega
    subst e
    refine ⟨1, f, b', m', ?_, hY, h0, fun e => absurd e (by decide), hP⟩
    show (if a = a then _ else _) = _
    rw [if_pos rfl]
theorem kZ1b {ρ : Type} {a : String}  {X : Option (Int32 ⊕ String)} {Y : Option (Int32 × St)} {P : St → Prop} (H : Int32 → (Nat → Int64) → ρ) (f : Nat → Int64) (h : KZ [a] X Y P) : ∃ k f' b' m', bz X (fun E => if E = a then some (H 1 f) else none) (fun r => if r = 0 then gd (inb 0 1) (some (H 0 (vp_updL f (0 : Int32).toNatClampNeg 0))) else gd (inb 0 1) (some (H 0 (vp_updL f (0 : Int32).toNatClampNeg 1)))) = some (H k f') ∧ Y = some (b', m') ∧ m' 0 0 = k ∧ (k = 0 → (b' = 0 ∧ lg_cmp (f' (0 : Int32).toNatClampNeg) 0 = 0) ∨ (¬ b' = 0 ∧ lg_cmp (f' (0 : Int32).toNatClampNeg) 1 = 0)) ∧ P m' := by
  obtain ⟨z, b', m', rfl, hY, hO, hP⟩ := h
  rcases hO with ⟨rfl, h0⟩ | ⟨i, hi, rfl, h0⟩
  · by_cases e : b' = 0
    · refine ⟨0, _, b', m', ?_, hY, h0, fun _ => Or.inl ⟨e, lgu f 0⟩, hP⟩
      show (if b' = 0 then gd (inb 0 1) _ else gd (inb 0 1) _) = _
      rw [if_pos e, gd_t i01]
    · refine ⟨0, _, b', m', ?_, hY, h0, fun _ => Or.inr ⟨e, lgu f 1⟩, hP⟩
      show (if b' = 0 then gd (inb 0 1) _ else gd (inb 0 1) _) = _
      rw [if_neg e, gd_t i01]
  · have hi' : i < 1 := hi
    have e : i = 0 := by omega
    subst e
    refine ⟨1, f, b', m', ?_, hY, h0, fun e => absurd e (by decide), hP⟩
    show (if a = a then _ else _) = _
    rw [if_pos rfl]
theorem kZ2i {ρ : Type} {a b : String} (nba : ¬ b = a) {X : Option (Int32 ⊕ String)} {Y : Option (Int32 × St)} {P : St → Prop} (H : Int32 → (Nat → Int64) → ρ) (f : Nat → Int64) (h : KZ [a, b] X Y P) : ∃ k f' b' m', bz X (fun E => if E = a then some (H 1 f) else if E = b then some (H 2 f) else none) (fun r => gd (inb 0 1) (some (H 0 (vp_updL f (0 : Int32).toNatClampNeg r.toInt64)))) = some (H k f') ∧ Y = some (b', m') ∧ m' 0 0 = k ∧ (k = 0 → lg_cmp (f' (0 : Int32).toNatClampNeg) b'.toInt64 = 0) ∧ P m' := by
  obtain ⟨z, b', m', rfl, hY, hO, hP⟩ := h
  rcases hO with ⟨rfl, h0⟩ | ⟨i, hi, rfl, h0⟩
  · refine ⟨0, _, b', m', ?_, hY, h0, fun _ => lgu f b'.toInt64, hP⟩
    show gd (inb 0 1) _ = _
    rw [gd_t i01]
  · have hi' : i < 2 := hi
    have e : i = 0 ∨ i = 1 := by omega
    rcases e with rfl | rfl
    · refine ⟨1, f, b', m', ?_, hY, h0, fun e => absurd e (by decide), hP⟩
      show (if a = a then _ else if a = b then _ else _) = _
      rw [if_pos rfl]
    · refine ⟨2, f, b', m', ?_, hY, h0, fun e => absurd e (by decide), hP⟩
      show (if b = a then _ else if b = b then _ else _) = _
      rw [if_neg nba, if_pos rfl]
theorem kZ2b {ρ : Type} {a b : String} (nba : ¬ b = a) {X : Option (Int32 ⊕ String)} {Y : Option (Int32 × St)} {P : St → Prop} (H : Int32 → (Nat → Int64) → ρ) (f : Nat → Int64) (h : KZ [a, b] X Y P) : ∃ k f' b' m', bz X (fun E => if E = a then some (H 1 f) else if E = b then some (H 2 f) else none) (fun r => if r = 0 then gd (inb 0 1) (some (H 0 (vp_updL f (0 : Int32).toNatClampNeg 0))) else gd (inb 0 1) (some (H 0 (vp_updL f (0 : Int32).toNatClampNeg 1)))) = some (H k f') ∧ Y = some (b', m') ∧ m' 0 0 = k ∧ (k = 0 → (b' = 0 ∧ lg_cmp (f' (0 : Int32).toNatClampNeg) 0 = 0) ∨ (¬ b' = 0 ∧ lg_cmp (f' (0 : Int32).toNatClampNeg) 1 = 0)) ∧ P m' := by
  obtain ⟨z, b', m', rfl, hY, hO, hP⟩ := h
  rcases hO with ⟨rfl, h0⟩ | ⟨i, hi, rfl, h0⟩
  · by_cases e : b' = 0
    · refine ⟨0, _, b', m', ?_, hY, h0, fun _ => Or.inl ⟨e, lgu f 0⟩, hP⟩
      show (if b' = 0 then gd (inb 0 1) _ else gd (inb 0 1) _) = _
      rw [if_pos e, gd_t i01]
    · refine ⟨0, _, b', m', ?_, hY, h0, fun _ => Or.inr ⟨e, lgu f 1⟩, hP⟩
      show (if b' = 0 then gd (inb 0 1) _ else gd (inb 0 1) _) = _
      rw [if_neg e, gd_t i01]
  · have hi' : i < 2 := hi
    have e : i = 0 ∨ i = 1 := by omega
    rcases e with rfl | rfl
    · refine ⟨1, f, b', m', ?_, hY, h0, fun e => absurd e (by decide), hP⟩
      show (if a = a then _ else if a = b then _ else _) = _
      rw [if_pos rfl]
    · refine ⟨2, f, b', m', ?_, hY, h0, fun e => absurd e (by decide), hP⟩
      show (if b = a then _ else if b = b then _ else _) = _
      rw [if_neg nba, if_pos rfl]
theorem kZ3i {ρ : Type} {a b c : String} (nba : ¬ b = a) (nca : ¬ c = a) (ncb : ¬ c = b) {X : Option (Int32 ⊕ String)} {Y : Option (Int32 × St)} {P : St → Prop} (H : Int32 → (Nat → Int64) → ρ) (f : Nat → Int64) (h : KZ [a, b, c] X Y P) : ∃ k f' b' m', bz X (fun E => if E = a then some (H 1 f) else if E = b then some (H 2 f) else if E = c then some (H 3 f) else none) (fun r => gd (inb 0 1) (some (H 0 (vp_updL f (0 : Int32).toNatClampNeg r.toInt64)))) = some (H k f') ∧ Y = some (b', m') ∧ m' 0 0 = k ∧ (k = 0 → lg_cmp (f' (0 : Int32).toNatClampNeg) b'.toInt64 = 0) ∧ P m' := by
  obtain ⟨z, b', m', rfl, hY, hO, hP⟩ := h
  rcases hO with ⟨rfl, h0⟩ | ⟨i, hi, rfl, h0⟩
  · refine ⟨0, _, b', m', ?_, hY, h0, fun _ => lgu f b'.toInt64, hP⟩
    show gd (inb 0 1) _ = _
    rw [gd_t i01]
  · have hi' : i < 3 := hi
    have e : i = 0 ∨ i = 1 ∨ i = 2 := by omega
    rcases e with rfl | rfl | rfl
    · refine ⟨1, f, b', m', ?_, hY, h0, fun e => absurd e (by decide), hP⟩
      show (if a = a then _ else if a = b then _ else if a = c then _ else _) = _
      rw [if_pos rfl]
    · refine ⟨2, f, b', m', ?_, hY, h0, fun e => absurd e (by decide), hP⟩
      show (if b = a then _ else if b = b then _ else if b = c then _ else _) = _
      rw [if_neg nba, if_pos rfl]
    · refine ⟨3, f, b', m', ?_, hY, h0, fun e => absurd e (by decide), hP⟩
      show (if c = a then _ else if c = b then _ else if c = c then _ else _) = _
      rw [if_neg nca, if_neg ncb, if_pos rfl]
theorem kZ3b {ρ : Type} {a b c : String} (nba : ¬ b = a) (nca : ¬ c = a) (ncb : ¬ c = b) {X : Option (Int32 ⊕ String)} {Y : Option (Int32 × St)} {P : St → Prop} (H : Int32 → (Nat → Int64) → ρ) (f : Nat → Int64) (h : KZ [a, b, c] X Y P) : ∃ k f' b' m', bz X (fun E => if E = a then some (H 1 f) else if E = b then some (H 2 f) else if E = c then some (H 3 f) else none) (fun r => if r = 0 then gd (inb 0 1) (some (H 0 (vp_updL f (0 : Int32).toNatClampNeg 0))) else gd (inb 0 1) (some (H 0 (vp_updL f (0 : Int32).toNatClampNeg 1)))) = some (H k f') ∧ Y = some (b', m') ∧ m' 0 0 = k ∧ (k = 0 → (b' = 0 ∧ lg_cmp (f' (0 : Int32).toNatClampNeg) 0 = 0) ∨ (¬ b' = 0 ∧ lg_cmp (f' (0 : Int32).toNatClampNeg) 1 = 0)) ∧ P m' := by
  obtain ⟨z, b', m', rfl, hY, hO, hP⟩ := h
  rcases hO with ⟨rfl, h0⟩ | ⟨i, hi, rfl, h0⟩
  · by_cases e : b' = 0
    · refine ⟨0, _, b', m', ?_, hY, h0, fun _ => Or.inl ⟨e, lgu f 0⟩, hP⟩
      show (if b' = 0 then gd (inb 0 1) _ else gd (inb 0 1) _) = _
      rw [if_pos e, gd_t i01]
    · refine ⟨0, _, b', m', ?_, hY, h0, fun _ => Or.inr ⟨e, lgu f 1⟩, hP⟩
      show (if b' = 0 then gd (inb 0 1) _ else gd (inb 0 1) _) = _
      rw [if_neg e, gd_t i01]
  · have hi' : i < 3 := hi
    have e : i = 0 ∨ i = 1 ∨ i = 2 := by omega
    rcases e with rfl | rfl | rfl
    · refine ⟨1, f, b', m', ?_, hY, h0, fun e => absurd e (by decide), hP⟩
      show (if a = a then _ else if a = b then _ else if a = c then _ else _) = _
      rw [if_pos rfl]
    · refine ⟨2, f, b', m', ?_, hY, h0, fun e => absurd e (by decide), hP⟩
      show (if b = a then _ else if b = b then _ else if b = c then _ else _) = _
      rw [if_neg nba, if_pos rfl]
    · refine ⟨3, f, b', m', ?_, hY, h0, fun e => absurd e (by decide), hP⟩
      show (if c = a then _ else if c = b then _ else if c = c then _ else _) = _
      rw [if_neg nca, if_neg ncb, if_pos rfl]
theorem tl_i {τ : Type} {k b : Int32} {m' : St} {x : Int64} {ok bad : Option τ} (h3 : m' 0 0 = k) (h4 : k = 0 → lg_cmp x b.toInt64 = 0) : bd (f_X2_thrown m') (fun r3 => if r3 = k then if k = 0 then gd (inb 0 1) (if lg_cmp x b.toInt64 = 0 then ok else bad) else ok else bad) = ok := by
  unfold f_X2_thrown
  rw [bd_s, if_pos h3]
  by_cases e : k = 0
  · rw [if_pos e, gd_t i01, if_pos (h4 e)]
  · rw [if_neg e]
theorem tl_b {τ : Type} {k b : Int32} {m' : St} {x : Int64} {ok bad : Option τ} (h3 : m' 0 0 = k) (h4 : k = 0 → (b = 0 ∧ lg_cmp x 0 = 0) ∨ (¬ b = 0 ∧ lg_cmp x 1 = 0)) : bd (f_X2_thrown m') (fun r3 => if r3 = k then if k = 0 then gd (inb 0 1) (if b = 0 then if lg_cmp x 0 = 0 then ok else bad else if lg_cmp x 1 = 0 then ok else bad) else ok else bad) = ok := by
  unfold f_X2_thrown
  rw [bd_s, if_pos h3]
  by_cases e : k = 0
  · rw [if_pos e, gd_t i01]
    rcases h4 e with ⟨h5, h6⟩ | ⟨h5, h6⟩
    · rw [if_pos h5, if_pos h6]
    · rw [if_neg h5, if_pos h6]
  · rw [if_neg e]
abbrev Sl : Type := Int32 × St × St × St × St × (Nat → Int64)
def LSt (X : Option (Sl ⊕ (Sl ⊕ Int32))) (i : Int32) : Prop := ∃ u v w m f, X = some (.inl (i + 6, u, v, w, m, f)) ∧ Inv u v w m
theorem ne_eIA_eIS : ¬ eIA = eIS := by decide
theorem ne_eIA_eIO : ¬ eIA = eIO := by decide
theorem ne_eIA_eNS : ¬ eIA = eNS := by decide
theorem ne_eIA_eUO : ¬ eIA = eUO := by decide
theorem ne_eIS_eIA : ¬ eIS = eIA := by decide
theorem ne_eIS_eIO : ¬ eIS = eIO := by decide
theorem ne_eIS_eNS : ¬ eIS = eNS := by decide
theorem ne_eIS_eUO : ¬ eIS = eUO := by decide
theorem ne_eIO_eIA : ¬ eIO = eIA := by decide
theorem ne_eIO_eIS : ¬ eIO = eIS := by decide
theorem ne_eIO_eNS : ¬ eIO = eNS := by decide
theorem ne_eIO_eUO : ¬ eIO = eUO := by decide
theorem ne_eNS_eIA : ¬ eNS = eIA := by decide
theorem ne_eNS_eIS : ¬ eNS = eIS := by decide
theorem ne_eNS_eIO : ¬ eNS = eIO := by decide
theorem ne_eNS_eUO : ¬ eNS = eUO := by decide
theorem ne_eUO_eIA : ¬ eUO = eIA := by decide
theorem ne_eUO_eIS : ¬ eUO = eIS := by decide
theorem ne_eUO_eIO : ¬ eUO = eIO := by decide
theorem ne_eUO_eNS : ¬ eUO = eNS := by decide
