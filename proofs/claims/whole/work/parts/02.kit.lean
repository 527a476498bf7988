/-! ===== the words that every contract takes along ===== -/
def Ug : List Cond := lw_tbl.filter goodWord
def exk (w : Cond) : Bool := match w with
  | .fieldLinkNest .. => true
  | .methodLinkNest .. => true
  | .castable .. => true
  | .declares _ => true
  | _ => false
def Ue : List Cond := lw_tbl.filter exk
theorem Ug_in {w : Cond} (h : w ∈ lw_tbl) (g : goodWord w = true) : w ∈ Ug := List.mem_filter.mpr ⟨h, g⟩
theorem Ue_in {w : Cond} (h : w ∈ lw_tbl) (g : exk w = true) : w ∈ Ue := List.mem_filter.mpr ⟨h, g⟩
theorem Ug_at {w : Cond} (i : Nat) (h : lw_tbl[i]? = some w) (g : goodWord w = true) : w ∈ Ug := Ug_in (List.mem_of_getElem? h) g
theorem Ue_at {w : Cond} (i : Nat) (h : lw_tbl[i]? = some w) (g : exk w = true) : w ∈ Ue := Ue_in (List.mem_of_getElem? h) g
theorem ex_move {w : Cond} (h : exk w = true) {s U : State} (hW : s.WarmedH U.vm) (hZ : va_Nw w s) : va_Nw w U := by
  cases w <;> first | exact va_Nw.warmF hW hZ | exact va_Nw.warmM hW hZ | exact va_Nw.warmC hW hZ | exact va_Nw.warmD hW hZ | exact absurd h (by simp [exk])
theorem ex_tab {w : Cond} (h : exk w = true) : w.onTables = true := by
  cases w <;> first | rfl | exact absurd h (by simp [exk])
theorem Ug_good : GoodIn Ug Ug := fun w h => ⟨h, good_of_word (List.mem_filter.mp h).2⟩
theorem Ug_cons {c : Cond} (h : c ∈ Ug) : GoodIn Ug (c :: Ug) := fun w hw => (List.mem_cons.mp hw).elim (fun e => by rw [e]; exact Ug_good c h) (fun hw => Ug_good w hw)
theorem mem_by {big ws : List Cond} (ps : List Nat) (h : ps.map (fun i => big[i]?) = ws.map some) (hg : ws.all goodWord = true) : ∀ w ∈ ws, w ∈ big := by
  intro w hw
  have h1 : some w ∈ ws.map some := List.mem_map.mpr ⟨w, hw, rfl⟩
  rw [← h] at h1
  obtain ⟨i, -, hi⟩ := List.mem_map.mp h1
  exact List.mem_of_getElem? hi
/-! ===== what lies beside the worlds: links of nest mates, texts, statics ===== -/
def SA (C n d : String) (ty : FieldType) (N : Nat) (f : Nat → Value) (A : Nat → Prop) (U : State) (H : Heap) : Prop := ∃ t : Nat, va_Z C n d (.ref t) A U H ∧ va_T ty t N f A U H
def kAr : Nat → Int32 := fun j => ([1, 1, 2, 2, 3, 3] : List Int32).getD j 0
def kCo : Nat → Int32 := fun j => ([0, 3, 8, 14, 232, 150] : List Int32).getD j 0
def aCo : Nat → Int32 := fun j => ([170, 204, 240] : List Int32).getD j 0
def onL : Nat → Int64 := fun j => ([-6148914691236517206, -3689348814741910324, -1085102592571150096, -71777214294589696, -281470681808896, -4294967296] : List Int64).getD j 0
theorem SA.go {C n d : String} {ty : FieldType} {N : Nat} {f : Nat → Value} {A B : Nat → Prop} {U V : State} {H H1 : Heap} (h : SA C n d ty N f A U H) (hv : U.vm.Alike V.vm) (hk : ∀ q : Nat, q < H.size → ¬ A q → H1[q]? = H[q]?) (hAB : ∀ q, B q → A q) : SA C n d ty N f B V H1 := by
  obtain ⟨t, h1, h2⟩ := h
  exact ⟨t, ((h1.kept hk).moved hv).narrow hAB, ((h2.kept hk).moved hv).narrow hAB⟩
def Sx (A : Nat → Prop) (U : State) (H : Heap) : Prop :=
  (∀ w ∈ Ue, va_Nw w U) ∧ (∀ e ∈ sTx, ∃ a, vk_R e.1 e.2.1 e.2.2 a U) ∧ (∀ e ∈ nCs, va_Nc e.1 e.2 U) ∧
  vx_Zq Bundle.tN "UNASSIGNED_STACK" Bundle.steD A U H ∧ vx_Zq Bundle.tN "SUPPRESSED_SENTINEL" Bundle.listD A U H ∧
  SA RX1 "KIND_ARITIES" "[I" .int 6 (fun j => .int (kAr j)) A U H ∧ SA RX1 "KIND_CODES" "[I" .int 6 (fun j => .int (kCo j)) A U H ∧ SA RX1 "ARGUMENT_CODES" "[I" .int 3 (fun j => .int (aCo j)) A U H ∧
  SA RX2 "KIND_ARITY" "[I" .int 6 (fun j => .int (kAr j)) A U H ∧ SA RX2 "KIND_CODE" "[I" .int 6 (fun j => .int (kCo j)) A U H ∧ SA RX0 "ONES" "[J" .long 6 (fun j => .long (onL j)) A U H
theorem Sx.go {A B : Nat → Prop} {U V : State} {H H1 : Heap} (h : Sx A U H) (hW : U.WarmedH V.vm) (hk : ∀ q : Nat, q < H.size → ¬ A q → H1[q]? = H[q]?) (hAB : ∀ q, B q → A q) : Sx B V H1 := by
  obtain ⟨h1, h2, h3, h4, h5, h6, h7, h8, h9, h10, h11⟩ := h
  have hv := hW.alike
  refine ⟨fun w hw => ex_move (List.mem_filter.mp hw).2 hW (h1 w hw), fun e he => ?_, fun e he => va_Nc.moved hv (h3 e he), ((h4.kept hk).moved hv).narrow hAB, ((h5.kept hk).moved hv).narrow hAB, h6.go hv hk hAB, h7.go hv hk hAB, h8.go hv hk hAB, h9.go hv hk hAB, h10.go hv hk hAB, h11.go hv hk hAB⟩
  obtain ⟨a, ha⟩ := h2 e he
  exact ⟨a, vk_R.warm hW ha⟩
theorem Sx.same {A : Nat → Prop} {U V : State} {H : Heap} (h : Sx A U H) (hv : U.vm = V.vm) : Sx A V H := by
  obtain ⟨h1, h2, h3, h4, h5, h6, h7, h8, h9, h10, h11⟩ := h
  have ha : U.vm.Alike V.vm := by rw [hv]; exact Vm.Alike.refl V.vm
  have hk : ∀ q : Nat, q < H.size → ¬ A q → H[q]? = H[q]? := fun _ _ _ => rfl
  have hA : ∀ q, A q → A q := fun _ h => h
  refine ⟨fun w hw => va_Nw.same (ex_tab (List.mem_filter.mp hw).2) hv (h1 w hw), fun e he => ?_, fun e he => va_Nc.moved ha (h3 e he), h4.moved ha, h5.moved ha, h6.go ha hk hA, h7.go ha hk hA, h8.go ha hk hA, h9.go ha hk hA, h10.go ha hk hA, h11.go ha hk hA⟩
  obtain ⟨a, hr⟩ := h2 e he
  exact ⟨a, vk_R.same hv.symm hr⟩
/-! ===== a walk's bundle ===== -/
abbrev Cx : Type := (Program × Launch × Env × Room × State × MethodId × Array Value × List Frame × Method × Code) × ((Nat → Prop) × (State → Prop) × va_G × (Nat → ClassId))
abbrev cxp (x : Cx) : Program := x.1.1
abbrev cxl (x : Cx) : Launch := x.1.2.1
abbrev cxe (x : Cx) : Env := x.1.2.2.1
abbrev cxR (x : Cx) : Room := x.1.2.2.2.1
abbrev cxs (x : Cx) : State := x.1.2.2.2.2.1
abbrev cxm (x : Cx) : MethodId := x.1.2.2.2.2.2.1
abbrev cxa (x : Cx) : Array Value := x.1.2.2.2.2.2.2.1
abbrev cxb (x : Cx) : List Frame := x.1.2.2.2.2.2.2.2.1
abbrev cxh (x : Cx) : Method := x.1.2.2.2.2.2.2.2.2.1
abbrev cxc (x : Cx) : Code := x.1.2.2.2.2.2.2.2.2.2
abbrev cxA (x : Cx) : Nat → Prop := x.2.1
abbrev cxQ (x : Cx) : State → Prop := x.2.2.1
abbrev cxD (x : Cx) : va_G := x.2.2.2.1
abbrev cxT (x : Cx) : Nat → ClassId := x.2.2.2.2
abbrev tysT (T : Nat → ClassId) : List (ClassId × FieldType) := [(T 0, .int), (T 1, .char), (T 2, .boolean), (T 3, .long)]
abbrev Wx (x : Cx) (k n : Nat) (H : Heap) (locs : List Loc) (g : JFrame) : Prop := W (cxp x) (cxl x) (cxe x) (cxR x) (cxs x) (cxm x) (cxa x) (cxb x) (cxh x) (cxc x) H locs k n (cxQ x) g
abbrev Xx (x : Cx) (k n : Nat) (H : Heap) (locs : List Loc) (g : JFrame) (q : Addr) : Prop := vx_W (cxp x) (cxl x) (cxe x) (cxR x) (cxs x) (cxm x) (cxa x) (cxb x) (cxh x) (cxc x) H locs k n (cxQ x) g q
def G (x : Cx) (nL k n : Nat) (wd : va_W) (lv : List (Nat × Value)) (pc : Nat) (st : List Value) : Prop :=
  ∀ (H : Heap) (locs : List Loc) (ls : Array Slot), va_P (cxD x) vwCl wd H → va_D (cxA x) wd → va_S (cxA x) (cxs x).heap H locs → lv_has ls nL lv → Wx x k n H locs (F0 (cxm x) pc ls st)
def XW (x : Cx) (nL k n : Nat) (wd : va_W) (lv : List (Nat × Value)) (pc : Nat) (st : List Value) (E : String) : Prop :=
  ∀ (H : Heap) (locs : List Loc) (ls : Array Slot) (q : Addr) (ce : Cell), va_P (cxD x) vwCl wd H → va_D (cxA x) wd → va_S (cxA x) (cxs x).heap H locs → lv_has ls nL lv → H[q]? = some ce → ce.vm = .none → (cxs x).vm.findClass E = some ce.cls → Xx x k n H locs (F0 (cxm x) pc ls st) q
def rmD (d mc ms : Nat) : Room := { frames := 10 + 2 * d, cells := mc, slots := ms, locals := 200 + 60 * d }
def Ok (x : Cx) (cc : ByteArray) (nL : Nat) (own : String) (d mc ms : Nat) : Prop :=
  (cxp x).tables.exec = Jvm.exec ∧ (cxc x).code = cc ∧ (cxc x).maxLocals = nL ∧ (cxs x).vm.findClass own = some (cxm x).cls ∧ (∀ w ∈ Ug, w.before (cxa x) (cxs x) = true) ∧ va_K (cxD x) vwCl (tysT (cxT x)) (cxs x) ∧ (∀ q, (cxs x).heap.size ≤ q → cxA x q) ∧
  Sx (cxA x) (cxs x) (cxs x).heap ∧ (cxh x).locks = false ∧ (cxl x).stackTraces = false ∧ (10 + 2 * d ≤ (cxR x).frames ∧ 200 + 60 * d ≤ (cxR x).locals ∧ mc ≤ (cxR x).cells ∧ ms ≤ (cxR x).slots)
def RetI (x : Cx) (cc : ByteArray) (ty : FieldType) (mc ms : Nat) (wd : va_W) (r : Int32) : Prop :=
  ∀ (k n pc : Nat) (H : Heap) (locs : List Loc) (ls : Array Slot), k ≤ mc → n ≤ ms → narrow ty (.int r) = .int r → decode cc pc = .ok (.ireturn, 1) → va_P (cxD x) vwCl wd H → va_D (cxA x) wd → va_S (cxA x) (cxs x).heap H locs → Wx x k n H locs (F0 (cxm x) pc ls [.int r])
def RetL (x : Cx) (cc : ByteArray) (mc ms : Nat) (wd : va_W) (r : Int64) : Prop :=
  ∀ (k n pc : Nat) (H : Heap) (locs : List Loc) (ls : Array Slot), k ≤ mc → n ≤ ms → decode cc pc = .ok (.lreturn, 1) → va_P (cxD x) vwCl wd H → va_D (cxA x) wd → va_S (cxA x) (cxs x).heap H locs → Wx x k n H locs (F0 (cxm x) pc ls [.long r])
def RetV (x : Cx) (cc : ByteArray) (mc ms : Nat) (wd : va_W) : Prop :=
  ∀ (k n pc : Nat) (H : Heap) (locs : List Loc) (ls : Array Slot), k ≤ mc → n ≤ ms → decode cc pc = .ok (.return_, 1) → va_P (cxD x) vwCl wd H → va_D (cxA x) wd → va_S (cxA x) (cxs x).heap H locs → Wx x k n H locs (F0 (cxm x) pc ls [])
def RetX (x : Cx) (mc ms : Nat) (wd : va_W) (E : String) : Prop :=
  ∃ (Qc : Array Value → State → Outcome → State → Prop) (XC : String → State → State → Prop) (free : Addr → Prop), cxQ x = vx_MQ (cxb x) Qc XC (cxa x) (cxs x) mc ms free ∧ (∀ z ∈ (cxc x).exceptionTable.toList, False) ∧ (∀ q, cxA x q → free q) ∧
    ∀ t : State, (cxs x).vm.Alike t.vm → va_F (cxA x) (cxs x) t → va_P (cxD x) vwCl wd t.heap → va_D (cxA x) wd → XC E (cxs x) t
/-! ===== pure words: guards, names, calls, loops ===== -/
def gd {α : Type} (b : Bool) (a : Option α) : Option α := bif b then a else none
theorem gd_some {α : Type} {b : Bool} {a : Option α} {w : α} (h : gd b a = some w) : b = true ∧ a = some w := by
  cases b with
  | true => exact ⟨rfl, h⟩
  | false => cases h
def lt {α β : Type} (e : α) (k : α → β) : β := k e
def bd {α β : Type} (o : Option α) (k : α → Option β) : Option β := match o with
  | none => none
  | some a => k a
theorem bd_some {α β : Type} {o : Option α} {k : α → Option β} {w : β} (h : bd o k = some w) : ∃ a, o = some a ∧ k a = some w := by
  cases o with
  | none => cases h
  | some a => exact ⟨a, rfl, h⟩
def bx {ρ σ τ : Type} (o : Option ((ρ ⊕ String) × σ)) (ke : String → σ → Option τ) (k : ρ → σ → Option τ) : Option τ := match o with
  | none => none
  | some (.inr E, s) => ke E s
  | some (.inl r, s) => k r s
theorem bx_some {ρ σ τ : Type} {o : Option ((ρ ⊕ String) × σ)} {ke : String → σ → Option τ} {k : ρ → σ → Option τ} {w : τ} (h : bx o ke k = some w) : (∃ r s, o = some (.inl r, s) ∧ k r s = some w) ∨ ∃ E s, o = some (.inr E, s) ∧ ke E s = some w := by
  match o, h with
  | some (.inr E, s), h => exact Or.inr ⟨E, s, rfl, h⟩
  | some (.inl r, s), h => exact Or.inl ⟨r, s, rfl, h⟩
def bz {ρ τ : Type} (o : Option (ρ ⊕ String)) (ke : String → Option τ) (k : ρ → Option τ) : Option τ := match o with
  | none => none
  | some (.inr E) => ke E
  | some (.inl r) => k r
theorem bz_some {ρ τ : Type} {o : Option (ρ ⊕ String)} {ke : String → Option τ} {k : ρ → Option τ} {w : τ} (h : bz o ke k = some w) : (∃ r, o = some (.inl r) ∧ k r = some w) ∨ ∃ E, o = some (.inr E) ∧ ke E = some w := by
  match o, h with
  | some (.inr E), h => exact Or.inr ⟨E, rfl, h⟩
  | some (.inl r), h => exact Or.inl ⟨r, rfl, h⟩
def loopN {σ ρ : Type} (step : σ → Option (σ ⊕ ρ)) : Nat → σ → Option ρ
  | 0, _ => none
  | n + 1, s => match step s with
    | none => none
    | some (.inl s2) => loopN step n s2
    | some (.inr r) => some r
theorem loop_W {σ ρ : Type} (step : σ → Option (σ ⊕ ρ)) (P : σ → Prop) (r : ρ) (hs : ∀ (s : σ) (w : σ ⊕ ρ), step s = some w → ((∃ s2, w = .inl s2 ∧ P s2) ∨ w = .inr r) → P s) : ∀ (n : Nat) (s : σ), loopN step n s = some r → P s := by
  intro n
  induction n with
  | zero => intro s h; cases h
  | succ n ih =>
    intro s h
    unfold loopN at h
    match hw : step s, h with
    | some (.inl s2), h => exact hs s _ hw (Or.inl ⟨s2, rfl, ih s2 h⟩)
    | some (.inr r2), h => exact hs s _ hw (Or.inr (by rw [Option.some.inj h]))
theorem lf_c {σ ρ : Type} {P : σ → Prop} {s1 : σ} {w : σ ⊕ ρ} {r : ρ} (hf : some (Sum.inl s1) = some w) (hw : (∃ s2, w = .inl s2 ∧ P s2) ∨ w = .inr r) : P s1 := by
  cases Option.some.inj hf
  rcases hw with ⟨s2, h1, h2⟩ | h
  · cases h1; exact h2
  · cases h
theorem lf_x {σ ρ : Type} {P : σ → Prop} {r1 : ρ} {w : σ ⊕ ρ} {r : ρ} (hf : some (Sum.inr r1) = some w) (hw : (∃ s2, w = .inl s2 ∧ P s2) ∨ w = .inr r) : r = r1 := by
  cases Option.some.inj hf
  rcases hw with ⟨s2, h1, h2⟩ | h
  · cases h1
  · cases h; rfl
def bl {σ τ υ : Type} (o : Option (σ ⊕ τ)) (kr : τ → Option υ) (k : σ → Option υ) : Option υ := match o with
  | none => none
  | some (.inl s) => k s
  | some (.inr t) => kr t
theorem bl_some {σ τ υ : Type} {o : Option (σ ⊕ τ)} {kr : τ → Option υ} {k : σ → Option υ} {w : υ} (h : bl o kr k = some w) : ∃ r, o = some r ∧ (∀ s, r = .inl s → k s = some w) ∧ ∀ t, r = .inr t → kr t = some w := by
  match o, h with
  | some (.inl s), h => exact ⟨_, rfl, (fun s2 e => by cases e; exact h), (fun t e => by cases e)⟩
  | some (.inr t), h => exact ⟨_, rfl, (fun s2 e => by cases e), (fun t e => by cases e; exact h)⟩
abbrev St : Type := Nat → Nat → Int32
def ua (u : St) (i : Nat) (f : Nat → Int32) : St := fun j => bif Nat.beq j i then f else u j
def us (u : St) (k : Nat) (v : Int32) : St := ua u 0 (fun j => bif Nat.beq j k then v else u 0 j)
def inb (i : Int32) (n : Nat) : Bool := decide (¬ (i < 0 ∨ n ≤ i.toNatClampNeg))
theorem inb_in {i : Int32} {n : Nat} (h : inb i n = true) : vp_in i n := (of_decide_eq_true h : ¬ (i < 0 ∨ n ≤ i.toNatClampNeg))
def okB (r : Int32) : Bool := decide (r = 0 ∨ r = 1)
theorem okB_n {r : Int32} (h : okB r = true) : narrow .boolean (.int r) = .int r := by
  rcases of_decide_eq_true h with h | h <;> subst h <;> decide +kernel
theorem okB_f {r : Int32} (h : okB r = true) : fits .boolean (.int r) = true := by
  rcases of_decide_eq_true h with h | h <;> subst h <;> decide +kernel
def okC (r : Int32) : Bool := decide (narrow .char (.int r) = .int r)
theorem okC_n {r : Int32} (h : okC r = true) : narrow .char (.int r) = .int r := of_decide_eq_true h
def FU : Nat := 2000
