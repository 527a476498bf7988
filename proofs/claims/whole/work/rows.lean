section
/-! ===== BEGIN words of one list among another's, by their places ===== -/
theorem goodIn_r {big : List Cond} (ws : List Cond) (ps : List Nat) (hp : ws = ps.filterMap (fun i => big[i]?)) (h : ws.all goodWord = true) : GoodIn big ws := by
  intro w hw
  have h1 := List.all_eq_true.mp h w hw
  rw [hp] at hw
  obtain ⟨i, -, hi⟩ := List.mem_filterMap.mp hw
  have hm : w ∈ big := by first | exact List.mem_of_getElem? hi | exact List.getElem?_mem hi
  exact ⟨hm, good_of_word h1⟩
theorem goodIn_app {big a b : List Cond} (ha : GoodIn big a) (hb : GoodIn big b) : GoodIn big (a ++ b) := fun w h => (List.mem_append.mp h).elim (ha w) (hb w)
theorem goodIn_ca {big a b : List Cond} {c : Cond} (ha : GoodIn big (c :: a)) (hb : GoodIn big b) : GoodIn big (c :: (a ++ b)) := fun w h => (List.mem_cons.mp h).elim (fun e => ha w (List.mem_cons.mpr (Or.inl e))) (fun h => (List.mem_append.mp h).elim (fun h => ha w (List.mem_cons.mpr (Or.inr h))) (hb w))
theorem goodIn_sub {big ws : List Cond} (hm : ∀ w ∈ ws, w ∈ big) (h : ws.all goodWord = true) : GoodIn big ws := fun w hw => ⟨hm w hw, good_of_word (List.all_eq_true.mp h w hw)⟩
/-! ===== END ===== -/

/-! ===== BEGIN exceptions that leave a method, and their catching by the caller (launches without stack traces) ===== -/
section VXA
/-! The laws vx_back, vx_callV, vx_callS, vx_callSW, vx_throw0, vx_throwS follow proofs of the library, with one case more: JvmDerived/Free/Laws.lean (Back.of_free), Shelf42/LK1.lean (callV, callS), Shelf/KitTraced.lean (throwNew0V, throwNewS). -/
/-- where a method has thrown q: the class by its name, the cell, what was written, the world -/
def vx_T (XC : String → State → State → Prop) (st : State) (q : Addr) (t : State) (mc ms : Nat) (free : Addr → Prop) : Prop :=
  ∃ (E : String) (ce : Cell) (L : List Loc), XC E st t ∧ t.heap[q]? = some ce ∧ ce.vm = .none ∧ st.vm.findClass E = some ce.cls ∧ st.WarmedH t.vm ∧ st.sameButNew ({ t with vm := st.vm } : State) L mc ms ∧ ∀ z ∈ L, free z.base
def vx_Q (Qc : Array Value → State → Outcome → State → Prop) (XC : String → State → State → Prop) (mc ms : Nat) (free : Addr → Prop) : Array Value → State → Outcome → State → Prop := fun a st o t =>
  (Qc a st o t ∧ ∃ L, FrameEnd st o t L mc ms ∧ ∀ q ∈ L, free q.base) ∨ ∃ q, o = .threw q ∧ vx_T XC st q t mc ms free
/-- a callee that returns or throws -/
def vx_Met (l : Launch) (y : MethodName) (ws : List Cond) (rm : Room) (Pc : Array Value → State → Prop) (Qc : Array Value → State → Outcome → State → Prop) (XC : String → State → State → Prop) (mc ms : Nat) (free : Addr → Prop) : Prop :=
  MetFree l y (headSpec ws rm) Pc (fun _ _ _ _ _ => True) (vx_Q Qc XC mc ms free)
def vx_Post (XC : String → State → State → Prop) (mc ms : Nat) (free : Addr → Prop) : Pt → Array Value → Addr → Pt → Prop := fun A a q B =>
  ∃ (g : JFrame) (mk : MethodId) (t : State) (L : List Loc) (E : String) (ce : Cell), B.U.heap = t.heap ∧ B.U.vm = t.vm ∧ XC E (A.U.calling g mk a) t ∧ t.heap[q]? = some ce ∧ ce.vm = .none ∧ A.U.vm.findClass E = some ce.cls ∧ B.locs = A.locs ++ L ∧ (∀ z ∈ L, free z.base) ∧ B.cells = A.cells + mc ∧ B.slots = A.slots + ms
def vx_Back (l : Launch) (R : Room) (p : Program) (e : Env) (below : List Frame) (s : State) (sargs : Array Value) (y : MethodName) (len W9 : Nat)
    (Pre : Pt → Array Value → Prop) (Post : Pt → Array Value → Option Value → Pt → Prop) (PostX : Pt → Array Value → Addr → Pt → Prop) : Prop :=
  ∀ (m : MethodId) (meth : Method) (c : Code) (A : Pt) (g : JFrame) (ig : Instr) (mk : MethodId) (a : Array Value),
    Stand p l e R s m sargs below meth c A.U A.locs A.cells A.slots → g.method = m → g.locals.size = c.maxLocals → decode c.code g.pc = .ok (ig, len) →
    2 * g.monitorRoom + (g.stack.map fun v => v.category).sum ≤ W9 → A.U.methodNamed? y = some mk → Pre A a →
    (∃ (v : Option Value) (B : Pt), Stand p l e R s m sargs below meth c B.U B.locs B.cells B.slots ∧ Post A a v B ∧
      Steps p.tables e below (doInvoke e (A.U.setTop g) [] mk a).1 (B.U.setTop { g with pc := g.pc + len, stack := v.toList ++ g.stack })) ∨
    (∃ (q : Addr) (B : Pt), Stand p l e R s m sargs below meth c B.U B.locs B.cells B.slots ∧ PostX A a q B ∧
      Steps p.tables e below (doInvoke e (A.U.setTop g) [] mk a).1 ((B.U.setTop g).pushFrame (.throwing q)))
section Payer
variable {l : Launch} {R : Room} {p : Program} {e : Env} {below : List Frame} {s : State} {sargs : Array Value} {y : MethodName} {len W9 : Nat}
theorem vx_back {ws : List Cond} {rm : Room} {Pc : Array Value → State → Prop} {Qc : Array Value → State → Outcome → State → Prop} {XC : String → State → State → Prop} {mc ms : Nat} {free : Addr → Prop} {bytes : ByteArray} {maxL : Nat} {ret : Option FieldType}
    (hM : vx_Met l y ws rm Pc Qc XC mc ms free) (hblind : FrameBlind Pc) (hrc : rm.cells = mc) (hrs : rm.slots = ms)
    (hframes : rm.frames + 1 ≤ R.frames) (hlocals : W9 + (maxL + 11) + rm.locals ≤ R.locals)
    (hws : ∀ w ∈ ws, ∀ a' U, s.WarmedH U.vm → w.before a' U = true) (hcode : Cond.code y bytes maxL ret ∈ ws) (hinit : ∀ a' U, s.WarmedH U.vm → (Cond.initialized y.cls).before a' U = true) :
    vx_Back l R p e below s sargs y len W9 (PreOf R mc ms Pc) (PostOf Qc mc ms free) (vx_Post XC mc ms free) := by
  intro m meth c A g ig mk a X hg hsize hdg hW hn hp
  have h1 : (headSpec ws rm).pre.before a A.U = true := atoms_intro fun w hw => hws w hw _ _ X.warmed
  have h2 : (Cond.code y bytes maxL ret).before a A.U = true := hws _ hcode _ _ X.warmed
  have h3 : (Cond.initialized y.cls).before a A.U = true := hinit _ _ X.warmed
  have h4 : A.cells + (headSpec ws rm).room.cells ≤ R.cells := by rw [show (headSpec ws rm).room.cells = mc from hrc]; exact hp.1
  have h5 : A.slots + (headSpec ws rm).room.slots ≤ R.slots := by rw [show (headSpec ws rm).room.slots = ms from hrs]; exact hp.2.1
  have hPc : Pc a (A.U.calling g mk a) := hblind _ _ _ _ hp.2.2
  obtain ⟨U, Ls, c0, s0⟩ := A
  dsimp only [Pt.U, Pt.locs, Pt.cells, Pt.slots] at h1 h2 h3 h4 h5 X hn hPc ⊢
  obtain ⟨methY, cY, hmY, hcY, -, hlY, -, -, -, -⟩ := Cond.code_spec hn h2
  obtain ⟨kY, hkY, -⟩ := className_of_methodNamed hn
  have hinitY : kY.init = .initialized := Cond.initialized_spec (findClass_of_methodNamed hn) hkY h3
  have h : At U g.method c below := by rw [hg]; exact X.here
  have hlocals9 : W9 + (maxL + 11) + (headSpec ws rm).room.locals ≤ R.locals := hlocals
  have happ : (headSpec ws rm).appliesLoose y e.platform (U.calling g mk a) = true :=
    Spec.appliesLoose_calling (g := g) h hdg hn hkY hinitY
      (X.room_calling (g := g) (R' := (headSpec ws rm).room) hsize hmY hcY hframes (by rw [hlY]; omega) h4 h5) h1
  obtain ⟨mid, hmid⟩ := h.above
  have hfr : (U.setTop g).frames = (.java g :: mid) ++ below := by rw [State.frames_setTop' g h.top, hmid]; rfl
  obtain ⟨o, s₂, hsteps, -, hend, hq⟩ := Steps.callFree hM p X.admits X.cas X.clock (acts := []) hfr happ hPc trivial
  have hq' : vx_Q Qc XC mc ms free a (U.calling g mk a) o s₂ := hq
  rw [State.frames_setTop' g h.top] at hend
  obtain ⟨g₀, hg0⟩ := Option.isSome_iff_exists.mp h.top
  obtain ⟨r, hr⟩ := State.topJava?_eq_some.mp hg0
  have hr' : (({ U with heap := s₂.heap, slotsUsed := s₂.slotsUsed } : State).setVm s₂.vm).frames = .java g₀ :: r := hr
  rcases hq' with ⟨hqc, L, hfe, hL⟩ | ⟨q, rfl, E, ce, L, hx, hce, hcv, hcl, hW₂, hsm, hL⟩
  · obtain ⟨⟨v, rfl⟩, hW₂, e2, q2, q3, q4, q5, q6⟩ := id hfe
    have e3 : s₂ = ({ (U.calling g mk a).setFrames s₂.frames with heap := s₂.heap, slotsUsed := s₂.slotsUsed } : State).setVm s₂.vm := by
      have : s₂ = ({ s₂ with vm := (U.calling g mk a).vm } : State).setVm s₂.vm := rfl
      rw [e2] at this
      exact this
    obtain ⟨c₂, i₂, len₂, hc₂, hd₂, hf₂⟩ := hend
    have hW' : U.WarmedH s₂.vm := hW₂
    have hcc : c₂ = c := by
      have h1 : s₂.code? g.method = U.code? g.method := by
        rw [State.code?_eq, State.code?_eq, hW'.alike.method?]
      exact Option.some.inj (hc₂.symm.trans (h1.trans h.code))
    subst hcc
    have hlen : len₂ = len := by rw [hdg] at hd₂; cases hd₂; rfl
    subst hlen
    have hs₂ : s₂ = (({ U with heap := s₂.heap, slotsUsed := s₂.slotsUsed } : State).setVm s₂.vm).setTop { g with pc := g.pc + len₂, stack := v.toList ++ g.stack } := by
      refine e3.trans ?_
      rw [hf₂, State.calling_eq h.top, State.setFrames_setFrames, State.setTop_of_frames _ hr', hr]
      rfl
    have hsame : U.sameButNew ({ U with heap := s₂.heap, slotsUsed := s₂.slotsUsed } : State) L mc ms := by
      refine ⟨?_, q2, q3, q4, q5, q6⟩
      obtain ⟨t, ht, -⟩ := State.frames_cons hr
      show ({ U with heap := s₂.heap, slotsUsed := s₂.slotsUsed } : State) = { U.setFrames U.frames with heap := s₂.heap, slotsUsed := s₂.slotsUsed }
      rw [State.setFrames_self ht]
    subst hg
    refine Or.inl ⟨v, ⟨(({ U with heap := s₂.heap, slotsUsed := s₂.slotsUsed } : State).setVm s₂.vm), Ls ++ L, c0 + mc, s0 + ms⟩,
      ⟨X.admits, X.cas, X.clock, X.frames, X.room, X.hears, X.method, X.code, (X.here.setHeapUsed s₂.heap s₂.slotsUsed).setVm hW'.alike, X.tail, State.WarmedH.trans X.warmed hW', X.limits, X.bytes, X.same.trans (hsame.setVm s.vm)⟩,
      ⟨g, mk, s₂, L, rfl, rfl, hqc, rfl, hL, rfl, rfl⟩, ?_⟩
    show Steps p.tables e below _ ((({ U with heap := s₂.heap, slotsUsed := s₂.slotsUsed } : State).setVm s₂.vm).setTop { g with pc := g.pc + len₂, stack := v.toList ++ g.stack })
    rw [← hs₂]
    exact hsteps
  · obtain ⟨e2, q2, q3, q4, q5, q6⟩ := id hsm
    have e3 : s₂ = ({ (U.calling g mk a).setFrames s₂.frames with heap := s₂.heap, slotsUsed := s₂.slotsUsed } : State).setVm s₂.vm := by
      have : s₂ = ({ s₂ with vm := (U.calling g mk a).vm } : State).setVm s₂.vm := rfl
      rw [e2] at this
      exact this
    have hf₂ : s₂.frames = .throwing q :: .java g :: U.frames.tail := hend
    have hW' : U.WarmedH s₂.vm := hW₂
    have hs₂ : s₂ = ((({ U with heap := s₂.heap, slotsUsed := s₂.slotsUsed } : State).setVm s₂.vm).setTop g).pushFrame (.throwing q) := by
      refine e3.trans ?_
      rw [hf₂, State.calling_eq h.top, State.setFrames_setFrames, State.pushFrame, State.frames_setTop _ hr', State.setTop_of_frames _ hr', State.setFrames_setFrames, hr]
      rfl
    have hsame : U.sameButNew ({ U with heap := s₂.heap, slotsUsed := s₂.slotsUsed } : State) L mc ms := by
      refine ⟨?_, q2, q3, q4, q5, q6⟩
      obtain ⟨t, ht, -⟩ := State.frames_cons hr
      show ({ U with heap := s₂.heap, slotsUsed := s₂.slotsUsed } : State) = { U.setFrames U.frames with heap := s₂.heap, slotsUsed := s₂.slotsUsed }
      rw [State.setFrames_self ht]
    subst hg
    refine Or.inr ⟨q, ⟨(({ U with heap := s₂.heap, slotsUsed := s₂.slotsUsed } : State).setVm s₂.vm), Ls ++ L, c0 + mc, s0 + ms⟩,
      ⟨X.admits, X.cas, X.clock, X.frames, X.room, X.hears, X.method, X.code, (X.here.setHeapUsed s₂.heap s₂.slotsUsed).setVm hW'.alike, X.tail, State.WarmedH.trans X.warmed hW', X.limits, X.bytes, X.same.trans (hsame.setVm s.vm)⟩,
      ⟨g, mk, s₂, L, E, ce, rfl, rfl, hx, hce, hcv, hcl, rfl, hL, rfl, rfl⟩, ?_⟩
    show Steps p.tables e below _ (((({ U with heap := s₂.heap, slotsUsed := s₂.slotsUsed } : State).setVm s₂.vm).setTop g).pushFrame (.throwing q))
    rw [← hs₂]
    exact hsteps
end Payer
section Calls
variable {p : Program} {l : Launch} {e : Env} {R : Room} {s : State} {m : MethodId} {args : Array Value} {below : List Frame} {meth : Method} {c : Code} {T : State} {locs : List Loc} {cells slots : Nat}
theorem vx_callV (X : Stand p l e R s m args below meth c T locs cells slots) (hexec : p.tables.exec = Jvm.exec) {own C : String} {index : Nat} {y : MethodName} {bytes : ByteArray} {maxL : Nat} {ret : Option FieldType}
    (hown : s.vm.findClass own = some m.cls) (hlink : (Cond.methodLink own index y).before args s = true) (hinst : (Cond.instanceMethod y).before args s = true) (hsel : (Cond.selects C y y).before args s = true)
    (hcode : (Cond.code y bytes maxL ret).before args s = true) (hy : y.cls ≠ "java/lang/invoke/MethodHandle" ∧ y.cls ≠ "java/lang/invoke/VarHandle")
    {W9 : Nat} {Pre : Pt → Array Value → Prop} {Post : Pt → Array Value → Option Value → Pt → Prop} {PostX : Pt → Array Value → Addr → Pt → Prop} (hK : vx_Back l R p e below s args y 3 W9 Pre Post PostX)
    {b : Addr} {cellB : Cell} (hcell : T.heap[b]? = some cellB) (hobj : cellB.vm.isStatics = false) (hcls : s.vm.findClass C = some cellB.cls)
    {g : JFrame} (hg : g.method = m) (hsize : g.locals.size = c.maxLocals) {argsL rest : List Value} (hlen : ∀ sig, parseMethodDescriptor y.desc = some sig → argsL.length = sig.parameters.length)
    (hstack : g.stack = argsL.reverse ++ .ref b :: rest) (hW : 2 * g.monitorRoom + (rest.map fun v => v.category).sum ≤ W9) (hdg : decode c.code g.pc = .ok (.invokevirtual index, 3))
    (hpre : ∀ vm₁, s.WarmedH vm₁ → Pre ⟨T.setVm vm₁, locs, cells, slots⟩ (Value.ref b :: argsL).toArray) :
    (∃ (v : Option Value) (vm₁ : Vm) (B : Pt), s.WarmedH vm₁ ∧ Stand p l e R s m args below meth c B.U B.locs B.cells B.slots ∧ Post ⟨T.setVm vm₁, locs, cells, slots⟩ (Value.ref b :: argsL).toArray v B ∧
      ∀ target, Steps p.tables e below (B.U.setTop { g with pc := g.pc + 3, stack := v.toList ++ rest }) target → Steps p.tables e below (T.setTop g) target) ∨
    (∃ (q : Addr) (vm₁ : Vm) (B : Pt), s.WarmedH vm₁ ∧ Stand p l e R s m args below meth c B.U B.locs B.cells B.slots ∧ PostX ⟨T.setVm vm₁, locs, cells, slots⟩ (Value.ref b :: argsL).toArray q B ∧
      Steps p.tables e below (T.setTop g) ((B.U.setTop { g with stack := rest }).pushFrame (.throwing q))) := by
  obtain ⟨mk, methM, hnamed, hmethM, hstM, habM⟩ := Cond.instanceMethod_spec hinst
  obtain ⟨methM', cM, hmethM', -, -, -, -, -, -, hsigM⟩ := Cond.code_spec hnamed hcode
  cases hmethM.symm.trans hmethM'
  obtain ⟨c2, r2, m2, q1, q2, q3, q4, kP, hkP, hkPi⟩ := Cond.selects_spec hsel
  cases hcls.symm.trans q1
  cases (State.methodFound?_of_named hnamed hy).symm.trans q2
  cases hnamed.symm.trans q3
  have hselP : selectMethod e.platform s.vm cellB.cls mk = .method mk := by rw [Launch.admits_selectMethod X.admits]; exact q4
  obtain ⟨vm₁, X₁, hstep₁⟩ := X.invokevirtual hexec hown hlink hnamed hmethM hstM hkP hkPi hy (a := b) (cell := cellB) hcell
    (fun z h => by rw [h] at hobj; cases hobj) hselP hmethM habM hkP hkPi (g := g) hg (argsL := argsL) (rest := rest) (hlen _ hsigM) hstack hdg
  rcases hK m meth c ⟨T.setVm vm₁, locs, cells, slots⟩ { g with stack := rest } (.invokevirtual index) mk (Value.ref b :: argsL).toArray X₁ hg hsize hdg hW (X₁.named hnamed) (hpre vm₁ X₁.warmed) with ⟨v, B, X', hpost, hsteps⟩ | ⟨q, B, X', hpost, hsteps⟩
  · exact Or.inl ⟨v, vm₁, B, X₁.warmed, X', hpost, fun target h => hstep₁ _ fun acts => by rw [doInvoke_state]; exact hsteps.trans h⟩
  · exact Or.inr ⟨q, vm₁, B, X₁.warmed, X', hpost, hstep₁ _ fun acts => by rw [doInvoke_state]; exact hsteps⟩
theorem vx_callS (X : Stand p l e R s m args below meth c T locs cells slots) (hexec : p.tables.exec = Jvm.exec) {own : String} {index : Nat} {y : MethodName} {bytes : ByteArray} {maxL : Nat} {ret : Option FieldType}
    (hown : s.vm.findClass own = some m.cls) (hlink : (Cond.methodLink own index y).before args s = true) (hstat : (Cond.static y).before args s = true) (hinit : (Cond.initialized y.cls).before args s = true)
    (hcode : (Cond.code y bytes maxL ret).before args s = true) (hy : y.cls ≠ "java/lang/invoke/MethodHandle" ∧ y.cls ≠ "java/lang/invoke/VarHandle")
    {W9 : Nat} {Pre : Pt → Array Value → Prop} {Post : Pt → Array Value → Option Value → Pt → Prop} {PostX : Pt → Array Value → Addr → Pt → Prop} (hK : vx_Back l R p e below s args y 3 W9 Pre Post PostX)
    {g : JFrame} (hg : g.method = m) (hsize : g.locals.size = c.maxLocals) {argsL rest : List Value} (hlen : ∀ sig, parseMethodDescriptor y.desc = some sig → argsL.length = sig.parameters.length)
    (hstack : g.stack = argsL.reverse ++ rest) (hW : 2 * g.monitorRoom + (rest.map fun v => v.category).sum ≤ W9) (hdg : decode c.code g.pc = .ok (.invokestatic index, 3))
    (hpre : ∀ vm₁, s.WarmedH vm₁ → Pre ⟨T.setVm vm₁, locs, cells, slots⟩ argsL.toArray) :
    (∃ (v : Option Value) (vm₁ : Vm) (B : Pt), s.WarmedH vm₁ ∧ Stand p l e R s m args below meth c B.U B.locs B.cells B.slots ∧ Post ⟨T.setVm vm₁, locs, cells, slots⟩ argsL.toArray v B ∧
      ∀ target, Steps p.tables e below (B.U.setTop { g with pc := g.pc + 3, stack := v.toList ++ rest }) target → Steps p.tables e below (T.setTop g) target) ∨
    (∃ (q : Addr) (vm₁ : Vm) (B : Pt), s.WarmedH vm₁ ∧ Stand p l e R s m args below meth c B.U B.locs B.cells B.slots ∧ PostX ⟨T.setVm vm₁, locs, cells, slots⟩ argsL.toArray q B ∧
      Steps p.tables e below (T.setTop g) ((B.U.setTop { g with stack := rest }).pushFrame (.throwing q))) := by
  obtain ⟨mk, hnamed⟩ := Cond.code_named hcode
  obtain ⟨methM, cM, hmethM, -, -, -, -, -, -, hsigM⟩ := Cond.code_spec hnamed hcode
  have hstatic : methM.isStatic = true := Cond.static_spec hnamed hmethM hstat
  obtain ⟨kP, hkP, -⟩ := className_of_methodNamed hnamed
  have hinitP : kP.init = .initialized := Cond.initialized_spec (findClass_of_methodNamed hnamed) hkP hinit
  obtain ⟨vm₁, X₁, hstep₁⟩ := X.invokestatic hexec hown hlink hnamed hmethM hstatic hkP hinitP hy (g := g) hg (argsL := argsL) (rest := rest) (hlen _ hsigM) hstack hdg
  rcases hK m meth c ⟨T.setVm vm₁, locs, cells, slots⟩ { g with stack := rest } (.invokestatic index) mk argsL.toArray X₁ hg hsize hdg hW (X₁.named hnamed) (hpre vm₁ X₁.warmed) with ⟨v, B, X', hpost, hsteps⟩ | ⟨q, B, X', hpost, hsteps⟩
  · exact Or.inl ⟨v, vm₁, B, X₁.warmed, X', hpost, fun target h => hstep₁ _ fun acts => by rw [doInvoke_state]; exact hsteps.trans h⟩
  · exact Or.inr ⟨q, vm₁, B, X₁.warmed, X', hpost, hstep₁ _ fun acts => by rw [doInvoke_state]; exact hsteps⟩
end Calls
theorem vx_cls {s : State} {T : State} {vm₁ : Vm} {E : String} {k : ClassId} (hW : s.WarmedH vm₁) (h : (T.setVm vm₁).vm.findClass E = some k) : s.vm.findClass E = some k := by
  have h1 : vm₁.findClass E = some k := h
  rw [hW.alike.findClass] at h1
  exact h1
/-- the method's frame g, with q thrown over it -/
def vx_W (p : Program) (l : Launch) (e : Env) (R : Room) (s : State) (m : MethodId) (args : Array Value) (below : List Frame) (meth : Method) (c : Code) (H : Heap) (locs : List Loc) (cells slots : Nat) (Q : State → Prop) (g : JFrame) (q : Addr) : Prop :=
  ∀ T : State, T.heap = H → Stand p l e R s m args below meth c T locs cells slots → ∃ t, Steps p.tables e below ((T.setTop g).pushFrame (.throwing q)) t ∧ Q t
def vx_Run (p : Program) (l : Launch) (e : Env) (R : Room) (s : State) (m : MethodId) (args : Array Value) (below : List Frame) (meth : Method) (c : Code) (H : Heap) (locs : List Loc) (cells slots mc ms : Nat) (g : JFrame) (rest : List Value) (Qa : State → Outcome → State → Prop) (XC : String → State → State → Prop) (free : Addr → Prop) : Prop :=
  ∀ T : State, T.heap = H → Stand p l e R s m args below meth c T locs cells slots →
    (∃ (v : Option Value) (st₀ t T' : State) (L : List Loc), st₀.heap = H ∧ Stand p l e R s m args below meth c T' (locs ++ L) (cells + mc) (slots + ms) ∧ (∀ q ∈ L, free q.base) ∧ T'.heap = t.heap ∧ T'.vm = t.vm ∧ Qa st₀ (.returned v) t ∧
      Goes p e below T g T' { g with pc := g.pc + 3, stack := v.toList ++ rest }) ∨
    (∃ (q : Addr) (st₀ t T' : State) (L : List Loc) (E : String) (ce : Cell), st₀.heap = H ∧ Stand p l e R s m args below meth c T' (locs ++ L) (cells + mc) (slots + ms) ∧ (∀ z ∈ L, free z.base) ∧ T'.heap = t.heap ∧ T'.vm = t.vm ∧ XC E st₀ t ∧ t.heap[q]? = some ce ∧ ce.vm = .none ∧ s.vm.findClass E = some ce.cls ∧
      Steps p.tables e below (T.setTop g) ((T'.setTop { g with stack := rest }).pushFrame (.throwing q)))
def vx_X {S : Type} (px : S → Prop) (B : String → S → State → Prop) (A : Nat → Prop) : String → State → State → Prop := fun E st t => ∃ u : S, px u ∧ B E u t ∧ va_F A st t
section Runs
variable {p : Program} {l : Launch} {e : Env} {R : Room} {s : State} {m : MethodId} {args : Array Value} {below : List Frame} {meth : Method} {c : Code} {H : Heap} {locs : List Loc} {cells slots : Nat}
variable {y : MethodName} {bytes cc : ByteArray} {maxL nL mc ms n index : Nat} {ret : Option FieldType} {ws : List Cond} {rm : Room} {Pc : Array Value → State → Prop} {Qc : Array Value → State → Outcome → State → Prop} {XC : String → State → State → Prop} {free : Addr → Prop} {Ts : List Cond} {own C : String} {b : Addr} {As rest : List Value} {g : JFrame}
theorem vx_callBack (cb : CallB R s args own index y bytes maxL ret ws rm mc ms n) (hM : vx_Met l y ws rm Pc Qc XC mc ms free) (hbl : FrameBlind Pc) : vx_Back l R p e below s args y 3 8 (PreOf R mc ms Pc) (PostOf Qc mc ms free) (vx_Post XC mc ms free) := by
  obtain ⟨hrc, hrs, hfr, hlo, hws, hcw, -, hini, -⟩ := cb
  exact vx_back (bytes := bytes) (maxL := maxL) (ret := ret) hM hbl hrc hrs hfr hlo hws hcw (fun a' U hW => word_at hW (Or.inl (by first | rfl | simp [Cond.onTables, Cond.keeps, Cond.steady])) hini)
theorem vx_runV (S : CallFix p m c cc nL s args Ts own) (hM : vx_Met l y ws rm Pc Qc XC mc ms free) (cw : CallW R s args own C index y bytes maxL ret ws rm mc ms n) (hp : PreV s H C b Pc As)
    (hg : g.method = m) (hn : As.length = n) (hsize : g.locals.size = nL) (hstack : g.stack = As.reverse ++ .ref b :: rest) (hW : 2 * g.monitorRoom + (rest.map fun v => v.category).sum ≤ 8) (hdg : decode cc g.pc = .ok (.invokevirtual index, 3)) (hf : cells + mc ≤ R.cells ∧ slots + ms ≤ R.slots) :
    vx_Run p l e R s m args below meth c H locs cells slots mc ms g rest (Qc (Value.ref b :: As).toArray) XC free := by
  have hK : vx_Back l R p e below s args y 3 8 (PreOf R mc ms Pc) (PostOf Qc mc ms free) (vx_Post XC mc ms free) := vx_callBack cw.1 hM hp.1
  obtain ⟨⟨-, -, -, -, -, -, hcode, -, hy, hlen, hl⟩, hin, hse⟩ := cw
  obtain ⟨hx, hb, hml, ho, -⟩ := S
  obtain ⟨-, ⟨cellB, hcB, hoB, hclB⟩, hPc⟩ := hp
  intro T hT X
  rcases vx_callV X hx (C := C) (bytes := bytes) (maxL := maxL) (ret := ret) ho hl hin hse hcode hy hK (by rw [hT]; exact hcB) hoB hclB hg (hsize.trans hml.symm) (argsL := As) (rest := rest) (fun sig h => hn.trans (hlen sig h)) hstack hW (by rw [hb]; exact hdg)
    (fun vm₁ hW₁ => ⟨hf.1, hf.2, hPc (T.setVm vm₁) hT hW₁⟩) with ⟨v, vm₁, ⟨U', l2, c2, s2⟩, hW₁, X', ⟨g', mk, t, L, e1, e2, hq, h1, hL, h2, h3⟩, st⟩ | ⟨q, vm₁, ⟨U', l2, c2, s2⟩, hW₁, X', ⟨g', mk, t, L, E, ce, e1, e2, hq, hce, hcv, hcl, h1, hL, h2, h3⟩, st⟩
  · dsimp only [Pt.U, Pt.locs, Pt.cells, Pt.slots] at X' e1 e2 h1 h2 h3 st
    subst h1; subst h2; subst h3
    exact Or.inl ⟨v, (T.setVm vm₁).calling g' mk (Value.ref b :: As).toArray, t, U', L, hT, X', hL, e1, e2, hq, st⟩
  · dsimp only [Pt.U, Pt.locs, Pt.cells, Pt.slots] at X' e1 e2 h1 h2 h3 st hcl
    subst h1; subst h2; subst h3
    exact Or.inr ⟨q, (T.setVm vm₁).calling g' mk (Value.ref b :: As).toArray, t, U', L, E, ce, hT, X', hL, e1, e2, hq, hce, hcv, vx_cls hW₁ hcl, st⟩
theorem vx_runS (S : CallFix p m c cc nL s args Ts own) (hM : vx_Met l y ws rm Pc Qc XC mc ms free) (cw : CallB R s args own index y bytes maxL ret ws rm mc ms n ∧ (Cond.static y).before args s = true) (hp : PreS s H Pc As)
    (hg : g.method = m) (hn : As.length = n) (hsize : g.locals.size = nL) (hstack : g.stack = As.reverse ++ rest) (hW : 2 * g.monitorRoom + (rest.map fun v => v.category).sum ≤ 8) (hdg : decode cc g.pc = .ok (.invokestatic index, 3)) (hf : cells + mc ≤ R.cells ∧ slots + ms ≤ R.slots) :
    vx_Run p l e R s m args below meth c H locs cells slots mc ms g rest (Qc As.toArray) XC free := by
  have hK : vx_Back l R p e below s args y 3 8 (PreOf R mc ms Pc) (PostOf Qc mc ms free) (vx_Post XC mc ms free) := vx_callBack cw.1 hM hp.1
  obtain ⟨⟨-, -, -, -, -, -, hcode, hini, hy, hlen, hl⟩, hstt⟩ := cw
  obtain ⟨hx, hb, hml, ho, -⟩ := S
  intro T hT X
  rcases vx_callS X hx (bytes := bytes) (maxL := maxL) (ret := ret) ho hl hstt hini hcode hy hK hg (hsize.trans hml.symm) (argsL := As) (rest := rest) (fun sig h => hn.trans (hlen sig h)) hstack hW (by rw [hb]; exact hdg)
    (fun vm₁ hW₁ => ⟨hf.1, hf.2, hp.2 (T.setVm vm₁) hT hW₁⟩) with ⟨v, vm₁, ⟨U', l2, c2, s2⟩, hW₁, X', ⟨g', mk, t, L, e1, e2, hq, h1, hL, h2, h3⟩, st⟩ | ⟨q, vm₁, ⟨U', l2, c2, s2⟩, hW₁, X', ⟨g', mk, t, L, E, ce, e1, e2, hq, hce, hcv, hcl, h1, hL, h2, h3⟩, st⟩
  · dsimp only [Pt.U, Pt.locs, Pt.cells, Pt.slots] at X' e1 e2 h1 h2 h3 st
    subst h1; subst h2; subst h3
    exact Or.inl ⟨v, (T.setVm vm₁).calling g' mk As.toArray, t, U', L, hT, X', hL, e1, e2, hq, st⟩
  · dsimp only [Pt.U, Pt.locs, Pt.cells, Pt.slots] at X' e1 e2 h1 h2 h3 st hcl
    subst h1; subst h2; subst h3
    exact Or.inr ⟨q, (T.setVm vm₁).calling g' mk As.toArray, t, U', L, E, ce, hT, X', hL, e1, e2, hq, hce, hcv, vx_cls hW₁ hcl, st⟩
end Runs
section Rows
variable {p : Program} {l : Launch} {e : Env} {R : Room} {s : State} {m : MethodId} {args : Array Value} {below : List Frame} {meth : Method} {c : Code} {H : Heap} {locs : List Loc} {cells slots : Nat} {Q : State → Prop}
variable {mc ms : Nat} {free : Addr → Prop} {A0 A1 : Nat → Prop} {H0 : Heap} {a : Array Value} {pc : Nat} {ls : Array Slot} {st0 rest : List Value}
theorem vx_keep {st₀ t T' : State} {L : List Loc} (h0 : st₀.heap = H) (e1 : T'.heap = t.heap) (hS : va_S A0 H0 H locs) (hA : ∀ q, q < H.size → A1 q → A0 q) (hf : ∀ q, free q → A0 q) (hL : ∀ q ∈ L, free q.base) (hF : va_F A1 st₀ t) :
    H.size ≤ T'.heap.size ∧ (∀ q : Nat, q < H.size → ¬ A1 q → T'.heap[q]? = H[q]?) ∧ va_S A0 H0 T'.heap (locs ++ L) := by
  obtain ⟨hz, hk⟩ := hF
  rw [h0] at hz hk
  exact ⟨by rw [e1]; exact hz, fun q h1 h2 => by rw [e1]; exact hk q h1 h2,
    ⟨Nat.le_trans hS.1 (by rw [e1]; exact hz), fun q h1 h2 => by rw [e1, hk q (Nat.lt_of_lt_of_le h1 hS.1) (fun z => h2 (hA q (Nat.lt_of_lt_of_le h1 hS.1) z))]; exact hS.2.1 q h1 h2, fun q hq => by
      rcases List.mem_append.mp hq with h | h
      · exact hS.2.2 q h
      · exact hf _ (hL q h)⟩⟩
theorem vx_calli {S SX : Type} {post : Int32 → S → Prop} {px : SX → Prop} {B : S → State → Prop} {BX : String → SX → State → Prop} {AX : Nat → Prop} (hr : vx_Run p l e R s m args below meth c H locs cells slots mc ms (F0 m pc ls st0) rest (va_Qi post B A1 a) (vx_X px BX AX) free) (hS : va_S A0 H0 H locs) (hA : ∀ q, q < H.size → A1 q → A0 q) (hf : ∀ q, free q → A0 q) (hAX : ∀ q, q < H.size → AX q → A0 q)
    (kx : ∀ (E : String) (ce : Cell) (q9 : Addr) (u : SX) (t : State) (H1 : Heap) (locs1 : List Loc), t.heap = H1 → s.vm.Alike t.vm → px u → BX E u t → H.size ≤ H1.size → (∀ q : Nat, q < H.size → ¬ AX q → H1[q]? = H[q]?) → va_S A0 H0 H1 locs1 → H1[q9]? = some ce → ce.vm = .none → s.vm.findClass E = some ce.cls → vx_W p l e R s m args below meth c H1 locs1 (cells + mc) (slots + ms) Q (F0 m pc ls rest) q9)
    (kk : ∀ (r : Int32) (u : S) (t : State) (H1 : Heap) (locs1 : List Loc), t.heap = H1 → s.vm.Alike t.vm → post r u → B u t → H.size ≤ H1.size → (∀ q : Nat, q < H.size → ¬ A1 q → H1[q]? = H[q]?) → va_S A0 H0 H1 locs1 → W p l e R s m args below meth c H1 locs1 (cells + mc) (slots + ms) Q (F0 m (pc + 3) ls (.int r :: rest))) : W p l e R s m args below meth c H locs cells slots Q (F0 m pc ls st0) := by
  intro T hT X
  rcases hr T hT X with ⟨v, st₀, t, T', L, h0, X', hL, e1, e2, ⟨⟨r, u, hv, hp, hb⟩, hF⟩, st⟩ | ⟨q, st₀, t, T', L, E, ce, h0, X', hL, e1, e2, ⟨u, hp, hb, hF⟩, hce, hcv, hcl, st⟩
  · cases hv
    obtain ⟨k1, k2, k3⟩ := vx_keep h0 e1 hS hA hf hL hF
    obtain ⟨t2, a1, b1⟩ := kk r u t T'.heap (locs ++ L) e1.symm (by rw [← e2]; exact X'.warmed.alike) hp hb k1 k2 k3 T' rfl X'
    exact ⟨t2, st t2 a1, b1⟩
  · obtain ⟨k1, k2, k3⟩ := vx_keep h0 e1 hS hAX hf hL hF
    obtain ⟨t2, a1, b1⟩ := kx E ce q u t T'.heap (locs ++ L) e1.symm (by rw [← e2]; exact X'.warmed.alike) hp hb k1 k2 k3 (by rw [e1]; exact hce) hcv hcl T' rfl X'
    exact ⟨t2, st.trans a1, b1⟩
theorem vx_calll {S SX : Type} {post : Int64 → S → Prop} {px : SX → Prop} {B : S → State → Prop} {BX : String → SX → State → Prop} {AX : Nat → Prop} (hr : vx_Run p l e R s m args below meth c H locs cells slots mc ms (F0 m pc ls st0) rest (va_Ql post B A1 a) (vx_X px BX AX) free) (hS : va_S A0 H0 H locs) (hA : ∀ q, q < H.size → A1 q → A0 q) (hf : ∀ q, free q → A0 q) (hAX : ∀ q, q < H.size → AX q → A0 q)
    (kx : ∀ (E : String) (ce : Cell) (q9 : Addr) (u : SX) (t : State) (H1 : Heap) (locs1 : List Loc), t.heap = H1 → s.vm.Alike t.vm → px u → BX E u t → H.size ≤ H1.size → (∀ q : Nat, q < H.size → ¬ AX q → H1[q]? = H[q]?) → va_S A0 H0 H1 locs1 → H1[q9]? = some ce → ce.vm = .none → s.vm.findClass E = some ce.cls → vx_W p l e R s m args below meth c H1 locs1 (cells + mc) (slots + ms) Q (F0 m pc ls rest) q9)
    (kk : ∀ (r : Int64) (u : S) (t : State) (H1 : Heap) (locs1 : List Loc), t.heap = H1 → s.vm.Alike t.vm → post r u → B u t → H.size ≤ H1.size → (∀ q : Nat, q < H.size → ¬ A1 q → H1[q]? = H[q]?) → va_S A0 H0 H1 locs1 → W p l e R s m args below meth c H1 locs1 (cells + mc) (slots + ms) Q (F0 m (pc + 3) ls (.long r :: rest))) : W p l e R s m args below meth c H locs cells slots Q (F0 m pc ls st0) := by
  intro T hT X
  rcases hr T hT X with ⟨v, st₀, t, T', L, h0, X', hL, e1, e2, ⟨⟨r, u, hv, hp, hb⟩, hF⟩, st⟩ | ⟨q, st₀, t, T', L, E, ce, h0, X', hL, e1, e2, ⟨u, hp, hb, hF⟩, hce, hcv, hcl, st⟩
  · cases hv
    obtain ⟨k1, k2, k3⟩ := vx_keep h0 e1 hS hA hf hL hF
    obtain ⟨t2, a1, b1⟩ := kk r u t T'.heap (locs ++ L) e1.symm (by rw [← e2]; exact X'.warmed.alike) hp hb k1 k2 k3 T' rfl X'
    exact ⟨t2, st t2 a1, b1⟩
  · obtain ⟨k1, k2, k3⟩ := vx_keep h0 e1 hS hAX hf hL hF
    obtain ⟨t2, a1, b1⟩ := kx E ce q u t T'.heap (locs ++ L) e1.symm (by rw [← e2]; exact X'.warmed.alike) hp hb k1 k2 k3 (by rw [e1]; exact hce) hcv hcl T' rfl X'
    exact ⟨t2, st.trans a1, b1⟩
theorem vx_callf {S SX : Type} {post : UInt32 → S → Prop} {px : SX → Prop} {B : S → State → Prop} {BX : String → SX → State → Prop} {AX : Nat → Prop} (hr : vx_Run p l e R s m args below meth c H locs cells slots mc ms (F0 m pc ls st0) rest (va_Qf post B A1 a) (vx_X px BX AX) free) (hS : va_S A0 H0 H locs) (hA : ∀ q, q < H.size → A1 q → A0 q) (hf : ∀ q, free q → A0 q) (hAX : ∀ q, q < H.size → AX q → A0 q)
    (kx : ∀ (E : String) (ce : Cell) (q9 : Addr) (u : SX) (t : State) (H1 : Heap) (locs1 : List Loc), t.heap = H1 → s.vm.Alike t.vm → px u → BX E u t → H.size ≤ H1.size → (∀ q : Nat, q < H.size → ¬ AX q → H1[q]? = H[q]?) → va_S A0 H0 H1 locs1 → H1[q9]? = some ce → ce.vm = .none → s.vm.findClass E = some ce.cls → vx_W p l e R s m args below meth c H1 locs1 (cells + mc) (slots + ms) Q (F0 m pc ls rest) q9)
    (kk : ∀ (r : UInt32) (u : S) (t : State) (H1 : Heap) (locs1 : List Loc), t.heap = H1 → s.vm.Alike t.vm → post r u → B u t → H.size ≤ H1.size → (∀ q : Nat, q < H.size → ¬ A1 q → H1[q]? = H[q]?) → va_S A0 H0 H1 locs1 → W p l e R s m args below meth c H1 locs1 (cells + mc) (slots + ms) Q (F0 m (pc + 3) ls (.float r :: rest))) : W p l e R s m args below meth c H locs cells slots Q (F0 m pc ls st0) := by
  intro T hT X
  rcases hr T hT X with ⟨v, st₀, t, T', L, h0, X', hL, e1, e2, ⟨⟨r, u, hv, hp, hb⟩, hF⟩, st⟩ | ⟨q, st₀, t, T', L, E, ce, h0, X', hL, e1, e2, ⟨u, hp, hb, hF⟩, hce, hcv, hcl, st⟩
  · cases hv
    obtain ⟨k1, k2, k3⟩ := vx_keep h0 e1 hS hA hf hL hF
    obtain ⟨t2, a1, b1⟩ := kk r u t T'.heap (locs ++ L) e1.symm (by rw [← e2]; exact X'.warmed.alike) hp hb k1 k2 k3 T' rfl X'
    exact ⟨t2, st t2 a1, b1⟩
  · obtain ⟨k1, k2, k3⟩ := vx_keep h0 e1 hS hAX hf hL hF
    obtain ⟨t2, a1, b1⟩ := kx E ce q u t T'.heap (locs ++ L) e1.symm (by rw [← e2]; exact X'.warmed.alike) hp hb k1 k2 k3 (by rw [e1]; exact hce) hcv hcl T' rfl X'
    exact ⟨t2, st.trans a1, b1⟩
theorem vx_calld {S SX : Type} {post : UInt64 → S → Prop} {px : SX → Prop} {B : S → State → Prop} {BX : String → SX → State → Prop} {AX : Nat → Prop} (hr : vx_Run p l e R s m args below meth c H locs cells slots mc ms (F0 m pc ls st0) rest (va_Qd post B A1 a) (vx_X px BX AX) free) (hS : va_S A0 H0 H locs) (hA : ∀ q, q < H.size → A1 q → A0 q) (hf : ∀ q, free q → A0 q) (hAX : ∀ q, q < H.size → AX q → A0 q)
    (kx : ∀ (E : String) (ce : Cell) (q9 : Addr) (u : SX) (t : State) (H1 : Heap) (locs1 : List Loc), t.heap = H1 → s.vm.Alike t.vm → px u → BX E u t → H.size ≤ H1.size → (∀ q : Nat, q < H.size → ¬ AX q → H1[q]? = H[q]?) → va_S A0 H0 H1 locs1 → H1[q9]? = some ce → ce.vm = .none → s.vm.findClass E = some ce.cls → vx_W p l e R s m args below meth c H1 locs1 (cells + mc) (slots + ms) Q (F0 m pc ls rest) q9)
    (kk : ∀ (r : UInt64) (u : S) (t : State) (H1 : Heap) (locs1 : List Loc), t.heap = H1 → s.vm.Alike t.vm → post r u → B u t → H.size ≤ H1.size → (∀ q : Nat, q < H.size → ¬ A1 q → H1[q]? = H[q]?) → va_S A0 H0 H1 locs1 → W p l e R s m args below meth c H1 locs1 (cells + mc) (slots + ms) Q (F0 m (pc + 3) ls (.double r :: rest))) : W p l e R s m args below meth c H locs cells slots Q (F0 m pc ls st0) := by
  intro T hT X
  rcases hr T hT X with ⟨v, st₀, t, T', L, h0, X', hL, e1, e2, ⟨⟨r, u, hv, hp, hb⟩, hF⟩, st⟩ | ⟨q, st₀, t, T', L, E, ce, h0, X', hL, e1, e2, ⟨u, hp, hb, hF⟩, hce, hcv, hcl, st⟩
  · cases hv
    obtain ⟨k1, k2, k3⟩ := vx_keep h0 e1 hS hA hf hL hF
    obtain ⟨t2, a1, b1⟩ := kk r u t T'.heap (locs ++ L) e1.symm (by rw [← e2]; exact X'.warmed.alike) hp hb k1 k2 k3 T' rfl X'
    exact ⟨t2, st t2 a1, b1⟩
  · obtain ⟨k1, k2, k3⟩ := vx_keep h0 e1 hS hAX hf hL hF
    obtain ⟨t2, a1, b1⟩ := kx E ce q u t T'.heap (locs ++ L) e1.symm (by rw [← e2]; exact X'.warmed.alike) hp hb k1 k2 k3 (by rw [e1]; exact hce) hcv hcl T' rfl X'
    exact ⟨t2, st.trans a1, b1⟩
theorem vx_callv {S SX : Type} {post : S → Prop} {px : SX → Prop} {B : S → State → Prop} {BX : String → SX → State → Prop} {AX : Nat → Prop} (hr : vx_Run p l e R s m args below meth c H locs cells slots mc ms (F0 m pc ls st0) rest (va_Qv post B A1 a) (vx_X px BX AX) free) (hS : va_S A0 H0 H locs) (hA : ∀ q, q < H.size → A1 q → A0 q) (hf : ∀ q, free q → A0 q) (hAX : ∀ q, q < H.size → AX q → A0 q)
    (kx : ∀ (E : String) (ce : Cell) (q9 : Addr) (u : SX) (t : State) (H1 : Heap) (locs1 : List Loc), t.heap = H1 → s.vm.Alike t.vm → px u → BX E u t → H.size ≤ H1.size → (∀ q : Nat, q < H.size → ¬ AX q → H1[q]? = H[q]?) → va_S A0 H0 H1 locs1 → H1[q9]? = some ce → ce.vm = .none → s.vm.findClass E = some ce.cls → vx_W p l e R s m args below meth c H1 locs1 (cells + mc) (slots + ms) Q (F0 m pc ls rest) q9)
    (kk : ∀ (u : S) (t : State) (H1 : Heap) (locs1 : List Loc), t.heap = H1 → s.vm.Alike t.vm → post u → B u t → H.size ≤ H1.size → (∀ q : Nat, q < H.size → ¬ A1 q → H1[q]? = H[q]?) → va_S A0 H0 H1 locs1 → W p l e R s m args below meth c H1 locs1 (cells + mc) (slots + ms) Q (F0 m (pc + 3) ls (rest))) : W p l e R s m args below meth c H locs cells slots Q (F0 m pc ls st0) := by
  intro T hT X
  rcases hr T hT X with ⟨v, st₀, t, T', L, h0, X', hL, e1, e2, ⟨⟨u, hv, hp, hb⟩, hF⟩, st⟩ | ⟨q, st₀, t, T', L, E, ce, h0, X', hL, e1, e2, ⟨u, hp, hb, hF⟩, hce, hcv, hcl, st⟩
  · cases hv
    obtain ⟨k1, k2, k3⟩ := vx_keep h0 e1 hS hA hf hL hF
    obtain ⟨t2, a1, b1⟩ := kk u t T'.heap (locs ++ L) e1.symm (by rw [← e2]; exact X'.warmed.alike) hp hb k1 k2 k3 T' rfl X'
    exact ⟨t2, st t2 a1, b1⟩
  · obtain ⟨k1, k2, k3⟩ := vx_keep h0 e1 hS hAX hf hL hF
    obtain ⟨t2, a1, b1⟩ := kx E ce q u t T'.heap (locs ++ L) e1.symm (by rw [← e2]; exact X'.warmed.alike) hp hb k1 k2 k3 (by rw [e1]; exact hce) hcv hcl T' rfl X'
    exact ⟨t2, st.trans a1, b1⟩
/-- caught by the row x of this method's table; the rows ahead don't take it -/
theorem vx_catch {own name : String} {E : String} {ce : Cell} {q : Addr} (hown : s.vm.findClass own = some m.cls) (pre : List ExceptionTableEntry) (x : ExceptionTableEntry) (suf : List ExceptionTableEntry) (hsplit : c.exceptionTable.toList = pre ++ x :: suf)
    (hpass : ∀ z ∈ pre, covers z pc = false ∨ (z.catchType ≠ 0 ∧ ∃ nm : String, (Cond.classLink own z.catchType nm).before args s = true ∧ va_Nc E nm s)) (hx : covers x pc = true) (h0 : x.catchType ≠ 0)
    (hlink : (Cond.classLink own x.catchType name).before args s = true) (hcast : (Cond.castable E name).before args s = true) (hcell : H[q]? = some ce) (hv : ce.vm = .none) (hcl : s.vm.findClass E = some ce.cls)
    (kk : W p l e R s m args below meth c H locs cells slots Q (F0 m x.handlerPc ls [.ref q])) : vx_W p l e R s m args below meth c H locs cells slots Q (F0 m pc ls rest) q := by
  intro T hT X
  have hpl : e.platform.magicAccessors = ({} : Platform).magicAccessors := by rw [X.admits.platform]
  obtain ⟨c3, c4, hc3, hc4, hasg⟩ := Cond.castable_spec hcast
  cases Option.some.inj (hc3.symm.trans hcl)
  obtain ⟨c5, hc5, hcl5⟩ := Cond.classLink_spec hown hlink e.platform hpl
  cases Option.some.inj (hc4.symm.trans hc5)
  obtain ⟨vm', X', st⟩ := X.thenCaughtThrough q (g := F0 m pc ls rest) rfl (Steps.refl _) (by rw [hT]; exact hcell) (by rw [hv]; rfl) (by obtain ⟨k9, h9, -⟩ := Vm.findClass_spec hcl; exact ⟨k9, h9⟩) pre x suf hsplit
    (fun z hz => by
      rcases hpass z hz with h | ⟨hz0, nm, hl1, hn1⟩
      · exact Or.inl h
      · obtain ⟨c6, hc6, hcl6⟩ := Cond.classLink_spec hown hl1 e.platform hpl
        obtain ⟨a8, b8, h1, h2, h3⟩ := hn1
        cases Option.some.inj (h1.symm.trans hcl)
        cases Option.some.inj (h2.symm.trans hc6)
        exact Or.inr ⟨hz0, _, hcl6, h3⟩) hx (Or.inr ⟨h0, c4, hcl5, hasg⟩)
  obtain ⟨t, a1, b1⟩ := kk (T.setVm vm') hT X'
  exact ⟨t, st.trans a1, b1⟩
end Rows
section Ends
variable {p : Program} {l : Launch} {e : Env} {R : Room} {s : State} {m : MethodId} {args : Array Value} {below : List Frame} {meth : Method} {c : Code} {H : Heap} {locs : List Loc} {cells slots : Nat} {Q : State → Prop}
variable {mc ms : Nat} {free : Addr → Prop} {A0 A1 : Nat → Prop} {H0 : Heap} {a : Array Value} {ls : Array Slot} {st0 rest : List Value}
variable {Qc : Array Value → State → Outcome → State → Prop} {XC : String → State → State → Prop}
/-- what a body that may throw owes at its end -/
def vx_MQ (below : List Frame) (Qc : Array Value → State → Outcome → State → Prop) (XC : String → State → State → Prop) (a : Array Value) (s : State) (mc ms : Nat) (free : Addr → Prop) : State → Prop := fun t =>
  ∃ o, t.status = .running ∧ Ended t below o ∧ vx_Q Qc XC mc ms free a s o t
theorem vx_ret {g : JFrame} {mc ms : Nat} (k : W p l e R s m args below meth c H locs cells slots (MQ below Qc args s mc ms free) g) : W p l e R s m args below meth c H locs cells slots (vx_MQ below Qc XC args s mc ms free) g := by
  intro T hT X
  obtain ⟨t, a1, o, b1, b2, b3, b4⟩ := k T hT X
  exact ⟨t, a1, o, b1, b2, Or.inl ⟨b3, b4⟩⟩
/-- not caught here: it goes on to the caller -/
theorem vx_widen {g : JFrame} {q : Addr} {k n : Nat} (h1 : cells ≤ k) (h2 : slots ≤ n) (kk : vx_W p l e R s m args below meth c H locs k n Q g q) : vx_W p l e R s m args below meth c H locs cells slots Q g q := fun T hT X => kk T hT (stand_widen X h1 h2)
theorem vx_out {pc : Nat} {E : String} {ce : Cell} {q : Addr} {mc ms : Nat} (hout : ∀ x ∈ c.exceptionTable.toList, covers x pc = false) (hlocks : meth.locks = false) (hcell : H[q]? = some ce) (hv : ce.vm = .none) (hcl : s.vm.findClass E = some ce.cls)
    (hx : ∀ t : State, t.heap = H → s.vm.Alike t.vm → XC E s t) (hf : ∀ z ∈ locs, free z.base) (hc : cells ≤ mc) (hs : slots ≤ ms) :
    vx_W p l e R s m args below meth c H locs cells slots (vx_MQ below Qc XC args s mc ms free) (F0 m pc ls rest) q := by
  intro T hT X
  obtain ⟨st1, hrun, hend, hW, hsm⟩ := X.leaveThrown q (g := F0 m pc ls rest) rfl rfl rfl hout hlocks
  have hcell9 : (T.setFrames (.throwing q :: below)).heap[q]? = some ce := by
    show T.heap[q]? = some ce
    rw [hT]; exact hcell
  exact ⟨_, st1, .threw q, hrun, hend, Or.inr ⟨q, rfl, E, ce, locs, hx _ hT hW.alike, hcell9, hv, hcl, hW, hsm.mono hc hs, hf⟩⟩
theorem vx_frame {U : State} {k n : Nat} (h : s.sameButNew ({ U with vm := s.vm } : State) locs k n) : s.heap.size ≤ U.heap.size ∧ ∀ q : Nat, q < s.heap.size → (∀ z ∈ locs, z.base ≠ q) → U.heap[q]? = s.heap[q]? := by
  obtain ⟨-, h2, -, -, -, h6⟩ := h
  refine ⟨h2, fun q hq hz => ?_⟩
  obtain ⟨c9, e1, e2, e3, e4⟩ := h6 q _ (Array.getElem?_eq_getElem hq)
  have hs : c9.slots = (s.heap[q]).slots := Array.ext_getElem? fun i => e4 i fun hm => hz _ hm rfl
  have h9 : c9 = s.heap[q] := by
    rw [hs] at e2
    exact e2
  have e5 : U.heap[q]? = some c9 := e1
  rw [e5, h9, Array.getElem?_eq_getElem hq]
/-- the words of a throw but the four that speak of the heap -/
def vx_no (w : Cond) : Bool := decide (w ≠ .isRef (.static Bundle.tN "UNASSIGNED_STACK" Bundle.steD)) && decide (w ≠ .isRef (.static Bundle.tN "SUPPRESSED_SENTINEL" Bundle.listD)) && decide (w ≠ .laysStatic Bundle.tN "UNASSIGNED_STACK" Bundle.steD) && decide (w ≠ .laysStatic Bundle.tN "SUPPRESSED_SENTINEL" Bundle.listD)
def vx_at0 (own : String) (ic : Nat) (X : String) (names : List String) : List Cond := (Bundle.ownAtoms0 own ic X names).filter vx_no
def vx_atS (own : String) (ic : Nat) (X : String) (names : List String) : List Cond := (Bundle.ownAtoms own ic X names).filter vx_no
/-- a word that the tables alone decide, or a good one -/
def vx_ot (w : Cond) : Bool := w.onTables || goodWord w
theorem vx_ot_at {args a' : Array Value} {s U : State} {w : Cond} (hW : s.WarmedH U.vm) (hvm : s.vm = U.vm) (hg : vx_ot w = true) (h : w.before args s = true) : w.before a' U = true := by
  simp only [vx_ot, Bool.or_eq_true] at hg
  rcases hg with hg | hg
  · exact va_tabs hg hvm h
  · exact word_at hW (good_of_word hg) h
/-- a list's words: the good ones out of the method's own list, the others by premises of their own -/
theorem vx_hat {args : Array Value} {s : State} {L B : List Cond} (h1 : ∀ w ∈ L.filter goodWord, w.before args s = true) (h2 : ∀ w ∈ L.filter (fun w => !goodWord w), w ∈ B) (h3 : ∀ w ∈ B, w.before args s = true) : ∀ w ∈ L, w.before args s = true := by
  intro w hw
  by_cases g : goodWord w = true
  · exact h1 w (List.mem_filter.mpr ⟨hw, g⟩)
  · refine h3 w (h2 w (List.mem_filter.mpr ⟨hw, ?_⟩))
    show (!goodWord w) = true
    cases hgw : goodWord w
    · rfl
    · exact absurd hgw g
theorem vx_c {args : Array Value} {s : State} {w : Cond} {B : List Cond} (h : w.before args s = true) (t : ∀ w ∈ B, w.before args s = true) : ∀ w' ∈ w :: B, w'.before args s = true := fun w' h' => (List.mem_cons.mp h').elim (fun e => by rw [e]; exact h) (t w')
theorem vx_n {args : Array Value} {s : State} : ∀ w ∈ ([] : List Cond), w.before args s = true := fun _ h => nomatch h
theorem vx_own {args : Array Value} {s : State} {L : List Cond} (h1 : ∀ w ∈ L.filter vx_no, w.before args s = true)
    (hU : (Cond.isRef (.static Bundle.tN "UNASSIGNED_STACK" Bundle.steD)).before args s = true) (hN : (Cond.isRef (.static Bundle.tN "SUPPRESSED_SENTINEL" Bundle.listD)).before args s = true)
    (lU : (Cond.laysStatic Bundle.tN "UNASSIGNED_STACK" Bundle.steD).before args s = true) (lN : (Cond.laysStatic Bundle.tN "SUPPRESSED_SENTINEL" Bundle.listD).before args s = true) : ∀ w ∈ L, w.before args s = true := by
  intro w hw
  by_cases e1 : w = .isRef (.static Bundle.tN "UNASSIGNED_STACK" Bundle.steD)
  · rw [e1]; exact hU
  · by_cases e2 : w = .isRef (.static Bundle.tN "SUPPRESSED_SENTINEL" Bundle.listD)
    · rw [e2]; exact hN
    · by_cases e3 : w = .laysStatic Bundle.tN "UNASSIGNED_STACK" Bundle.steD
      · rw [e3]; exact lU
      · by_cases e4 : w = .laysStatic Bundle.tN "SUPPRESSED_SENTINEL" Bundle.listD
        · rw [e4]; exact lN
        · exact h1 w (List.mem_filter.mpr ⟨hw, by unfold vx_no; rw [decide_eq_true e1, decide_eq_true e2, decide_eq_true e3, decide_eq_true e4]; rfl⟩)
/-- where a static field lies, its class's statics cell in H -/
def vx_L (C n d : String) (A : Nat → Prop) (U : State) (H : Heap) : Prop := ∃ (c : ClassId) (k : Class) (i : Nat) (f : Field) (a : Nat) (cell : Cell), U.vm.findClass C = some c ∧ U.fieldFound? C n d = some (c, k, i, f) ∧ f.isStatic = true ∧ k.statics = some a ∧ H[a]? = some cell ∧ cell.vm.isStatics = true ∧ cell.cls = c ∧ f.slot < cell.slots.size ∧ k.staticTypes[f.slot]? = some f.type ∧ ¬ A a
theorem vx_L.moved {C n d : String} {A : Nat → Prop} {u U : State} {H : Heap} (hvm : u.vm.Alike U.vm) (h : vx_L C n d A u H) : vx_L C n d A U H := by
  obtain ⟨c, k, i, f, a, cell, h1, h2, h3, h4, h5, h6, h7, h8, h9, h10⟩ := h
  obtain ⟨k', hi', he⟩ := State.fieldFound?_setVm hvm h2
  exact ⟨c, k', i, f, a, cell, by rw [hvm.findClass]; exact h1, hi', h3, by rw [he]; exact h4, h5, h6, h7, h8, by rw [he]; exact h9, h10⟩
theorem vx_L.kept {C n d : String} {A : Nat → Prop} {U : State} {H H1 : Heap} (h : vx_L C n d A U H) (hq : ∀ a : Nat, a < H.size → ¬ A a → H1[a]? = H[a]?) : vx_L C n d A U H1 := by
  obtain ⟨c, k, i, f, a, cell, h1, h2, h3, h4, h5, h6, h7, h8, h9, h10⟩ := h
  exact ⟨c, k, i, f, a, cell, h1, h2, h3, h4, by rw [hq a (Array.getElem?_eq_some_iff.mp h5).1 h10]; exact h5, h6, h7, h8, h9, h10⟩
theorem vx_L.narrow {C n d : String} {A B : Nat → Prop} {U : State} {H : Heap} (h : vx_L C n d A U H) (hAB : ∀ q, B q → A q) : vx_L C n d B U H := by
  obtain ⟨c, k, i, f, a, cell, h1, h2, h3, h4, h5, h6, h7, h8, h9, h10⟩ := h
  exact ⟨c, k, i, f, a, cell, h1, h2, h3, h4, h5, h6, h7, h8, h9, fun z => h10 (hAB _ z)⟩
theorem vx_L.word {C n d : String} {A : Nat → Prop} {s : State} {args : Array Value} (h : vx_L C n d A s s.heap) : (Cond.laysStatic C n d).before args s = true := by
  obtain ⟨c, k, i, f, a, cell, h1, h2, h3, h4, h5, h6, h7, h8, h9, -⟩ := h
  show (Cond.laysStatic C n d).holds args s none s [] = true
  exact Cond.laysStatic_of h1 h2 h3 h4 h5 h6 h7 h8 h9
/-- .. and what it holds: null or some reference -/
def vx_Zq (C n d : String) (A : Nat → Prop) (U : State) (H : Heap) : Prop := va_Zq C n d A U H ∧ vx_L C n d A U H
theorem vx_Zq.moved {C n d : String} {A : Nat → Prop} {u U : State} {H : Heap} (hvm : u.vm.Alike U.vm) (h : vx_Zq C n d A u H) : vx_Zq C n d A U H := ⟨va_Zq.moved hvm h.1, vx_L.moved hvm h.2⟩
theorem vx_Zq.kept {C n d : String} {A : Nat → Prop} {U : State} {H H1 : Heap} (h : vx_Zq C n d A U H) (hq : ∀ a : Nat, a < H.size → ¬ A a → H1[a]? = H[a]?) : vx_Zq C n d A U H1 := ⟨va_Zq.kept h.1 hq, vx_L.kept h.2 hq⟩
theorem vx_Zq.narrow {C n d : String} {A B : Nat → Prop} {U : State} {H : Heap} (h : vx_Zq C n d A U H) (hAB : ∀ q, B q → A q) : vx_Zq C n d B U H := ⟨va_Zq.narrow h.1 hAB, vx_L.narrow h.2 hAB⟩
theorem vx_Zqof {args : Array Value} {s : State} {C n d : String} {A : Nat → Prop} (hl : (Cond.laysStatic C n d).before args s = true) (hini : (Cond.initialized C).before args s = true) (h : (Cond.isRef (.static C n d)).before args s = true) (hA : ∀ a : Nat, a < s.heap.size → ¬ A a) : vx_Zq C n d A s s.heap := by
  refine ⟨va_Zqof hl hini h hA, ?_⟩
  obtain ⟨c, k, i, f, a, cell, h1, h2, h3, h4, h5, h6, h7, h8, h9⟩ := Cond.laysStatic_spec hl
  exact ⟨c, k, i, f, a, cell, h1, h2, h3, h4, h5, h6, h7, h8, h9, hA a (Array.getElem?_eq_some_iff.mp h5).1⟩
theorem vx_isRef {C n d : String} {v : Value} {A : Nat → Prop} {s : State} {args : Array Value} (h : va_Z C n d v A s s.heap) (hv : v.isRef = true) : (Cond.isRef (.static C n d)).before args s = true := by
  obtain ⟨cf, kf, fi, f, a, cell, h1, h2, h3, h4, h5, h6, h7, -⟩ := h
  have he : (Term.static C n d).eval args s none [] s = some v := by
    simp [Term.eval, State.fieldNamed?, h1, h2, h4, h5, h6, h7]
  simp only [Cond.before, Cond.holds, Cond.value, he]
  cases v <;> simp_all [Value.isRef]
theorem vx_isRefq {C n d : String} {A : Nat → Prop} {s : State} {args : Array Value} (h : va_Zq C n d A s s.heap) : (Cond.isRef (.static C n d)).before args s = true := by
  rcases h with h | ⟨t, h⟩
  · exact vx_isRef h rfl
  · exact vx_isRef h rfl
/-- the same frame, seen from here: as if the method were called anew in this heap -/
theorem vx_rebase {T : State} (X : Stand p l e R s m args below meth c T locs cells slots) {R' : Room} (hf : R'.frames ≤ R.frames) (hl : R'.locals ≤ R.locals) (hc : cells + R'.cells ≤ R.cells) (hs : slots + R'.slots ≤ R.slots) :
    Stand p l e R' ((T.setVm s.vm).setFrames (.invoking m args :: below)) m args below meth c T [] 0 0 := by
  have htop : (T.setVm s.vm).topJava?.isSome := X.here.top
  have hF : ((T.setVm s.vm).setFrames (.invoking m args :: below)).frames = .invoking m args :: below := State.frames_setFrames _ (State.cur_lt_of_top htop)
  obtain ⟨g₀, hg0⟩ := Option.isSome_iff_exists.mp htop
  obtain ⟨r, hr⟩ := State.topJava?_eq_some.mp hg0
  have hl9 : e.platform.stackLimits (T.setVm s.vm).me = e.platform.stackLimits s.me := X.limits
  have hb9 : (T.setVm s.vm).me.stackBytes = s.me.stackBytes := X.bytes
  refine ⟨X.admits, X.cas, X.clock, hF, ?_, X.hears, X.method, X.code, X.here, X.tail, X.warmed, ?_, ?_, ?_⟩
  · have h := X.room
    have hU : ((T.setVm s.vm).setFrames (.invoking m args :: below)).localsInUse = s.localsInUse := by
      rw [State.localsInUse_invoking hF (meth := meth) (c := c) X.method X.code, State.localsInUse_invoking X.frames X.method X.code]
    simp only [State.hasRoom, Bool.and_eq_true, decide_eq_true_eq] at h ⊢
    obtain ⟨⟨⟨⟨h1, h2, h3, h4, h5, h6⟩, h7⟩, h8⟩, h9⟩ := h
    rw [X.frames, List.length_cons] at h2 h3
    have q1 := X.heapSize
    have q2 := X.used
    simp only [hF, hU, List.length_cons, State.stackLimits_setFrames, State.stackBytes_setFrames, hl9, hb9]
    refine ⟨⟨⟨⟨by omega, by omega, by omega, by omega, by omega, h6⟩, ?_⟩, ?_⟩, X.book⟩
    · show T.heap.size + R'.cells ≤ e.platform.maxCells
      omega
    · show T.slotsUsed + R'.slots ≤ e.platform.maxSlots
      omega
  · rw [State.stackLimits_setFrames]; rfl
  · rw [State.stackBytes_setFrames]; rfl
  · refine ⟨?_, Nat.le_refl _, Nat.le_refl _, ?_, ?_, fun a c9 h9 => ⟨c9, h9, rfl, rfl, fun _ _ => rfl⟩⟩
    · obtain ⟨t, ht, -⟩ := State.frames_cons hr
      show T.setVm s.vm = { ((T.setVm s.vm).setFrames (.invoking m args :: below)).setFrames (T.setVm s.vm).frames with heap := T.heap, slotsUsed := T.slotsUsed }
      rw [State.setFrames_setFrames, State.setFrames_self ht]
      rfl
    · show T.slotsUsed = T.slotsUsed + ((T.heap.toList.drop T.heap.size).map (·.slots.size)).sum
      rw [List.drop_eq_nil_of_le (Nat.le_of_eq Array.length_toList)]
      rfl
    · show ((T.heap.toList.drop T.heap.size).map (·.slots.size)).sum ≤ 0
      rw [List.drop_eq_nil_of_le (Nat.le_of_eq Array.length_toList)]
      exact Nat.le_refl _
/-- 'throw new E()': new; dup; invokespecial; athrow -/
theorem vx_throw0 {cc : ByteArray} {pc : Nat} (hexec : p.tables.exec = Jvm.exec) (hb : c.code = cc) (hl : l.stackTraces = false) {own cls : String} {names : List String} {ik ic mc ms : Nat} {A : Nat → Prop}
    (hown : s.vm.findClass own = some m.cls) (hcls : Bundle.fit cls = true) (hnames : ∀ n ∈ names, Bundle.fit n = true)
    (hk : (Cond.classLink own ik cls).before args s = true) (hini : (Cond.initialized cls).before args s = true) (hat : ∀ w ∈ vx_at0 own ic cls names, w.before args s = true)
    (hgood : ∀ w ∈ Cond.classLink own ik cls :: Cond.initialized cls :: vx_at0 own ic cls names, vx_ot w = true)
    (hU : vx_Zq Bundle.tN "UNASSIGNED_STACK" Bundle.steD A s s.heap) (hN : vx_Zq Bundle.tN "SUPPRESSED_SENTINEL" Bundle.listD A s s.heap) (hS : va_S A s.heap H locs) (hsize : ls.size = c.maxLocals)
    (d0 : decode cc pc = .ok (.new ik, 3)) (d3 : decode cc (pc + 3) = .ok (.dup, 1)) (d4 : decode cc (pc + 4) = .ok (.invokespecial ic, 3)) (d7 : decode cc (pc + 7) = .ok (.athrow, 1))
    (hout : ∀ x ∈ c.exceptionTable.toList, covers x (pc + 7) = false)
    (hRframes : names.length + 3 < R.frames) (hRlocals : (rest.map fun v => v.category).sum + (13 * (names.length + 1) + 42) ≤ R.locals) (hRcells : cells + 1 ≤ R.cells) (hRslots : slots + 6 ≤ R.slots) (hlocks : meth.locks = false)
    (hx : ∀ t : State, s.vm.Alike t.vm → H.size ≤ t.heap.size → (∀ q : Nat, q < H.size → t.heap[q]? = H[q]?) → XC cls s t)
    (hf : ∀ z ∈ locs, free z.base) (hc : cells + 1 ≤ mc) (hs : slots + 6 ≤ ms) :
    W p l e R s m args below meth c H locs cells slots (vx_MQ below Qc XC args s mc ms free) (F0 m pc ls rest) := by
  intro T hT X
  have htr : e.platform.stackTraces = false := (show e.platform.stackTraces = l.stackTraces by rw [X.admits.platform]).trans hl
  have Y := vx_rebase X (R' := { frames := R.frames, locals := R.locals, cells := 1, slots := 6 }) (Nat.le_refl _) (Nat.le_refl _) hRcells hRslots
  obtain ⟨s', hA⟩ : ∃ z, z = (T.setVm s.vm).setFrames (.invoking m args :: below) := ⟨_, rfl⟩
  rw [← hA] at Y
  have hvm : s'.vm = s.vm := by rw [hA]; rfl
  have hhp : s'.heap = H := by rw [hA]; exact hT
  have hW0 : s.WarmedH s'.vm := by rw [hvm]; exact State.WarmedH.refl s
  have hat' : ∀ w ∈ vx_at0 own ic cls names, w.before args s' = true := fun w hw => vx_ot_at hW0 hvm.symm (hgood w (List.mem_cons_of_mem _ (List.mem_cons_of_mem _ hw))) (hat w hw)
  have hk' : (Cond.classLink own ik cls).before args s' = true := vx_ot_at hW0 hvm.symm (hgood _ List.mem_cons_self) hk
  have hini' : (Cond.initialized cls).before args s' = true := vx_ot_at hW0 hvm.symm (hgood _ (List.mem_cons_of_mem _ List.mem_cons_self)) hini
  have hU' : vx_Zq Bundle.tN "UNASSIGNED_STACK" Bundle.steD A s' s'.heap := by rw [hhp]; exact vx_Zq.moved hW0.alike (hU.kept hS.2.1)
  have hN' : vx_Zq Bundle.tN "SUPPRESSED_SENTINEL" Bundle.listD A s' s'.heap := by rw [hhp]; exact vx_Zq.moved hW0.alike (hN.kept hS.2.1)
  have h : ∀ w ∈ Bundle.ownAtoms0 own ic cls names, w.before args s' = true := vx_own hat' (vx_isRefq hU'.1) (vx_isRefq hN'.1) hU'.2.word hN'.2.word
  have hown' : s'.vm.findClass own = some m.cls := by rw [hvm]; exact hown
  have hins : (Cond.instantiable cls 6).before args s' = true := h _ (by simp [Bundle.ownAtoms0])
  obtain ⟨vm₁, cX, kX, hfX, hkX, -, -, X₁, st1⟩ := Y.newCold hexec (own := own) (C := cls) (index := ik) (n := 6) hown' hk' hins hini'
    (g := F0 m pc ls rest) rfl (by rw [hb]; exact d0) (Nat.le_refl _) (Nat.le_refl _)
  generalize hT1 : (T.setVm vm₁).pushCell { cls := cX, slots := kX.instanceTypes.map defaultValue, vm := .none } = T1 at X₁ st1
  have hcat : (Value.ref T.heap.size).category = 1 := rfl
  have hcellA : T1.heap[T.heap.size]? = some (freshCell cX kX) := by rw [← hT1]; exact State.heap_pushCell_size _ _
  have d3' : decode c.code (pc + 3) = .ok (.dup, 1) := by rw [hb]; exact d3
  obtain ⟨U, hsteps, hrun, hend, hW, hsame, ce, hce, hO⟩ := X₁.ctorThrow0 hexec htr (own := own) (cls := cls) (names := names) (ic := ic) hown' hcls hnames h (fun x hx => nomatch hx) hfX hkX hcellA (by rw [hhp, hT]; exact Nat.le_refl _)
    (g := { method := m, pc := pc + 4, locals := ls, stack := .ref T.heap.size :: .ref T.heap.size :: rest, locked := none }) rfl hsize rfl rfl (rest := rest) rfl
    (by rw [hb]; exact d4) (by rw [hb]; exact d7) hout hRframes (by simp only [List.map_cons, List.sum_cons, hcat]; omega) hlocks
  obtain ⟨f1, f2⟩ := vx_frame hsame
  rw [hhp] at f1 f2
  have hWs : s.WarmedH U.vm := State.WarmedH.trans hW0 hW
  have hcl : s.vm.findClass cls = some ce.cls := by
    have h9 := hO.cls
    rw [hvm] at h9
    exact h9
  have hall : s.sameButNew ({ U with vm := s.vm } : State) locs mc ms := by
    subst hA
    obtain ⟨e1, e2⟩ := hsame
    rw [State.setFrames_setFrames] at e1
    have h2 : (T.setVm s.vm).sameButNew ({ U with vm := s.vm } : State) [] (0 + 1) (0 + 6) := ⟨e1, e2⟩
    have h3 := X.same.trans h2
    rw [List.append_nil] at h3
    exact h3.mono hc hs
  refine ⟨U, ?_, .threw T.heap.size, hrun, hend, Or.inr ⟨T.heap.size, rfl, cls, ce, locs, hx U hWs.alike f1 (fun q hq => f2 q hq (fun z hz => nomatch hz)), hce, hO.vm, hcl, hWs, hall, hf⟩⟩
  refine st1 _ ?_
  show Steps p.tables e below (T1.setTop { method := m, pc := pc + 3, locals := ls, stack := .ref T.heap.size :: rest, locked := none }) _
  jvm_step X₁.here [X₁.here.top, hexec, d3', Value.category]
  exact hsteps
/-- 'throw new E("text")': new; dup; ldc; invokespecial; athrow -/
theorem vx_throwS {cc : ByteArray} {pc : Nat} (hexec : p.tables.exec = Jvm.exec) (hb : c.code = cc) (hl : l.stackTraces = false) {own cls text : String} {names : List String} {ik is ic mc ms sa : Nat} {A : Nat → Prop}
    (hown : s.vm.findClass own = some m.cls) (hcls : Bundle.fit cls = true) (hnames : ∀ n ∈ names, Bundle.fit n = true)
    (hk : (Cond.classLink own ik cls).before args s = true) (hini : (Cond.initialized cls).before args s = true) (hstr : vk_R own is text sa s) (hat : ∀ w ∈ vx_atS own ic cls names, w.before args s = true)
    (hgood : ∀ w ∈ Cond.classLink own ik cls :: Cond.initialized cls :: vx_atS own ic cls names, vx_ot w = true)
    (hU : vx_Zq Bundle.tN "UNASSIGNED_STACK" Bundle.steD A s s.heap) (hN : vx_Zq Bundle.tN "SUPPRESSED_SENTINEL" Bundle.listD A s s.heap) (hS : va_S A s.heap H locs) (hsize : ls.size = c.maxLocals)
    (d0 : decode cc pc = .ok (.new ik, 3)) (d3 : decode cc (pc + 3) = .ok (.dup, 1)) (d4 : decode cc (pc + 4) = .ok (.ldc is, 2)) (d6 : decode cc (pc + 6) = .ok (.invokespecial ic, 3)) (d9 : decode cc (pc + 9) = .ok (.athrow, 1))
    (hout : ∀ x ∈ c.exceptionTable.toList, covers x (pc + 9) = false)
    (hRframes : names.length + 3 < R.frames) (hRlocals : (rest.map fun v => v.category).sum + (13 * (names.length + 1) + 43) ≤ R.locals) (hRcells : cells + 1 ≤ R.cells) (hRslots : slots + 6 ≤ R.slots) (hlocks : meth.locks = false)
    (hx : ∀ t : State, s.vm.Alike t.vm → H.size ≤ t.heap.size → (∀ q : Nat, q < H.size → t.heap[q]? = H[q]?) → XC cls s t)
    (hf : ∀ z ∈ locs, free z.base) (hc : cells + 1 ≤ mc) (hs : slots + 6 ≤ ms) :
    W p l e R s m args below meth c H locs cells slots (vx_MQ below Qc XC args s mc ms free) (F0 m pc ls rest) := by
  intro T hT X
  have htr : e.platform.stackTraces = false := (show e.platform.stackTraces = l.stackTraces by rw [X.admits.platform]).trans hl
  have Y := vx_rebase X (R' := { frames := R.frames, locals := R.locals, cells := 1, slots := 6 }) (Nat.le_refl _) (Nat.le_refl _) hRcells hRslots
  obtain ⟨s', hA⟩ : ∃ z, z = (T.setVm s.vm).setFrames (.invoking m args :: below) := ⟨_, rfl⟩
  rw [← hA] at Y
  have hvm : s'.vm = s.vm := by rw [hA]; rfl
  have hhp : s'.heap = H := by rw [hA]; exact hT
  have hW0 : s.WarmedH s'.vm := by rw [hvm]; exact State.WarmedH.refl s
  have hat' : ∀ w ∈ vx_atS own ic cls names, w.before args s' = true := fun w hw => vx_ot_at hW0 hvm.symm (hgood w (List.mem_cons_of_mem _ (List.mem_cons_of_mem _ hw))) (hat w hw)
  have hk' : (Cond.classLink own ik cls).before args s' = true := vx_ot_at hW0 hvm.symm (hgood _ List.mem_cons_self) hk
  have hini' : (Cond.initialized cls).before args s' = true := vx_ot_at hW0 hvm.symm (hgood _ (List.mem_cons_of_mem _ List.mem_cons_self)) hini
  have hU' : vx_Zq Bundle.tN "UNASSIGNED_STACK" Bundle.steD A s' s'.heap := by rw [hhp]; exact vx_Zq.moved hW0.alike (hU.kept hS.2.1)
  have hN' : vx_Zq Bundle.tN "SUPPRESSED_SENTINEL" Bundle.listD A s' s'.heap := by rw [hhp]; exact vx_Zq.moved hW0.alike (hN.kept hS.2.1)
  have h : ∀ w ∈ Bundle.ownAtoms own ic cls names, w.before args s' = true := vx_own hat' (vx_isRefq hU'.1) (vx_isRefq hN'.1) hU'.2.word hN'.2.word
  have hown' : s'.vm.findClass own = some m.cls := by rw [hvm]; exact hown
  have hins : (Cond.instantiable cls 6).before args s' = true := h _ (by simp [Bundle.ownAtoms])
  obtain ⟨vm₁, cX, kX, hfX, hkX, -, -, X₁, st1⟩ := Y.newCold hexec (own := own) (C := cls) (index := ik) (n := 6) hown' hk' hins hini'
    (g := F0 m pc ls rest) rfl (by rw [hb]; exact d0) (Nat.le_refl _) (Nat.le_refl _)
  generalize hT1 : (T.setVm vm₁).pushCell { cls := cX, slots := kX.instanceTypes.map defaultValue, vm := .none } = T1 at X₁ st1
  have hcat : (Value.ref T.heap.size).category = 1 := rfl
  have hcellA : T1.heap[T.heap.size]? = some (freshCell cX kX) := by rw [← hT1]; exact State.heap_pushCell_size _ _
  have d3' : decode c.code (pc + 3) = .ok (.dup, 1) := by rw [hb]; exact d3
  have d4' : decode c.code (pc + 4) = .ok (.ldc is, 2) := by rw [hb]; exact d4
  have hstr' : vk_R own is text sa s' := vk_R.warm hW0 hstr
  obtain ⟨U, hsteps, hrun, hend, hW, hsame, ce, hce, hO⟩ := X₁.ctorThrowS hexec htr (own := own) (cls := cls) (names := names) (ic := ic) hown' hcls hnames h (fun x hx => nomatch hx) hfX hkX hcellA (by rw [hhp, hT]; exact Nat.le_refl _) (msg := .ref sa) rfl
    (g := { method := m, pc := pc + 6, locals := ls, stack := .ref sa :: .ref T.heap.size :: .ref T.heap.size :: rest, locked := none }) rfl hsize rfl rfl (rest := rest) rfl
    (by rw [hb]; exact d6) (by rw [hb]; exact d9) hout hRframes (by simp only [List.map_cons, List.sum_cons, hcat]; omega) hlocks
  obtain ⟨f1, f2⟩ := vx_frame hsame
  rw [hhp] at f1 f2
  have hWs : s.WarmedH U.vm := State.WarmedH.trans hW0 hW
  have hcl : s.vm.findClass cls = some ce.cls := by
    have h9 := hO.cls
    rw [hvm] at h9
    exact h9
  have hall : s.sameButNew ({ U with vm := s.vm } : State) locs mc ms := by
    subst hA
    obtain ⟨e1, e2⟩ := hsame
    rw [State.setFrames_setFrames] at e1
    have h2 : (T.setVm s.vm).sameButNew ({ U with vm := s.vm } : State) [] (0 + 1) (0 + 6) := ⟨e1, e2⟩
    have h3 := X.same.trans h2
    rw [List.append_nil] at h3
    exact h3.mono hc hs
  refine ⟨U, ?_, .threw T.heap.size, hrun, hend, Or.inr ⟨T.heap.size, rfl, cls, ce, locs, hx U hWs.alike f1 (fun q hq => f2 q hq (fun z hz => nomatch hz)), hce, hO.vm, hcl, hWs, hall, hf⟩⟩
  refine st1 _ ?_
  show Steps p.tables e below (T1.setTop { method := m, pc := pc + 3, locals := ls, stack := .ref T.heap.size :: rest, locked := none }) _
  jvm_step X₁.here [X₁.here.top, hexec, d3', Value.category]
  exact X₁.ldcString hexec (own := own) (text := text) (index := is) (a := sa) hown' hstr'.1 hstr'.2
    (g := { method := m, pc := pc + 4, locals := ls, stack := .ref T.heap.size :: .ref T.heap.size :: rest, locked := none }) rfl d4' _ hsteps
/-- 'throw new E("text")', the text by a wide index -/
theorem vx_throwSW {cc : ByteArray} {pc : Nat} (hexec : p.tables.exec = Jvm.exec) (hb : c.code = cc) (hl : l.stackTraces = false) {own cls text : String} {names : List String} {ik is ic mc ms sa : Nat} {A : Nat → Prop}
    (hown : s.vm.findClass own = some m.cls) (hcls : Bundle.fit cls = true) (hnames : ∀ n ∈ names, Bundle.fit n = true)
    (hk : (Cond.classLink own ik cls).before args s = true) (hini : (Cond.initialized cls).before args s = true) (hstr : vk_R own is text sa s) (hat : ∀ w ∈ vx_atS own ic cls names, w.before args s = true)
    (hgood : ∀ w ∈ Cond.classLink own ik cls :: Cond.initialized cls :: vx_atS own ic cls names, vx_ot w = true)
    (hU : vx_Zq Bundle.tN "UNASSIGNED_STACK" Bundle.steD A s s.heap) (hN : vx_Zq Bundle.tN "SUPPRESSED_SENTINEL" Bundle.listD A s s.heap) (hS : va_S A s.heap H locs) (hsize : ls.size = c.maxLocals)
    (d0 : decode cc pc = .ok (.new ik, 3)) (d3 : decode cc (pc + 3) = .ok (.dup, 1)) (d4 : decode cc (pc + 4) = .ok (.ldc_w is, 3)) (d7 : decode cc (pc + 7) = .ok (.invokespecial ic, 3)) (d10 : decode cc (pc + 10) = .ok (.athrow, 1))
    (hout : ∀ x ∈ c.exceptionTable.toList, covers x (pc + 10) = false)
    (hRframes : names.length + 3 < R.frames) (hRlocals : (rest.map fun v => v.category).sum + (13 * (names.length + 1) + 43) ≤ R.locals) (hRcells : cells + 1 ≤ R.cells) (hRslots : slots + 6 ≤ R.slots) (hlocks : meth.locks = false)
    (hx : ∀ t : State, s.vm.Alike t.vm → H.size ≤ t.heap.size → (∀ q : Nat, q < H.size → t.heap[q]? = H[q]?) → XC cls s t)
    (hf : ∀ z ∈ locs, free z.base) (hc : cells + 1 ≤ mc) (hs : slots + 6 ≤ ms) :
    W p l e R s m args below meth c H locs cells slots (vx_MQ below Qc XC args s mc ms free) (F0 m pc ls rest) := by
  intro T hT X
  have htr : e.platform.stackTraces = false := (show e.platform.stackTraces = l.stackTraces by rw [X.admits.platform]).trans hl
  have Y := vx_rebase X (R' := { frames := R.frames, locals := R.locals, cells := 1, slots := 6 }) (Nat.le_refl _) (Nat.le_refl _) hRcells hRslots
  obtain ⟨s', hA⟩ : ∃ z, z = (T.setVm s.vm).setFrames (.invoking m args :: below) := ⟨_, rfl⟩
  rw [← hA] at Y
  have hvm : s'.vm = s.vm := by rw [hA]; rfl
  have hhp : s'.heap = H := by rw [hA]; exact hT
  have hW0 : s.WarmedH s'.vm := by rw [hvm]; exact State.WarmedH.refl s
  have hat' : ∀ w ∈ vx_atS own ic cls names, w.before args s' = true := fun w hw => vx_ot_at hW0 hvm.symm (hgood w (List.mem_cons_of_mem _ (List.mem_cons_of_mem _ hw))) (hat w hw)
  have hk' : (Cond.classLink own ik cls).before args s' = true := vx_ot_at hW0 hvm.symm (hgood _ List.mem_cons_self) hk
  have hini' : (Cond.initialized cls).before args s' = true := vx_ot_at hW0 hvm.symm (hgood _ (List.mem_cons_of_mem _ List.mem_cons_self)) hini
  have hU' : vx_Zq Bundle.tN "UNASSIGNED_STACK" Bundle.steD A s' s'.heap := by rw [hhp]; exact vx_Zq.moved hW0.alike (hU.kept hS.2.1)
  have hN' : vx_Zq Bundle.tN "SUPPRESSED_SENTINEL" Bundle.listD A s' s'.heap := by rw [hhp]; exact vx_Zq.moved hW0.alike (hN.kept hS.2.1)
  have h : ∀ w ∈ Bundle.ownAtoms own ic cls names, w.before args s' = true := vx_own hat' (vx_isRefq hU'.1) (vx_isRefq hN'.1) hU'.2.word hN'.2.word
  have hown' : s'.vm.findClass own = some m.cls := by rw [hvm]; exact hown
  have hins : (Cond.instantiable cls 6).before args s' = true := h _ (by simp [Bundle.ownAtoms])
  obtain ⟨vm₁, cX, kX, hfX, hkX, -, -, X₁, st1⟩ := Y.newCold hexec (own := own) (C := cls) (index := ik) (n := 6) hown' hk' hins hini'
    (g := F0 m pc ls rest) rfl (by rw [hb]; exact d0) (Nat.le_refl _) (Nat.le_refl _)
  generalize hT1 : (T.setVm vm₁).pushCell { cls := cX, slots := kX.instanceTypes.map defaultValue, vm := .none } = T1 at X₁ st1
  have hcat : (Value.ref T.heap.size).category = 1 := rfl
  have hcellA : T1.heap[T.heap.size]? = some (freshCell cX kX) := by rw [← hT1]; exact State.heap_pushCell_size _ _
  have d3' : decode c.code (pc + 3) = .ok (.dup, 1) := by rw [hb]; exact d3
  have d4' : decode c.code (pc + 4) = .ok (.ldc_w is, 3) := by rw [hb]; exact d4
  have hstr' : vk_R own is text sa s' := vk_R.warm hW0 hstr
  obtain ⟨U, hsteps, hrun, hend, hW, hsame, ce, hce, hO⟩ := X₁.ctorThrowS hexec htr (own := own) (cls := cls) (names := names) (ic := ic) hown' hcls hnames h (fun x hx => nomatch hx) hfX hkX hcellA (by rw [hhp, hT]; exact Nat.le_refl _) (msg := .ref sa) rfl
    (g := { method := m, pc := pc + 7, locals := ls, stack := .ref sa :: .ref T.heap.size :: .ref T.heap.size :: rest, locked := none }) rfl hsize rfl rfl (rest := rest) rfl
    (by rw [hb]; exact d7) (by rw [hb]; exact d10) hout hRframes (by simp only [List.map_cons, List.sum_cons, hcat]; omega) hlocks
  obtain ⟨f1, f2⟩ := vx_frame hsame
  rw [hhp] at f1 f2
  have hWs : s.WarmedH U.vm := State.WarmedH.trans hW0 hW
  have hcl : s.vm.findClass cls = some ce.cls := by
    have h9 := hO.cls
    rw [hvm] at h9
    exact h9
  have hall : s.sameButNew ({ U with vm := s.vm } : State) locs mc ms := by
    subst hA
    obtain ⟨e1, e2⟩ := hsame
    rw [State.setFrames_setFrames] at e1
    have h2 : (T.setVm s.vm).sameButNew ({ U with vm := s.vm } : State) [] (0 + 1) (0 + 6) := ⟨e1, e2⟩
    have h3 := X.same.trans h2
    rw [List.append_nil] at h3
    exact h3.mono hc hs
  refine ⟨U, ?_, .threw T.heap.size, hrun, hend, Or.inr ⟨T.heap.size, rfl, cls, ce, locs, hx U hWs.alike f1 (fun q hq => f2 q hq (fun z hz => nomatch hz)), hce, hO.vm, hcl, hWs, hall, hf⟩⟩
  refine st1 _ ?_
  show Steps p.tables e below (T1.setTop { method := m, pc := pc + 3, locals := ls, stack := .ref T.heap.size :: rest, locked := none }) _
  jvm_step X₁.here [X₁.here.top, hexec, d3', Value.category]
  exact X₁.ldcStringW hexec (own := own) (text := text) (index := is) (a := sa) hown' hstr'.1 hstr'.2
    (g := { method := m, pc := pc + 4, locals := ls, stack := .ref T.heap.size :: .ref T.heap.size :: rest, locked := none }) rfl d4' _ hsteps
end Ends
section Bodies
variable {l : Launch}
theorem vx_ofW {y : MethodName} {ws ws' : List Cond} {rm : Room} {Pc : Array Value → State → Prop} {Qc : Array Value → State → Outcome → State → Prop} {XC : String → State → State → Prop} {mc ms : Nat} {free : Addr → Prop} {cc : ByteArray} {maxL : Nat} {ret : Option FieldType}
    (hy : plainName y.cls = true) (hw : ws = Cond.code y cc maxL ret :: ws')
    (body : ∀ p e s m args below meth c s₁, BodyLoose p l y (headSpec ws rm) cc maxL ret e s m args below meth c s₁ → c.maxLocals = maxL → (∀ x ∈ c.exceptionTable.toList, False) → Pc args s →
      W p l e (headSpec ws rm).room s m args below meth c s.heap [] 0 0 (vx_MQ below Qc XC args s mc ms free) (entryFrame m args maxL)) : vx_Met l y ws rm Pc Qc XC mc ms free := by
  refine MetFree.of_bodyS (code := cc) (maxLocals := maxL) (ret := ret) hy ?_ ?_
  · intro args s m h hn
    obtain ⟨meth, c, h1, h2, h3, h4, h5, h6, -, -⟩ := Cond.code_spec hn (atoms_spec (ws := ws) h _ (by rw [hw]; exact List.mem_cons_self))
    exact ⟨meth, c, h1, h2, h3, h4, h5, h6⟩
  · intro p e s m args below meth c s₁ B hml hP _
    have hh0 : s₁.heap = s.heap := by rw [B.state]; rfl
    have ht : ∀ x ∈ c.exceptionTable.toList, False := by
      obtain ⟨meth9, c9, h1, h2, -, -, -, -, h7, -⟩ := Cond.code_spec B.named (atoms_spec (ws := ws) B.pre _ (by rw [hw]; exact List.mem_cons_self))
      cases Option.some.inj (h1.symm.trans B.method)
      cases Option.some.inj (h2.symm.trans (Stand.of_body B).code)
      intro x hx
      rw [Array.isEmpty_iff.mp h7] at hx
      cases hx
    obtain ⟨t, a1, o, b1, b2, b3⟩ := body p e s m args below meth c s₁ B hml ht hP s₁ hh0 (Stand.of_body B)
    exact ⟨t, o, a1, b1, b2, b3⟩
/-- the table of a body with handlers -/
theorem vx_table {p : Program} {x y : MethodName} {S : Spec} {cc bytes : ByteArray} {maxL maxL' : Nat} {ret ret' : Option FieldType} {e : Env} {s s₁ : State} {m : MethodId} {args : Array Value} {below : List Frame} {meth : Method} {c : Code} {hh : List (Nat × Nat × Nat × Nat)}
    (B : BodyLoose p l y S cc maxL ret e s m args below meth c s₁) (h : (Cond.codeWith y bytes maxL' ret' hh).before args s = true) : c.exceptionTable.toList = tableOf hh := by
  obtain ⟨m9, meth9, c9, hn9, h1, h2, -, -, h6, -⟩ := Cond.codeWith_spec h
  cases Option.some.inj (hn9.symm.trans B.named)
  cases Option.some.inj (h1.symm.trans B.method)
  cases Option.some.inj (h2.symm.trans (Stand.of_body B).code)
  rw [← h6, table_eq]
end Bodies
end VXA
/-! ===== END ===== -/
/-! ===== BEGIN a static call of a method with an exception table ===== -/
section VXS
variable {p : Program} {l : Launch} {e : Env} {R : Room} {s : State} {m : MethodId} {args : Array Value} {below : List Frame} {meth : Method} {c : Code} {T : State} {H : Heap} {locs : List Loc} {cells slots : Nat}
abbrev vx_CSW (R : Room) (s : State) (args : Array Value) (own : String) (index : Nat) (y : MethodName) (bytes : ByteArray) (maxL : Nat) (ret : Option FieldType) (hh : List (Nat × Nat × Nat × Nat)) (ws : List Cond) (rm : Room) (mc ms n : Nat) : Prop :=
  (rm.cells = mc ∧ rm.slots = ms ∧ rm.frames + 1 ≤ R.frames ∧ 8 + (maxL + 11) + rm.locals ≤ R.locals ∧ (∀ w ∈ ws, ∀ (a' : Array Value) (U : State), s.WarmedH U.vm → w.before a' U = true) ∧ Cond.codeWith y bytes maxL ret hh ∈ ws) ∧
  (Cond.codeWith y bytes maxL ret hh).before args s = true ∧ (Cond.initialized y.cls).before args s = true ∧ (y.cls ≠ "java/lang/invoke/MethodHandle" ∧ y.cls ≠ "java/lang/invoke/VarHandle") ∧
  (∀ sig, parseMethodDescriptor y.desc = some sig → n = sig.parameters.length) ∧ (Cond.methodLink own index y).before args s = true ∧ (Cond.static y).before args s = true
theorem vx_cwSW {own : String} {index maxL mc ms : Nat} {y : MethodName} {bytes : ByteArray} {ret : Option FieldType} {hh : List (Nat × Nat × Nat × Nat)} {Ts ws ws' : List Cond} {rm : Room} (n : Nat) (ht : ∀ w ∈ Ts, w.before args s = true) (hT : GoodIn Ts (va_wsS own index y ws)) (hw : ws = Cond.codeWith y bytes maxL ret hh :: ws') (hrc : rm.cells = mc) (hrs : rm.slots = ms)
    (hd : y.cls ≠ "java/lang/invoke/MethodHandle" ∧ y.cls ≠ "java/lang/invoke/VarHandle" ∧ (parseMethodDescriptor y.desc).map (fun d => d.parameters.length) = some n) (hR : rm.frames + 1 ≤ R.frames ∧ 8 + (maxL + 11) + rm.locals ≤ R.locals) :
    vx_CSW R s args own index y bytes maxL ret hh ws rm mc ms n := by
  have ok : ∀ w ∈ va_wsS own index y ws, w.before args s = true := fun w h => ht w (hT w h).1
  have hG : GoodIn Ts ws := fun w h => hT w (by unfold va_wsS; exact List.mem_append_right _ h)
  have hc : Cond.codeWith y bytes maxL ret hh ∈ ws := by rw [hw]; exact List.mem_cons_self
  refine ⟨⟨hrc, hrs, hR.1, hR.2, pay_in ht hG, hc⟩, ht _ (hG _ hc).1, ok _ (by simp [va_wsS]), ⟨hd.1, hd.2.1⟩, fun sig h => ?_, ok _ (by simp [va_wsS]), ok _ (by simp [va_wsS])⟩
  have h2 := hd.2.2
  rw [h] at h2
  exact (Option.some.inj h2).symm
theorem vx_callSW (X : Stand p l e R s m args below meth c T locs cells slots) (hexec : p.tables.exec = Jvm.exec) {own : String} {index : Nat} {y : MethodName} {bytes : ByteArray} {maxL : Nat} {ret : Option FieldType} {hh : List (Nat × Nat × Nat × Nat)}
    (hown : s.vm.findClass own = some m.cls) (hlink : (Cond.methodLink own index y).before args s = true) (hstat : (Cond.static y).before args s = true) (hinit : (Cond.initialized y.cls).before args s = true)
    (hcode : (Cond.codeWith y bytes maxL ret hh).before args s = true) (hy : y.cls ≠ "java/lang/invoke/MethodHandle" ∧ y.cls ≠ "java/lang/invoke/VarHandle")
    {W9 : Nat} {Pre : Pt → Array Value → Prop} {Post : Pt → Array Value → Option Value → Pt → Prop} (hK : Back l R p e below s args y 3 W9 Pre Post)
    {g : JFrame} (hg : g.method = m) (hsize : g.locals.size = c.maxLocals) {argsL rest : List Value} (hlen : ∀ sig, parseMethodDescriptor y.desc = some sig → argsL.length = sig.parameters.length)
    (hstack : g.stack = argsL.reverse ++ rest) (hW : 2 * g.monitorRoom + (rest.map fun v => v.category).sum ≤ W9) (hdg : decode c.code g.pc = .ok (.invokestatic index, 3))
    (hpre : ∀ vm₁, s.WarmedH vm₁ → Pre ⟨T.setVm vm₁, locs, cells, slots⟩ argsL.toArray) :
    ∃ (v : Option Value) (vm₁ : Vm) (B : Pt), s.WarmedH vm₁ ∧ Stand p l e R s m args below meth c B.U B.locs B.cells B.slots ∧ Post ⟨T.setVm vm₁, locs, cells, slots⟩ argsL.toArray v B ∧
      ∀ target, Steps p.tables e below (B.U.setTop { g with pc := g.pc + 3, stack := v.toList ++ rest }) target → Steps p.tables e below (T.setTop g) target := by
  obtain ⟨mk, methM, cM, hnamed, hmethM, -, -, -, -, -, -, hsigM⟩ := Cond.codeWith_spec hcode
  have hstatic : methM.isStatic = true := Cond.static_spec hnamed hmethM hstat
  obtain ⟨kP, hkP, -⟩ := className_of_methodNamed hnamed
  have hinitP : kP.init = .initialized := Cond.initialized_spec (findClass_of_methodNamed hnamed) hkP hinit
  obtain ⟨vm₁, X₁, hstep₁⟩ := X.invokestatic hexec hown hlink hnamed hmethM hstatic hkP hinitP hy (g := g) hg (argsL := argsL) (rest := rest) (hlen _ hsigM) hstack hdg
  obtain ⟨v, B, X', hpost, hsteps⟩ := hK m meth c ⟨T.setVm vm₁, locs, cells, slots⟩ { g with stack := rest } (.invokestatic index) mk argsL.toArray X₁ hg hsize hdg hW (X₁.named hnamed) (hpre vm₁ X₁.warmed)
  exact ⟨v, vm₁, B, X₁.warmed, X', hpost, fun target h => hstep₁ _ fun acts => by rw [doInvoke_state]; exact hsteps.trans h⟩
theorem vx_runSW {y : MethodName} {bytes cc : ByteArray} {maxL nL mc ms n index : Nat} {ret : Option FieldType} {hh : List (Nat × Nat × Nat × Nat)} {ws : List Cond} {rm : Room} {Pc : Array Value → State → Prop} {Qc : Array Value → State → Outcome → State → Prop} {free : Addr → Prop} {Ts : List Cond} {own : String} {As rest : List Value} {g : JFrame}
    (S : CallFix p m c cc nL s args Ts own) (hM : Met l y ws rm Pc Qc mc ms free) (cw : vx_CSW R s args own index y bytes maxL ret hh ws rm mc ms n) (hp : PreS s H Pc As)
    (hg : g.method = m) (hn : As.length = n) (hsize : g.locals.size = nL) (hstack : g.stack = As.reverse ++ rest) (hW : 2 * g.monitorRoom + (rest.map fun v => v.category).sum ≤ 8) (hdg : decode cc g.pc = .ok (.invokestatic index, 3)) (hf : cells + mc ≤ R.cells ∧ slots + ms ≤ R.slots) :
    va_Run p l e R s m args below meth c H locs cells slots mc ms g rest (Qc As.toArray) (free) := by
  obtain ⟨⟨hrc, hrs, hfr, hlo, hws, hcw⟩, hcode, hini, hy, hlen, hl, hstt⟩ := cw
  have hK : Back l R p e below s args y 3 8 (PreOf R mc ms Pc) (PostOf Qc mc ms free) := va_backW (hh := hh) (bytes := bytes) (maxL := maxL) (ret := ret) hM hp.1 hrc hrs hfr hlo hws hcw (fun a' U hW => word_at hW (Or.inl (by first | rfl | simp [Cond.onTables, Cond.keeps, Cond.steady])) hini)
  obtain ⟨hx, hb, hml, ho, -⟩ := S
  intro T hT X
  obtain ⟨v, vm₁, ⟨U', l2, c2, s2⟩, hW₁, X', ⟨g', mk, t, L, e1, e2, hq, h1, hL, h2, h3⟩, st⟩ := vx_callSW X hx (hh := hh) (bytes := bytes) (maxL := maxL) (ret := ret) ho hl hstt hini hcode hy hK hg (hsize.trans hml.symm) (argsL := As) (rest := rest) (fun sig h => hn.trans (hlen sig h)) hstack hW (by rw [hb]; exact hdg)
    (fun vm₁ hW₁ => ⟨hf.1, hf.2, hp.2 (T.setVm vm₁) hT hW₁⟩)
  dsimp only [Pt.U, Pt.locs, Pt.cells, Pt.slots] at X' e1 e2 h1 h2 h3 st
  subst h1; subst h2; subst h3
  exact ⟨v, (T.setVm vm₁).calling g' mk As.toArray, t, U', L, hT, X', hL, e1, e2, hq, st⟩
/-- not caught here, past rows that name other classes: it goes on to the caller -/
theorem vx_outP {p : Program} {l : Launch} {e : Env} {R : Room} {s : State} {m : MethodId} {args : Array Value} {below : List Frame} {meth : Method} {c : Code} {H : Heap} {locs : List Loc} {cells slots : Nat} {free : Addr → Prop} {ls : Array Slot} {rest : List Value} {Qc : Array Value → State → Outcome → State → Prop} {XC : String → State → State → Prop}
    {pc : Nat} {own E : String} {ce : Cell} {q : Addr} {mc ms : Nat} (hown : s.vm.findClass own = some m.cls) (hlocks : meth.locks = false)
    (hpass : ∀ z ∈ c.exceptionTable.toList, covers z pc = false ∨ (z.catchType ≠ 0 ∧ ∃ nm : String, (Cond.classLink own z.catchType nm).before args s = true ∧ va_Nc E nm s)) (hcell : H[q]? = some ce) (hv : ce.vm = .none) (hcl : s.vm.findClass E = some ce.cls)
    (hx : ∀ t : State, t.heap = H → s.vm.Alike t.vm → XC E s t) (hf : ∀ z ∈ locs, free z.base) (hc : cells ≤ mc) (hs : slots ≤ ms) :
    vx_W p l e R s m args below meth c H locs cells slots (vx_MQ below Qc XC args s mc ms free) (F0 m pc ls rest) q := by
  intro T hT X
  have hpl : e.platform.magicAccessors = ({} : Platform).magicAccessors := by rw [X.admits.platform]
  obtain ⟨vm', hW', X', st⟩ := X.outThrough hlocks q (g := F0 m pc ls rest) rfl rfl rfl (cell := ce) (by rw [hT]; exact hcell) (by rw [hv]; rfl)
    (by obtain ⟨k9, h9, -⟩ := Vm.findClass_spec hcl; exact ⟨k9, h9⟩) (fun z hz => by
      rcases hpass z hz with h | ⟨hz0, nm, hl1, hn1⟩
      · exact Or.inl h
      · obtain ⟨c6, hc6, hcl6⟩ := Cond.classLink_spec hown hl1 e.platform hpl
        obtain ⟨a8, b8, h1, h2, h3⟩ := hn1
        cases Option.some.inj (h1.symm.trans hcl)
        cases Option.some.inj (h2.symm.trans hc6)
        exact Or.inr ⟨hz0, _, hcl6, h3⟩)
  obtain ⟨g₀, hfr⟩ := X'.frames_eq
  have hcell9 : ((T.setVm vm').setFrames (.throwing q :: below)).heap[q]? = some ce := by
    show T.heap[q]? = some ce
    rw [hT]; exact hcell
  have hend : Ended ((T.setVm vm').setFrames (.throwing q :: below)) below (.threw q) := State.frames_setFrames _ (State.cur_lt_of_frames hfr)
  refine ⟨(T.setVm vm').setFrames (.throwing q :: below), ?_, .threw q, X'.here.running, hend, Or.inr ⟨q, rfl, E, ce, locs, hx _ hT (X'.ends _).1.alike, hcell9, hv, hcl, (X'.ends _).1, (X'.ends _).2.mono hc hs, hf⟩⟩
  rw [X.pushThrowing_eq]
  exact st
/-- a thing of a world lies in the heap -/
theorem vx_lt {D : va_G} {cl : List vw_C} {ws : va_W} {H1 : Heap} (h : va_P D cl ws H1) {k : Nat} {q : Nat × va_E} (hk : ws[k]? = some q) : q.1 < H1.size := (h k q hk).lt
end VXS
/-! ===== END ===== -/
/-! ===== BEGIN methods with a table of their own: called by a name, returning or throwing ===== -/
section VXH
/-! vx_backW, vx_callVX, vx_callSX, vx_callVW, vx_runVW, vx_runVX, vx_runSX, vx_ofWH follow the same proofs as their sisters above (Free/Laws.lean, Shelf42/LK1.lean); vx_outP calls Shelf42/NT130.lean (outThrough). -/
section
variable {l : Launch} {R : Room} {p : Program} {e : Env} {below : List Frame} {s : State} {sargs : Array Value} {y : MethodName} {len W9 : Nat}
theorem vx_backW {ws : List Cond} {rm : Room} {Pc : Array Value → State → Prop} {Qc : Array Value → State → Outcome → State → Prop} {XC : String → State → State → Prop} {mc ms : Nat} {free : Addr → Prop} {bytes : ByteArray} {maxL : Nat} {ret : Option FieldType} {hh : List (Nat × Nat × Nat × Nat)}
    (hM : vx_Met l y ws rm Pc Qc XC mc ms free) (hblind : FrameBlind Pc) (hrc : rm.cells = mc) (hrs : rm.slots = ms)
    (hframes : rm.frames + 1 ≤ R.frames) (hlocals : W9 + (maxL + 11) + rm.locals ≤ R.locals)
    (hws : ∀ w ∈ ws, ∀ a' U, s.WarmedH U.vm → w.before a' U = true) (hcode : Cond.codeWith y bytes maxL ret hh ∈ ws) (hinit : ∀ a' U, s.WarmedH U.vm → (Cond.initialized y.cls).before a' U = true) :
    vx_Back l R p e below s sargs y len W9 (PreOf R mc ms Pc) (PostOf Qc mc ms free) (vx_Post XC mc ms free) := by
  intro m meth c A g ig mk a X hg hsize hdg hW hn hp
  have h1 : (headSpec ws rm).pre.before a A.U = true := atoms_intro fun w hw => hws w hw _ _ X.warmed
  have h2 : (Cond.codeWith y bytes maxL ret hh).before a A.U = true := hws _ hcode _ _ X.warmed
  have h3 : (Cond.initialized y.cls).before a A.U = true := hinit _ _ X.warmed
  have h4 : A.cells + (headSpec ws rm).room.cells ≤ R.cells := by rw [show (headSpec ws rm).room.cells = mc from hrc]; exact hp.1
  have h5 : A.slots + (headSpec ws rm).room.slots ≤ R.slots := by rw [show (headSpec ws rm).room.slots = ms from hrs]; exact hp.2.1
  have hPc : Pc a (A.U.calling g mk a) := hblind _ _ _ _ hp.2.2
  obtain ⟨U, Ls, c0, s0⟩ := A
  dsimp only [Pt.U, Pt.locs, Pt.cells, Pt.slots] at h1 h2 h3 h4 h5 X hn hPc ⊢
  obtain ⟨m9, methY, cY, hn9, hmY, hcY, -, hlY, -⟩ := Cond.codeWith_spec h2
  cases Option.some.inj (hn9.symm.trans hn)
  obtain ⟨kY, hkY, -⟩ := className_of_methodNamed hn
  have hinitY : kY.init = .initialized := Cond.initialized_spec (findClass_of_methodNamed hn) hkY h3
  have h : At U g.method c below := by rw [hg]; exact X.here
  have hlocals9 : W9 + (maxL + 11) + (headSpec ws rm).room.locals ≤ R.locals := hlocals
  have happ : (headSpec ws rm).appliesLoose y e.platform (U.calling g mk a) = true :=
    Spec.appliesLoose_calling (g := g) h hdg hn hkY hinitY
      (X.room_calling (g := g) (R' := (headSpec ws rm).room) hsize hmY hcY hframes (by rw [hlY]; omega) h4 h5) h1
  obtain ⟨mid, hmid⟩ := h.above
  have hfr : (U.setTop g).frames = (.java g :: mid) ++ below := by rw [State.frames_setTop' g h.top, hmid]; rfl
  obtain ⟨o, s₂, hsteps, -, hend, hq⟩ := Steps.callFree hM p X.admits X.cas X.clock (acts := []) hfr happ hPc trivial
  have hq' : vx_Q Qc XC mc ms free a (U.calling g mk a) o s₂ := hq
  rw [State.frames_setTop' g h.top] at hend
  obtain ⟨g₀, hg0⟩ := Option.isSome_iff_exists.mp h.top
  obtain ⟨r, hr⟩ := State.topJava?_eq_some.mp hg0
  have hr' : (({ U with heap := s₂.heap, slotsUsed := s₂.slotsUsed } : State).setVm s₂.vm).frames = .java g₀ :: r := hr
  rcases hq' with ⟨hqc, L, hfe, hL⟩ | ⟨q, rfl, E, ce, L, hx, hce, hcv, hcl, hW₂, hsm, hL⟩
  · obtain ⟨⟨v, rfl⟩, hW₂, e2, q2, q3, q4, q5, q6⟩ := id hfe
    have e3 : s₂ = ({ (U.calling g mk a).setFrames s₂.frames with heap := s₂.heap, slotsUsed := s₂.slotsUsed } : State).setVm s₂.vm := by
      have : s₂ = ({ s₂ with vm := (U.calling g mk a).vm } : State).setVm s₂.vm := rfl
      rw [e2] at this
      exact this
    obtain ⟨c₂, i₂, len₂, hc₂, hd₂, hf₂⟩ := hend
    have hW' : U.WarmedH s₂.vm := hW₂
    have hcc : c₂ = c := by
      have h1 : s₂.code? g.method = U.code? g.method := by
        rw [State.code?_eq, State.code?_eq, hW'.alike.method?]
      exact Option.some.inj (hc₂.symm.trans (h1.trans h.code))
    subst hcc
    have hlen : len₂ = len := by rw [hdg] at hd₂; cases hd₂; rfl
    subst hlen
    have hs₂ : s₂ = (({ U with heap := s₂.heap, slotsUsed := s₂.slotsUsed } : State).setVm s₂.vm).setTop { g with pc := g.pc + len₂, stack := v.toList ++ g.stack } := by
      refine e3.trans ?_
      rw [hf₂, State.calling_eq h.top, State.setFrames_setFrames, State.setTop_of_frames _ hr', hr]
      rfl
    have hsame : U.sameButNew ({ U with heap := s₂.heap, slotsUsed := s₂.slotsUsed } : State) L mc ms := by
      refine ⟨?_, q2, q3, q4, q5, q6⟩
      obtain ⟨t, ht, -⟩ := State.frames_cons hr
      show ({ U with heap := s₂.heap, slotsUsed := s₂.slotsUsed } : State) = { U.setFrames U.frames with heap := s₂.heap, slotsUsed := s₂.slotsUsed }
      rw [State.setFrames_self ht]
    subst hg
    refine Or.inl ⟨v, ⟨(({ U with heap := s₂.heap, slotsUsed := s₂.slotsUsed } : State).setVm s₂.vm), Ls ++ L, c0 + mc, s0 + ms⟩,
      ⟨X.admits, X.cas, X.clock, X.frames, X.room, X.hears, X.method, X.code, (X.here.setHeapUsed s₂.heap s₂.slotsUsed).setVm hW'.alike, X.tail, State.WarmedH.trans X.warmed hW', X.limits, X.bytes, X.same.trans (hsame.setVm s.vm)⟩,
      ⟨g, mk, s₂, L, rfl, rfl, hqc, rfl, hL, rfl, rfl⟩, ?_⟩
    show Steps p.tables e below _ ((({ U with heap := s₂.heap, slotsUsed := s₂.slotsUsed } : State).setVm s₂.vm).setTop { g with pc := g.pc + len₂, stack := v.toList ++ g.stack })
    rw [← hs₂]
    exact hsteps
  · obtain ⟨e2, q2, q3, q4, q5, q6⟩ := id hsm
    have e3 : s₂ = ({ (U.calling g mk a).setFrames s₂.frames with heap := s₂.heap, slotsUsed := s₂.slotsUsed } : State).setVm s₂.vm := by
      have : s₂ = ({ s₂ with vm := (U.calling g mk a).vm } : State).setVm s₂.vm := rfl
      rw [e2] at this
      exact this
    have hf₂ : s₂.frames = .throwing q :: .java g :: U.frames.tail := hend
    have hW' : U.WarmedH s₂.vm := hW₂
    have hs₂ : s₂ = ((({ U with heap := s₂.heap, slotsUsed := s₂.slotsUsed } : State).setVm s₂.vm).setTop g).pushFrame (.throwing q) := by
      refine e3.trans ?_
      rw [hf₂, State.calling_eq h.top, State.setFrames_setFrames, State.pushFrame, State.frames_setTop _ hr', State.setTop_of_frames _ hr', State.setFrames_setFrames, hr]
      rfl
    have hsame : U.sameButNew ({ U with heap := s₂.heap, slotsUsed := s₂.slotsUsed } : State) L mc ms := by
      refine ⟨?_, q2, q3, q4, q5, q6⟩
      obtain ⟨t, ht, -⟩ := State.frames_cons hr
      show ({ U with heap := s₂.heap, slotsUsed := s₂.slotsUsed } : State) = { U.setFrames U.frames with heap := s₂.heap, slotsUsed := s₂.slotsUsed }
      rw [State.setFrames_self ht]
    subst hg
    refine Or.inr ⟨q, ⟨(({ U with heap := s₂.heap, slotsUsed := s₂.slotsUsed } : State).setVm s₂.vm), Ls ++ L, c0 + mc, s0 + ms⟩,
      ⟨X.admits, X.cas, X.clock, X.frames, X.room, X.hears, X.method, X.code, (X.here.setHeapUsed s₂.heap s₂.slotsUsed).setVm hW'.alike, X.tail, State.WarmedH.trans X.warmed hW', X.limits, X.bytes, X.same.trans (hsame.setVm s.vm)⟩,
      ⟨g, mk, s₂, L, E, ce, rfl, rfl, hx, hce, hcv, hcl, rfl, hL, rfl, rfl⟩, ?_⟩
    show Steps p.tables e below _ (((({ U with heap := s₂.heap, slotsUsed := s₂.slotsUsed } : State).setVm s₂.vm).setTop g).pushFrame (.throwing q))
    rw [← hs₂]
    exact hsteps
end
variable {p : Program} {l : Launch} {e : Env} {R : Room} {s : State} {m : MethodId} {args : Array Value} {below : List Frame} {meth : Method} {c : Code} {T : State} {H : Heap} {locs : List Loc} {cells slots : Nat}
theorem vx_callVX (X : Stand p l e R s m args below meth c T locs cells slots) (hexec : p.tables.exec = Jvm.exec) {own C : String} {index : Nat} {y : MethodName} {bytes : ByteArray} {maxL : Nat} {ret : Option FieldType} {hh : List (Nat × Nat × Nat × Nat)}
    (hown : s.vm.findClass own = some m.cls) (hlink : (Cond.methodLink own index y).before args s = true) (hinst : (Cond.instanceMethod y).before args s = true) (hsel : (Cond.selects C y y).before args s = true)
    (hcode : (Cond.codeWith y bytes maxL ret hh).before args s = true) (hy : y.cls ≠ "java/lang/invoke/MethodHandle" ∧ y.cls ≠ "java/lang/invoke/VarHandle")
    {W9 : Nat} {Pre : Pt → Array Value → Prop} {Post : Pt → Array Value → Option Value → Pt → Prop} {PostX : Pt → Array Value → Addr → Pt → Prop} (hK : vx_Back l R p e below s args y 3 W9 Pre Post PostX)
    {b : Addr} {cellB : Cell} (hcell : T.heap[b]? = some cellB) (hobj : cellB.vm.isStatics = false) (hcls : s.vm.findClass C = some cellB.cls)
    {g : JFrame} (hg : g.method = m) (hsize : g.locals.size = c.maxLocals) {argsL rest : List Value} (hlen : ∀ sig, parseMethodDescriptor y.desc = some sig → argsL.length = sig.parameters.length)
    (hstack : g.stack = argsL.reverse ++ .ref b :: rest) (hW : 2 * g.monitorRoom + (rest.map fun v => v.category).sum ≤ W9) (hdg : decode c.code g.pc = .ok (.invokevirtual index, 3))
    (hpre : ∀ vm₁, s.WarmedH vm₁ → Pre ⟨T.setVm vm₁, locs, cells, slots⟩ (Value.ref b :: argsL).toArray) :
    (∃ (v : Option Value) (vm₁ : Vm) (B : Pt), s.WarmedH vm₁ ∧ Stand p l e R s m args below meth c B.U B.locs B.cells B.slots ∧ Post ⟨T.setVm vm₁, locs, cells, slots⟩ (Value.ref b :: argsL).toArray v B ∧
      ∀ target, Steps p.tables e below (B.U.setTop { g with pc := g.pc + 3, stack := v.toList ++ rest }) target → Steps p.tables e below (T.setTop g) target) ∨
    (∃ (q : Addr) (vm₁ : Vm) (B : Pt), s.WarmedH vm₁ ∧ Stand p l e R s m args below meth c B.U B.locs B.cells B.slots ∧ PostX ⟨T.setVm vm₁, locs, cells, slots⟩ (Value.ref b :: argsL).toArray q B ∧
      Steps p.tables e below (T.setTop g) ((B.U.setTop { g with stack := rest }).pushFrame (.throwing q))) := by
  obtain ⟨mk, methM, hnamed, hmethM, hstM, habM⟩ := Cond.instanceMethod_spec hinst
  obtain ⟨m8, methM', cM, hn8, hmethM', -, -, -, -, -, -, hsigM⟩ := Cond.codeWith_spec hcode
  cases Option.some.inj (hn8.symm.trans hnamed)
  cases hmethM.symm.trans hmethM'
  obtain ⟨c2, r2, m2, q1, q2, q3, q4, kP, hkP, hkPi⟩ := Cond.selects_spec hsel
  cases hcls.symm.trans q1
  cases (State.methodFound?_of_named hnamed hy).symm.trans q2
  cases hnamed.symm.trans q3
  have hselP : selectMethod e.platform s.vm cellB.cls mk = .method mk := by rw [Launch.admits_selectMethod X.admits]; exact q4
  obtain ⟨vm₁, X₁, hstep₁⟩ := X.invokevirtual hexec hown hlink hnamed hmethM hstM hkP hkPi hy (a := b) (cell := cellB) hcell
    (fun z h => by rw [h] at hobj; cases hobj) hselP hmethM habM hkP hkPi (g := g) hg (argsL := argsL) (rest := rest) (hlen _ hsigM) hstack hdg
  rcases hK m meth c ⟨T.setVm vm₁, locs, cells, slots⟩ { g with stack := rest } (.invokevirtual index) mk (Value.ref b :: argsL).toArray X₁ hg hsize hdg hW (X₁.named hnamed) (hpre vm₁ X₁.warmed) with ⟨v, B, X', hpost, hsteps⟩ | ⟨q, B, X', hpost, hsteps⟩
  · exact Or.inl ⟨v, vm₁, B, X₁.warmed, X', hpost, fun target h => hstep₁ _ fun acts => by rw [doInvoke_state]; exact hsteps.trans h⟩
  · exact Or.inr ⟨q, vm₁, B, X₁.warmed, X', hpost, hstep₁ _ fun acts => by rw [doInvoke_state]; exact hsteps⟩
theorem vx_callSX (X : Stand p l e R s m args below meth c T locs cells slots) (hexec : p.tables.exec = Jvm.exec) {own : String} {index : Nat} {y : MethodName} {bytes : ByteArray} {maxL : Nat} {ret : Option FieldType} {hh : List (Nat × Nat × Nat × Nat)}
    (hown : s.vm.findClass own = some m.cls) (hlink : (Cond.methodLink own index y).before args s = true) (hstat : (Cond.static y).before args s = true) (hinit : (Cond.initialized y.cls).before args s = true)
    (hcode : (Cond.codeWith y bytes maxL ret hh).before args s = true) (hy : y.cls ≠ "java/lang/invoke/MethodHandle" ∧ y.cls ≠ "java/lang/invoke/VarHandle")
    {W9 : Nat} {Pre : Pt → Array Value → Prop} {Post : Pt → Array Value → Option Value → Pt → Prop} {PostX : Pt → Array Value → Addr → Pt → Prop} (hK : vx_Back l R p e below s args y 3 W9 Pre Post PostX)
    {g : JFrame} (hg : g.method = m) (hsize : g.locals.size = c.maxLocals) {argsL rest : List Value} (hlen : ∀ sig, parseMethodDescriptor y.desc = some sig → argsL.length = sig.parameters.length)
    (hstack : g.stack = argsL.reverse ++ rest) (hW : 2 * g.monitorRoom + (rest.map fun v => v.category).sum ≤ W9) (hdg : decode c.code g.pc = .ok (.invokestatic index, 3))
    (hpre : ∀ vm₁, s.WarmedH vm₁ → Pre ⟨T.setVm vm₁, locs, cells, slots⟩ argsL.toArray) :
    (∃ (v : Option Value) (vm₁ : Vm) (B : Pt), s.WarmedH vm₁ ∧ Stand p l e R s m args below meth c B.U B.locs B.cells B.slots ∧ Post ⟨T.setVm vm₁, locs, cells, slots⟩ argsL.toArray v B ∧
      ∀ target, Steps p.tables e below (B.U.setTop { g with pc := g.pc + 3, stack := v.toList ++ rest }) target → Steps p.tables e below (T.setTop g) target) ∨
    (∃ (q : Addr) (vm₁ : Vm) (B : Pt), s.WarmedH vm₁ ∧ Stand p l e R s m args below meth c B.U B.locs B.cells B.slots ∧ PostX ⟨T.setVm vm₁, locs, cells, slots⟩ argsL.toArray q B ∧
      Steps p.tables e below (T.setTop g) ((B.U.setTop { g with stack := rest }).pushFrame (.throwing q))) := by
  obtain ⟨mk, methM, cM, hnamed, hmethM, -, -, -, -, -, -, hsigM⟩ := Cond.codeWith_spec hcode
  have hstatic : methM.isStatic = true := Cond.static_spec hnamed hmethM hstat
  obtain ⟨kP, hkP, -⟩ := className_of_methodNamed hnamed
  have hinitP : kP.init = .initialized := Cond.initialized_spec (findClass_of_methodNamed hnamed) hkP hinit
  obtain ⟨vm₁, X₁, hstep₁⟩ := X.invokestatic hexec hown hlink hnamed hmethM hstatic hkP hinitP hy (g := g) hg (argsL := argsL) (rest := rest) (hlen _ hsigM) hstack hdg
  rcases hK m meth c ⟨T.setVm vm₁, locs, cells, slots⟩ { g with stack := rest } (.invokestatic index) mk argsL.toArray X₁ hg hsize hdg hW (X₁.named hnamed) (hpre vm₁ X₁.warmed) with ⟨v, B, X', hpost, hsteps⟩ | ⟨q, B, X', hpost, hsteps⟩
  · exact Or.inl ⟨v, vm₁, B, X₁.warmed, X', hpost, fun target h => hstep₁ _ fun acts => by rw [doInvoke_state]; exact hsteps.trans h⟩
  · exact Or.inr ⟨q, vm₁, B, X₁.warmed, X', hpost, hstep₁ _ fun acts => by rw [doInvoke_state]; exact hsteps⟩
theorem vx_callVW (X : Stand p l e R s m args below meth c T locs cells slots) (hexec : p.tables.exec = Jvm.exec) {own C : String} {index : Nat} {y : MethodName} {bytes : ByteArray} {maxL : Nat} {ret : Option FieldType} {hh : List (Nat × Nat × Nat × Nat)}
    (hown : s.vm.findClass own = some m.cls) (hlink : (Cond.methodLink own index y).before args s = true) (hinst : (Cond.instanceMethod y).before args s = true) (hsel : (Cond.selects C y y).before args s = true)
    (hcode : (Cond.codeWith y bytes maxL ret hh).before args s = true) (hy : y.cls ≠ "java/lang/invoke/MethodHandle" ∧ y.cls ≠ "java/lang/invoke/VarHandle")
    {W9 : Nat} {Pre : Pt → Array Value → Prop} {Post : Pt → Array Value → Option Value → Pt → Prop} (hK : Back l R p e below s args y 3 W9 Pre Post)
    {b : Addr} {cellB : Cell} (hcell : T.heap[b]? = some cellB) (hobj : cellB.vm.isStatics = false) (hcls : s.vm.findClass C = some cellB.cls)
    {g : JFrame} (hg : g.method = m) (hsize : g.locals.size = c.maxLocals) {argsL rest : List Value} (hlen : ∀ sig, parseMethodDescriptor y.desc = some sig → argsL.length = sig.parameters.length)
    (hstack : g.stack = argsL.reverse ++ .ref b :: rest) (hW : 2 * g.monitorRoom + (rest.map fun v => v.category).sum ≤ W9) (hdg : decode c.code g.pc = .ok (.invokevirtual index, 3))
    (hpre : ∀ vm₁, s.WarmedH vm₁ → Pre ⟨T.setVm vm₁, locs, cells, slots⟩ (Value.ref b :: argsL).toArray) :
    ∃ (v : Option Value) (vm₁ : Vm) (B : Pt), s.WarmedH vm₁ ∧ Stand p l e R s m args below meth c B.U B.locs B.cells B.slots ∧ Post ⟨T.setVm vm₁, locs, cells, slots⟩ (Value.ref b :: argsL).toArray v B ∧
      ∀ target, Steps p.tables e below (B.U.setTop { g with pc := g.pc + 3, stack := v.toList ++ rest }) target → Steps p.tables e below (T.setTop g) target := by
  obtain ⟨mk, methM, hnamed, hmethM, hstM, habM⟩ := Cond.instanceMethod_spec hinst
  obtain ⟨m8, methM', cM, hn8, hmethM', -, -, -, -, -, -, hsigM⟩ := Cond.codeWith_spec hcode
  cases Option.some.inj (hn8.symm.trans hnamed)
  cases hmethM.symm.trans hmethM'
  obtain ⟨c2, r2, m2, q1, q2, q3, q4, kP, hkP, hkPi⟩ := Cond.selects_spec hsel
  cases hcls.symm.trans q1
  cases (State.methodFound?_of_named hnamed hy).symm.trans q2
  cases hnamed.symm.trans q3
  have hselP : selectMethod e.platform s.vm cellB.cls mk = .method mk := by rw [Launch.admits_selectMethod X.admits]; exact q4
  obtain ⟨vm₁, X₁, hstep₁⟩ := X.invokevirtual hexec hown hlink hnamed hmethM hstM hkP hkPi hy (a := b) (cell := cellB) hcell
    (fun z h => by rw [h] at hobj; cases hobj) hselP hmethM habM hkP hkPi (g := g) hg (argsL := argsL) (rest := rest) (hlen _ hsigM) hstack hdg
  obtain ⟨v, B, X', hpost, hsteps⟩ := hK m meth c ⟨T.setVm vm₁, locs, cells, slots⟩ { g with stack := rest } (.invokevirtual index) mk (Value.ref b :: argsL).toArray X₁ hg hsize hdg hW (X₁.named hnamed) (hpre vm₁ X₁.warmed)
  exact ⟨v, vm₁, B, X₁.warmed, X', hpost, fun target h => hstep₁ _ fun acts => by rw [doInvoke_state]; exact hsteps.trans h⟩
abbrev vx_CVW (R : Room) (s : State) (args : Array Value) (own C : String) (index : Nat) (y : MethodName) (bytes : ByteArray) (maxL : Nat) (ret : Option FieldType) (hh : List (Nat × Nat × Nat × Nat)) (ws : List Cond) (rm : Room) (mc ms n : Nat) : Prop :=
  (rm.cells = mc ∧ rm.slots = ms ∧ rm.frames + 1 ≤ R.frames ∧ 8 + (maxL + 11) + rm.locals ≤ R.locals ∧ (∀ w ∈ ws, ∀ (a' : Array Value) (U : State), s.WarmedH U.vm → w.before a' U = true) ∧ Cond.codeWith y bytes maxL ret hh ∈ ws) ∧
  (Cond.codeWith y bytes maxL ret hh).before args s = true ∧ (Cond.initialized y.cls).before args s = true ∧ (y.cls ≠ "java/lang/invoke/MethodHandle" ∧ y.cls ≠ "java/lang/invoke/VarHandle") ∧
  (∀ sig, parseMethodDescriptor y.desc = some sig → n = sig.parameters.length) ∧ (Cond.methodLink own index y).before args s = true ∧ (Cond.instanceMethod y).before args s = true ∧ (Cond.selects C y y).before args s = true
theorem vx_cwVW {own C : String} {index maxL mc ms : Nat} {y : MethodName} {bytes : ByteArray} {ret : Option FieldType} {hh : List (Nat × Nat × Nat × Nat)} {Ts ws ws' : List Cond} {rm : Room} (n : Nat) (ht : ∀ w ∈ Ts, w.before args s = true) (hT : GoodIn Ts (wsV own index C y ws)) (hw : ws = Cond.codeWith y bytes maxL ret hh :: ws') (hrc : rm.cells = mc) (hrs : rm.slots = ms)
    (hd : y.cls = C ∧ y.cls ≠ "java/lang/invoke/MethodHandle" ∧ y.cls ≠ "java/lang/invoke/VarHandle" ∧ (parseMethodDescriptor y.desc).map (fun d => d.parameters.length) = some n) (hR : rm.frames + 1 ≤ R.frames ∧ 8 + (maxL + 11) + rm.locals ≤ R.locals) :
    vx_CVW R s args own C index y bytes maxL ret hh ws rm mc ms n := by
  obtain ⟨hC, hd⟩ := hd
  subst hC
  have ok : ∀ w ∈ wsV own index y.cls y ws, w.before args s = true := fun w h => ht w (hT w h).1
  have hG : GoodIn Ts ws := fun w h => hT w (by unfold wsV; exact List.mem_append_right _ h)
  have hc : Cond.codeWith y bytes maxL ret hh ∈ ws := by rw [hw]; exact List.mem_cons_self
  refine ⟨⟨hrc, hrs, hR.1, hR.2, pay_in ht hG, hc⟩, ht _ (hG _ hc).1, ok _ (by simp [wsV]), ⟨hd.1, hd.2.1⟩, fun sig h => ?_, ok _ (by simp [wsV]), ok _ (by simp [wsV]), ok _ (by simp [wsV])⟩
  have h2 := hd.2.2
  rw [h] at h2
  exact (Option.some.inj h2).symm
theorem vx_runVW {y : MethodName} {bytes cc : ByteArray} {maxL nL mc ms n index : Nat} {ret : Option FieldType} {hh : List (Nat × Nat × Nat × Nat)} {ws : List Cond} {rm : Room} {Pc : Array Value → State → Prop} {Qc : Array Value → State → Outcome → State → Prop} {free : Addr → Prop} {Ts : List Cond} {own C : String} {b : Addr} {As rest : List Value} {g : JFrame}
    (S : CallFix p m c cc nL s args Ts own) (hM : Met l y ws rm Pc Qc mc ms free) (cw : vx_CVW R s args own C index y bytes maxL ret hh ws rm mc ms n) (hp : PreV s H C b Pc As)
    (hg : g.method = m) (hn : As.length = n) (hsize : g.locals.size = nL) (hstack : g.stack = As.reverse ++ .ref b :: rest) (hW : 2 * g.monitorRoom + (rest.map fun v => v.category).sum ≤ 8) (hdg : decode cc g.pc = .ok (.invokevirtual index, 3)) (hf : cells + mc ≤ R.cells ∧ slots + ms ≤ R.slots) :
    va_Run p l e R s m args below meth c H locs cells slots mc ms g rest (Qc (Value.ref b :: As).toArray) free := by
  obtain ⟨⟨hrc, hrs, hfr, hlo, hws, hcw⟩, hcode, hini, hy, hlen, hl, hin, hse⟩ := cw
  have hK : Back l R p e below s args y 3 8 (PreOf R mc ms Pc) (PostOf Qc mc ms free) := va_backW (hh := hh) (bytes := bytes) (maxL := maxL) (ret := ret) hM hp.1 hrc hrs hfr hlo hws hcw (fun a' U hW => word_at hW (Or.inl (by first | rfl | simp [Cond.onTables, Cond.keeps, Cond.steady])) hini)
  obtain ⟨hx, hb, hml, ho, -⟩ := S
  obtain ⟨-, ⟨cellB, hcB, hoB, hclB⟩, hPc⟩ := hp
  intro T hT X
  obtain ⟨v, vm₁, ⟨U', l2, c2, s2⟩, hW₁, X', ⟨g', mk, t, L, e1, e2, hq, h1, hL, h2, h3⟩, st⟩ := vx_callVW X hx (C := C) (hh := hh) (bytes := bytes) (maxL := maxL) (ret := ret) ho hl hin hse hcode hy hK (by rw [hT]; exact hcB) hoB hclB hg (hsize.trans hml.symm) (argsL := As) (rest := rest) (fun sig h => hn.trans (hlen sig h)) hstack hW (by rw [hb]; exact hdg)
    (fun vm₁ hW₁ => ⟨hf.1, hf.2, hPc (T.setVm vm₁) hT hW₁⟩)
  dsimp only [Pt.U, Pt.locs, Pt.cells, Pt.slots] at X' e1 e2 h1 h2 h3 st
  subst h1; subst h2; subst h3
  exact ⟨v, (T.setVm vm₁).calling g' mk (Value.ref b :: As).toArray, t, U', L, hT, X', hL, e1, e2, hq, st⟩
section
variable {y : MethodName} {bytes cc : ByteArray} {maxL nL mc ms n index : Nat} {ret : Option FieldType} {ws : List Cond} {rm : Room} {Pc : Array Value → State → Prop} {Qc : Array Value → State → Outcome → State → Prop} {XC : String → State → State → Prop} {free : Addr → Prop} {Ts : List Cond} {own C : String} {b : Addr} {As rest : List Value} {g : JFrame}
theorem vx_runVX {hh : List (Nat × Nat × Nat × Nat)} (S : CallFix p m c cc nL s args Ts own) (hM : vx_Met l y ws rm Pc Qc XC mc ms free) (cw : vx_CVW R s args own C index y bytes maxL ret hh ws rm mc ms n) (hp : PreV s H C b Pc As)
    (hg : g.method = m) (hn : As.length = n) (hsize : g.locals.size = nL) (hstack : g.stack = As.reverse ++ .ref b :: rest) (hW : 2 * g.monitorRoom + (rest.map fun v => v.category).sum ≤ 8) (hdg : decode cc g.pc = .ok (.invokevirtual index, 3)) (hf : cells + mc ≤ R.cells ∧ slots + ms ≤ R.slots) :
    vx_Run p l e R s m args below meth c H locs cells slots mc ms g rest (Qc (Value.ref b :: As).toArray) XC free := by
  obtain ⟨⟨hrc, hrs, hfr, hlo, hws, hcw⟩, hcode, hini, hy, hlen, hl, hin, hse⟩ := cw
  have hK : vx_Back l R p e below s args y 3 8 (PreOf R mc ms Pc) (PostOf Qc mc ms free) (vx_Post XC mc ms free) := vx_backW (hh := hh) (bytes := bytes) (maxL := maxL) (ret := ret) hM hp.1 hrc hrs hfr hlo hws hcw (fun a' U hW => word_at hW (Or.inl (by first | rfl | simp [Cond.onTables, Cond.keeps, Cond.steady])) hini)
  obtain ⟨hx, hb, hml, ho, -⟩ := S
  obtain ⟨-, ⟨cellB, hcB, hoB, hclB⟩, hPc⟩ := hp
  intro T hT X
  rcases vx_callVX X hx (C := C) (hh := hh) (bytes := bytes) (maxL := maxL) (ret := ret) ho hl hin hse hcode hy hK (by rw [hT]; exact hcB) hoB hclB hg (hsize.trans hml.symm) (argsL := As) (rest := rest) (fun sig h => hn.trans (hlen sig h)) hstack hW (by rw [hb]; exact hdg)
    (fun vm₁ hW₁ => ⟨hf.1, hf.2, hPc (T.setVm vm₁) hT hW₁⟩) with ⟨v, vm₁, ⟨U', l2, c2, s2⟩, hW₁, X', ⟨g', mk, t, L, e1, e2, hq, h1, hL, h2, h3⟩, st⟩ | ⟨q, vm₁, ⟨U', l2, c2, s2⟩, hW₁, X', ⟨g', mk, t, L, E, ce, e1, e2, hq, hce, hcv, hcl, h1, hL, h2, h3⟩, st⟩
  · dsimp only [Pt.U, Pt.locs, Pt.cells, Pt.slots] at X' e1 e2 h1 h2 h3 st
    subst h1; subst h2; subst h3
    exact Or.inl ⟨v, (T.setVm vm₁).calling g' mk (Value.ref b :: As).toArray, t, U', L, hT, X', hL, e1, e2, hq, st⟩
  · dsimp only [Pt.U, Pt.locs, Pt.cells, Pt.slots] at X' e1 e2 h1 h2 h3 st hcl
    subst h1; subst h2; subst h3
    exact Or.inr ⟨q, (T.setVm vm₁).calling g' mk (Value.ref b :: As).toArray, t, U', L, E, ce, hT, X', hL, e1, e2, hq, hce, hcv, vx_cls hW₁ hcl, st⟩
theorem vx_runSX {hh : List (Nat × Nat × Nat × Nat)} (S : CallFix p m c cc nL s args Ts own) (hM : vx_Met l y ws rm Pc Qc XC mc ms free) (cw : vx_CSW R s args own index y bytes maxL ret hh ws rm mc ms n) (hp : PreS s H Pc As)
    (hg : g.method = m) (hn : As.length = n) (hsize : g.locals.size = nL) (hstack : g.stack = As.reverse ++ rest) (hW : 2 * g.monitorRoom + (rest.map fun v => v.category).sum ≤ 8) (hdg : decode cc g.pc = .ok (.invokestatic index, 3)) (hf : cells + mc ≤ R.cells ∧ slots + ms ≤ R.slots) :
    vx_Run p l e R s m args below meth c H locs cells slots mc ms g rest (Qc As.toArray) XC free := by
  obtain ⟨⟨hrc, hrs, hfr, hlo, hws, hcw⟩, hcode, hini, hy, hlen, hl, hstt⟩ := cw
  have hK : vx_Back l R p e below s args y 3 8 (PreOf R mc ms Pc) (PostOf Qc mc ms free) (vx_Post XC mc ms free) := vx_backW (hh := hh) (bytes := bytes) (maxL := maxL) (ret := ret) hM hp.1 hrc hrs hfr hlo hws hcw (fun a' U hW => word_at hW (Or.inl (by first | rfl | simp [Cond.onTables, Cond.keeps, Cond.steady])) hini)
  obtain ⟨hx, hb, hml, ho, -⟩ := S
  intro T hT X
  rcases vx_callSX X hx (hh := hh) (bytes := bytes) (maxL := maxL) (ret := ret) ho hl hstt hini hcode hy hK hg (hsize.trans hml.symm) (argsL := As) (rest := rest) (fun sig h => hn.trans (hlen sig h)) hstack hW (by rw [hb]; exact hdg)
    (fun vm₁ hW₁ => ⟨hf.1, hf.2, hp.2 (T.setVm vm₁) hT hW₁⟩) with ⟨v, vm₁, ⟨U', l2, c2, s2⟩, hW₁, X', ⟨g', mk, t, L, e1, e2, hq, h1, hL, h2, h3⟩, st⟩ | ⟨q, vm₁, ⟨U', l2, c2, s2⟩, hW₁, X', ⟨g', mk, t, L, E, ce, e1, e2, hq, hce, hcv, hcl, h1, hL, h2, h3⟩, st⟩
  · dsimp only [Pt.U, Pt.locs, Pt.cells, Pt.slots] at X' e1 e2 h1 h2 h3 st
    subst h1; subst h2; subst h3
    exact Or.inl ⟨v, (T.setVm vm₁).calling g' mk As.toArray, t, U', L, hT, X', hL, e1, e2, hq, st⟩
  · dsimp only [Pt.U, Pt.locs, Pt.cells, Pt.slots] at X' e1 e2 h1 h2 h3 st hcl
    subst h1; subst h2; subst h3
    exact Or.inr ⟨q, (T.setVm vm₁).calling g' mk As.toArray, t, U', L, E, ce, hT, X', hL, e1, e2, hq, hce, hcv, vx_cls hW₁ hcl, st⟩
end
end VXH
theorem vx_ofWH {l : Launch} {y : MethodName} {ws ws' : List Cond} {rm : Room} {Pc : Array Value → State → Prop} {Qc : Array Value → State → Outcome → State → Prop} {XC : String → State → State → Prop} {mc ms : Nat} {free : Addr → Prop} {cc : ByteArray} {maxL : Nat} {ret : Option FieldType} {hh : List (Nat × Nat × Nat × Nat)}
    (hy : plainName y.cls = true) (hw : ws = Cond.codeWith y cc maxL ret hh :: ws')
    (body : ∀ p e s m args below meth c s₁, BodyLoose p l y (headSpec ws rm) cc maxL ret e s m args below meth c s₁ → c.maxLocals = maxL → Pc args s →
      W p l e (headSpec ws rm).room s m args below meth c s.heap [] 0 0 (vx_MQ below Qc XC args s mc ms free) (entryFrame m args maxL)) : vx_Met l y ws rm Pc Qc XC mc ms free := by
  refine MetFree.of_bodyS (code := cc) (maxLocals := maxL) (ret := ret) hy ?_ ?_
  · intro args s m h hn
    obtain ⟨m9, meth, c, hn9, h1, h2, h3, h4, -, h5, h6, -⟩ := Cond.codeWith_spec (atoms_spec (ws := ws) h _ (by rw [hw]; exact List.mem_cons_self))
    cases hn.symm.trans hn9
    exact ⟨meth, c, h1, h2, h3, h4, h5, h6⟩
  · intro p e s m args below meth c s₁ B hml hP _
    have hh0 : s₁.heap = s.heap := by rw [B.state]; rfl
    obtain ⟨t, a1, o, b1, b2, b3⟩ := body p e s m args below meth c s₁ B hml hP s₁ hh0 (Stand.of_body B)
    exact ⟨t, o, a1, b1, b2, b3⟩
/-! ===== END ===== -/

/-! ===== BEGIN a private method of a nest mate that may throw (follows va_callVN, va_callSN, va_runVN, va_runSN) ===== -/
section
variable {p : Program} {l : Launch} {e : Env} {R : Room} {s : State} {m : MethodId} {args : Array Value} {below : List Frame} {meth : Method} {c : Code} {H : Heap} {locs : List Loc} {cells slots : Nat}
variable {T : State}
theorem vx_callVN (X : Stand p l e R s m args below meth c T locs cells slots) (hexec : p.tables.exec = Jvm.exec) {own C : String} {index : Nat} {host : String} {y : MethodName} {bytes : ByteArray} {maxL : Nat} {ret : Option FieldType}
    (hown : s.vm.findClass own = some m.cls) (hlink : (Cond.methodLinkNest own index y host).before args s = true) (hinst : (Cond.instanceMethod y).before args s = true) (hsel : (Cond.selects C y y).before args s = true)
    (hcode : (Cond.code y bytes maxL ret).before args s = true) (hy : y.cls ≠ "java/lang/invoke/MethodHandle" ∧ y.cls ≠ "java/lang/invoke/VarHandle")
    {W : Nat} {Pre : Pt → Array Value → Prop} {Post : Pt → Array Value → Option Value → Pt → Prop} {PostX : Pt → Array Value → Addr → Pt → Prop} (hK : vx_Back l R p e below s args y 3 W Pre Post PostX)
    {b : Addr} {cellB : Cell} (hcell : T.heap[b]? = some cellB) (hobj : cellB.vm.isStatics = false) (hcls : s.vm.findClass C = some cellB.cls)
    {g : JFrame} (hg : g.method = m) (hsize : g.locals.size = c.maxLocals) {argsL rest : List Value} (hlen : ∀ sig, parseMethodDescriptor y.desc = some sig → argsL.length = sig.parameters.length)
    (hstack : g.stack = argsL.reverse ++ .ref b :: rest) (hW : 2 * g.monitorRoom + (rest.map fun v => v.category).sum ≤ W) (hdg : decode c.code g.pc = .ok (.invokevirtual index, 3))
    (hpre : ∀ vm₁, s.WarmedH vm₁ → Pre ⟨T.setVm vm₁, locs, cells, slots⟩ (Value.ref b :: argsL).toArray) :
    (∃ (v : Option Value) (vm₁ : Vm) (B : Pt), s.WarmedH vm₁ ∧ Stand p l e R s m args below meth c B.U B.locs B.cells B.slots ∧ Post ⟨T.setVm vm₁, locs, cells, slots⟩ (Value.ref b :: argsL).toArray v B ∧
      ∀ target, Steps p.tables e below (B.U.setTop { g with pc := g.pc + 3, stack := v.toList ++ rest }) target → Steps p.tables e below (T.setTop g) target) ∨
    (∃ (q : Addr) (vm₁ : Vm) (B : Pt), s.WarmedH vm₁ ∧ Stand p l e R s m args below meth c B.U B.locs B.cells B.slots ∧ PostX ⟨T.setVm vm₁, locs, cells, slots⟩ (Value.ref b :: argsL).toArray q B ∧
      Steps p.tables e below (T.setTop g) ((B.U.setTop { g with stack := rest }).pushFrame (.throwing q))) := by
  obtain ⟨mk, methM, hnamed, hmethM, hstM, habM⟩ := Cond.instanceMethod_spec hinst
  obtain ⟨methM', cM, hmethM', -, -, -, -, -, -, hsigM⟩ := Cond.code_spec hnamed hcode
  cases hmethM.symm.trans hmethM'
  obtain ⟨c2, r2, m2, q1, q2, q3, q4, kP, hkP, hkPi⟩ := Cond.selects_spec hsel
  cases hcls.symm.trans q1
  cases (State.methodFound?_of_named hnamed hy).symm.trans q2
  cases hnamed.symm.trans q3
  have hselP : selectMethod e.platform s.vm cellB.cls mk = .method mk := by rw [Launch.admits_selectMethod X.admits]; exact q4
  obtain ⟨vm₁, X₁, hstep₁⟩ := X.invokevirtualNest hexec hown hlink hnamed hmethM hstM hkP hkPi hy (a := b) (cell := cellB) hcell
    (fun z h => by rw [h] at hobj; cases hobj) hselP hmethM habM hkP hkPi (g := g) hg (argsL := argsL) (rest := rest) (hlen _ hsigM) hstack hdg
  rcases hK m meth c ⟨T.setVm vm₁, locs, cells, slots⟩ { g with stack := rest } (.invokevirtual index) mk (Value.ref b :: argsL).toArray X₁ hg hsize hdg hW (X₁.named hnamed) (hpre vm₁ X₁.warmed) with ⟨v, B, X', hpost, hsteps⟩ | ⟨q, B, X', hpost, hsteps⟩
  · exact Or.inl ⟨v, vm₁, B, X₁.warmed, X', hpost, fun target h => hstep₁ _ fun acts => by rw [doInvoke_state]; exact hsteps.trans h⟩
  · exact Or.inr ⟨q, vm₁, B, X₁.warmed, X', hpost, hstep₁ _ fun acts => by rw [doInvoke_state]; exact hsteps⟩
theorem vx_callSN (X : Stand p l e R s m args below meth c T locs cells slots) (hexec : p.tables.exec = Jvm.exec) {own : String} {index : Nat} {host : String} {y : MethodName} {bytes : ByteArray} {maxL : Nat} {ret : Option FieldType}
    (hown : s.vm.findClass own = some m.cls) (hlink : (Cond.methodLinkNest own index y host).before args s = true) (hstat : (Cond.static y).before args s = true) (hinit : (Cond.initialized y.cls).before args s = true)
    (hcode : (Cond.code y bytes maxL ret).before args s = true) (hy : y.cls ≠ "java/lang/invoke/MethodHandle" ∧ y.cls ≠ "java/lang/invoke/VarHandle")
    {W : Nat} {Pre : Pt → Array Value → Prop} {Post : Pt → Array Value → Option Value → Pt → Prop} {PostX : Pt → Array Value → Addr → Pt → Prop} (hK : vx_Back l R p e below s args y 3 W Pre Post PostX)
    {g : JFrame} (hg : g.method = m) (hsize : g.locals.size = c.maxLocals) {argsL rest : List Value} (hlen : ∀ sig, parseMethodDescriptor y.desc = some sig → argsL.length = sig.parameters.length)
    (hstack : g.stack = argsL.reverse ++ rest) (hW : 2 * g.monitorRoom + (rest.map fun v => v.category).sum ≤ W) (hdg : decode c.code g.pc = .ok (.invokestatic index, 3))
    (hpre : ∀ vm₁, s.WarmedH vm₁ → Pre ⟨T.setVm vm₁, locs, cells, slots⟩ argsL.toArray) :
    (∃ (v : Option Value) (vm₁ : Vm) (B : Pt), s.WarmedH vm₁ ∧ Stand p l e R s m args below meth c B.U B.locs B.cells B.slots ∧ Post ⟨T.setVm vm₁, locs, cells, slots⟩ argsL.toArray v B ∧
      ∀ target, Steps p.tables e below (B.U.setTop { g with pc := g.pc + 3, stack := v.toList ++ rest }) target → Steps p.tables e below (T.setTop g) target) ∨
    (∃ (q : Addr) (vm₁ : Vm) (B : Pt), s.WarmedH vm₁ ∧ Stand p l e R s m args below meth c B.U B.locs B.cells B.slots ∧ PostX ⟨T.setVm vm₁, locs, cells, slots⟩ argsL.toArray q B ∧
      Steps p.tables e below (T.setTop g) ((B.U.setTop { g with stack := rest }).pushFrame (.throwing q))) := by
  obtain ⟨mk, hnamed⟩ := Cond.code_named hcode
  obtain ⟨methM, cM, hmethM, -, -, -, -, -, -, hsigM⟩ := Cond.code_spec hnamed hcode
  have hstatic : methM.isStatic = true := Cond.static_spec hnamed hmethM hstat
  obtain ⟨kP, hkP, -⟩ := className_of_methodNamed hnamed
  have hinitP : kP.init = .initialized := Cond.initialized_spec (findClass_of_methodNamed hnamed) hkP hinit
  obtain ⟨vm₁, X₁, hstep₁⟩ := X.invokestaticNest hexec hown hlink hnamed hmethM hstatic hkP hinitP hy (g := g) hg (argsL := argsL) (rest := rest) (hlen _ hsigM) hstack hdg
  rcases hK m meth c ⟨T.setVm vm₁, locs, cells, slots⟩ { g with stack := rest } (.invokestatic index) mk argsL.toArray X₁ hg hsize hdg hW (X₁.named hnamed) (hpre vm₁ X₁.warmed) with ⟨v, B, X', hpost, hsteps⟩ | ⟨q, B, X', hpost, hsteps⟩
  · exact Or.inl ⟨v, vm₁, B, X₁.warmed, X', hpost, fun target h => hstep₁ _ fun acts => by rw [doInvoke_state]; exact hsteps.trans h⟩
  · exact Or.inr ⟨q, vm₁, B, X₁.warmed, X', hpost, hstep₁ _ fun acts => by rw [doInvoke_state]; exact hsteps⟩
theorem vx_runVN {y : MethodName} {bytes cc : ByteArray} {maxL nL mc ms n index : Nat} {ret : Option FieldType} {ws : List Cond} {rm : Room} {Pc : Array Value → State → Prop} {Qc : Array Value → State → Outcome → State → Prop} {XC : String → State → State → Prop} {free : Addr → Prop} {Ts : List Cond} {own C host : String} {b : Addr} {As rest : List Value} {g : JFrame}
    (S : CallFix p m c cc nL s args Ts own) (hM : vx_Met l y ws rm Pc Qc XC mc ms free) (cw : va_CN R s args own index y host bytes maxL ret ws rm mc ms n ∧ (Cond.instanceMethod y).before args s = true ∧ (Cond.selects C y y).before args s = true) (hp : PreV s H C b Pc As)
    (hg : g.method = m) (hn : As.length = n) (hsize : g.locals.size = nL) (hstack : g.stack = As.reverse ++ .ref b :: rest) (hW : 2 * g.monitorRoom + (rest.map fun v => v.category).sum ≤ 8) (hdg : decode cc g.pc = .ok (.invokevirtual index, 3)) (hf : cells + mc ≤ R.cells ∧ slots + ms ≤ R.slots) :
    vx_Run p l e R s m args below meth c H locs cells slots mc ms g rest (Qc (Value.ref b :: As).toArray) XC free := by
  obtain ⟨⟨⟨hrc, hrs, hfr, hlo, hws, hcw⟩, hcode, hini, hy, hlen, hl⟩, hx1, hx2⟩ := cw
  have hK : vx_Back l R p e below s args y 3 8 (PreOf R mc ms Pc) (PostOf Qc mc ms free) (vx_Post XC mc ms free) := vx_back (bytes := bytes) (maxL := maxL) (ret := ret) hM hp.1 hrc hrs hfr hlo hws hcw (fun a' U hW => word_at hW (Or.inl (by first | rfl | simp [Cond.onTables, Cond.keeps, Cond.steady])) hini)
  obtain ⟨hx, hb, hml, ho, -⟩ := S
  obtain ⟨-, ⟨cellB, hcB, hoB, hclB⟩, hPc⟩ := hp
  intro T hT X
  rcases vx_callVN X hx (C := C) (bytes := bytes) (maxL := maxL) (ret := ret) ho hl hx1 hx2 hcode hy hK (by rw [hT]; exact hcB) hoB hclB hg (hsize.trans hml.symm) (argsL := As) (rest := rest) (fun sig h => hn.trans (hlen sig h)) hstack hW (by rw [hb]; exact hdg)
    (fun vm₁ hW₁ => ⟨hf.1, hf.2, hPc (T.setVm vm₁) hT hW₁⟩) with ⟨v, vm₁, ⟨U', l2, c2, s2⟩, hW₁, X', ⟨g', mk, t, L, e1, e2, hq, h1, hL, h2, h3⟩, st⟩ | ⟨q, vm₁, ⟨U', l2, c2, s2⟩, hW₁, X', ⟨g', mk, t, L, E, ce, e1, e2, hq, hce, hcv, hcl, h1, hL, h2, h3⟩, st⟩
  · dsimp only [Pt.U, Pt.locs, Pt.cells, Pt.slots] at X' e1 e2 h1 h2 h3 st
    subst h1; subst h2; subst h3
    exact Or.inl ⟨v, (T.setVm vm₁).calling g' mk (Value.ref b :: As).toArray, t, U', L, hT, X', hL, e1, e2, hq, st⟩
  · dsimp only [Pt.U, Pt.locs, Pt.cells, Pt.slots] at X' e1 e2 h1 h2 h3 st hcl
    subst h1; subst h2; subst h3
    exact Or.inr ⟨q, (T.setVm vm₁).calling g' mk (Value.ref b :: As).toArray, t, U', L, E, ce, hT, X', hL, e1, e2, hq, hce, hcv, vx_cls hW₁ hcl, st⟩
theorem vx_runSN {y : MethodName} {bytes cc : ByteArray} {maxL nL mc ms n index : Nat} {ret : Option FieldType} {ws : List Cond} {rm : Room} {Pc : Array Value → State → Prop} {Qc : Array Value → State → Outcome → State → Prop} {XC : String → State → State → Prop} {free : Addr → Prop} {Ts : List Cond} {own host : String} {As rest : List Value} {g : JFrame}
    (S : CallFix p m c cc nL s args Ts own) (hM : vx_Met l y ws rm Pc Qc XC mc ms free) (cw : va_CN R s args own index y host bytes maxL ret ws rm mc ms n ∧ (Cond.static y).before args s = true ∧ True) (hp : PreS s H Pc As)
    (hg : g.method = m) (hn : As.length = n) (hsize : g.locals.size = nL) (hstack : g.stack = As.reverse ++ rest) (hW : 2 * g.monitorRoom + (rest.map fun v => v.category).sum ≤ 8) (hdg : decode cc g.pc = .ok (.invokestatic index, 3)) (hf : cells + mc ≤ R.cells ∧ slots + ms ≤ R.slots) :
    vx_Run p l e R s m args below meth c H locs cells slots mc ms g rest (Qc As.toArray) XC free := by
  obtain ⟨⟨⟨hrc, hrs, hfr, hlo, hws, hcw⟩, hcode, hini, hy, hlen, hl⟩, hx1, hx2⟩ := cw
  have hK : vx_Back l R p e below s args y 3 8 (PreOf R mc ms Pc) (PostOf Qc mc ms free) (vx_Post XC mc ms free) := vx_back (bytes := bytes) (maxL := maxL) (ret := ret) hM hp.1 hrc hrs hfr hlo hws hcw (fun a' U hW => word_at hW (Or.inl (by first | rfl | simp [Cond.onTables, Cond.keeps, Cond.steady])) hini)
  obtain ⟨hx, hb, hml, ho, -⟩ := S
  have hPc := hp.2
  intro T hT X
  rcases vx_callSN X hx (bytes := bytes) (maxL := maxL) (ret := ret) ho hl hx1 hini hcode hy hK hg (hsize.trans hml.symm) (argsL := As) (rest := rest) (fun sig h => hn.trans (hlen sig h)) hstack hW (by rw [hb]; exact hdg)
    (fun vm₁ hW₁ => ⟨hf.1, hf.2, hPc (T.setVm vm₁) hT hW₁⟩) with ⟨v, vm₁, ⟨U', l2, c2, s2⟩, hW₁, X', ⟨g', mk, t, L, e1, e2, hq, h1, hL, h2, h3⟩, st⟩ | ⟨q, vm₁, ⟨U', l2, c2, s2⟩, hW₁, X', ⟨g', mk, t, L, E, ce, e1, e2, hq, hce, hcv, hcl, h1, hL, h2, h3⟩, st⟩
  · dsimp only [Pt.U, Pt.locs, Pt.cells, Pt.slots] at X' e1 e2 h1 h2 h3 st
    subst h1; subst h2; subst h3
    exact Or.inl ⟨v, (T.setVm vm₁).calling g' mk As.toArray, t, U', L, hT, X', hL, e1, e2, hq, st⟩
  · dsimp only [Pt.U, Pt.locs, Pt.cells, Pt.slots] at X' e1 e2 h1 h2 h3 st hcl
    subst h1; subst h2; subst h3
    exact Or.inr ⟨q, (T.setVm vm₁).calling g' mk As.toArray, t, U', L, E, ce, hT, X', hL, e1, e2, hq, hce, hcv, vx_cls hW₁ hcl, st⟩
end
/-! ===== END ===== -/
end
section
-- ===== PART A: goes FIRST, ahead of the names: the tables' words, and 'selects' of the private methods out of them =====
/-- a private method of a class that the tables say can be made, by its rows of tables_1 -/
def lw_okq (q : MethodName × Nat) : Prop := (q.1.cls ≠ "java/lang/invoke/MethodHandle" ∧ q.1.cls ≠ "java/lang/invoke/VarHandle") ∧ Cond.instantiable q.1.cls q.2 ∈ tables_1 ∧ Cond.privateMethod q.1 ∈ tables_1 ∧ Cond.instanceMethod q.1 ∈ tables_1
theorem lw_p0 : lw_okq (⟨"BooleanConstraints$Instance", "countSolutions", "()I"⟩, 7) := ⟨⟨by decide +kernel, by decide +kernel⟩, List.mem_of_getElem? (i := 24) (by decide +kernel), List.mem_of_getElem? (i := 104) (by decide +kernel), List.mem_of_getElem? (i := 105) (by decide +kernel)⟩
theorem lw_p1 : lw_okq (⟨"BooleanConstraints$Instance", "wordCount", "()I"⟩, 7) := ⟨⟨by decide +kernel, by decide +kernel⟩, List.mem_of_getElem? (i := 24) (by decide +kernel), List.mem_of_getElem? (i := 108) (by decide +kernel), List.mem_of_getElem? (i := 109) (by decide +kernel)⟩
theorem lw_p2 : lw_okq (⟨"BooleanConstraints$Instance", "solutionsIn", "(II)J"⟩, 7) := ⟨⟨by decide +kernel, by decide +kernel⟩, List.mem_of_getElem? (i := 24) (by decide +kernel), List.mem_of_getElem? (i := 112) (by decide +kernel), List.mem_of_getElem? (i := 113) (by decide +kernel)⟩
theorem lw_p3 : lw_okq (⟨"BooleanConstraints$Instance", "assignmentsOfAWord", "()J"⟩, 7) := ⟨⟨by decide +kernel, by decide +kernel⟩, List.mem_of_getElem? (i := 24) (by decide +kernel), List.mem_of_getElem? (i := 116) (by decide +kernel), List.mem_of_getElem? (i := 117) (by decide +kernel)⟩
theorem lw_p4 : lw_okq (⟨"BooleanConstraints$Instance", "satisfying", "(II)J"⟩, 7) := ⟨⟨by decide +kernel, by decide +kernel⟩, List.mem_of_getElem? (i := 24) (by decide +kernel), List.mem_of_getElem? (i := 124) (by decide +kernel), List.mem_of_getElem? (i := 125) (by decide +kernel)⟩
theorem lw_p5 : lw_okq (⟨"BooleanConstraints$Instance", "isSpare", "(II)Z"⟩, 7) := ⟨⟨by decide +kernel, by decide +kernel⟩, List.mem_of_getElem? (i := 24) (by decide +kernel), List.mem_of_getElem? (i := 152) (by decide +kernel), List.mem_of_getElem? (i := 153) (by decide +kernel)⟩
theorem lw_p6 : lw_okq (⟨"BooleanConstraints$Instance", "removeConstraints", "(I)V"⟩, 7) := ⟨⟨by decide +kernel, by decide +kernel⟩, List.mem_of_getElem? (i := 24) (by decide +kernel), List.mem_of_getElem? (i := 156) (by decide +kernel), List.mem_of_getElem? (i := 157) (by decide +kernel)⟩
theorem lw_p7 : lw_okq (⟨"BooleanConstraints$Instance", "copyFrom", "(LBooleanConstraints$Instance;)V"⟩, 7) := ⟨⟨by decide +kernel, by decide +kernel⟩, List.mem_of_getElem? (i := 24) (by decide +kernel), List.mem_of_getElem? (i := 170) (by decide +kernel), List.mem_of_getElem? (i := 171) (by decide +kernel)⟩
theorem lw_p8 : lw_okq (⟨"java/lang/Throwable", "fillInStackTrace", "(I)Ljava/lang/Throwable;"⟩, 6) := ⟨⟨by decide +kernel, by decide +kernel⟩, List.mem_of_getElem? (i := 229) (by decide +kernel), List.mem_of_getElem? (i := 227) (by decide +kernel), List.mem_of_getElem? (i := 228) (by decide +kernel)⟩
theorem lw_p9 : lw_okq (⟨"BooleanConstraints", "addNew", "(II)I"⟩, 10) := ⟨⟨by decide +kernel, by decide +kernel⟩, List.mem_of_getElem? (i := 16) (by decide +kernel), List.mem_of_getElem? (i := 259) (by decide +kernel), List.mem_of_getElem? (i := 260) (by decide +kernel)⟩
theorem lw_p10 : lw_okq (⟨"BooleanConstraints", "requireRoomForRelation", "()V"⟩, 10) := ⟨⟨by decide +kernel, by decide +kernel⟩, List.mem_of_getElem? (i := 16) (by decide +kernel), List.mem_of_getElem? (i := 263) (by decide +kernel), List.mem_of_getElem? (i := 264) (by decide +kernel)⟩
theorem lw_p11 : lw_okq (⟨"BooleanConstraints", "requireRelation", "(I)V"⟩, 10) := ⟨⟨by decide +kernel, by decide +kernel⟩, List.mem_of_getElem? (i := 16) (by decide +kernel), List.mem_of_getElem? (i := 317) (by decide +kernel), List.mem_of_getElem? (i := 318) (by decide +kernel)⟩
theorem lw_p12 : lw_okq (⟨"BooleanConstraints", "requireTuple", "(II)V"⟩, 10) := ⟨⟨by decide +kernel, by decide +kernel⟩, List.mem_of_getElem? (i := 16) (by decide +kernel), List.mem_of_getElem? (i := 337) (by decide +kernel), List.mem_of_getElem? (i := 338) (by decide +kernel)⟩
theorem lw_p13 : lw_okq (⟨"BooleanConstraints", "requirePosition", "(II)V"⟩, 10) := ⟨⟨by decide +kernel, by decide +kernel⟩, List.mem_of_getElem? (i := 16) (by decide +kernel), List.mem_of_getElem? (i := 400) (by decide +kernel), List.mem_of_getElem? (i := 401) (by decide +kernel)⟩
theorem lw_p14 : lw_okq (⟨"BooleanConstraints", "isPreserved", "(III)Z"⟩, 10) := ⟨⟨by decide +kernel, by decide +kernel⟩, List.mem_of_getElem? (i := 16) (by decide +kernel), List.mem_of_getElem? (i := 443) (by decide +kernel), List.mem_of_getElem? (i := 444) (by decide +kernel)⟩
theorem lw_p15 : lw_okq (⟨"BooleanConstraints", "areAllPreserved", "(II)Z"⟩, 10) := ⟨⟨by decide +kernel, by decide +kernel⟩, List.mem_of_getElem? (i := 16) (by decide +kernel), List.mem_of_getElem? (i := 463) (by decide +kernel), List.mem_of_getElem? (i := 464) (by decide +kernel)⟩
def lw_privs_1 : List (MethodName × Nat) := [(⟨"BooleanConstraints$Instance", "countSolutions", "()I"⟩, 7), (⟨"BooleanConstraints$Instance", "wordCount", "()I"⟩, 7), (⟨"BooleanConstraints$Instance", "solutionsIn", "(II)J"⟩, 7), (⟨"BooleanConstraints$Instance", "assignmentsOfAWord", "()J"⟩, 7), (⟨"BooleanConstraints$Instance", "satisfying", "(II)J"⟩, 7), (⟨"BooleanConstraints$Instance", "isSpare", "(II)Z"⟩, 7), (⟨"BooleanConstraints$Instance", "removeConstraints", "(I)V"⟩, 7), (⟨"BooleanConstraints$Instance", "copyFrom", "(LBooleanConstraints$Instance;)V"⟩, 7), (⟨"java/lang/Throwable", "fillInStackTrace", "(I)Ljava/lang/Throwable;"⟩, 6), (⟨"BooleanConstraints", "addNew", "(II)I"⟩, 10), (⟨"BooleanConstraints", "requireRoomForRelation", "()V"⟩, 10), (⟨"BooleanConstraints", "requireRelation", "(I)V"⟩, 10), (⟨"BooleanConstraints", "requireTuple", "(II)V"⟩, 10), (⟨"BooleanConstraints", "requirePosition", "(II)V"⟩, 10), (⟨"BooleanConstraints", "isPreserved", "(III)Z"⟩, 10), (⟨"BooleanConstraints", "areAllPreserved", "(II)Z"⟩, 10)]
theorem lw_r1 : ∀ q ∈ lw_privs_1, lw_okq q := List.forall_mem_cons.mpr ⟨lw_p0, List.forall_mem_cons.mpr ⟨lw_p1, List.forall_mem_cons.mpr ⟨lw_p2, List.forall_mem_cons.mpr ⟨lw_p3, List.forall_mem_cons.mpr ⟨lw_p4, List.forall_mem_cons.mpr ⟨lw_p5, List.forall_mem_cons.mpr ⟨lw_p6, List.forall_mem_cons.mpr ⟨lw_p7, List.forall_mem_cons.mpr ⟨lw_p8, List.forall_mem_cons.mpr ⟨lw_p9, List.forall_mem_cons.mpr ⟨lw_p10, List.forall_mem_cons.mpr ⟨lw_p11, List.forall_mem_cons.mpr ⟨lw_p12, List.forall_mem_cons.mpr ⟨lw_p13, List.forall_mem_cons.mpr ⟨lw_p14, List.forall_mem_cons.mpr ⟨lw_p15, fun _ h => absurd h List.not_mem_nil⟩⟩⟩⟩⟩⟩⟩⟩⟩⟩⟩⟩⟩⟩⟩⟩
theorem lw_p16 : lw_okq (⟨"BooleanConstraints", "isOfKind", "(I)Z"⟩, 10) := ⟨⟨by decide +kernel, by decide +kernel⟩, List.mem_of_getElem? (i := 16) (by decide +kernel), List.mem_of_getElem? (i := 583) (by decide +kernel), List.mem_of_getElem? (i := 584) (by decide +kernel)⟩
theorem lw_p17 : lw_okq (⟨"BooleanConstraints", "requireVariables", "(IIIII)V"⟩, 10) := ⟨⟨by decide +kernel, by decide +kernel⟩, List.mem_of_getElem? (i := 16) (by decide +kernel), List.mem_of_getElem? (i := 610) (by decide +kernel), List.mem_of_getElem? (i := 611) (by decide +kernel)⟩
theorem lw_p18 : lw_okq (⟨"BooleanConstraints", "requireVariable", "(I)V"⟩, 10) := ⟨⟨by decide +kernel, by decide +kernel⟩, List.mem_of_getElem? (i := 16) (by decide +kernel), List.mem_of_getElem? (i := 614) (by decide +kernel), List.mem_of_getElem? (i := 615) (by decide +kernel)⟩
theorem lw_p19 : lw_okq (⟨"BooleanConstraints$Instance", "findSolution", "(I)I"⟩, 7) := ⟨⟨by decide +kernel, by decide +kernel⟩, List.mem_of_getElem? (i := 24) (by decide +kernel), List.mem_of_getElem? (i := 638) (by decide +kernel), List.mem_of_getElem? (i := 639) (by decide +kernel)⟩
theorem lw_p20 : lw_okq (⟨"BooleanConstraints$Instance", "variablesThatTake", "(I)I"⟩, 7) := ⟨⟨by decide +kernel, by decide +kernel⟩, List.mem_of_getElem? (i := 24) (by decide +kernel), List.mem_of_getElem? (i := 653) (by decide +kernel), List.mem_of_getElem? (i := 654) (by decide +kernel)⟩
theorem lw_p21 : lw_okq (⟨"BooleanConstraints", "requireKindOfLanguage", "(I)V"⟩, 10) := ⟨⟨by decide +kernel, by decide +kernel⟩, List.mem_of_getElem? (i := 16) (by decide +kernel), List.mem_of_getElem? (i := 668) (by decide +kernel), List.mem_of_getElem? (i := 669) (by decide +kernel)⟩
theorem lw_p22 : lw_okq (⟨"BooleanConstraints", "requireSolutions", "()V"⟩, 10) := ⟨⟨by decide +kernel, by decide +kernel⟩, List.mem_of_getElem? (i := 16) (by decide +kernel), List.mem_of_getElem? (i := 688) (by decide +kernel), List.mem_of_getElem? (i := 689) (by decide +kernel)⟩
theorem lw_p23 : lw_okq (⟨"BooleanConstraints$Instance", "greatestAssignment", "()I"⟩, 7) := ⟨⟨by decide +kernel, by decide +kernel⟩, List.mem_of_getElem? (i := 24) (by decide +kernel), List.mem_of_getElem? (i := 693) (by decide +kernel), List.mem_of_getElem? (i := 694) (by decide +kernel)⟩
theorem lw_p24 : lw_okq (⟨"BooleanConstraints$Instance", "hasSolutionWith", "(IIII)Z"⟩, 7) := ⟨⟨by decide +kernel, by decide +kernel⟩, List.mem_of_getElem? (i := 24) (by decide +kernel), List.mem_of_getElem? (i := 711) (by decide +kernel), List.mem_of_getElem? (i := 712) (by decide +kernel)⟩
theorem lw_p25 : lw_okq (⟨"BooleanConstraints$Instance", "tuplesOfSolutions", "(II)I"⟩, 7) := ⟨⟨by decide +kernel, by decide +kernel⟩, List.mem_of_getElem? (i := 24) (by decide +kernel), List.mem_of_getElem? (i := 729) (by decide +kernel), List.mem_of_getElem? (i := 730) (by decide +kernel)⟩
theorem lw_p26 : lw_okq (⟨"BooleanConstraints$Instance", "isSatisfied", "(II)Z"⟩, 7) := ⟨⟨by decide +kernel, by decide +kernel⟩, List.mem_of_getElem? (i := 24) (by decide +kernel), List.mem_of_getElem? (i := 742) (by decide +kernel), List.mem_of_getElem? (i := 743) (by decide +kernel)⟩
theorem lw_p27 : lw_okq (⟨"BooleanConstraints", "wrongPosition", "(I)I"⟩, 10) := ⟨⟨by decide +kernel, by decide +kernel⟩, List.mem_of_getElem? (i := 16) (by decide +kernel), List.mem_of_getElem? (i := 771) (by decide +kernel), List.mem_of_getElem? (i := 772) (by decide +kernel)⟩
theorem lw_p28 : lw_okq (⟨"BooleanConstraints", "firstTupleLength", "(I)I"⟩, 10) := ⟨⟨by decide +kernel, by decide +kernel⟩, List.mem_of_getElem? (i := 16) (by decide +kernel), List.mem_of_getElem? (i := 782) (by decide +kernel), List.mem_of_getElem? (i := 783) (by decide +kernel)⟩
theorem lw_p29 : lw_okq (⟨"BooleanConstraints", "readTuples", "(II)I"⟩, 10) := ⟨⟨by decide +kernel, by decide +kernel⟩, List.mem_of_getElem? (i := 16) (by decide +kernel), List.mem_of_getElem? (i := 786) (by decide +kernel), List.mem_of_getElem? (i := 787) (by decide +kernel)⟩
theorem lw_p30 : lw_okq (⟨"BooleanConstraints", "writeTuple", "(II)V"⟩, 10) := ⟨⟨by decide +kernel, by decide +kernel⟩, List.mem_of_getElem? (i := 16) (by decide +kernel), List.mem_of_getElem? (i := 805) (by decide +kernel), List.mem_of_getElem? (i := 806) (by decide +kernel)⟩
theorem lw_p31 : lw_okq (⟨"BooleanConstraints", "writeCharacter", "(C)V"⟩, 10) := ⟨⟨by decide +kernel, by decide +kernel⟩, List.mem_of_getElem? (i := 16) (by decide +kernel), List.mem_of_getElem? (i := 809) (by decide +kernel), List.mem_of_getElem? (i := 810) (by decide +kernel)⟩
def lw_privs_2 : List (MethodName × Nat) := [(⟨"BooleanConstraints", "isOfKind", "(I)Z"⟩, 10), (⟨"BooleanConstraints", "requireVariables", "(IIIII)V"⟩, 10), (⟨"BooleanConstraints", "requireVariable", "(I)V"⟩, 10), (⟨"BooleanConstraints$Instance", "findSolution", "(I)I"⟩, 7), (⟨"BooleanConstraints$Instance", "variablesThatTake", "(I)I"⟩, 7), (⟨"BooleanConstraints", "requireKindOfLanguage", "(I)V"⟩, 10), (⟨"BooleanConstraints", "requireSolutions", "()V"⟩, 10), (⟨"BooleanConstraints$Instance", "greatestAssignment", "()I"⟩, 7), (⟨"BooleanConstraints$Instance", "hasSolutionWith", "(IIII)Z"⟩, 7), (⟨"BooleanConstraints$Instance", "tuplesOfSolutions", "(II)I"⟩, 7), (⟨"BooleanConstraints$Instance", "isSatisfied", "(II)Z"⟩, 7), (⟨"BooleanConstraints", "wrongPosition", "(I)I"⟩, 10), (⟨"BooleanConstraints", "firstTupleLength", "(I)I"⟩, 10), (⟨"BooleanConstraints", "readTuples", "(II)I"⟩, 10), (⟨"BooleanConstraints", "writeTuple", "(II)V"⟩, 10), (⟨"BooleanConstraints", "writeCharacter", "(C)V"⟩, 10)]
theorem lw_r2 : ∀ q ∈ lw_privs_2, lw_okq q := List.forall_mem_cons.mpr ⟨lw_p16, List.forall_mem_cons.mpr ⟨lw_p17, List.forall_mem_cons.mpr ⟨lw_p18, List.forall_mem_cons.mpr ⟨lw_p19, List.forall_mem_cons.mpr ⟨lw_p20, List.forall_mem_cons.mpr ⟨lw_p21, List.forall_mem_cons.mpr ⟨lw_p22, List.forall_mem_cons.mpr ⟨lw_p23, List.forall_mem_cons.mpr ⟨lw_p24, List.forall_mem_cons.mpr ⟨lw_p25, List.forall_mem_cons.mpr ⟨lw_p26, List.forall_mem_cons.mpr ⟨lw_p27, List.forall_mem_cons.mpr ⟨lw_p28, List.forall_mem_cons.mpr ⟨lw_p29, List.forall_mem_cons.mpr ⟨lw_p30, List.forall_mem_cons.mpr ⟨lw_p31, fun _ h => absurd h List.not_mem_nil⟩⟩⟩⟩⟩⟩⟩⟩⟩⟩⟩⟩⟩⟩⟩⟩
theorem lw_p32 : lw_okq (⟨"BooleanConstraints", "requireFlags", "(I)V"⟩, 10) := ⟨⟨by decide +kernel, by decide +kernel⟩, List.mem_of_getElem? (i := 16) (by decide +kernel), List.mem_of_getElem? (i := 840) (by decide +kernel), List.mem_of_getElem? (i := 841) (by decide +kernel)⟩
theorem lw_p33 : lw_okq (⟨"BooleanConstraintsModel", "fails", "(I)I"⟩, 21) := ⟨⟨by decide +kernel, by decide +kernel⟩, List.mem_of_getElem? (i := 861) (by decide +kernel), List.mem_of_getElem? (i := 943) (by decide +kernel), List.mem_of_getElem? (i := 944) (by decide +kernel)⟩
theorem lw_p34 : lw_okq (⟨"BooleanConstraintsModel", "adds", "(II)I"⟩, 21) := ⟨⟨by decide +kernel, by decide +kernel⟩, List.mem_of_getElem? (i := 861) (by decide +kernel), List.mem_of_getElem? (i := 947) (by decide +kernel), List.mem_of_getElem? (i := 948) (by decide +kernel)⟩
theorem lw_p35 : lw_okq (⟨"BooleanConstraintsModel", "noTuple", "(II)I"⟩, 21) := ⟨⟨by decide +kernel, by decide +kernel⟩, List.mem_of_getElem? (i := 861) (by decide +kernel), List.mem_of_getElem? (i := 975) (by decide +kernel), List.mem_of_getElem? (i := 976) (by decide +kernel)⟩
theorem lw_p36 : lw_okq (⟨"BooleanConstraintsModel", "isRelation", "(I)Z"⟩, 21) := ⟨⟨by decide +kernel, by decide +kernel⟩, List.mem_of_getElem? (i := 861) (by decide +kernel), List.mem_of_getElem? (i := 979) (by decide +kernel), List.mem_of_getElem? (i := 980) (by decide +kernel)⟩
theorem lw_p37 : lw_okq (⟨"BooleanConstraintsModel", "refuses", "(I)Z"⟩, 21) := ⟨⟨by decide +kernel, by decide +kernel⟩, List.mem_of_getElem? (i := 861) (by decide +kernel), List.mem_of_getElem? (i := 1041) (by decide +kernel), List.mem_of_getElem? (i := 1042) (by decide +kernel)⟩
theorem lw_p38 : lw_okq (⟨"BooleanConstraintsModel", "doesPreserve", "(III)Z"⟩, 21) := ⟨⟨by decide +kernel, by decide +kernel⟩, List.mem_of_getElem? (i := 861) (by decide +kernel), List.mem_of_getElem? (i := 1045) (by decide +kernel), List.mem_of_getElem? (i := 1046) (by decide +kernel)⟩
theorem lw_p39 : lw_okq (⟨"BooleanConstraintsModel", "isKept", "(II)Z"⟩, 21) := ⟨⟨by decide +kernel, by decide +kernel⟩, List.mem_of_getElem? (i := 861) (by decide +kernel), List.mem_of_getElem? (i := 1056) (by decide +kernel), List.mem_of_getElem? (i := 1057) (by decide +kernel)⟩
theorem lw_p40 : lw_okq (⟨"BooleanConstraintsModel", "has", "(I)Z"⟩, 21) := ⟨⟨by decide +kernel, by decide +kernel⟩, List.mem_of_getElem? (i := 861) (by decide +kernel), List.mem_of_getElem? (i := 1111) (by decide +kernel), List.mem_of_getElem? (i := 1112) (by decide +kernel)⟩
theorem lw_p41 : lw_okq (⟨"BooleanConstraintsModel", "areVariables", "(IIIII)Z"⟩, 21) := ⟨⟨by decide +kernel, by decide +kernel⟩, List.mem_of_getElem? (i := 861) (by decide +kernel), List.mem_of_getElem? (i := 1127) (by decide +kernel), List.mem_of_getElem? (i := 1128) (by decide +kernel)⟩
theorem lw_p42 : lw_okq (⟨"BooleanConstraintsModel", "isVariable", "(I)Z"⟩, 21) := ⟨⟨by decide +kernel, by decide +kernel⟩, List.mem_of_getElem? (i := 861) (by decide +kernel), List.mem_of_getElem? (i := 1131) (by decide +kernel), List.mem_of_getElem? (i := 1132) (by decide +kernel)⟩
theorem lw_p43 : lw_okq (⟨"BooleanConstraintsModel", "solutions", "()I"⟩, 21) := ⟨⟨by decide +kernel, by decide +kernel⟩, List.mem_of_getElem? (i := 861) (by decide +kernel), List.mem_of_getElem? (i := 1143) (by decide +kernel), List.mem_of_getElem? (i := 1144) (by decide +kernel)⟩
theorem lw_p44 : lw_okq (⟨"BooleanConstraintsModel", "solves", "(II)Z"⟩, 21) := ⟨⟨by decide +kernel, by decide +kernel⟩, List.mem_of_getElem? (i := 861) (by decide +kernel), List.mem_of_getElem? (i := 1147) (by decide +kernel), List.mem_of_getElem? (i := 1148) (by decide +kernel)⟩
theorem lw_p45 : lw_okq (⟨"BooleanConstraintsModel", "isSatisfied", "(II)Z"⟩, 21) := ⟨⟨by decide +kernel, by decide +kernel⟩, List.mem_of_getElem? (i := 861) (by decide +kernel), List.mem_of_getElem? (i := 1151) (by decide +kernel), List.mem_of_getElem? (i := 1152) (by decide +kernel)⟩
theorem lw_p46 : lw_okq (⟨"BooleanConstraintsModel", "doesImply", "(IIII)Z"⟩, 21) := ⟨⟨by decide +kernel, by decide +kernel⟩, List.mem_of_getElem? (i := 861) (by decide +kernel), List.mem_of_getElem? (i := 1163) (by decide +kernel), List.mem_of_getElem? (i := 1164) (by decide +kernel)⟩
theorem lw_p47 : lw_okq (⟨"BooleanConstraintsModel", "isIdle", "(I)Z"⟩, 21) := ⟨⟨by decide +kernel, by decide +kernel⟩, List.mem_of_getElem? (i := 861) (by decide +kernel), List.mem_of_getElem? (i := 1195) (by decide +kernel), List.mem_of_getElem? (i := 1196) (by decide +kernel)⟩
def lw_privs_3 : List (MethodName × Nat) := [(⟨"BooleanConstraints", "requireFlags", "(I)V"⟩, 10), (⟨"BooleanConstraintsModel", "fails", "(I)I"⟩, 21), (⟨"BooleanConstraintsModel", "adds", "(II)I"⟩, 21), (⟨"BooleanConstraintsModel", "noTuple", "(II)I"⟩, 21), (⟨"BooleanConstraintsModel", "isRelation", "(I)Z"⟩, 21), (⟨"BooleanConstraintsModel", "refuses", "(I)Z"⟩, 21), (⟨"BooleanConstraintsModel", "doesPreserve", "(III)Z"⟩, 21), (⟨"BooleanConstraintsModel", "isKept", "(II)Z"⟩, 21), (⟨"BooleanConstraintsModel", "has", "(I)Z"⟩, 21), (⟨"BooleanConstraintsModel", "areVariables", "(IIIII)Z"⟩, 21), (⟨"BooleanConstraintsModel", "isVariable", "(I)Z"⟩, 21), (⟨"BooleanConstraintsModel", "solutions", "()I"⟩, 21), (⟨"BooleanConstraintsModel", "solves", "(II)Z"⟩, 21), (⟨"BooleanConstraintsModel", "isSatisfied", "(II)Z"⟩, 21), (⟨"BooleanConstraintsModel", "doesImply", "(IIII)Z"⟩, 21), (⟨"BooleanConstraintsModel", "isIdle", "(I)Z"⟩, 21)]
theorem lw_r3 : ∀ q ∈ lw_privs_3, lw_okq q := List.forall_mem_cons.mpr ⟨lw_p32, List.forall_mem_cons.mpr ⟨lw_p33, List.forall_mem_cons.mpr ⟨lw_p34, List.forall_mem_cons.mpr ⟨lw_p35, List.forall_mem_cons.mpr ⟨lw_p36, List.forall_mem_cons.mpr ⟨lw_p37, List.forall_mem_cons.mpr ⟨lw_p38, List.forall_mem_cons.mpr ⟨lw_p39, List.forall_mem_cons.mpr ⟨lw_p40, List.forall_mem_cons.mpr ⟨lw_p41, List.forall_mem_cons.mpr ⟨lw_p42, List.forall_mem_cons.mpr ⟨lw_p43, List.forall_mem_cons.mpr ⟨lw_p44, List.forall_mem_cons.mpr ⟨lw_p45, List.forall_mem_cons.mpr ⟨lw_p46, List.forall_mem_cons.mpr ⟨lw_p47, fun _ h => absurd h List.not_mem_nil⟩⟩⟩⟩⟩⟩⟩⟩⟩⟩⟩⟩⟩⟩⟩⟩
theorem lw_p48 : lw_okq (⟨"BooleanConstraintsModel", "reads", "()I"⟩, 21) := ⟨⟨by decide +kernel, by decide +kernel⟩, List.mem_of_getElem? (i := 861) (by decide +kernel), List.mem_of_getElem? (i := 1211) (by decide +kernel), List.mem_of_getElem? (i := 1212) (by decide +kernel)⟩
theorem lw_p49 : lw_okq (⟨"BooleanConstraintsModel", "puts", "(C)V"⟩, 21) := ⟨⟨by decide +kernel, by decide +kernel⟩, List.mem_of_getElem? (i := 861) (by decide +kernel), List.mem_of_getElem? (i := 1223) (by decide +kernel), List.mem_of_getElem? (i := 1224) (by decide +kernel)⟩
theorem lw_p50 : lw_okq (⟨"BooleanConstraintsModel", "passState", "(Z)I"⟩, 21) := ⟨⟨by decide +kernel, by decide +kernel⟩, List.mem_of_getElem? (i := 861) (by decide +kernel), List.mem_of_getElem? (i := 1250) (by decide +kernel), List.mem_of_getElem? (i := 1251) (by decide +kernel)⟩
theorem lw_p51 : lw_okq (⟨"BooleanConstraintsModel", "passes", "(I)I"⟩, 21) := ⟨⟨by decide +kernel, by decide +kernel⟩, List.mem_of_getElem? (i := 861) (by decide +kernel), List.mem_of_getElem? (i := 1254) (by decide +kernel), List.mem_of_getElem? (i := 1255) (by decide +kernel)⟩
theorem lw_p52 : lw_okq (⟨"BooleanConstraintsModel", "passAll", "([I)V"⟩, 21) := ⟨⟨by decide +kernel, by decide +kernel⟩, List.mem_of_getElem? (i := 861) (by decide +kernel), List.mem_of_getElem? (i := 1258) (by decide +kernel), List.mem_of_getElem? (i := 1259) (by decide +kernel)⟩
def lw_privs_4 : List (MethodName × Nat) := [(⟨"BooleanConstraintsModel", "reads", "()I"⟩, 21), (⟨"BooleanConstraintsModel", "puts", "(C)V"⟩, 21), (⟨"BooleanConstraintsModel", "passState", "(Z)I"⟩, 21), (⟨"BooleanConstraintsModel", "passes", "(I)I"⟩, 21), (⟨"BooleanConstraintsModel", "passAll", "([I)V"⟩, 21)]
theorem lw_r4 : ∀ q ∈ lw_privs_4, lw_okq q := List.forall_mem_cons.mpr ⟨lw_p48, List.forall_mem_cons.mpr ⟨lw_p49, List.forall_mem_cons.mpr ⟨lw_p50, List.forall_mem_cons.mpr ⟨lw_p51, List.forall_mem_cons.mpr ⟨lw_p52, fun _ h => absurd h List.not_mem_nil⟩⟩⟩⟩⟩
def lw_privs : List (MethodName × Nat) := lw_privs_1 ++ (lw_privs_2 ++ (lw_privs_3 ++ (lw_privs_4)))
def lw_tbl : List Cond := k2_sels lw_privs ++ tables_1
theorem lw_privs_ok : ∀ q ∈ lw_privs, lw_okq q := by
  show ∀ q ∈ lw_privs_1 ++ (lw_privs_2 ++ (lw_privs_3 ++ (lw_privs_4))), lw_okq q
  exact List.forall_mem_append.mpr ⟨lw_r1, List.forall_mem_append.mpr ⟨lw_r2, List.forall_mem_append.mpr ⟨lw_r3, lw_r4⟩⟩⟩
def RX0 : String := "BooleanConstraints$Instance"
def TX0 : u_T := fun k => match k with
  | 0 => ("BooleanConstraints$Instance", "relationCount", "I", false)
  | 1 => ("BooleanConstraints$Instance", "arities", "[I", true)
  | 2 => ("BooleanConstraints$Instance", "tuples", "[I", true)
  | 3 => ("BooleanConstraints$Instance", "variableCount", "I", false)
  | 4 => ("BooleanConstraints$Instance", "constraintCount", "I", false)
  | 5 => ("BooleanConstraints$Instance", "constraintRelations", "[I", true)
  | _ => ("BooleanConstraints$Instance", "constraintVariables", "[I", true)
def tyX0 : Nat → FieldType := fun k => match k with
  | 0 => .int
  | 1 => .array .int
  | 2 => .array .int
  | 3 => .int
  | 4 => .int
  | 5 => .array .int
  | _ => .array .int
abbrev wsX00 : List Cond := u_ws RX0 TX0 7
theorem nmX0 : ∀ a, a < 7 → ∀ b, b < 7 → a ≠ b → (TX0 a).2.1 ≠ (TX0 b).2.1 := by decide +kernel
theorem tyX0_ok : ∀ k, k < 7 → parseFieldDescriptor (TX0 k).2.2.1 = some (tyX0 k) := by decide +kernel
abbrev cX0_init : ByteArray := prog_2_method_1_code
def yX0_init : MethodName := ⟨RX0, "<init>", "()V"⟩
abbrev cX0_copyFrom : ByteArray := prog_2_method_2_code
def yX0_copyFrom : MethodName := ⟨RX0, "copyFrom", "(LBooleanConstraints$Instance;)V"⟩
abbrev cX0_greatestAssignment : ByteArray := prog_2_method_3_code
def yX0_greatestAssignment : MethodName := ⟨RX0, "greatestAssignment", "()I"⟩
abbrev cX0_wordCount : ByteArray := prog_2_method_4_code
def yX0_wordCount : MethodName := ⟨RX0, "wordCount", "()I"⟩
abbrev cX0_assignmentsOfAWord : ByteArray := prog_2_method_5_code
def yX0_assignmentsOfAWord : MethodName := ⟨RX0, "assignmentsOfAWord", "()J"⟩
abbrev cX0_variableAt : ByteArray := prog_2_method_6_code
def yX0_variableAt : MethodName := ⟨RX0, "variableAt", "(II)I"⟩
abbrev cX0_assignmentsWithOne : ByteArray := prog_2_method_7_code
def yX0_assignmentsWithOne : MethodName := ⟨RX0, "assignmentsWithOne", "(II)J"⟩
abbrev cX0_assignmentsWith : ByteArray := prog_2_method_8_code
def yX0_assignmentsWith : MethodName := ⟨RX0, "assignmentsWith", "(III)J"⟩
abbrev cX0_assignmentsInto : ByteArray := prog_2_method_9_code
def yX0_assignmentsInto : MethodName := ⟨RX0, "assignmentsInto", "(IIII)J"⟩
abbrev cX0_satisfying : ByteArray := prog_2_method_10_code
def yX0_satisfying : MethodName := ⟨RX0, "satisfying", "(II)J"⟩
abbrev cX0_solutionsIn : ByteArray := prog_2_method_11_code
def yX0_solutionsIn : MethodName := ⟨RX0, "solutionsIn", "(II)J"⟩
abbrev cX0_countSolutions : ByteArray := prog_2_method_12_code
def yX0_countSolutions : MethodName := ⟨RX0, "countSolutions", "()I"⟩
abbrev cX0_findSolution : ByteArray := prog_2_method_13_code
def yX0_findSolution : MethodName := ⟨RX0, "findSolution", "(I)I"⟩
abbrev cX0_placeOfBit : ByteArray := prog_2_method_14_code
def yX0_placeOfBit : MethodName := ⟨RX0, "placeOfBit", "(JI)I"⟩
abbrev cX0_variablesThatTake : ByteArray := prog_2_method_15_code
def yX0_variablesThatTake : MethodName := ⟨RX0, "variablesThatTake", "(I)I"⟩
abbrev cX0_hasSolutionWith : ByteArray := prog_2_method_16_code
def yX0_hasSolutionWith : MethodName := ⟨RX0, "hasSolutionWith", "(IIII)Z"⟩
abbrev cX0_tuplesOfSolutions : ByteArray := prog_2_method_17_code
def yX0_tuplesOfSolutions : MethodName := ⟨RX0, "tuplesOfSolutions", "(II)I"⟩
abbrev cX0_isSatisfied : ByteArray := prog_2_method_18_code
def yX0_isSatisfied : MethodName := ⟨RX0, "isSatisfied", "(II)Z"⟩
abbrev cX0_isSpare : ByteArray := prog_2_method_19_code
def yX0_isSpare : MethodName := ⟨RX0, "isSpare", "(II)Z"⟩
abbrev cX0_removeConstraints : ByteArray := prog_2_method_20_code
def yX0_removeConstraints : MethodName := ⟨RX0, "removeConstraints", "(I)V"⟩
def RX1 : String := "BooleanConstraints"
def TX1 : u_T := fun k => match k with
  | 0 => ("BooleanConstraints", "current", "LBooleanConstraints$Instance;", true)
  | 1 => ("BooleanConstraints", "saved", "LBooleanConstraints$Instance;", true)
  | 2 => ("BooleanConstraints", "hasSnapshot", "Z", false)
  | 3 => ("BooleanConstraints", "input", "[C", true)
  | 4 => ("BooleanConstraints", "inputLength", "I", false)
  | 5 => ("BooleanConstraints", "lastErrorPosition", "I", false)
  | 6 => ("BooleanConstraints", "output", "[C", true)
  | 7 => ("BooleanConstraints", "outputLength", "I", false)
  | 8 => ("BooleanConstraints", "flagLengths", "[I", true)
  | _ => ("BooleanConstraints", "flagBits", "[I", true)
def tyX1 : Nat → FieldType := fun k => match k with
  | 0 => .object "BooleanConstraints$Instance"
  | 1 => .object "BooleanConstraints$Instance"
  | 2 => .boolean
  | 3 => .array .char
  | 4 => .int
  | 5 => .int
  | 6 => .array .char
  | 7 => .int
  | 8 => .array .int
  | _ => .array .int
abbrev wsX10 : List Cond := u_ws RX1 TX1 10
theorem nmX1 : ∀ a, a < 10 → ∀ b, b < 10 → a ≠ b → (TX1 a).2.1 ≠ (TX1 b).2.1 := by decide +kernel
theorem tyX1_ok : ∀ k, k < 10 → parseFieldDescriptor (TX1 k).2.2.1 = some (tyX1 k) := by decide +kernel
abbrev cX1_init : ByteArray := prog_1_method_1_code
def yX1_init : MethodName := ⟨RX1, "<init>", "()V"⟩
abbrev cX1_addRelation : ByteArray := prog_1_method_2_code
def yX1_addRelation : MethodName := ⟨RX1, "addRelation", "(I)I"⟩
abbrev cX1_addClause : ByteArray := prog_1_method_3_code
def yX1_addClause : MethodName := ⟨RX1, "addClause", "(II)I"⟩
abbrev cX1_addParity : ByteArray := prog_1_method_4_code
def yX1_addParity : MethodName := ⟨RX1, "addParity", "(II)I"⟩
abbrev cX1_addTuple : ByteArray := prog_1_method_5_code
def yX1_addTuple : MethodName := ⟨RX1, "addTuple", "(II)Z"⟩
abbrev cX1_removeTuple : ByteArray := prog_1_method_6_code
def yX1_removeTuple : MethodName := ⟨RX1, "removeTuple", "(II)Z"⟩
abbrev cX1_contains : ByteArray := prog_1_method_7_code
def yX1_contains : MethodName := ⟨RX1, "contains", "(II)Z"⟩
abbrev cX1_tupleCount : ByteArray := prog_1_method_8_code
def yX1_tupleCount : MethodName := ⟨RX1, "tupleCount", "(I)I"⟩
abbrev cX1_arity : ByteArray := prog_1_method_9_code
def yX1_arity : MethodName := ⟨RX1, "arity", "(I)I"⟩
abbrev cX1_relationCount : ByteArray := prog_1_method_10_code
def yX1_relationCount : MethodName := ⟨RX1, "relationCount", "()I"⟩
abbrev cX1_areEqual : ByteArray := prog_1_method_11_code
def yX1_areEqual : MethodName := ⟨RX1, "areEqual", "(II)Z"⟩
abbrev cX1_clear : ByteArray := prog_1_method_12_code
def yX1_clear : MethodName := ⟨RX1, "clear", "()I"⟩
abbrev cX1_addComplement : ByteArray := prog_1_method_13_code
def yX1_addComplement : MethodName := ⟨RX1, "addComplement", "(I)I"⟩
abbrev cX1_addIntersection : ByteArray := prog_1_method_14_code
def yX1_addIntersection : MethodName := ⟨RX1, "addIntersection", "(II)I"⟩
abbrev cX1_addProjection : ByteArray := prog_1_method_15_code
def yX1_addProjection : MethodName := ⟨RX1, "addProjection", "(II)I"⟩
abbrev cX1_addExchanged : ByteArray := prog_1_method_16_code
def yX1_addExchanged : MethodName := ⟨RX1, "addExchanged", "(III)I"⟩
abbrev cX1_apply : ByteArray := prog_1_method_17_code
def yX1_apply : MethodName := ⟨RX1, "apply", "(IIIII)I"⟩
abbrev cX1_preserves : ByteArray := prog_1_method_18_code
def yX1_preserves : MethodName := ⟨RX1, "preserves", "(III)Z"⟩
abbrev cX1_isPolymorphism : ByteArray := prog_1_method_19_code
def yX1_isPolymorphism : MethodName := ⟨RX1, "isPolymorphism", "(II)Z"⟩
abbrev cX1_polymorphismCount : ByteArray := prog_1_method_20_code
def yX1_polymorphismCount : MethodName := ⟨RX1, "polymorphismCount", "(I)I"⟩
abbrev cX1_polymorphism : ByteArray := prog_1_method_21_code
def yX1_polymorphism : MethodName := ⟨RX1, "polymorphism", "(II)I"⟩
abbrev cX1_isIdempotent : ByteArray := prog_1_method_22_code
def yX1_isIdempotent : MethodName := ⟨RX1, "isIdempotent", "(II)Z"⟩
abbrev cX1_isMonotone : ByteArray := prog_1_method_23_code
def yX1_isMonotone : MethodName := ⟨RX1, "isMonotone", "(II)Z"⟩
abbrev cX1_projectedArgument : ByteArray := prog_1_method_24_code
def yX1_projectedArgument : MethodName := ⟨RX1, "projectedArgument", "(II)I"⟩
abbrev cX1_close : ByteArray := prog_1_method_25_code
def yX1_close : MethodName := ⟨RX1, "close", "(III)I"⟩
abbrev cX1_dual : ByteArray := prog_1_method_26_code
def yX1_dual : MethodName := ⟨RX1, "dual", "(II)I"⟩
abbrev cX1_dependsOn : ByteArray := prog_1_method_27_code
def yX1_dependsOn : MethodName := ⟨RX1, "dependsOn", "(III)Z"⟩
abbrev cX1_compose : ByteArray := prog_1_method_28_code
def yX1_compose : MethodName := ⟨RX1, "compose", "(III)I"⟩
abbrev cX1_relationHasKind : ByteArray := prog_1_method_29_code
def yX1_relationHasKind : MethodName := ⟨RX1, "relationHasKind", "(II)Z"⟩
abbrev cX1_hasKind : ByteArray := prog_1_method_30_code
def yX1_hasKind : MethodName := ⟨RX1, "hasKind", "(I)Z"⟩
abbrev cX1_lowestKind : ByteArray := prog_1_method_31_code
def yX1_lowestKind : MethodName := ⟨RX1, "lowestKind", "()I"⟩
abbrev cX1_setVariables : ByteArray := prog_1_method_32_code
def yX1_setVariables : MethodName := ⟨RX1, "setVariables", "(I)I"⟩
abbrev cX1_addConstraint : ByteArray := prog_1_method_33_code
def yX1_addConstraint : MethodName := ⟨RX1, "addConstraint", "(IIIII)I"⟩
abbrev cX1_removeLastConstraint : ByteArray := prog_1_method_34_code
def yX1_removeLastConstraint : MethodName := ⟨RX1, "removeLastConstraint", "()I"⟩
abbrev cX1_solutionCount : ByteArray := prog_1_method_35_code
def yX1_solutionCount : MethodName := ⟨RX1, "solutionCount", "()I"⟩
abbrev cX1_solution : ByteArray := prog_1_method_36_code
def yX1_solution : MethodName := ⟨RX1, "solution", "(I)I"⟩
abbrev cX1_isForced : ByteArray := prog_1_method_37_code
def yX1_isForced : MethodName := ⟨RX1, "isForced", "(II)Z"⟩
abbrev cX1_leastSolution : ByteArray := prog_1_method_38_code
def yX1_leastSolution : MethodName := ⟨RX1, "leastSolution", "()I"⟩
abbrev cX1_greatestSolution : ByteArray := prog_1_method_39_code
def yX1_greatestSolution : MethodName := ⟨RX1, "greatestSolution", "()I"⟩
abbrev cX1_implies : ByteArray := prog_1_method_40_code
def yX1_implies : MethodName := ⟨RX1, "implies", "(IIII)Z"⟩
abbrev cX1_dimension : ByteArray := prog_1_method_41_code
def yX1_dimension : MethodName := ⟨RX1, "dimension", "()I"⟩
abbrev cX1_define : ByteArray := prog_1_method_42_code
def yX1_define : MethodName := ⟨RX1, "define", "(IIIII)I"⟩
abbrev cX1_firstViolated : ByteArray := prog_1_method_43_code
def yX1_firstViolated : MethodName := ⟨RX1, "firstViolated", "(I)I"⟩
abbrev cX1_isRedundant : ByteArray := prog_1_method_44_code
def yX1_isRedundant : MethodName := ⟨RX1, "isRedundant", "(I)Z"⟩
abbrev cX1_removeRedundant : ByteArray := prog_1_method_45_code
def yX1_removeRedundant : MethodName := ⟨RX1, "removeRedundant", "()I"⟩
abbrev cX1_append : ByteArray := prog_1_method_46_code
def yX1_append : MethodName := ⟨RX1, "append", "(C)I"⟩
abbrev cX1_parse : ByteArray := prog_1_method_47_code
def yX1_parse : MethodName := ⟨RX1, "parse", "()I"⟩
abbrev cX1_errorPosition : ByteArray := prog_1_method_48_code
def yX1_errorPosition : MethodName := ⟨RX1, "errorPosition", "()I"⟩
abbrev cX1_write : ByteArray := prog_1_method_49_code
def yX1_write : MethodName := ⟨RX1, "write", "(I)I"⟩
abbrev cX1_outputAt : ByteArray := prog_1_method_50_code
def yX1_outputAt : MethodName := ⟨RX1, "outputAt", "(I)C"⟩
abbrev cX1_storeFlags : ByteArray := prog_1_method_51_code
def yX1_storeFlags : MethodName := ⟨RX1, "storeFlags", "(III)I"⟩
abbrev cX1_setFlag : ByteArray := prog_1_method_52_code
def yX1_setFlag : MethodName := ⟨RX1, "setFlag", "(IIZ)Z"⟩
abbrev cX1_takeFlags : ByteArray := prog_1_method_53_code
def yX1_takeFlags : MethodName := ⟨RX1, "takeFlags", "(II)I"⟩
abbrev cX1_saveSnapshot : ByteArray := prog_1_method_54_code
def yX1_saveSnapshot : MethodName := ⟨RX1, "saveSnapshot", "()I"⟩
abbrev cX1_restoreSnapshot : ByteArray := prog_1_method_55_code
def yX1_restoreSnapshot : MethodName := ⟨RX1, "restoreSnapshot", "()I"⟩
abbrev cX1_requireRelationArity : ByteArray := prog_1_method_56_code
def yX1_requireRelationArity : MethodName := ⟨RX1, "requireRelationArity", "(I)V"⟩
abbrev cX1_requireOperationArity : ByteArray := prog_1_method_57_code
def yX1_requireOperationArity : MethodName := ⟨RX1, "requireOperationArity", "(I)V"⟩
abbrev cX1_requireOperation : ByteArray := prog_1_method_58_code
def yX1_requireOperation : MethodName := ⟨RX1, "requireOperation", "(II)V"⟩
abbrev cX1_requireBit : ByteArray := prog_1_method_59_code
def yX1_requireBit : MethodName := ⟨RX1, "requireBit", "(I)V"⟩
abbrev cX1_requireKind : ByteArray := prog_1_method_60_code
def yX1_requireKind : MethodName := ⟨RX1, "requireKind", "(I)V"⟩
abbrev cX1_requireSlot : ByteArray := prog_1_method_61_code
def yX1_requireSlot : MethodName := ⟨RX1, "requireSlot", "(I)V"⟩
abbrev cX1_requireFlags : ByteArray := prog_1_method_62_code
def yX1_requireFlags : MethodName := ⟨RX1, "requireFlags", "(I)V"⟩
abbrev cX1_requireRelation : ByteArray := prog_1_method_63_code
def yX1_requireRelation : MethodName := ⟨RX1, "requireRelation", "(I)V"⟩
abbrev cX1_requireTuple : ByteArray := prog_1_method_64_code
def yX1_requireTuple : MethodName := ⟨RX1, "requireTuple", "(II)V"⟩
abbrev cX1_requirePosition : ByteArray := prog_1_method_65_code
def yX1_requirePosition : MethodName := ⟨RX1, "requirePosition", "(II)V"⟩
abbrev cX1_requireRoomForRelation : ByteArray := prog_1_method_66_code
def yX1_requireRoomForRelation : MethodName := ⟨RX1, "requireRoomForRelation", "()V"⟩
abbrev cX1_requireVariable : ByteArray := prog_1_method_67_code
def yX1_requireVariable : MethodName := ⟨RX1, "requireVariable", "(I)V"⟩
abbrev cX1_requireVariables : ByteArray := prog_1_method_68_code
def yX1_requireVariables : MethodName := ⟨RX1, "requireVariables", "(IIIII)V"⟩
abbrev cX1_requireKindOfLanguage : ByteArray := prog_1_method_69_code
def yX1_requireKindOfLanguage : MethodName := ⟨RX1, "requireKindOfLanguage", "(I)V"⟩
abbrev cX1_requireSolutions : ByteArray := prog_1_method_70_code
def yX1_requireSolutions : MethodName := ⟨RX1, "requireSolutions", "()V"⟩
abbrev cX1_addNew : ByteArray := prog_1_method_71_code
def yX1_addNew : MethodName := ⟨RX1, "addNew", "(II)I"⟩
abbrev cX1_has : ByteArray := prog_1_method_72_code
def yX1_has : MethodName := ⟨RX1, "has", "(II)Z"⟩
abbrev cX1_greatestTuple : ByteArray := prog_1_method_73_code
def yX1_greatestTuple : MethodName := ⟨RX1, "greatestTuple", "(I)I"⟩
abbrev cX1_allTuples : ByteArray := prog_1_method_74_code
def yX1_allTuples : MethodName := ⟨RX1, "allTuples", "(I)I"⟩
abbrev cX1_tuplesWithSum : ByteArray := prog_1_method_75_code
def yX1_tuplesWithSum : MethodName := ⟨RX1, "tuplesWithSum", "(II)I"⟩
abbrev cX1_tuplesWithoutPosition : ByteArray := prog_1_method_76_code
def yX1_tuplesWithoutPosition : MethodName := ⟨RX1, "tuplesWithoutPosition", "(II)I"⟩
abbrev cX1_tuplesWithExchange : ByteArray := prog_1_method_77_code
def yX1_tuplesWithExchange : MethodName := ⟨RX1, "tuplesWithExchange", "(III)I"⟩
abbrev cX1_valueFor : ByteArray := prog_1_method_78_code
def yX1_valueFor : MethodName := ⟨RX1, "valueFor", "(III)I"⟩
abbrev cX1_argumentCode : ByteArray := prog_1_method_79_code
def yX1_argumentCode : MethodName := ⟨RX1, "argumentCode", "(II)I"⟩
abbrev cX1_valuesAtZero : ByteArray := prog_1_method_80_code
def yX1_valuesAtZero : MethodName := ⟨RX1, "valuesAtZero", "(III)I"⟩
abbrev cX1_valuesAtOne : ByteArray := prog_1_method_81_code
def yX1_valuesAtOne : MethodName := ⟨RX1, "valuesAtOne", "(III)I"⟩
abbrev cX1_appliedToTwo : ByteArray := prog_1_method_82_code
def yX1_appliedToTwo : MethodName := ⟨RX1, "appliedToTwo", "(III)I"⟩
abbrev cX1_escapingTuples : ByteArray := prog_1_method_83_code
def yX1_escapingTuples : MethodName := ⟨RX1, "escapingTuples", "(IIII)I"⟩
abbrev cX1_tuplesChosenBy : ByteArray := prog_1_method_84_code
def yX1_tuplesChosenBy : MethodName := ⟨RX1, "tuplesChosenBy", "(IIII)I"⟩
abbrev cX1_isPreserved : ByteArray := prog_1_method_85_code
def yX1_isPreserved : MethodName := ⟨RX1, "isPreserved", "(III)Z"⟩
abbrev cX1_areAllPreserved : ByteArray := prog_1_method_86_code
def yX1_areAllPreserved : MethodName := ⟨RX1, "areAllPreserved", "(II)Z"⟩
abbrev cX1_isOfKind : ByteArray := prog_1_method_87_code
def yX1_isOfKind : MethodName := ⟨RX1, "isOfKind", "(I)Z"⟩
abbrev cX1_packedVariables : ByteArray := prog_1_method_88_code
def yX1_packedVariables : MethodName := ⟨RX1, "packedVariables", "(IIIII)I"⟩
abbrev cX1_wrongPosition : ByteArray := prog_1_method_89_code
def yX1_wrongPosition : MethodName := ⟨RX1, "wrongPosition", "(I)I"⟩
abbrev cX1_isWholeTuple : ByteArray := prog_1_method_90_code
def yX1_isWholeTuple : MethodName := ⟨RX1, "isWholeTuple", "(II)Z"⟩
abbrev cX1_isDigit : ByteArray := prog_1_method_91_code
def yX1_isDigit : MethodName := ⟨RX1, "isDigit", "(C)Z"⟩
abbrev cX1_firstTupleLength : ByteArray := prog_1_method_92_code
def yX1_firstTupleLength : MethodName := ⟨RX1, "firstTupleLength", "(I)I"⟩
abbrev cX1_readTuples : ByteArray := prog_1_method_93_code
def yX1_readTuples : MethodName := ⟨RX1, "readTuples", "(II)I"⟩
abbrev cX1_writeTuple : ByteArray := prog_1_method_94_code
def yX1_writeTuple : MethodName := ⟨RX1, "writeTuple", "(II)V"⟩
abbrev cX1_writeCharacter : ByteArray := prog_1_method_95_code
def yX1_writeCharacter : MethodName := ⟨RX1, "writeCharacter", "(C)V"⟩
def RX2 : String := "BooleanConstraintsModel"
def TX2 : u_T := fun k => match k with
  | 0 => ("BooleanConstraintsModel", "thrown", "I", false)
  | 1 => ("BooleanConstraintsModel", "arity", "[I", true)
  | 2 => ("BooleanConstraintsModel", "tuples", "[I", true)
  | 3 => ("BooleanConstraintsModel", "relations", "I", false)
  | 4 => ("BooleanConstraintsModel", "relationOf", "[I", true)
  | 5 => ("BooleanConstraintsModel", "variableOf", "[I", true)
  | 6 => ("BooleanConstraintsModel", "variables", "I", false)
  | 7 => ("BooleanConstraintsModel", "constraints", "I", false)
  | 8 => ("BooleanConstraintsModel", "input", "[C", true)
  | 9 => ("BooleanConstraintsModel", "output", "[C", true)
  | 10 => ("BooleanConstraintsModel", "inputLength", "I", false)
  | 11 => ("BooleanConstraintsModel", "outputLength", "I", false)
  | 12 => ("BooleanConstraintsModel", "errorAt", "I", false)
  | 13 => ("BooleanConstraintsModel", "readArity", "I", false)
  | 14 => ("BooleanConstraintsModel", "readTuples", "I", false)
  | 15 => ("BooleanConstraintsModel", "flags", "[Z", true)
  | 16 => ("BooleanConstraintsModel", "flagCount", "[I", true)
  | 17 => ("BooleanConstraintsModel", "saved", "[I", true)
  | 18 => ("BooleanConstraintsModel", "cursor", "I", false)
  | 19 => ("BooleanConstraintsModel", "hasSnapshot", "Z", false)
  | _ => ("BooleanConstraintsModel", "isSaving", "Z", false)
def tyX2 : Nat → FieldType := fun k => match k with
  | 0 => .int
  | 1 => .array .int
  | 2 => .array .int
  | 3 => .int
  | 4 => .array .int
  | 5 => .array .int
  | 6 => .int
  | 7 => .int
  | 8 => .array .char
  | 9 => .array .char
  | 10 => .int
  | 11 => .int
  | 12 => .int
  | 13 => .int
  | 14 => .int
  | 15 => .array .boolean
  | 16 => .array .int
  | 17 => .array .int
  | 18 => .int
  | 19 => .boolean
  | _ => .boolean
abbrev wsX20 : List Cond := u_ws RX2 TX2 21
theorem nmX2 : ∀ a, a < 21 → ∀ b, b < 21 → a ≠ b → (TX2 a).2.1 ≠ (TX2 b).2.1 := by decide +kernel
theorem tyX2_ok : ∀ k, k < 21 → parseFieldDescriptor (TX2 k).2.2.1 = some (tyX2 k) := by decide +kernel
abbrev cX2_init : ByteArray := prog_4_method_1_code
def yX2_init : MethodName := ⟨RX2, "<init>", "()V"⟩
abbrev cX2_thrown : ByteArray := prog_4_method_2_code
def yX2_thrown : MethodName := ⟨RX2, "thrown", "()I"⟩
abbrev cX2_fails : ByteArray := prog_4_method_3_code
def yX2_fails : MethodName := ⟨RX2, "fails", "(I)I"⟩
abbrev cX2_refuses : ByteArray := prog_4_method_4_code
def yX2_refuses : MethodName := ⟨RX2, "refuses", "(I)Z"⟩
abbrev cX2_isBetween : ByteArray := prog_4_method_5_code
def yX2_isBetween : MethodName := ⟨RX2, "isBetween", "(III)Z"⟩
abbrev cX2_isBit : ByteArray := prog_4_method_6_code
def yX2_isBit : MethodName := ⟨RX2, "isBit", "(I)Z"⟩
abbrev cX2_bits : ByteArray := prog_4_method_7_code
def yX2_bits : MethodName := ⟨RX2, "bits", "(I)I"⟩
abbrev cX2_isRelation : ByteArray := prog_4_method_8_code
def yX2_isRelation : MethodName := ⟨RX2, "isRelation", "(I)Z"⟩
abbrev cX2_allOf : ByteArray := prog_4_method_9_code
def yX2_allOf : MethodName := ⟨RX2, "allOf", "(I)I"⟩
abbrev cX2_isTuple : ByteArray := prog_4_method_10_code
def yX2_isTuple : MethodName := ⟨RX2, "isTuple", "(II)Z"⟩
abbrev cX2_adds : ByteArray := prog_4_method_11_code
def yX2_adds : MethodName := ⟨RX2, "adds", "(II)I"⟩
abbrev cX2_addRelation : ByteArray := prog_4_method_12_code
def yX2_addRelation : MethodName := ⟨RX2, "addRelation", "(I)I"⟩
abbrev cX2_addClause : ByteArray := prog_4_method_13_code
def yX2_addClause : MethodName := ⟨RX2, "addClause", "(II)I"⟩
abbrev cX2_addParity : ByteArray := prog_4_method_14_code
def yX2_addParity : MethodName := ⟨RX2, "addParity", "(II)I"⟩
abbrev cX2_noTuple : ByteArray := prog_4_method_15_code
def yX2_noTuple : MethodName := ⟨RX2, "noTuple", "(II)I"⟩
abbrev cX2_addTuple : ByteArray := prog_4_method_16_code
def yX2_addTuple : MethodName := ⟨RX2, "addTuple", "(II)Z"⟩
abbrev cX2_removeTuple : ByteArray := prog_4_method_17_code
def yX2_removeTuple : MethodName := ⟨RX2, "removeTuple", "(II)Z"⟩
abbrev cX2_contains : ByteArray := prog_4_method_18_code
def yX2_contains : MethodName := ⟨RX2, "contains", "(II)Z"⟩
abbrev cX2_tupleCount : ByteArray := prog_4_method_19_code
def yX2_tupleCount : MethodName := ⟨RX2, "tupleCount", "(I)I"⟩
abbrev cX2_arity : ByteArray := prog_4_method_20_code
def yX2_arity : MethodName := ⟨RX2, "arity", "(I)I"⟩
abbrev cX2_relationCount : ByteArray := prog_4_method_21_code
def yX2_relationCount : MethodName := ⟨RX2, "relationCount", "()I"⟩
abbrev cX2_areEqual : ByteArray := prog_4_method_22_code
def yX2_areEqual : MethodName := ⟨RX2, "areEqual", "(II)Z"⟩
abbrev cX2_clear : ByteArray := prog_4_method_23_code
def yX2_clear : MethodName := ⟨RX2, "clear", "()I"⟩
abbrev cX2_addComplement : ByteArray := prog_4_method_24_code
def yX2_addComplement : MethodName := ⟨RX2, "addComplement", "(I)I"⟩
abbrev cX2_addIntersection : ByteArray := prog_4_method_25_code
def yX2_addIntersection : MethodName := ⟨RX2, "addIntersection", "(II)I"⟩
abbrev cX2_addProjection : ByteArray := prog_4_method_26_code
def yX2_addProjection : MethodName := ⟨RX2, "addProjection", "(II)I"⟩
abbrev cX2_addExchanged : ByteArray := prog_4_method_27_code
def yX2_addExchanged : MethodName := ⟨RX2, "addExchanged", "(III)I"⟩
abbrev cX2_isOperation : ByteArray := prog_4_method_28_code
def yX2_isOperation : MethodName := ⟨RX2, "isOperation", "(II)Z"⟩
abbrev cX2_placeOf : ByteArray := prog_4_method_29_code
def yX2_placeOf : MethodName := ⟨RX2, "placeOf", "(IIII)I"⟩
abbrev cX2_apply : ByteArray := prog_4_method_30_code
def yX2_apply : MethodName := ⟨RX2, "apply", "(IIIII)I"⟩
abbrev cX2_applied : ByteArray := prog_4_method_31_code
def yX2_applied : MethodName := ⟨RX2, "applied", "(IIIII)I"⟩
abbrev cX2_madeOf : ByteArray := prog_4_method_32_code
def yX2_madeOf : MethodName := ⟨RX2, "madeOf", "(IIII)I"⟩
abbrev cX2_doesPreserve : ByteArray := prog_4_method_33_code
def yX2_doesPreserve : MethodName := ⟨RX2, "doesPreserve", "(III)Z"⟩
abbrev cX2_isKept : ByteArray := prog_4_method_34_code
def yX2_isKept : MethodName := ⟨RX2, "isKept", "(II)Z"⟩
abbrev cX2_preserves : ByteArray := prog_4_method_35_code
def yX2_preserves : MethodName := ⟨RX2, "preserves", "(III)Z"⟩
abbrev cX2_isPolymorphism : ByteArray := prog_4_method_36_code
def yX2_isPolymorphism : MethodName := ⟨RX2, "isPolymorphism", "(II)Z"⟩
abbrev cX2_polymorphismCount : ByteArray := prog_4_method_37_code
def yX2_polymorphismCount : MethodName := ⟨RX2, "polymorphismCount", "(I)I"⟩
abbrev cX2_polymorphism : ByteArray := prog_4_method_38_code
def yX2_polymorphism : MethodName := ⟨RX2, "polymorphism", "(II)I"⟩
abbrev cX2_isIdempotent : ByteArray := prog_4_method_39_code
def yX2_isIdempotent : MethodName := ⟨RX2, "isIdempotent", "(II)Z"⟩
abbrev cX2_isMonotone : ByteArray := prog_4_method_40_code
def yX2_isMonotone : MethodName := ⟨RX2, "isMonotone", "(II)Z"⟩
abbrev cX2_projectedArgument : ByteArray := prog_4_method_41_code
def yX2_projectedArgument : MethodName := ⟨RX2, "projectedArgument", "(II)I"⟩
abbrev cX2_close : ByteArray := prog_4_method_42_code
def yX2_close : MethodName := ⟨RX2, "close", "(III)I"⟩
abbrev cX2_dual : ByteArray := prog_4_method_43_code
def yX2_dual : MethodName := ⟨RX2, "dual", "(II)I"⟩
abbrev cX2_dependsOn : ByteArray := prog_4_method_44_code
def yX2_dependsOn : MethodName := ⟨RX2, "dependsOn", "(III)Z"⟩
abbrev cX2_compose : ByteArray := prog_4_method_45_code
def yX2_compose : MethodName := ⟨RX2, "compose", "(III)I"⟩
abbrev cX2_has : ByteArray := prog_4_method_46_code
def yX2_has : MethodName := ⟨RX2, "has", "(I)Z"⟩
abbrev cX2_relationHasKind : ByteArray := prog_4_method_47_code
def yX2_relationHasKind : MethodName := ⟨RX2, "relationHasKind", "(II)Z"⟩
abbrev cX2_hasKind : ByteArray := prog_4_method_48_code
def yX2_hasKind : MethodName := ⟨RX2, "hasKind", "(I)Z"⟩
abbrev cX2_lowestKind : ByteArray := prog_4_method_49_code
def yX2_lowestKind : MethodName := ⟨RX2, "lowestKind", "()I"⟩
abbrev cX2_isVariable : ByteArray := prog_4_method_50_code
def yX2_isVariable : MethodName := ⟨RX2, "isVariable", "(I)Z"⟩
abbrev cX2_setVariables : ByteArray := prog_4_method_51_code
def yX2_setVariables : MethodName := ⟨RX2, "setVariables", "(I)I"⟩
abbrev cX2_areVariables : ByteArray := prog_4_method_52_code
def yX2_areVariables : MethodName := ⟨RX2, "areVariables", "(IIIII)Z"⟩
abbrev cX2_addConstraint : ByteArray := prog_4_method_53_code
def yX2_addConstraint : MethodName := ⟨RX2, "addConstraint", "(IIIII)I"⟩
abbrev cX2_removeLastConstraint : ByteArray := prog_4_method_54_code
def yX2_removeLastConstraint : MethodName := ⟨RX2, "removeLastConstraint", "()I"⟩
abbrev cX2_isSatisfied : ByteArray := prog_4_method_55_code
def yX2_isSatisfied : MethodName := ⟨RX2, "isSatisfied", "(II)Z"⟩
abbrev cX2_solves : ByteArray := prog_4_method_56_code
def yX2_solves : MethodName := ⟨RX2, "solves", "(II)Z"⟩
abbrev cX2_solutions : ByteArray := prog_4_method_57_code
def yX2_solutions : MethodName := ⟨RX2, "solutions", "()I"⟩
abbrev cX2_solutionCount : ByteArray := prog_4_method_58_code
def yX2_solutionCount : MethodName := ⟨RX2, "solutionCount", "()I"⟩
abbrev cX2_solution : ByteArray := prog_4_method_59_code
def yX2_solution : MethodName := ⟨RX2, "solution", "(I)I"⟩
abbrev cX2_doesImply : ByteArray := prog_4_method_60_code
def yX2_doesImply : MethodName := ⟨RX2, "doesImply", "(IIII)Z"⟩
abbrev cX2_isForced : ByteArray := prog_4_method_61_code
def yX2_isForced : MethodName := ⟨RX2, "isForced", "(II)Z"⟩
abbrev cX2_leastSolution : ByteArray := prog_4_method_62_code
def yX2_leastSolution : MethodName := ⟨RX2, "leastSolution", "()I"⟩
abbrev cX2_greatestSolution : ByteArray := prog_4_method_63_code
def yX2_greatestSolution : MethodName := ⟨RX2, "greatestSolution", "()I"⟩
abbrev cX2_implies : ByteArray := prog_4_method_64_code
def yX2_implies : MethodName := ⟨RX2, "implies", "(IIII)Z"⟩
abbrev cX2_dimension : ByteArray := prog_4_method_65_code
def yX2_dimension : MethodName := ⟨RX2, "dimension", "()I"⟩
abbrev cX2_define : ByteArray := prog_4_method_66_code
def yX2_define : MethodName := ⟨RX2, "define", "(IIIII)I"⟩
abbrev cX2_firstViolated : ByteArray := prog_4_method_67_code
def yX2_firstViolated : MethodName := ⟨RX2, "firstViolated", "(I)I"⟩
abbrev cX2_isIdle : ByteArray := prog_4_method_68_code
def yX2_isIdle : MethodName := ⟨RX2, "isIdle", "(I)Z"⟩
abbrev cX2_isRedundant : ByteArray := prog_4_method_69_code
def yX2_isRedundant : MethodName := ⟨RX2, "isRedundant", "(I)Z"⟩
abbrev cX2_removeRedundant : ByteArray := prog_4_method_70_code
def yX2_removeRedundant : MethodName := ⟨RX2, "removeRedundant", "()I"⟩
abbrev cX2_append : ByteArray := prog_4_method_71_code
def yX2_append : MethodName := ⟨RX2, "append", "(C)I"⟩
abbrev cX2_reads : ByteArray := prog_4_method_72_code
def yX2_reads : MethodName := ⟨RX2, "reads", "()I"⟩
abbrev cX2_parse : ByteArray := prog_4_method_73_code
def yX2_parse : MethodName := ⟨RX2, "parse", "()I"⟩
abbrev cX2_errorPosition : ByteArray := prog_4_method_74_code
def yX2_errorPosition : MethodName := ⟨RX2, "errorPosition", "()I"⟩
abbrev cX2_puts : ByteArray := prog_4_method_75_code
def yX2_puts : MethodName := ⟨RX2, "puts", "(C)V"⟩
abbrev cX2_write : ByteArray := prog_4_method_76_code
def yX2_write : MethodName := ⟨RX2, "write", "(I)I"⟩
abbrev cX2_outputAt : ByteArray := prog_4_method_77_code
def yX2_outputAt : MethodName := ⟨RX2, "outputAt", "(I)C"⟩
abbrev cX2_isSlot : ByteArray := prog_4_method_78_code
def yX2_isSlot : MethodName := ⟨RX2, "isSlot", "(I)Z"⟩
abbrev cX2_storeFlags : ByteArray := prog_4_method_79_code
def yX2_storeFlags : MethodName := ⟨RX2, "storeFlags", "(III)I"⟩
abbrev cX2_setFlag : ByteArray := prog_4_method_80_code
def yX2_setFlag : MethodName := ⟨RX2, "setFlag", "(IIZ)Z"⟩
abbrev cX2_takeFlags : ByteArray := prog_4_method_81_code
def yX2_takeFlags : MethodName := ⟨RX2, "takeFlags", "(II)I"⟩
abbrev cX2_passes : ByteArray := prog_4_method_82_code
def yX2_passes : MethodName := ⟨RX2, "passes", "(I)I"⟩
abbrev cX2_passAll : ByteArray := prog_4_method_83_code
def yX2_passAll : MethodName := ⟨RX2, "passAll", "([I)V"⟩
abbrev cX2_passState : ByteArray := prog_4_method_84_code
def yX2_passState : MethodName := ⟨RX2, "passState", "(Z)I"⟩
abbrev cX2_saveSnapshot : ByteArray := prog_4_method_85_code
def yX2_saveSnapshot : MethodName := ⟨RX2, "saveSnapshot", "()I"⟩
abbrev cX2_restoreSnapshot : ByteArray := prog_4_method_86_code
def yX2_restoreSnapshot : MethodName := ⟨RX2, "restoreSnapshot", "()I"⟩
def RJx145de : String := "java/io/Serializable"
def RJ6 : String := "java/lang/Integer"
abbrev cJ6_bitCount_0f7a4 : ByteArray := prog_10_method_49_code
def yJ6_bitCount_0f7a4 : MethodName := ⟨RJ6, "bitCount", "(I)I"⟩
def RJ13 : String := "java/lang/Long"
abbrev cJ13_bitCount_95d88 : ByteArray := prog_11_method_50_code
def yJ13_bitCount_95d88 : MethodName := ⟨RJ13, "bitCount", "(J)I"⟩
def RJ0 : String := "java/lang/String"
def RJ10 : String := "java/lang/System"
def RL : String := "BooleanConstraintsLaw"
abbrev cL_addRelation : ByteArray := method_3_code
def yL_addRelation : MethodName := ⟨RL, "addRelation", "(LBooleanConstraints;I[J)I"⟩
abbrev cL_addClause : ByteArray := method_4_code
def yL_addClause : MethodName := ⟨RL, "addClause", "(LBooleanConstraints;II[J)I"⟩
abbrev cL_addParity : ByteArray := method_5_code
def yL_addParity : MethodName := ⟨RL, "addParity", "(LBooleanConstraints;II[J)I"⟩
abbrev cL_addTuple : ByteArray := method_6_code
def yL_addTuple : MethodName := ⟨RL, "addTuple", "(LBooleanConstraints;II[J)I"⟩
abbrev cL_removeTuple : ByteArray := method_7_code
def yL_removeTuple : MethodName := ⟨RL, "removeTuple", "(LBooleanConstraints;II[J)I"⟩
abbrev cL_contains : ByteArray := method_8_code
def yL_contains : MethodName := ⟨RL, "contains", "(LBooleanConstraints;II[J)I"⟩
abbrev cL_tupleCount : ByteArray := method_9_code
def yL_tupleCount : MethodName := ⟨RL, "tupleCount", "(LBooleanConstraints;I[J)I"⟩
abbrev cL_arity : ByteArray := method_10_code
def yL_arity : MethodName := ⟨RL, "arity", "(LBooleanConstraints;I[J)I"⟩
abbrev cL_areEqual : ByteArray := method_11_code
def yL_areEqual : MethodName := ⟨RL, "areEqual", "(LBooleanConstraints;II[J)I"⟩
abbrev cL_addComplement : ByteArray := method_12_code
def yL_addComplement : MethodName := ⟨RL, "addComplement", "(LBooleanConstraints;I[J)I"⟩
abbrev cL_addIntersection : ByteArray := method_13_code
def yL_addIntersection : MethodName := ⟨RL, "addIntersection", "(LBooleanConstraints;II[J)I"⟩
abbrev cL_addProjection : ByteArray := method_14_code
def yL_addProjection : MethodName := ⟨RL, "addProjection", "(LBooleanConstraints;II[J)I"⟩
abbrev cL_addExchanged : ByteArray := method_15_code
def yL_addExchanged : MethodName := ⟨RL, "addExchanged", "(LBooleanConstraints;III[J)I"⟩
abbrev cL_apply : ByteArray := method_16_code
def yL_apply : MethodName := ⟨RL, "apply", "(LBooleanConstraints;IIIII[J)I"⟩
abbrev cL_preserves : ByteArray := method_17_code
def yL_preserves : MethodName := ⟨RL, "preserves", "(LBooleanConstraints;III[J)I"⟩
abbrev cL_isPolymorphism : ByteArray := method_18_code
def yL_isPolymorphism : MethodName := ⟨RL, "isPolymorphism", "(LBooleanConstraints;II[J)I"⟩
abbrev cL_polymorphismCount : ByteArray := method_19_code
def yL_polymorphismCount : MethodName := ⟨RL, "polymorphismCount", "(LBooleanConstraints;I[J)I"⟩
abbrev cL_polymorphism : ByteArray := method_20_code
def yL_polymorphism : MethodName := ⟨RL, "polymorphism", "(LBooleanConstraints;II[J)I"⟩
abbrev cL_isIdempotent : ByteArray := method_21_code
def yL_isIdempotent : MethodName := ⟨RL, "isIdempotent", "(LBooleanConstraints;II[J)I"⟩
abbrev cL_isMonotone : ByteArray := method_22_code
def yL_isMonotone : MethodName := ⟨RL, "isMonotone", "(LBooleanConstraints;II[J)I"⟩
abbrev cL_projectedArgument : ByteArray := method_23_code
def yL_projectedArgument : MethodName := ⟨RL, "projectedArgument", "(LBooleanConstraints;II[J)I"⟩
abbrev cL_close : ByteArray := method_24_code
def yL_close : MethodName := ⟨RL, "close", "(LBooleanConstraints;III[J)I"⟩
abbrev cL_dual : ByteArray := method_25_code
def yL_dual : MethodName := ⟨RL, "dual", "(LBooleanConstraints;II[J)I"⟩
abbrev cL_dependsOn : ByteArray := method_26_code
def yL_dependsOn : MethodName := ⟨RL, "dependsOn", "(LBooleanConstraints;III[J)I"⟩
abbrev cL_compose : ByteArray := method_27_code
def yL_compose : MethodName := ⟨RL, "compose", "(LBooleanConstraints;III[J)I"⟩
abbrev cL_relationHasKind : ByteArray := method_28_code
def yL_relationHasKind : MethodName := ⟨RL, "relationHasKind", "(LBooleanConstraints;II[J)I"⟩
abbrev cL_hasKind : ByteArray := method_29_code
def yL_hasKind : MethodName := ⟨RL, "hasKind", "(LBooleanConstraints;I[J)I"⟩
abbrev cL_lowestKind : ByteArray := method_30_code
def yL_lowestKind : MethodName := ⟨RL, "lowestKind", "(LBooleanConstraints;[J)I"⟩
abbrev cL_setVariables : ByteArray := method_31_code
def yL_setVariables : MethodName := ⟨RL, "setVariables", "(LBooleanConstraints;I[J)I"⟩
abbrev cL_addConstraint : ByteArray := method_32_code
def yL_addConstraint : MethodName := ⟨RL, "addConstraint", "(LBooleanConstraints;IIIII[J)I"⟩
abbrev cL_removeLastConstraint : ByteArray := method_33_code
def yL_removeLastConstraint : MethodName := ⟨RL, "removeLastConstraint", "(LBooleanConstraints;[J)I"⟩
abbrev cL_solution : ByteArray := method_34_code
def yL_solution : MethodName := ⟨RL, "solution", "(LBooleanConstraints;I[J)I"⟩
abbrev cL_isForced : ByteArray := method_35_code
def yL_isForced : MethodName := ⟨RL, "isForced", "(LBooleanConstraints;II[J)I"⟩
abbrev cL_leastSolution : ByteArray := method_36_code
def yL_leastSolution : MethodName := ⟨RL, "leastSolution", "(LBooleanConstraints;[J)I"⟩
abbrev cL_greatestSolution : ByteArray := method_37_code
def yL_greatestSolution : MethodName := ⟨RL, "greatestSolution", "(LBooleanConstraints;[J)I"⟩
abbrev cL_implies : ByteArray := method_38_code
def yL_implies : MethodName := ⟨RL, "implies", "(LBooleanConstraints;IIII[J)I"⟩
abbrev cL_dimension : ByteArray := method_39_code
def yL_dimension : MethodName := ⟨RL, "dimension", "(LBooleanConstraints;[J)I"⟩
abbrev cL_define : ByteArray := method_40_code
def yL_define : MethodName := ⟨RL, "define", "(LBooleanConstraints;IIIII[J)I"⟩
abbrev cL_firstViolated : ByteArray := method_41_code
def yL_firstViolated : MethodName := ⟨RL, "firstViolated", "(LBooleanConstraints;I[J)I"⟩
abbrev cL_isRedundant : ByteArray := method_42_code
def yL_isRedundant : MethodName := ⟨RL, "isRedundant", "(LBooleanConstraints;I[J)I"⟩
abbrev cL_append : ByteArray := method_43_code
def yL_append : MethodName := ⟨RL, "append", "(LBooleanConstraints;C[J)I"⟩
abbrev cL_parse : ByteArray := method_44_code
def yL_parse : MethodName := ⟨RL, "parse", "(LBooleanConstraints;[J)I"⟩
abbrev cL_errorPosition : ByteArray := method_45_code
def yL_errorPosition : MethodName := ⟨RL, "errorPosition", "(LBooleanConstraints;[J)I"⟩
abbrev cL_write : ByteArray := method_46_code
def yL_write : MethodName := ⟨RL, "write", "(LBooleanConstraints;I[J)I"⟩
abbrev cL_outputAt : ByteArray := method_47_code
def yL_outputAt : MethodName := ⟨RL, "outputAt", "(LBooleanConstraints;I[J)I"⟩
abbrev cL_storeFlags : ByteArray := method_48_code
def yL_storeFlags : MethodName := ⟨RL, "storeFlags", "(LBooleanConstraints;III[J)I"⟩
abbrev cL_setFlag : ByteArray := method_49_code
def yL_setFlag : MethodName := ⟨RL, "setFlag", "(LBooleanConstraints;IIZ[J)I"⟩
abbrev cL_takeFlags : ByteArray := method_50_code
def yL_takeFlags : MethodName := ⟨RL, "takeFlags", "(LBooleanConstraints;II[J)I"⟩
abbrev cL_restoreSnapshot : ByteArray := method_51_code
def yL_restoreSnapshot : MethodName := ⟨RL, "restoreSnapshot", "(LBooleanConstraints;[J)I"⟩
abbrev cL_law : ByteArray := code
def yL_law : MethodName := ⟨RL, "law", "([I)Z"⟩
abbrev vwCl : List vw_C := [(RX0, TX0, 7), (RX1, TX1, 10), (RX2, TX2, 21)]
def sTx : List (String × Nat × String) := [("BooleanConstraints", 285, "the arity is out of range"), ("BooleanConstraints", 303, "there are already 8 relations"), ("BooleanConstraints", 61, "signs are out of range"), ("BooleanConstraints", 289, "a value is neither 0 nor 1"), ("BooleanConstraints", 297, "there is no such relation"), ("BooleanConstraints", 299, "there is no such tuple"), ("BooleanConstraints", 103, "the relations have different arities"), ("BooleanConstraints", 301, "there is no such position"), ("BooleanConstraints", 108, "the relation has arity 1"), ("BooleanConstraints", 287, "there is no operation of this arity with this code"), ("BooleanConstraints", 135, "there is no such polymorphism"), ("BooleanConstraints", 147, "the operation agrees with no argument"), ("BooleanConstraints", 155, "there is no such argument"), ("BooleanConstraints", 158, "inner is out of range"), ("BooleanConstraints", 291, "the kind is out of range"), ("BooleanConstraints", 173, "the language is not easy"), ("BooleanConstraints", 175, "the number of variables is out of range"), ("BooleanConstraints", 305, "there is no such variable"), ("BooleanConstraints", 186, "there are already 20 constraints"), ("BooleanConstraints", 199, "there are no constraints"), ("BooleanConstraints", 208, "there is no such solution"), ("BooleanConstraints", 309, "the language does not have the kind"), ("BooleanConstraints", 312, "there are no solutions"), ("BooleanConstraints", 232, "there is no such assignment"), ("BooleanConstraints", 237, "the assignment is a solution"), ("BooleanConstraints", 239, "there is no such constraint"), ("BooleanConstraints", 247, "the character code is out of range"), ("BooleanConstraints", 249, "the input has 60 characters"), ("BooleanConstraints", 254, "the input is not a valid text"), ("BooleanConstraints", 262, "no text was wrong so far"), ("BooleanConstraints", 267, "there is no such index of the output"), ("BooleanConstraints", 293, "there is no such slot"), ("BooleanConstraints", 272, "the length is out of range"), ("BooleanConstraints", 295, "the slot is empty"), ("BooleanConstraints", 277, "there is no such element"), ("BooleanConstraints", 283, "no snapshot was saved")]
def nCs : List (String × String) := [("java/lang/IllegalStateException", "java/lang/IllegalArgumentException"), ("java/lang/IndexOutOfBoundsException", "java/lang/IllegalArgumentException"), ("java/util/NoSuchElementException", "java/lang/IllegalArgumentException"), ("java/lang/UnsupportedOperationException", "java/lang/IllegalArgumentException"), ("java/lang/IllegalArgumentException", "java/lang/IllegalStateException"), ("java/lang/IndexOutOfBoundsException", "java/lang/IllegalStateException"), ("java/util/NoSuchElementException", "java/lang/IllegalStateException"), ("java/lang/UnsupportedOperationException", "java/lang/IllegalStateException"), ("java/lang/IllegalArgumentException", "java/lang/IndexOutOfBoundsException"), ("java/lang/IllegalStateException", "java/lang/IndexOutOfBoundsException"), ("java/util/NoSuchElementException", "java/lang/IndexOutOfBoundsException"), ("java/lang/UnsupportedOperationException", "java/lang/IndexOutOfBoundsException"), ("java/lang/IllegalArgumentException", "java/util/NoSuchElementException"), ("java/lang/IllegalStateException", "java/util/NoSuchElementException"), ("java/lang/IndexOutOfBoundsException", "java/util/NoSuchElementException"), ("java/lang/UnsupportedOperationException", "java/util/NoSuchElementException"), ("java/lang/IllegalArgumentException", "java/lang/UnsupportedOperationException"), ("java/lang/IllegalStateException", "java/lang/UnsupportedOperationException"), ("java/lang/IndexOutOfBoundsException", "java/lang/UnsupportedOperationException"), ("java/util/NoSuchElementException", "java/lang/UnsupportedOperationException")]
end
section
/-! ===== the words that every contract takes along ===== -/
def Ug : List Cond := lw_tbl.filter goodWord
def exk (w : Cond) : Bool := match w with
  | .fieldLinkNest .. => true
  | .methodLinkNest .. => true
  | .castable .. => true
  | .declares _ => true
  | _ => false
def Ue : List Cond := lw_tbl.filter exk
theorem Ug_in {w : Cond} (h : w ∈ lw_tbl) (g : goodWord w = true) : w ∈ Ug := List.mem_filter.mpr ⟨h, g⟩
theorem Ue_in {w : Cond} (h : w ∈ lw_tbl) (g : exk w = true) : w ∈ Ue := List.mem_filter.mpr ⟨h, g⟩
theorem Ug_at {w : Cond} (i : Nat) (h : lw_tbl[i]? = some w) (g : goodWord w = true) : w ∈ Ug := Ug_in (List.mem_of_getElem? h) g
theorem Ue_at {w : Cond} (i : Nat) (h : lw_tbl[i]? = some w) (g : exk w = true) : w ∈ Ue := Ue_in (List.mem_of_getElem? h) g
theorem ex_move {w : Cond} (h : exk w = true) {s U : State} (hW : s.WarmedH U.vm) (hZ : va_Nw w s) : va_Nw w U := by
  cases w <;> first | exact va_Nw.warmF hW hZ | exact va_Nw.warmM hW hZ | exact va_Nw.warmC hW hZ | exact va_Nw.warmD hW hZ | exact absurd h (by simp [exk])
theorem ex_tab {w : Cond} (h : exk w = true) : w.onTables = true := by
  cases w <;> first | rfl | exact absurd h (by simp [exk])
theorem Ug_good : GoodIn Ug Ug := fun w h => ⟨h, good_of_word (List.mem_filter.mp h).2⟩
theorem Ug_cons {c : Cond} (h : c ∈ Ug) : GoodIn Ug (c :: Ug) := fun w hw => (List.mem_cons.mp hw).elim (fun e => by rw [e]; exact Ug_good c h) (fun hw => Ug_good w hw)
theorem mem_by {big ws : List Cond} (ps : List Nat) (h : ps.map (fun i => big[i]?) = ws.map some) (hg : ws.all goodWord = true) : ∀ w ∈ ws, w ∈ big := by
  intro w hw
  have h1 : some w ∈ ws.map some := List.mem_map.mpr ⟨w, hw, rfl⟩
  rw [← h] at h1
  obtain ⟨i, -, hi⟩ := List.mem_map.mp h1
  exact List.mem_of_getElem? hi
/-! ===== what lies beside the worlds: links of nest mates, texts, statics ===== -/
def SA (C n d : String) (ty : FieldType) (N : Nat) (f : Nat → Value) (A : Nat → Prop) (U : State) (H : Heap) : Prop := ∃ t : Nat, va_Z C n d (.ref t) A U H ∧ va_T ty t N f A U H
def kAr : Nat → Int32 := fun j => ([1, 1, 2, 2, 3, 3] : List Int32).getD j 0
def kCo : Nat → Int32 := fun j => ([0, 3, 8, 14, 232, 150] : List Int32).getD j 0
def aCo : Nat → Int32 := fun j => ([170, 204, 240] : List Int32).getD j 0
def onL : Nat → Int64 := fun j => ([-6148914691236517206, -3689348814741910324, -1085102592571150096, -71777214294589696, -281470681808896, -4294967296] : List Int64).getD j 0
theorem SA.go {C n d : String} {ty : FieldType} {N : Nat} {f : Nat → Value} {A B : Nat → Prop} {U V : State} {H H1 : Heap} (h : SA C n d ty N f A U H) (hv : U.vm.Alike V.vm) (hk : ∀ q : Nat, q < H.size → ¬ A q → H1[q]? = H[q]?) (hAB : ∀ q, B q → A q) : SA C n d ty N f B V H1 := by
  obtain ⟨t, h1, h2⟩ := h
  exact ⟨t, ((h1.kept hk).moved hv).narrow hAB, ((h2.kept hk).moved hv).narrow hAB⟩
def Sx (A : Nat → Prop) (U : State) (H : Heap) : Prop :=
  (∀ w ∈ Ue, va_Nw w U) ∧ (∀ e ∈ sTx, ∃ a, vk_R e.1 e.2.1 e.2.2 a U) ∧ (∀ e ∈ nCs, va_Nc e.1 e.2 U) ∧
  vx_Zq Bundle.tN "UNASSIGNED_STACK" Bundle.steD A U H ∧ vx_Zq Bundle.tN "SUPPRESSED_SENTINEL" Bundle.listD A U H ∧
  SA RX1 "KIND_ARITIES" "[I" .int 6 (fun j => .int (kAr j)) A U H ∧ SA RX1 "KIND_CODES" "[I" .int 6 (fun j => .int (kCo j)) A U H ∧ SA RX1 "ARGUMENT_CODES" "[I" .int 3 (fun j => .int (aCo j)) A U H ∧
  SA RX2 "KIND_ARITY" "[I" .int 6 (fun j => .int (kAr j)) A U H ∧ SA RX2 "KIND_CODE" "[I" .int 6 (fun j => .int (kCo j)) A U H ∧ SA RX0 "ONES" "[J" .long 6 (fun j => .long (onL j)) A U H
theorem Sx.go {A B : Nat → Prop} {U V : State} {H H1 : Heap} (h : Sx A U H) (hW : U.WarmedH V.vm) (hk : ∀ q : Nat, q < H.size → ¬ A q → H1[q]? = H[q]?) (hAB : ∀ q, B q → A q) : Sx B V H1 := by
  obtain ⟨h1, h2, h3, h4, h5, h6, h7, h8, h9, h10, h11⟩ := h
  have hv := hW.alike
  refine ⟨fun w hw => ex_move (List.mem_filter.mp hw).2 hW (h1 w hw), fun e he => ?_, fun e he => va_Nc.moved hv (h3 e he), ((h4.kept hk).moved hv).narrow hAB, ((h5.kept hk).moved hv).narrow hAB, h6.go hv hk hAB, h7.go hv hk hAB, h8.go hv hk hAB, h9.go hv hk hAB, h10.go hv hk hAB, h11.go hv hk hAB⟩
  obtain ⟨a, ha⟩ := h2 e he
  exact ⟨a, vk_R.warm hW ha⟩
theorem Sx.same {A : Nat → Prop} {U V : State} {H : Heap} (h : Sx A U H) (hv : U.vm = V.vm) : Sx A V H := by
  obtain ⟨h1, h2, h3, h4, h5, h6, h7, h8, h9, h10, h11⟩ := h
  have ha : U.vm.Alike V.vm := by rw [hv]; exact Vm.Alike.refl V.vm
  have hk : ∀ q : Nat, q < H.size → ¬ A q → H[q]? = H[q]? := fun _ _ _ => rfl
  have hA : ∀ q, A q → A q := fun _ h => h
  refine ⟨fun w hw => va_Nw.same (ex_tab (List.mem_filter.mp hw).2) hv (h1 w hw), fun e he => ?_, fun e he => va_Nc.moved ha (h3 e he), h4.moved ha, h5.moved ha, h6.go ha hk hA, h7.go ha hk hA, h8.go ha hk hA, h9.go ha hk hA, h10.go ha hk hA, h11.go ha hk hA⟩
  obtain ⟨a, hr⟩ := h2 e he
  exact ⟨a, vk_R.same hv.symm hr⟩
/-! ===== a walk's bundle ===== -/
abbrev Cx : Type := (Program × Launch × Env × Room × State × MethodId × Array Value × List Frame × Method × Code) × ((Nat → Prop) × (State → Prop) × va_G × (Nat → ClassId))
abbrev cxp (x : Cx) : Program := x.1.1
abbrev cxl (x : Cx) : Launch := x.1.2.1
abbrev cxe (x : Cx) : Env := x.1.2.2.1
abbrev cxR (x : Cx) : Room := x.1.2.2.2.1
abbrev cxs (x : Cx) : State := x.1.2.2.2.2.1
abbrev cxm (x : Cx) : MethodId := x.1.2.2.2.2.2.1
abbrev cxa (x : Cx) : Array Value := x.1.2.2.2.2.2.2.1
abbrev cxb (x : Cx) : List Frame := x.1.2.2.2.2.2.2.2.1
abbrev cxh (x : Cx) : Method := x.1.2.2.2.2.2.2.2.2.1
abbrev cxc (x : Cx) : Code := x.1.2.2.2.2.2.2.2.2.2
abbrev cxA (x : Cx) : Nat → Prop := x.2.1
abbrev cxQ (x : Cx) : State → Prop := x.2.2.1
abbrev cxD (x : Cx) : va_G := x.2.2.2.1
abbrev cxT (x : Cx) : Nat → ClassId := x.2.2.2.2
abbrev tysT (T : Nat → ClassId) : List (ClassId × FieldType) := [(T 0, .int), (T 1, .char), (T 2, .boolean), (T 3, .long)]
abbrev Wx (x : Cx) (k n : Nat) (H : Heap) (locs : List Loc) (g : JFrame) : Prop := W (cxp x) (cxl x) (cxe x) (cxR x) (cxs x) (cxm x) (cxa x) (cxb x) (cxh x) (cxc x) H locs k n (cxQ x) g
abbrev Xx (x : Cx) (k n : Nat) (H : Heap) (locs : List Loc) (g : JFrame) (q : Addr) : Prop := vx_W (cxp x) (cxl x) (cxe x) (cxR x) (cxs x) (cxm x) (cxa x) (cxb x) (cxh x) (cxc x) H locs k n (cxQ x) g q
def G (x : Cx) (nL k n : Nat) (wd : va_W) (lv : List (Nat × Value)) (pc : Nat) (st : List Value) : Prop :=
  ∀ (H : Heap) (locs : List Loc) (ls : Array Slot), va_P (cxD x) vwCl wd H → va_D (cxA x) wd → va_S (cxA x) (cxs x).heap H locs → lv_has ls nL lv → Wx x k n H locs (F0 (cxm x) pc ls st)
def XW (x : Cx) (nL k n : Nat) (wd : va_W) (lv : List (Nat × Value)) (pc : Nat) (st : List Value) (E : String) : Prop :=
  ∀ (H : Heap) (locs : List Loc) (ls : Array Slot) (q : Addr) (ce : Cell), va_P (cxD x) vwCl wd H → va_D (cxA x) wd → va_S (cxA x) (cxs x).heap H locs → lv_has ls nL lv → H[q]? = some ce → ce.vm = .none → (cxs x).vm.findClass E = some ce.cls → Xx x k n H locs (F0 (cxm x) pc ls st) q
def rmD (d mc ms : Nat) : Room := { frames := 10 + 2 * d, cells := mc, slots := ms, locals := 200 + 60 * d }
def Ok (x : Cx) (cc : ByteArray) (nL : Nat) (own : String) (d mc ms : Nat) : Prop :=
  (cxp x).tables.exec = Jvm.exec ∧ (cxc x).code = cc ∧ (cxc x).maxLocals = nL ∧ (cxs x).vm.findClass own = some (cxm x).cls ∧ (∀ w ∈ Ug, w.before (cxa x) (cxs x) = true) ∧ va_K (cxD x) vwCl (tysT (cxT x)) (cxs x) ∧ (∀ q, (cxs x).heap.size ≤ q → cxA x q) ∧
  Sx (cxA x) (cxs x) (cxs x).heap ∧ (cxh x).locks = false ∧ (cxl x).stackTraces = false ∧ (10 + 2 * d ≤ (cxR x).frames ∧ 200 + 60 * d ≤ (cxR x).locals ∧ mc ≤ (cxR x).cells ∧ ms ≤ (cxR x).slots)
def RetI (x : Cx) (cc : ByteArray) (ty : FieldType) (mc ms : Nat) (wd : va_W) (r : Int32) : Prop :=
  ∀ (k n pc : Nat) (H : Heap) (locs : List Loc) (ls : Array Slot), k ≤ mc → n ≤ ms → narrow ty (.int r) = .int r → decode cc pc = .ok (.ireturn, 1) → va_P (cxD x) vwCl wd H → va_D (cxA x) wd → va_S (cxA x) (cxs x).heap H locs → Wx x k n H locs (F0 (cxm x) pc ls [.int r])
def RetL (x : Cx) (cc : ByteArray) (mc ms : Nat) (wd : va_W) (r : Int64) : Prop :=
  ∀ (k n pc : Nat) (H : Heap) (locs : List Loc) (ls : Array Slot), k ≤ mc → n ≤ ms → decode cc pc = .ok (.lreturn, 1) → va_P (cxD x) vwCl wd H → va_D (cxA x) wd → va_S (cxA x) (cxs x).heap H locs → Wx x k n H locs (F0 (cxm x) pc ls [.long r])
def RetV (x : Cx) (cc : ByteArray) (mc ms : Nat) (wd : va_W) : Prop :=
  ∀ (k n pc : Nat) (H : Heap) (locs : List Loc) (ls : Array Slot), k ≤ mc → n ≤ ms → decode cc pc = .ok (.return_, 1) → va_P (cxD x) vwCl wd H → va_D (cxA x) wd → va_S (cxA x) (cxs x).heap H locs → Wx x k n H locs (F0 (cxm x) pc ls [])
def RetX (x : Cx) (mc ms : Nat) (wd : va_W) (E : String) : Prop :=
  ∃ (Qc : Array Value → State → Outcome → State → Prop) (XC : String → State → State → Prop) (free : Addr → Prop), cxQ x = vx_MQ (cxb x) Qc XC (cxa x) (cxs x) mc ms free ∧ (∀ z ∈ (cxc x).exceptionTable.toList, False) ∧ (∀ q, cxA x q → free q) ∧
    ∀ t : State, (cxs x).vm.Alike t.vm → va_F (cxA x) (cxs x) t → va_P (cxD x) vwCl wd t.heap → va_D (cxA x) wd → XC E (cxs x) t
/-! ===== pure words: guards, names, calls, loops ===== -/
def gd {α : Type} (b : Bool) (a : Option α) : Option α := bif b then a else none
theorem gd_some {α : Type} {b : Bool} {a : Option α} {w : α} (h : gd b a = some w) : b = true ∧ a = some w := by
  cases b with
  | true => exact ⟨rfl, h⟩
  | false => cases h
def lt {α β : Type} (e : α) (k : α → β) : β := k e
def bd {α β : Type} (o : Option α) (k : α → Option β) : Option β := match o with
  | none => none
  | some a => k a
theorem bd_some {α β : Type} {o : Option α} {k : α → Option β} {w : β} (h : bd o k = some w) : ∃ a, o = some a ∧ k a = some w := by
  cases o with
  | none => cases h
  | some a => exact ⟨a, rfl, h⟩
def bx {ρ σ τ : Type} (o : Option ((ρ ⊕ String) × σ)) (ke : String → σ → Option τ) (k : ρ → σ → Option τ) : Option τ := match o with
  | none => none
  | some (.inr E, s) => ke E s
  | some (.inl r, s) => k r s
theorem bx_some {ρ σ τ : Type} {o : Option ((ρ ⊕ String) × σ)} {ke : String → σ → Option τ} {k : ρ → σ → Option τ} {w : τ} (h : bx o ke k = some w) : (∃ r s, o = some (.inl r, s) ∧ k r s = some w) ∨ ∃ E s, o = some (.inr E, s) ∧ ke E s = some w := by
  match o, h with
  | some (.inr E, s), h => exact Or.inr ⟨E, s, rfl, h⟩
  | some (.inl r, s), h => exact Or.inl ⟨r, s, rfl, h⟩
def bz {ρ τ : Type} (o : Option (ρ ⊕ String)) (ke : String → Option τ) (k : ρ → Option τ) : Option τ := match o with
  | none => none
  | some (.inr E) => ke E
  | some (.inl r) => k r
theorem bz_some {ρ τ : Type} {o : Option (ρ ⊕ String)} {ke : String → Option τ} {k : ρ → Option τ} {w : τ} (h : bz o ke k = some w) : (∃ r, o = some (.inl r) ∧ k r = some w) ∨ ∃ E, o = some (.inr E) ∧ ke E = some w := by
  match o, h with
  | some (.inr E), h => exact Or.inr ⟨E, rfl, h⟩
  | some (.inl r), h => exact Or.inl ⟨r, rfl, h⟩
def loopN {σ ρ : Type} (step : σ → Option (σ ⊕ ρ)) : Nat → σ → Option ρ
  | 0, _ => none
  | n + 1, s => match step s with
    | none => none
    | some (.inl s2) => loopN step n s2
    | some (.inr r) => some r
theorem loop_W {σ ρ : Type} (step : σ → Option (σ ⊕ ρ)) (P : σ → Prop) (r : ρ) (hs : ∀ (s : σ) (w : σ ⊕ ρ), step s = some w → ((∃ s2, w = .inl s2 ∧ P s2) ∨ w = .inr r) → P s) : ∀ (n : Nat) (s : σ), loopN step n s = some r → P s := by
  intro n
  induction n with
  | zero => intro s h; cases h
  | succ n ih =>
    intro s h
    unfold loopN at h
    match hw : step s, h with
    | some (.inl s2), h => exact hs s _ hw (Or.inl ⟨s2, rfl, ih s2 h⟩)
    | some (.inr r2), h => exact hs s _ hw (Or.inr (by rw [Option.some.inj h]))
theorem lf_c {σ ρ : Type} {P : σ → Prop} {s1 : σ} {w : σ ⊕ ρ} {r : ρ} (hf : some (Sum.inl s1) = some w) (hw : (∃ s2, w = .inl s2 ∧ P s2) ∨ w = .inr r) : P s1 := by
  cases Option.some.inj hf
  rcases hw with ⟨s2, h1, h2⟩ | h
  · cases h1; exact h2
  · cases h
theorem lf_x {σ ρ : Type} {P : σ → Prop} {r1 : ρ} {w : σ ⊕ ρ} {r : ρ} (hf : some (Sum.inr r1) = some w) (hw : (∃ s2, w = .inl s2 ∧ P s2) ∨ w = .inr r) : r = r1 := by
  cases Option.some.inj hf
  rcases hw with ⟨s2, h1, h2⟩ | h
  · cases h1
  · cases h; rfl
def bl {σ τ υ : Type} (o : Option (σ ⊕ τ)) (kr : τ → Option υ) (k : σ → Option υ) : Option υ := match o with
  | none => none
  | some (.inl s) => k s
  | some (.inr t) => kr t
theorem bl_some {σ τ υ : Type} {o : Option (σ ⊕ τ)} {kr : τ → Option υ} {k : σ → Option υ} {w : υ} (h : bl o kr k = some w) : ∃ r, o = some r ∧ (∀ s, r = .inl s → k s = some w) ∧ ∀ t, r = .inr t → kr t = some w := by
  match o, h with
  | some (.inl s), h => exact ⟨_, rfl, (fun s2 e => by cases e; exact h), (fun t e => by cases e)⟩
  | some (.inr t), h => exact ⟨_, rfl, (fun s2 e => by cases e), (fun t e => by cases e; exact h)⟩
abbrev St : Type := Nat → Nat → Int32
def ua (u : St) (i : Nat) (f : Nat → Int32) : St := fun j => bif Nat.beq j i then f else u j
def us (u : St) (k : Nat) (v : Int32) : St := ua u 0 (fun j => bif Nat.beq j k then v else u 0 j)
def inb (i : Int32) (n : Nat) : Bool := decide (¬ (i < 0 ∨ n ≤ i.toNatClampNeg))
theorem inb_in {i : Int32} {n : Nat} (h : inb i n = true) : vp_in i n := (of_decide_eq_true h : ¬ (i < 0 ∨ n ≤ i.toNatClampNeg))
def okB (r : Int32) : Bool := decide (r = 0 ∨ r = 1)
theorem okB_n {r : Int32} (h : okB r = true) : narrow .boolean (.int r) = .int r := by
  rcases of_decide_eq_true h with h | h <;> subst h <;> decide +kernel
theorem okB_f {r : Int32} (h : okB r = true) : fits .boolean (.int r) = true := by
  rcases of_decide_eq_true h with h | h <;> subst h <;> decide +kernel
def okC (r : Int32) : Bool := decide (narrow .char (.int r) = .int r)
theorem okC_n {r : Int32} (h : okC r = true) : narrow .char (.int r) = .int r := of_decide_eq_true h
def FU : Nat := 2000
end
section
section GR
variable {x : Cx} {cc : ByteArray} {nL : Nat} {own : String} {d mc ms k n : Nat} {wd : va_W} {lv : List (Nat × Value)} {pc : Nat} {st : List Value}
def jshl (a b : Int32) : Int32 := a <<< (b &&& 31)
def jshr (a b : Int32) : Int32 := a >>> (b &&& 31)
theorem g_iadd (o : Ok x cc nL own d mc ms) {a b : Int32} (dg : decode cc pc = .ok (.iadd, 1)) (kk : G x nL k n wd lv (pc + 1) (.int (a + b) :: st)) : G x nL k n wd lv pc (.int b :: .int a :: st) := fun H locs ls hP hD hS hl => lv_iadd o.1 o.2.1 dg (kk H locs ls hP hD hS hl)
theorem g_isub (o : Ok x cc nL own d mc ms) {a b : Int32} (dg : decode cc pc = .ok (.isub, 1)) (kk : G x nL k n wd lv (pc + 1) (.int (a - b) :: st)) : G x nL k n wd lv pc (.int b :: .int a :: st) := fun H locs ls hP hD hS hl => lv_isub o.1 o.2.1 dg (kk H locs ls hP hD hS hl)
theorem g_imul (o : Ok x cc nL own d mc ms) {a b : Int32} (dg : decode cc pc = .ok (.imul, 1)) (kk : G x nL k n wd lv (pc + 1) (.int (a * b) :: st)) : G x nL k n wd lv pc (.int b :: .int a :: st) := fun H locs ls hP hD hS hl => lv_imul o.1 o.2.1 dg (kk H locs ls hP hD hS hl)
theorem g_iand (o : Ok x cc nL own d mc ms) {a b : Int32} (dg : decode cc pc = .ok (.iand, 1)) (kk : G x nL k n wd lv (pc + 1) (.int (a &&& b) :: st)) : G x nL k n wd lv pc (.int b :: .int a :: st) := fun H locs ls hP hD hS hl => lv_iand o.1 o.2.1 dg (kk H locs ls hP hD hS hl)
theorem g_ior (o : Ok x cc nL own d mc ms) {a b : Int32} (dg : decode cc pc = .ok (.ior, 1)) (kk : G x nL k n wd lv (pc + 1) (.int (a ||| b) :: st)) : G x nL k n wd lv pc (.int b :: .int a :: st) := fun H locs ls hP hD hS hl => lv_ior o.1 o.2.1 dg (kk H locs ls hP hD hS hl)
theorem g_ixor (o : Ok x cc nL own d mc ms) {a b : Int32} (dg : decode cc pc = .ok (.ixor, 1)) (kk : G x nL k n wd lv (pc + 1) (.int (a ^^^ b) :: st)) : G x nL k n wd lv pc (.int b :: .int a :: st) := fun H locs ls hP hD hS hl => lv_ixor o.1 o.2.1 dg (kk H locs ls hP hD hS hl)
theorem g_ishl (o : Ok x cc nL own d mc ms) {a b : Int32} (dg : decode cc pc = .ok (.ishl, 1)) (kk : G x nL k n wd lv (pc + 1) (.int (jshl a b) :: st)) : G x nL k n wd lv pc (.int b :: .int a :: st) := fun H locs ls hP hD hS hl => lv_ishl o.1 o.2.1 dg (kk H locs ls hP hD hS hl)
theorem g_ishr (o : Ok x cc nL own d mc ms) {a b : Int32} (dg : decode cc pc = .ok (.ishr, 1)) (kk : G x nL k n wd lv (pc + 1) (.int (jshr a b) :: st)) : G x nL k n wd lv pc (.int b :: .int a :: st) := fun H locs ls hP hD hS hl => lv_ishr o.1 o.2.1 dg (kk H locs ls hP hD hS hl)
def jushr (a b : Int32) : Int32 := (a.toUInt32 >>> (b.toUInt32 &&& Int32.toUInt32 31)).toInt32
def jlushr (a : Int64) (b : Int32) : Int64 := (a.toUInt64 >>> (b.toInt64.toUInt64 &&& Int64.toUInt64 63)).toInt64
def jlshl (a : Int64) (b : Int32) : Int64 := a <<< (b.toInt64 &&& 63)
def jrem (a b : Int32) : Int32 := a - a / b * b
theorem g_iushr (o : Ok x cc nL own d mc ms) {a b : Int32} (dg : decode cc pc = .ok (.iushr, 1)) (kk : G x nL k n wd lv (pc + 1) (.int (jushr a b) :: st)) : G x nL k n wd lv pc (.int b :: .int a :: st) := fun H locs ls hP hD hS hl => lv_iushr o.1 o.2.1 dg rfl (kk H locs ls hP hD hS hl)
theorem g_irem (o : Ok x cc nL own d mc ms) {a b : Int32} (hne : ¬ b = 0) (dg : decode cc pc = .ok (.irem, 1)) (kk : G x nL k n wd lv (pc + 1) (.int (jrem a b) :: st)) : G x nL k n wd lv pc (.int b :: .int a :: st) := fun H locs ls hP hD hS hl => lv_irem o.1 o.2.1 dg hne (kk H locs ls hP hD hS hl)
theorem g_ladd (o : Ok x cc nL own d mc ms) {a b : Int64} (dg : decode cc pc = .ok (.ladd, 1)) (kk : G x nL k n wd lv (pc + 1) (.long (a + b) :: st)) : G x nL k n wd lv pc (.long b :: .long a :: st) := fun H locs ls hP hD hS hl => lv_ladd o.1 o.2.1 dg (kk H locs ls hP hD hS hl)
theorem g_lsub (o : Ok x cc nL own d mc ms) {a b : Int64} (dg : decode cc pc = .ok (.lsub, 1)) (kk : G x nL k n wd lv (pc + 1) (.long (a - b) :: st)) : G x nL k n wd lv pc (.long b :: .long a :: st) := fun H locs ls hP hD hS hl => lv_lsub o.1 o.2.1 dg (kk H locs ls hP hD hS hl)
theorem g_land (o : Ok x cc nL own d mc ms) {a b : Int64} (dg : decode cc pc = .ok (.land, 1)) (kk : G x nL k n wd lv (pc + 1) (.long (a &&& b) :: st)) : G x nL k n wd lv pc (.long b :: .long a :: st) := fun H locs ls hP hD hS hl => lv_land o.1 o.2.1 dg (kk H locs ls hP hD hS hl)
theorem g_lor (o : Ok x cc nL own d mc ms) {a b : Int64} (dg : decode cc pc = .ok (.lor, 1)) (kk : G x nL k n wd lv (pc + 1) (.long (a ||| b) :: st)) : G x nL k n wd lv pc (.long b :: .long a :: st) := fun H locs ls hP hD hS hl => lv_lor o.1 o.2.1 dg (kk H locs ls hP hD hS hl)
theorem g_lxor (o : Ok x cc nL own d mc ms) {a b : Int64} (dg : decode cc pc = .ok (.lxor, 1)) (kk : G x nL k n wd lv (pc + 1) (.long (a ^^^ b) :: st)) : G x nL k n wd lv pc (.long b :: .long a :: st) := fun H locs ls hP hD hS hl => lv_lxor o.1 o.2.1 dg (kk H locs ls hP hD hS hl)
theorem g_lneg (o : Ok x cc nL own d mc ms) {a : Int64} (dg : decode cc pc = .ok (.lneg, 1)) (kk : G x nL k n wd lv (pc + 1) (.long (-a) :: st)) : G x nL k n wd lv pc (.long a :: st) := fun H locs ls hP hD hS hl => lv_lneg o.1 o.2.1 dg (kk H locs ls hP hD hS hl)
theorem g_lushr (o : Ok x cc nL own d mc ms) {a : Int64} {b : Int32} (dg : decode cc pc = .ok (.lushr, 1)) (kk : G x nL k n wd lv (pc + 1) (.long (jlushr a b) :: st)) : G x nL k n wd lv pc (.int b :: .long a :: st) := fun H locs ls hP hD hS hl => lv_lushr o.1 o.2.1 dg rfl (kk H locs ls hP hD hS hl)
theorem g_lshl (o : Ok x cc nL own d mc ms) {a : Int64} {b : Int32} (dg : decode cc pc = .ok (.lshl, 1)) (kk : G x nL k n wd lv (pc + 1) (.long (jlshl a b) :: st)) : G x nL k n wd lv pc (.int b :: .long a :: st) := fun H locs ls hP hD hS hl => lv_lshl o.1 o.2.1 dg rfl (kk H locs ls hP hD hS hl)
theorem g_lcmp (o : Ok x cc nL own d mc ms) {a b : Int64} (dg : decode cc pc = .ok (.lcmp, 1)) (kk : G x nL k n wd lv (pc + 1) (.int (lg_cmp a b) :: st)) : G x nL k n wd lv pc (.long b :: .long a :: st) := fun H locs ls hP hD hS hl => W.lcmp o.1 o.2.1 dg (kk H locs ls hP hD hS hl)
theorem g_i2l (o : Ok x cc nL own d mc ms) {a : Int32} (dg : decode cc pc = .ok (.i2l, 1)) (kk : G x nL k n wd lv (pc + 1) (.long a.toInt64 :: st)) : G x nL k n wd lv pc (.int a :: st) := fun H locs ls hP hD hS hl => lv_i2l o.1 o.2.1 dg rfl (kk H locs ls hP hD hS hl)
theorem g_l2i (o : Ok x cc nL own d mc ms) {a : Int64} (dg : decode cc pc = .ok (.l2i, 1)) (kk : G x nL k n wd lv (pc + 1) (.int a.toInt32 :: st)) : G x nL k n wd lv pc (.long a :: st) := fun H locs ls hP hD hS hl => lv_l2i o.1 o.2.1 dg rfl (kk H locs ls hP hD hS hl)
def ji2c (a : Int32) : Int32 := (a.toUInt32 % 65536).toInt32
theorem g_i2c (o : Ok x cc nL own d mc ms) {a : Int32} (dg : decode cc pc = .ok (.i2c, 1)) (kk : G x nL k n wd lv (pc + 1) (.int (ji2c a) :: st)) : G x nL k n wd lv pc (.int a :: st) := fun H locs ls hP hD hS hl => lv_i2c o.1 o.2.1 dg rfl (kk H locs ls hP hD hS hl)
theorem g_iconst (o : Ok x cc nL own d mc ms) {z : Int} {v : Int32} (hv : Int32.ofInt z = v) (dg : decode cc pc = .ok (.iconst z, 1)) (kk : G x nL k n wd lv (pc + 1) (.int v :: st)) : G x nL k n wd lv pc st := fun H locs ls hP hD hS hl => lv_iconst o.1 o.2.1 dg hv (kk H locs ls hP hD hS hl)
theorem g_bipush (o : Ok x cc nL own d mc ms) {z : Int} {v : Int32} (hv : (Int8.ofInt z).toInt32 = v) (dg : decode cc pc = .ok (.bipush z, 2)) (kk : G x nL k n wd lv (pc + 2) (.int v :: st)) : G x nL k n wd lv pc st := fun H locs ls hP hD hS hl => lv_bipush o.1 o.2.1 dg hv (kk H locs ls hP hD hS hl)
theorem g_sipush (o : Ok x cc nL own d mc ms) {z : Int} {v : Int32} (hv : (Int16.ofInt z).toInt32 = v) (dg : decode cc pc = .ok (.sipush z, 3)) (kk : G x nL k n wd lv (pc + 3) (.int v :: st)) : G x nL k n wd lv pc st := fun H locs ls hP hD hS hl => lv_sipush o.1 o.2.1 dg hv (kk H locs ls hP hD hS hl)
theorem g_lconst (o : Ok x cc nL own d mc ms) {z : Fin 2} {v : Int64} (hv : Int64.ofNat (z : Nat) = v) (dg : decode cc pc = .ok (.lconst z, 1)) (kk : G x nL k n wd lv (pc + 1) (.long v :: st)) : G x nL k n wd lv pc st := fun H locs ls hP hD hS hl => lv_lconst o.1 o.2.1 dg hv (kk H locs ls hP hD hS hl)
theorem g_ldc (o : Ok x cc nL own d mc ms) {i : Nat} {v : Int32} (hc : Cond.constant own i v ∈ Ug) (dg : decode cc pc = .ok (.ldc i, 2)) (kk : G x nL k n wd lv (pc + 2) (.int v :: st)) : G x nL k n wd lv pc st := fun H locs ls hP hD hS hl => lv_ldc o.1 o.2.1 o.2.2.2.1 (o.2.2.2.2.1 _ hc) dg (kk H locs ls hP hD hS hl)
theorem g_ldcw (o : Ok x cc nL own d mc ms) {i : Nat} {v : Int32} (hc : Cond.constant own i v ∈ Ug) (dg : decode cc pc = .ok (.ldc_w i, 3)) (kk : G x nL k n wd lv (pc + 3) (.int v :: st)) : G x nL k n wd lv pc st := fun H locs ls hP hD hS hl => lv_ldcw o.1 o.2.1 o.2.2.2.1 (o.2.2.2.2.1 _ hc) dg (kk H locs ls hP hD hS hl)
theorem g_ldc2 (o : Ok x cc nL own d mc ms) {i : Nat} {v : Int64} (hc : Cond.constantLong own i v ∈ Ug) (dg : decode cc pc = .ok (.ldc2_w i, 3)) (kk : G x nL k n wd lv (pc + 3) (.long v :: st)) : G x nL k n wd lv pc st := fun H locs ls hP hD hS hl => lv_ldc2 o.1 o.2.1 o.2.2.2.1 (o.2.2.2.2.1 _ hc) dg (kk H locs ls hP hD hS hl)
theorem g_iload_n (o : Ok x cc nL own d mc ms) {z : Fin 4} {i : Nat} {a : Int32} (j : Nat) (hj : lv[j]? = some (i, .int a)) (hi : (z : Nat) = i) (dg : decode cc pc = .ok (.iload_n z, 1)) (kk : G x nL k n wd lv (pc + 1) (.int a :: st)) : G x nL k n wd lv pc st := fun H locs ls hP hD hS hl => lv_iload_n o.1 o.2.1 dg hi (lv_at hl j hj) (kk H locs ls hP hD hS hl)
theorem g_iload (o : Ok x cc nL own d mc ms) {i : Nat} {a : Int32} (j : Nat) (hj : lv[j]? = some (i, .int a)) (dg : decode cc pc = .ok (.iload i, 2)) (kk : G x nL k n wd lv (pc + 2) (.int a :: st)) : G x nL k n wd lv pc st := fun H locs ls hP hD hS hl => lv_iload o.1 o.2.1 dg (lv_at hl j hj) (kk H locs ls hP hD hS hl)
theorem g_istore_n (o : Ok x cc nL own d mc ms) {z : Fin 4} {i : Nat} {a : Int32} (lv2 : List (Nat × Value)) (hn : i < nL) (hl2 : (i, Value.int a) :: lv.filter (fun q => !(q.1 == i) && !(q.1 + 1 == i && q.2.category == 2)) = lv2) (hi : (z : Nat) = i) (dg : decode cc pc = .ok (.istore_n z, 1)) (kk : G x nL k n wd lv2 (pc + 1) st) : G x nL k n wd lv pc (.int a :: st) := fun H locs ls hP hD hS hl => lv_istore_n o.1 o.2.1 dg hi hl hn hl2 (fun ls hl => kk H locs ls hP hD hS hl)
theorem g_istore (o : Ok x cc nL own d mc ms) {i : Nat} {a : Int32} (lv2 : List (Nat × Value)) (hn : i < nL) (hl2 : (i, Value.int a) :: lv.filter (fun q => !(q.1 == i) && !(q.1 + 1 == i && q.2.category == 2)) = lv2) (dg : decode cc pc = .ok (.istore i, 2)) (kk : G x nL k n wd lv2 (pc + 2) st) : G x nL k n wd lv pc (.int a :: st) := fun H locs ls hP hD hS hl => lv_istore o.1 o.2.1 dg hl hn hl2 (fun ls hl => kk H locs ls hP hD hS hl)
theorem g_aload_n (o : Ok x cc nL own d mc ms) {z : Fin 4} {i : Nat} {a : Nat} (j : Nat) (hj : lv[j]? = some (i, .ref a)) (hi : (z : Nat) = i) (dg : decode cc pc = .ok (.aload_n z, 1)) (kk : G x nL k n wd lv (pc + 1) (.ref a :: st)) : G x nL k n wd lv pc st := fun H locs ls hP hD hS hl => lv_aload_n o.1 o.2.1 dg hi (lv_at hl j hj) (kk H locs ls hP hD hS hl)
theorem g_aload (o : Ok x cc nL own d mc ms) {i : Nat} {a : Nat} (j : Nat) (hj : lv[j]? = some (i, .ref a)) (dg : decode cc pc = .ok (.aload i, 2)) (kk : G x nL k n wd lv (pc + 2) (.ref a :: st)) : G x nL k n wd lv pc st := fun H locs ls hP hD hS hl => lv_aload o.1 o.2.1 dg (lv_at hl j hj) (kk H locs ls hP hD hS hl)
theorem g_astore_n (o : Ok x cc nL own d mc ms) {z : Fin 4} {i : Nat} {a : Nat} (lv2 : List (Nat × Value)) (hn : i < nL) (hl2 : (i, Value.ref a) :: lv.filter (fun q => !(q.1 == i) && !(q.1 + 1 == i && q.2.category == 2)) = lv2) (hi : (z : Nat) = i) (dg : decode cc pc = .ok (.astore_n z, 1)) (kk : G x nL k n wd lv2 (pc + 1) st) : G x nL k n wd lv pc (.ref a :: st) := fun H locs ls hP hD hS hl => lv_astore_n o.1 o.2.1 dg hi hl hn hl2 (fun ls hl => kk H locs ls hP hD hS hl)
theorem g_astore (o : Ok x cc nL own d mc ms) {i : Nat} {a : Nat} (lv2 : List (Nat × Value)) (hn : i < nL) (hl2 : (i, Value.ref a) :: lv.filter (fun q => !(q.1 == i) && !(q.1 + 1 == i && q.2.category == 2)) = lv2) (dg : decode cc pc = .ok (.astore i, 2)) (kk : G x nL k n wd lv2 (pc + 2) st) : G x nL k n wd lv pc (.ref a :: st) := fun H locs ls hP hD hS hl => lv_astore o.1 o.2.1 dg hl hn hl2 (fun ls hl => kk H locs ls hP hD hS hl)
theorem g_lload_n (o : Ok x cc nL own d mc ms) {z : Fin 4} {i : Nat} {a : Int64} (j : Nat) (hj : lv[j]? = some (i, .long a)) (hi : (z : Nat) = i) (dg : decode cc pc = .ok (.lload_n z, 1)) (kk : G x nL k n wd lv (pc + 1) (.long a :: st)) : G x nL k n wd lv pc st := fun H locs ls hP hD hS hl => lv_lload_n o.1 o.2.1 dg hi (lv_at hl j hj) (kk H locs ls hP hD hS hl)
theorem g_lload (o : Ok x cc nL own d mc ms) {i : Nat} {a : Int64} (j : Nat) (hj : lv[j]? = some (i, .long a)) (dg : decode cc pc = .ok (.lload i, 2)) (kk : G x nL k n wd lv (pc + 2) (.long a :: st)) : G x nL k n wd lv pc st := fun H locs ls hP hD hS hl => lv_lload o.1 o.2.1 dg (lv_at hl j hj) (kk H locs ls hP hD hS hl)
theorem g_lstore_n (o : Ok x cc nL own d mc ms) {z : Fin 4} {i : Nat} {a : Int64} (lv2 : List (Nat × Value)) (hn : i + 1 < nL) (hl2 : (i, Value.long a) :: lv.filter (fun q => !(q.1 == i) && (!(q.1 == i + 1) && !(q.1 + 1 == i && q.2.category == 2))) = lv2) (hi : (z : Nat) = i) (dg : decode cc pc = .ok (.lstore_n z, 1)) (kk : G x nL k n wd lv2 (pc + 1) st) : G x nL k n wd lv pc (.long a :: st) := fun H locs ls hP hD hS hl => lv_lstore_n o.1 o.2.1 dg hi hl hn hl2 (fun ls hl => kk H locs ls hP hD hS hl)
theorem g_lstore (o : Ok x cc nL own d mc ms) {i : Nat} {a : Int64} (lv2 : List (Nat × Value)) (hn : i + 1 < nL) (hl2 : (i, Value.long a) :: lv.filter (fun q => !(q.1 == i) && (!(q.1 == i + 1) && !(q.1 + 1 == i && q.2.category == 2))) = lv2) (dg : decode cc pc = .ok (.lstore i, 2)) (kk : G x nL k n wd lv2 (pc + 2) st) : G x nL k n wd lv pc (.long a :: st) := fun H locs ls hP hD hS hl => lv_lstore o.1 o.2.1 dg hl hn hl2 (fun ls hl => kk H locs ls hP hD hS hl)
theorem g_iinc (o : Ok x cc nL own d mc ms) {i : Nat} {z : Int} {a v : Int32} (lv2 : List (Nat × Value)) (j : Nat) (hj : lv[j]? = some (i, .int a)) (hv : a + Int32.ofInt z = v) (hn : i < nL) (hl2 : (i, Value.int v) :: lv.filter (fun q => !(q.1 == i) && !(q.1 + 1 == i && q.2.category == 2)) = lv2) (dg : decode cc pc = .ok (.iinc i z, 3)) (kk : G x nL k n wd lv2 (pc + 3) st) : G x nL k n wd lv pc st := fun H locs ls hP hD hS hl => lv_iinc o.1 o.2.1 dg hl hj hv hn hl2 (fun ls hl => kk H locs ls hP hD hS hl)
theorem g_perm {lv2 : List (Nat × Value)} (ks : List Nat) (h : lv_pick lv ks = lv2) (kk : G x nL k n wd lv2 pc st) : G x nL k n wd lv pc st := fun H locs ls hP hD hS hl => kk H locs ls hP hD hS (lv_sub hl ks h)
theorem g_dup (o : Ok x cc nL own d mc ms) {v : Value} (hc : v.category = 1) (dg : decode cc pc = .ok (.dup, 1)) (kk : G x nL k n wd lv (pc + 1) (v :: v :: st)) : G x nL k n wd lv pc (v :: st) := fun H locs ls hP hD hS hl => lv_dup o.1 o.2.1 dg hc (kk H locs ls hP hD hS hl)
theorem g_dup2 (o : Ok x cc nL own d mc ms) {v u : Value} (hc : v.category = 1) (hu : u.category = 1) (dg : decode cc pc = .ok (.dup2, 1)) (kk : G x nL k n wd lv (pc + 1) (v :: u :: v :: u :: st)) : G x nL k n wd lv pc (v :: u :: st) := fun H locs ls hP hD hS hl => lv_dup2_11 o.1 o.2.1 dg hc hu (kk H locs ls hP hD hS hl)
theorem g_pop (o : Ok x cc nL own d mc ms) {v : Value} (hc : v.category = 1) (dg : decode cc pc = .ok (.pop, 1)) (kk : G x nL k n wd lv (pc + 1) st) : G x nL k n wd lv pc (v :: st) := fun H locs ls hP hD hS hl => lv_pop o.1 o.2.1 dg hc (kk H locs ls hP hD hS hl)
theorem g_goto (o : Ok x cc nL own d mc ms) {off : Int} {tgt : Nat} (ht : (pc : Int) + off = (tgt : Int)) (dg : decode cc pc = .ok (.goto off, 3)) (kk : G x nL k n wd lv tgt st) : G x nL k n wd lv pc st := fun H locs ls hP hD hS hl => lv_goto o.1 o.2.1 dg ht (kk H locs ls hP hD hS hl)
theorem g_nmi {α : Type} {e : Int32} {K : Int32 → Option α} {r : α} (hf : lt e K = some r) (kk : ∀ y : Int32, K y = some r → G x nL k n wd lv pc (.int y :: st)) : G x nL k n wd lv pc (.int e :: st) := kk e hf
theorem g_nml {α : Type} {e : Int64} {K : Int64 → Option α} {r : α} (hf : lt e K = some r) (kk : ∀ y : Int64, K y = some r → G x nL k n wd lv pc (.long y :: st)) : G x nL k n wd lv pc (.long e :: st) := kk e hf
theorem g_if_eq (o : Ok x cc nL own d mc ms) {a : Int32} {off : Int} {tgt : Nat} {α : Type} {r : α} {A B : Option α} (ht : (pc : Int) + off = (tgt : Int)) (dg : decode cc pc = .ok (.ifCond .eq off, 3)) (hf : (if a = 0 then A else B) = some r) (kt : a = 0 → A = some r → G x nL k n wd lv tgt st) (kf : ¬ a = 0 → B = some r → G x nL k n wd lv (pc + 3) st) : G x nL k n wd lv pc (.int a :: st) := fun H locs ls hP hD hS hl => lv_if_eq o.1 o.2.1 dg ht (fun c => kt c (by rw [if_pos c] at hf; exact hf) H locs ls hP hD hS hl) (fun c => kf c (by rw [if_neg c] at hf; exact hf) H locs ls hP hD hS hl)
theorem g_ic_eq (o : Ok x cc nL own d mc ms) {a b : Int32} {off : Int} {tgt : Nat} {α : Type} {r : α} {A B : Option α} (ht : (pc : Int) + off = (tgt : Int)) (dg : decode cc pc = .ok (.if_icmp .eq off, 3)) (hf : (if a = b then A else B) = some r) (kt : a = b → A = some r → G x nL k n wd lv tgt st) (kf : ¬ a = b → B = some r → G x nL k n wd lv (pc + 3) st) : G x nL k n wd lv pc (.int b :: .int a :: st) := fun H locs ls hP hD hS hl => lv_icmp_eq o.1 o.2.1 dg ht (fun c => kt c (by rw [if_pos c] at hf; exact hf) H locs ls hP hD hS hl) (fun c => kf c (by rw [if_neg c] at hf; exact hf) H locs ls hP hD hS hl)
theorem g_if_lt (o : Ok x cc nL own d mc ms) {a : Int32} {off : Int} {tgt : Nat} {α : Type} {r : α} {A B : Option α} (ht : (pc : Int) + off = (tgt : Int)) (dg : decode cc pc = .ok (.ifCond .lt off, 3)) (hf : (if a < 0 then A else B) = some r) (kt : a < 0 → A = some r → G x nL k n wd lv tgt st) (kf : ¬ a < 0 → B = some r → G x nL k n wd lv (pc + 3) st) : G x nL k n wd lv pc (.int a :: st) := fun H locs ls hP hD hS hl => lv_if_lt o.1 o.2.1 dg ht (fun c => kt c (by rw [if_pos c] at hf; exact hf) H locs ls hP hD hS hl) (fun c => kf c (by rw [if_neg c] at hf; exact hf) H locs ls hP hD hS hl)
theorem g_ic_lt (o : Ok x cc nL own d mc ms) {a b : Int32} {off : Int} {tgt : Nat} {α : Type} {r : α} {A B : Option α} (ht : (pc : Int) + off = (tgt : Int)) (dg : decode cc pc = .ok (.if_icmp .lt off, 3)) (hf : (if a < b then A else B) = some r) (kt : a < b → A = some r → G x nL k n wd lv tgt st) (kf : ¬ a < b → B = some r → G x nL k n wd lv (pc + 3) st) : G x nL k n wd lv pc (.int b :: .int a :: st) := fun H locs ls hP hD hS hl => lv_icmp_lt o.1 o.2.1 dg ht (fun c => kt c (by rw [if_pos c] at hf; exact hf) H locs ls hP hD hS hl) (fun c => kf c (by rw [if_neg c] at hf; exact hf) H locs ls hP hD hS hl)
theorem g_if_ge (o : Ok x cc nL own d mc ms) {a : Int32} {off : Int} {tgt : Nat} {α : Type} {r : α} {A B : Option α} (ht : (pc : Int) + off = (tgt : Int)) (dg : decode cc pc = .ok (.ifCond .ge off, 3)) (hf : (if 0 ≤ a then A else B) = some r) (kt : 0 ≤ a → A = some r → G x nL k n wd lv tgt st) (kf : ¬ 0 ≤ a → B = some r → G x nL k n wd lv (pc + 3) st) : G x nL k n wd lv pc (.int a :: st) := fun H locs ls hP hD hS hl => lv_if_ge o.1 o.2.1 dg ht (fun c => kt c (by rw [if_pos c] at hf; exact hf) H locs ls hP hD hS hl) (fun c => kf c (by rw [if_neg c] at hf; exact hf) H locs ls hP hD hS hl)
theorem g_ic_ge (o : Ok x cc nL own d mc ms) {a b : Int32} {off : Int} {tgt : Nat} {α : Type} {r : α} {A B : Option α} (ht : (pc : Int) + off = (tgt : Int)) (dg : decode cc pc = .ok (.if_icmp .ge off, 3)) (hf : (if b ≤ a then A else B) = some r) (kt : b ≤ a → A = some r → G x nL k n wd lv tgt st) (kf : ¬ b ≤ a → B = some r → G x nL k n wd lv (pc + 3) st) : G x nL k n wd lv pc (.int b :: .int a :: st) := fun H locs ls hP hD hS hl => lv_icmp_ge o.1 o.2.1 dg ht (fun c => kt c (by rw [if_pos c] at hf; exact hf) H locs ls hP hD hS hl) (fun c => kf c (by rw [if_neg c] at hf; exact hf) H locs ls hP hD hS hl)
theorem g_if_gt (o : Ok x cc nL own d mc ms) {a : Int32} {off : Int} {tgt : Nat} {α : Type} {r : α} {A B : Option α} (ht : (pc : Int) + off = (tgt : Int)) (dg : decode cc pc = .ok (.ifCond .gt off, 3)) (hf : (if 0 < a then A else B) = some r) (kt : 0 < a → A = some r → G x nL k n wd lv tgt st) (kf : ¬ 0 < a → B = some r → G x nL k n wd lv (pc + 3) st) : G x nL k n wd lv pc (.int a :: st) := fun H locs ls hP hD hS hl => lv_if_gt o.1 o.2.1 dg ht (fun c => kt c (by rw [if_pos c] at hf; exact hf) H locs ls hP hD hS hl) (fun c => kf c (by rw [if_neg c] at hf; exact hf) H locs ls hP hD hS hl)
theorem g_ic_gt (o : Ok x cc nL own d mc ms) {a b : Int32} {off : Int} {tgt : Nat} {α : Type} {r : α} {A B : Option α} (ht : (pc : Int) + off = (tgt : Int)) (dg : decode cc pc = .ok (.if_icmp .gt off, 3)) (hf : (if b < a then A else B) = some r) (kt : b < a → A = some r → G x nL k n wd lv tgt st) (kf : ¬ b < a → B = some r → G x nL k n wd lv (pc + 3) st) : G x nL k n wd lv pc (.int b :: .int a :: st) := fun H locs ls hP hD hS hl => lv_icmp_gt o.1 o.2.1 dg ht (fun c => kt c (by rw [if_pos c] at hf; exact hf) H locs ls hP hD hS hl) (fun c => kf c (by rw [if_neg c] at hf; exact hf) H locs ls hP hD hS hl)
theorem g_if_le (o : Ok x cc nL own d mc ms) {a : Int32} {off : Int} {tgt : Nat} {α : Type} {r : α} {A B : Option α} (ht : (pc : Int) + off = (tgt : Int)) (dg : decode cc pc = .ok (.ifCond .le off, 3)) (hf : (if a ≤ 0 then A else B) = some r) (kt : a ≤ 0 → A = some r → G x nL k n wd lv tgt st) (kf : ¬ a ≤ 0 → B = some r → G x nL k n wd lv (pc + 3) st) : G x nL k n wd lv pc (.int a :: st) := fun H locs ls hP hD hS hl => lv_if_le o.1 o.2.1 dg ht (fun c => kt c (by rw [if_pos c] at hf; exact hf) H locs ls hP hD hS hl) (fun c => kf c (by rw [if_neg c] at hf; exact hf) H locs ls hP hD hS hl)
theorem g_ic_le (o : Ok x cc nL own d mc ms) {a b : Int32} {off : Int} {tgt : Nat} {α : Type} {r : α} {A B : Option α} (ht : (pc : Int) + off = (tgt : Int)) (dg : decode cc pc = .ok (.if_icmp .le off, 3)) (hf : (if a ≤ b then A else B) = some r) (kt : a ≤ b → A = some r → G x nL k n wd lv tgt st) (kf : ¬ a ≤ b → B = some r → G x nL k n wd lv (pc + 3) st) : G x nL k n wd lv pc (.int b :: .int a :: st) := fun H locs ls hP hD hS hl => lv_icmp_le o.1 o.2.1 dg ht (fun c => kt c (by rw [if_pos c] at hf; exact hf) H locs ls hP hD hS hl) (fun c => kf c (by rw [if_neg c] at hf; exact hf) H locs ls hP hD hS hl)
theorem g_if_ne (o : Ok x cc nL own d mc ms) {a : Int32} {off : Int} {tgt : Nat} {α : Type} {r : α} {A B : Option α} (ht : (pc : Int) + off = (tgt : Int)) (dg : decode cc pc = .ok (.ifCond .ne off, 3)) (hf : (if a = 0 then B else A) = some r) (kt : ¬ a = 0 → A = some r → G x nL k n wd lv tgt st) (kf : a = 0 → B = some r → G x nL k n wd lv (pc + 3) st) : G x nL k n wd lv pc (.int a :: st) := fun H locs ls hP hD hS hl => lv_if_ne o.1 o.2.1 dg ht (fun c => kt c (by rw [if_neg c] at hf; exact hf) H locs ls hP hD hS hl) (fun c => kf c (by rw [if_pos c] at hf; exact hf) H locs ls hP hD hS hl)
theorem g_ic_ne (o : Ok x cc nL own d mc ms) {a b : Int32} {off : Int} {tgt : Nat} {α : Type} {r : α} {A B : Option α} (ht : (pc : Int) + off = (tgt : Int)) (dg : decode cc pc = .ok (.if_icmp .ne off, 3)) (hf : (if a = b then B else A) = some r) (kt : ¬ a = b → A = some r → G x nL k n wd lv tgt st) (kf : a = b → B = some r → G x nL k n wd lv (pc + 3) st) : G x nL k n wd lv pc (.int b :: .int a :: st) := fun H locs ls hP hD hS hl => lv_icmp_ne o.1 o.2.1 dg ht (fun c => kt c (by rw [if_neg c] at hf; exact hf) H locs ls hP hD hS hl) (fun c => kf c (by rw [if_pos c] at hf; exact hf) H locs ls hP hD hS hl)
theorem g_iret {ty : FieldType} {r : Int32} (hr : RetI x cc ty mc ms wd r) (h1 : k ≤ mc) (h2 : n ≤ ms) (hn : narrow ty (.int r) = .int r) (dg : decode cc pc = .ok (.ireturn, 1)) : G x nL k n wd lv pc [.int r] := fun H locs ls hP hD hS _ => hr k n pc H locs ls h1 h2 hn dg hP hD hS
theorem g_lret {r : Int64} (hr : RetL x cc mc ms wd r) (h1 : k ≤ mc) (h2 : n ≤ ms) (dg : decode cc pc = .ok (.lreturn, 1)) : G x nL k n wd lv pc [.long r] := fun H locs ls hP hD hS _ => hr k n pc H locs ls h1 h2 dg hP hD hS
theorem g_vret (hr : RetV x cc mc ms wd) (h1 : k ≤ mc) (h2 : n ≤ ms) (dg : decode cc pc = .ok (.return_, 1)) : G x nL k n wd lv pc [] := fun H locs ls hP hD hS _ => hr k n pc H locs ls h1 h2 dg hP hD hS
theorem g_widen {k2 n2 : Nat} (h1 : k ≤ k2) (h2 : n ≤ n2) (kk : G x nL k2 n2 wd lv pc st) : G x nL k n wd lv pc st := fun H locs ls hP hD hS hl => W.widen h1 h2 (kk H locs ls hP hD hS hl)
theorem xw_out (o : Ok x cc nL own d mc ms) {E : String} (hX : RetX x mc ms wd E) (h1 : k ≤ mc) (h2 : n ≤ ms) : XW x nL k n wd lv pc st E := by
  intro H locs ls q ce hP hD hS hl hc hv hcl
  obtain ⟨Qc, XC, free, hQ, hno, hfr, hx⟩ := hX
  show vx_W _ _ _ _ _ _ _ _ _ _ _ _ _ _ (cxQ x) _ _
  rw [hQ]
  exact vx_out (fun z hz => (hno z hz).elim) o.2.2.2.2.2.2.2.2.1 hc hv hcl (fun t ht hva => hx t hva (hS.F ht) (by rw [ht]; exact hP) hD) (fun z hz => hfr _ (hS.2.2 z hz)) h1 h2
theorem g_throwS (o : Ok x cc nL own d mc ms) {E text : String} {names : List String} {ik is ic : Nat} (hX : RetX x mc ms wd E) (hE : Bundle.fit E = true) (hnm : ∀ n ∈ names, Bundle.fit n = true) (hlen : names.length = 2)
    (hk : Cond.classLink own ik E ∈ Ug) (hini : Cond.initialized E ∈ Ug) (hs : (own, is, text) ∈ sTx) (hat : ∀ w ∈ vx_atS own ic E names, w ∈ lw_tbl ∧ (goodWord w || exk w) = true) (hgo : ∀ w ∈ vx_atS own ic E names, vx_ot w = true)
    (d0 : decode cc pc = .ok (.new ik, 3)) (d3 : decode cc (pc + 3) = .ok (.dup, 1)) (d4 : decode cc (pc + 4) = .ok (.ldc is, 2)) (d6 : decode cc (pc + 6) = .ok (.invokespecial ic, 3)) (d9 : decode cc (pc + 9) = .ok (.athrow, 1)) (h1 : k + 1 ≤ mc) (h2 : n + 6 ≤ ms) : G x nL k n wd lv pc [] := by
  intro H locs ls hP hD hS hl
  obtain ⟨Qc, XC, free, hQ, hno, hfr, hx⟩ := hX
  obtain ⟨a, ha⟩ := o.2.2.2.2.2.2.2.1.2.1 _ hs
  show W _ _ _ _ _ _ _ _ _ _ _ _ _ _ (cxQ x) _
  rw [hQ]
  have hw : ∀ w ∈ vx_atS own ic E names, w.before (cxa x) (cxs x) = true := fun w hw => by
    obtain ⟨q1, q2⟩ := hat w hw
    rcases Bool.or_eq_true _ _ ▸ q2 with q | q
    · exact o.2.2.2.2.1 w (Ug_in q1 q)
    · exact va_Nw.use (ex_tab q) (o.2.2.2.2.2.2.2.1.1 w (Ue_in q1 q))
  have hg : ∀ w ∈ Cond.classLink own ik E :: Cond.initialized E :: vx_atS own ic E names, vx_ot w = true := fun w hw => by
    rcases List.mem_cons.mp hw with rfl | hw
    · rfl
    · rcases List.mem_cons.mp hw with rfl | hw
      · rfl
      · exact hgo w hw
  obtain ⟨hR1, hR2, hR3, hR4⟩ := o.2.2.2.2.2.2.2.2.2.2
  exact vx_throwS (sa := a) o.1 o.2.1 o.2.2.2.2.2.2.2.2.2.1 o.2.2.2.1 hE hnm (o.2.2.2.2.1 _ hk) (o.2.2.2.2.1 _ hini) ha hw hg o.2.2.2.2.2.2.2.1.2.2.2.1 o.2.2.2.2.2.2.2.1.2.2.2.2.1 hS (hl.1.trans o.2.2.1.symm) d0 d3 d4 d6 d9 (fun z hz => (hno z hz).elim) (by rw [hlen]; omega) (by rw [hlen]; simp; omega) (Nat.le_trans h1 hR3) (Nat.le_trans h2 hR4) o.2.2.2.2.2.2.2.2.1
    (fun t hva hz hk => hx t hva ⟨Nat.le_trans hS.1 hz, fun q q1 q2 => by rw [hk q (Nat.lt_of_lt_of_le q1 hS.1)]; exact hS.2.1 q q1 q2⟩ (hP.kept fun j q hq => hk q.1 (hP j q hq).lt) hD) (fun z hz => hfr _ (hS.2.2 z hz)) h1 h2
theorem g_throwSW (o : Ok x cc nL own d mc ms) {E text : String} {names : List String} {ik is ic : Nat} (hX : RetX x mc ms wd E) (hE : Bundle.fit E = true) (hnm : ∀ n ∈ names, Bundle.fit n = true) (hlen : names.length = 2)
    (hk : Cond.classLink own ik E ∈ Ug) (hini : Cond.initialized E ∈ Ug) (hs : (own, is, text) ∈ sTx) (hat : ∀ w ∈ vx_atS own ic E names, w ∈ lw_tbl ∧ (goodWord w || exk w) = true) (hgo : ∀ w ∈ vx_atS own ic E names, vx_ot w = true)
    (d0 : decode cc pc = .ok (.new ik, 3)) (d3 : decode cc (pc + 3) = .ok (.dup, 1)) (d4 : decode cc (pc + 4) = .ok (.ldc_w is, 3)) (d7 : decode cc (pc + 7) = .ok (.invokespecial ic, 3)) (d10 : decode cc (pc + 10) = .ok (.athrow, 1)) (h1 : k + 1 ≤ mc) (h2 : n + 6 ≤ ms) : G x nL k n wd lv pc [] := by
  intro H locs ls hP hD hS hl
  obtain ⟨Qc, XC, free, hQ, hno, hfr, hx⟩ := hX
  obtain ⟨a, ha⟩ := o.2.2.2.2.2.2.2.1.2.1 _ hs
  show W _ _ _ _ _ _ _ _ _ _ _ _ _ _ (cxQ x) _
  rw [hQ]
  have hw : ∀ w ∈ vx_atS own ic E names, w.before (cxa x) (cxs x) = true := fun w hw => by
    obtain ⟨q1, q2⟩ := hat w hw
    rcases Bool.or_eq_true _ _ ▸ q2 with q | q
    · exact o.2.2.2.2.1 w (Ug_in q1 q)
    · exact va_Nw.use (ex_tab q) (o.2.2.2.2.2.2.2.1.1 w (Ue_in q1 q))
  have hg : ∀ w ∈ Cond.classLink own ik E :: Cond.initialized E :: vx_atS own ic E names, vx_ot w = true := fun w hw => by
    rcases List.mem_cons.mp hw with rfl | hw
    · rfl
    · rcases List.mem_cons.mp hw with rfl | hw
      · rfl
      · exact hgo w hw
  obtain ⟨hR1, hR2, hR3, hR4⟩ := o.2.2.2.2.2.2.2.2.2.2
  exact vx_throwSW (sa := a) o.1 o.2.1 o.2.2.2.2.2.2.2.2.2.1 o.2.2.2.1 hE hnm (o.2.2.2.2.1 _ hk) (o.2.2.2.2.1 _ hini) ha hw hg o.2.2.2.2.2.2.2.1.2.2.2.1 o.2.2.2.2.2.2.2.1.2.2.2.2.1 hS (hl.1.trans o.2.2.1.symm) d0 d3 d4 d7 d10 (fun z hz => (hno z hz).elim) (by rw [hlen]; omega) (by rw [hlen]; simp; omega) (Nat.le_trans h1 hR3) (Nat.le_trans h2 hR4) o.2.2.2.2.2.2.2.2.1
    (fun t hva hz hk => hx t hva ⟨Nat.le_trans hS.1 hz, fun q q1 q2 => by rw [hk q (Nat.lt_of_lt_of_le q1 hS.1)]; exact hS.2.1 q q1 q2⟩ (hP.kept fun j q hq => hk q.1 (hP j q hq).lt) hD) (fun z hz => hfr _ (hS.2.2 z hz)) h1 h2
theorem g_get (o : Ok x cc nL own d mc ms) {C : String} {T : u_T} {N ci i a : Nat} {fs : List Value} (hin : ∀ w ∈ u_ws C T N, w ∈ Ug) (q0 : Nat) (he : wd[q0]? = some (a, .inr (ci, fs))) (hc : vwCl[ci]? = some (C, T, N)) (j : Nat) (hj : j < N) {v : Value} (hv : fs[j]? = some v) {ref : String} (hsame : (T j).1 = ref) (hlk : Cond.fieldLink own i ref (T j).2.1 (T j).2.2.1 ∈ Ug) (dg : decode cc pc = .ok (.getfield i, 3)) (kk : G x nL k n wd lv (pc + 3) (v :: st)) : G x nL k n wd lv pc (.ref a :: st) := fun H locs ls hP hD hS hl => va_get o.1 o.2.1 o.2.2.2.2.1 hin o.2.2.2.1 o.2.2.2.2.2.1 hP q0 he hc j hj (o.2.2.2.2.1 _ hlk) (fun _ h => by rw [← hsame]; exact h) hv dg (kk H locs ls hP hD hS hl)
theorem g_getN (o : Ok x cc nL own d mc ms) {C host : String} {T : u_T} {N ci i a : Nat} {fs : List Value} (hin : ∀ w ∈ u_ws C T N, w ∈ Ug) (q0 : Nat) (he : wd[q0]? = some (a, .inr (ci, fs))) (hc : vwCl[ci]? = some (C, T, N)) (j : Nat) (hj : j < N) {v : Value} (hv : fs[j]? = some v) {ref : String} (hsame : (T j).1 = ref) (hlk : Cond.fieldLinkNest own i ref (T j).2.1 (T j).2.2.1 host ∈ Ue) (dg : decode cc pc = .ok (.getfield i, 3)) (kk : G x nL k n wd lv (pc + 3) (v :: st)) : G x nL k n wd lv pc (.ref a :: st) := fun H locs ls hP hD hS hl => va_getN o.1 o.2.1 o.2.2.2.2.1 hin o.2.2.2.1 o.2.2.2.2.2.1 hP q0 he hc j hj (va_Nw.use rfl (o.2.2.2.2.2.2.2.1.1 _ hlk)) (fun _ h => by rw [← hsame]; exact h) hv dg (kk H locs ls hP hD hS hl)
theorem g_put (o : Ok x cc nL own d mc ms) {C : String} {T : u_T} {N ci i a : Nat} {fs : List Value} (hin : ∀ w ∈ u_ws C T N, w ∈ Ug) (ty0 : Nat → FieldType) (hty : ∀ k, k < N → parseFieldDescriptor (T k).2.2.1 = some (ty0 k)) (hnm : ∀ a, a < N → ∀ b, b < N → a ≠ b → (T a).2.1 ≠ (T b).2.1) (q0 : Nat) (he : wd[q0]? = some (a, .inr (ci, fs))) (hc : vwCl[ci]? = some (C, T, N)) (j : Nat) (hj : j < N) {v : Value} {ref : String} (hsame : (T j).1 = ref) (hfin : (T j).2.2.2 = false) (hn : narrow (ty0 j) v = v) (hfit : fits (ty0 j) v = true) (hlen : j < fs.length) (hlk : Cond.fieldLink own i ref (T j).2.1 (T j).2.2.1 ∈ Ug) {wd2 : va_W} (hw : wd.set q0 (a, .inr (ci, fs.set j v)) = wd2) (dg : decode cc pc = .ok (.putfield i, 3)) (kk : G x nL k n wd2 lv (pc + 3) st) : G x nL k n wd lv pc (v :: .ref a :: st) := fun H locs ls hP hD hS hl => va_put o.1 o.2.1 o.2.2.2.2.1 hin ty0 hty hnm o.2.2.2.1 o.2.2.2.2.2.1 hP hD hS q0 he hc j hj (o.2.2.2.2.1 _ hlk) (fun _ h => by rw [← hsame]; exact h) hfin (hty j hj) hn hfit hlen dg (fun H1 locs1 hP1 hD1 hS1 => kk H1 locs1 ls (hw ▸ hP1) (hw ▸ hD1) hS1 hl)
theorem g_putN (o : Ok x cc nL own d mc ms) {C host : String} {T : u_T} {N ci i a : Nat} {fs : List Value} (hin : ∀ w ∈ u_ws C T N, w ∈ Ug) (ty0 : Nat → FieldType) (hty : ∀ k, k < N → parseFieldDescriptor (T k).2.2.1 = some (ty0 k)) (hnm : ∀ a, a < N → ∀ b, b < N → a ≠ b → (T a).2.1 ≠ (T b).2.1) (q0 : Nat) (he : wd[q0]? = some (a, .inr (ci, fs))) (hc : vwCl[ci]? = some (C, T, N)) (j : Nat) (hj : j < N) {v : Value} {ref : String} (hsame : (T j).1 = ref) (hfin : (T j).2.2.2 = false) (hn : narrow (ty0 j) v = v) (hfit : fits (ty0 j) v = true) (hlen : j < fs.length) (hlk : Cond.fieldLinkNest own i ref (T j).2.1 (T j).2.2.1 host ∈ Ue) {wd2 : va_W} (hw : wd.set q0 (a, .inr (ci, fs.set j v)) = wd2) (dg : decode cc pc = .ok (.putfield i, 3)) (kk : G x nL k n wd2 lv (pc + 3) st) : G x nL k n wd lv pc (v :: .ref a :: st) := fun H locs ls hP hD hS hl => va_putN o.1 o.2.1 o.2.2.2.2.1 hin ty0 hty hnm o.2.2.2.1 o.2.2.2.2.2.1 hP hD hS q0 he hc j hj (va_Nw.use rfl (o.2.2.2.2.2.2.2.1.1 _ hlk)) (fun _ h => by rw [← hsame]; exact h) hfin (hty j hj) hn hfit hlen dg (fun H1 locs1 hP1 hD1 hS1 => kk H1 locs1 ls (hw ▸ hP1) (hw ▸ hD1) hS1 hl)
theorem g_iald (o : Ok x cc nL own d mc ms) {a N : Nat} {f : Nat → Int32} {i : Int32} {α : Type} {r : α} {B : Option α} (q0 : Nat) (he : wd[q0]? = some (a, .inl (cxT x 0, N, .inl f))) (dg : decode cc pc = .ok (.iaload, 1)) (hf : gd (inb i N) B = some r) (kk : B = some r → G x nL k n wd lv (pc + 1) (.int (f i.toNatClampNeg) :: st)) : G x nL k n wd lv pc (.int i :: .ref a :: st) := fun H locs ls hP hD hS hl => va_iald o.1 o.2.1 o.2.2.2.2.2.1 hP q0 0 he rfl (inb_in (gd_some hf).1) dg (kk (gd_some hf).2 H locs ls hP hD hS hl)
theorem g_cald (o : Ok x cc nL own d mc ms) {a N : Nat} {f : Nat → Int32} {i : Int32} {α : Type} {r : α} {B : Option α} (q0 : Nat) (he : wd[q0]? = some (a, .inl (cxT x 1, N, .inl f))) (dg : decode cc pc = .ok (.caload, 1)) (hf : gd (inb i N) B = some r) (kk : B = some r → G x nL k n wd lv (pc + 1) (.int (f i.toNatClampNeg) :: st)) : G x nL k n wd lv pc (.int i :: .ref a :: st) := fun H locs ls hP hD hS hl => va_cald o.1 o.2.1 o.2.2.2.2.2.1 hP q0 1 he rfl (inb_in (gd_some hf).1) dg (kk (gd_some hf).2 H locs ls hP hD hS hl)
theorem g_zald (o : Ok x cc nL own d mc ms) {a N : Nat} {f : Nat → Int32} {i : Int32} {α : Type} {r : α} {B : Option α} (q0 : Nat) (he : wd[q0]? = some (a, .inl (cxT x 2, N, .inl f))) (dg : decode cc pc = .ok (.baload, 1)) (hf : gd (inb i N) B = some r) (kk : B = some r → G x nL k n wd lv (pc + 1) (.int (f i.toNatClampNeg) :: st)) : G x nL k n wd lv pc (.int i :: .ref a :: st) := fun H locs ls hP hD hS hl => va_zald o.1 o.2.1 o.2.2.2.2.2.1 hP q0 2 he rfl (inb_in (gd_some hf).1) dg (kk (gd_some hf).2 H locs ls hP hD hS hl)
theorem g_lald (o : Ok x cc nL own d mc ms) {a N : Nat} {f : Nat → Int64} {i : Int32} {α : Type} {r : α} {B : Option α} (q0 : Nat) (he : wd[q0]? = some (a, .inl (cxT x 3, N, .inr (.inl f)))) (dg : decode cc pc = .ok (.laload, 1)) (hf : gd (inb i N) B = some r) (kk : B = some r → G x nL k n wd lv (pc + 1) (.long (f i.toNatClampNeg) :: st)) : G x nL k n wd lv pc (.int i :: .ref a :: st) := fun H locs ls hP hD hS hl => va_lald o.1 o.2.1 o.2.2.2.2.2.1 hP q0 3 he rfl (inb_in (gd_some hf).1) dg (kk (gd_some hf).2 H locs ls hP hD hS hl)
theorem g_iast (o : Ok x cc nL own d mc ms) {a N : Nat} {f : Nat → Int32} {i v : Int32} {α : Type} {r : α} {B : Option α} (q0 : Nat) (he : wd[q0]? = some (a, .inl (cxT x 0, N, .inl f))) {wd2 : va_W} (hw : wd.set q0 (a, .inl (cxT x 0, N, .inl (upd f i.toNatClampNeg v))) = wd2) (dg : decode cc pc = .ok (.iastore, 1)) (hf : gd (inb i N) B = some r) (kk : B = some r → G x nL k n wd2 lv (pc + 1) st) : G x nL k n wd lv pc (.int v :: .int i :: .ref a :: st) := fun H locs ls hP hD hS hl => va_iast o.1 o.2.1 o.2.2.2.2.2.1 hP hD hS q0 0 he rfl (inb_in (gd_some hf).1) dg (fun H1 locs1 hP1 hD1 hS1 => kk (gd_some hf).2 H1 locs1 ls (hw ▸ hP1) (hw ▸ hD1) hS1 hl)
theorem g_cast (o : Ok x cc nL own d mc ms) {a N : Nat} {f : Nat → Int32} {i v : Int32} {α : Type} {r : α} {B : Option α} (q0 : Nat) (he : wd[q0]? = some (a, .inl (cxT x 1, N, .inl f))) {wd2 : va_W} (hw : wd.set q0 (a, .inl (cxT x 1, N, .inl (upd f i.toNatClampNeg (vp_nar .char v)))) = wd2) (dg : decode cc pc = .ok (.castore, 1)) (hf : gd (inb i N) B = some r) (kk : B = some r → G x nL k n wd2 lv (pc + 1) st) : G x nL k n wd lv pc (.int v :: .int i :: .ref a :: st) := fun H locs ls hP hD hS hl => va_cast o.1 o.2.1 o.2.2.2.2.2.1 hP hD hS q0 1 he rfl (inb_in (gd_some hf).1) dg (fun H1 locs1 hP1 hD1 hS1 => kk (gd_some hf).2 H1 locs1 ls (hw ▸ hP1) (hw ▸ hD1) hS1 hl)
theorem g_zast (o : Ok x cc nL own d mc ms) {a N : Nat} {f : Nat → Int32} {i v : Int32} {α : Type} {r : α} {B : Option α} (q0 : Nat) (he : wd[q0]? = some (a, .inl (cxT x 2, N, .inl f))) {wd2 : va_W} (hw : wd.set q0 (a, .inl (cxT x 2, N, .inl (upd f i.toNatClampNeg (vp_nar .boolean v)))) = wd2) (dg : decode cc pc = .ok (.bastore, 1)) (hf : gd (inb i N) B = some r) (kk : B = some r → G x nL k n wd2 lv (pc + 1) st) : G x nL k n wd lv pc (.int v :: .int i :: .ref a :: st) := fun H locs ls hP hD hS hl => va_zast o.1 o.2.1 o.2.2.2.2.2.1 hP hD hS q0 2 he rfl (inb_in (gd_some hf).1) dg (fun H1 locs1 hP1 hD1 hS1 => kk (gd_some hf).2 H1 locs1 ls (hw ▸ hP1) (hw ▸ hD1) hS1 hl)
theorem g_last (o : Ok x cc nL own d mc ms) {a N : Nat} {f : Nat → Int64} {i : Int32} {v : Int64} {α : Type} {r : α} {B : Option α} (q0 : Nat) (he : wd[q0]? = some (a, .inl (cxT x 3, N, .inr (.inl f)))) {wd2 : va_W} (hw : wd.set q0 (a, .inl (cxT x 3, N, .inr (.inl (vp_updL f i.toNatClampNeg v)))) = wd2) (dg : decode cc pc = .ok (.lastore, 1)) (hf : gd (inb i N) B = some r) (kk : B = some r → G x nL k n wd2 lv (pc + 1) st) : G x nL k n wd lv pc (.long v :: .int i :: .ref a :: st) := fun H locs ls hP hD hS hl => va_last o.1 o.2.1 o.2.2.2.2.2.1 hP hD hS q0 3 he rfl (inb_in (gd_some hf).1) dg (fun H1 locs1 hP1 hD1 hS1 => kk (gd_some hf).2 H1 locs1 ls (hw ▸ hP1) (hw ▸ hD1) hS1 hl)
abbrev eIA : String := "java/lang/IllegalArgumentException"
abbrev eIS : String := "java/lang/IllegalStateException"
abbrev eIO : String := "java/lang/IndexOutOfBoundsException"
abbrev eNS : String := "java/util/NoSuchElementException"
abbrev eUO : String := "java/lang/UnsupportedOperationException"
theorem g_alen (o : Ok x cc nL own d mc ms) {a N : Nat} {f : Nat → Int32} {v : Int32} (q0 t0 : Nat) {ty : FieldType} (he : wd[q0]? = some (a, .inl (cxT x t0, N, .inl f))) (ht : (tysT (cxT x))[t0]? = some (cxT x t0, ty)) (hv : Int32.ofNat N = v) (dg : decode cc pc = .ok (.arraylength, 1)) (kk : G x nL k n wd lv (pc + 1) (.int v :: st)) : G x nL k n wd lv pc (.ref a :: st) := fun H locs ls hP hD hS hl => va_alen o.1 o.2.1 o.2.2.2.2.2.1 hP q0 t0 he ht hv dg (kk H locs ls hP hD hS hl)
theorem g_gets (o : Ok x cc nL own d mc ms) {C nm ds : String} {ty : FieldType} {N i : Nat} {f : Nat → Value} (h : SA C nm ds ty N f (cxA x) (cxs x) (cxs x).heap) (hlk : Cond.fieldLink own i C nm ds ∈ Ug) (dg : decode cc pc = .ok (.getstatic i, 3)) (kk : ∀ t : Nat, va_T ty t N f (cxA x) (cxs x) (cxs x).heap → G x nL k n wd lv (pc + 3) (.ref t :: st)) : G x nL k n wd lv pc st := by
  intro H locs ls hP hD hS hl
  obtain ⟨t, h1, h2⟩ := h
  exact va_gets o.1 o.2.1 h1 hS o.2.2.2.1 (o.2.2.2.2.1 _ hlk) (fun _ h => h) dg (kk t h2 H locs ls hP hD hS hl)
theorem g_ti (o : Ok x cc nL own d mc ms) {t N : Nat} {f : Nat → Int32} {i : Int32} {α : Type} {r : α} {B : Option α} (hT : va_T .int t N (fun j => .int (f j)) (cxA x) (cxs x) (cxs x).heap) (dg : decode cc pc = .ok (.iaload, 1)) (hf : gd (inb i N) B = some r) (kk : B = some r → G x nL k n wd lv (pc + 1) (.int (f i.toNatClampNeg) :: st)) : G x nL k n wd lv pc (.int i :: .ref t :: st) := fun H locs ls hP hD hS hl => va_ti o.1 o.2.1 hT hS (inb_in (gd_some hf).1) rfl dg (kk (gd_some hf).2 H locs ls hP hD hS hl)
theorem g_tl (o : Ok x cc nL own d mc ms) {t N : Nat} {f : Nat → Int64} {i : Int32} {α : Type} {r : α} {B : Option α} (hT : va_T .long t N (fun j => .long (f j)) (cxA x) (cxs x) (cxs x).heap) (dg : decode cc pc = .ok (.laload, 1)) (hf : gd (inb i N) B = some r) (kk : B = some r → G x nL k n wd lv (pc + 1) (.long (f i.toNatClampNeg) :: st)) : G x nL k n wd lv pc (.int i :: .ref t :: st) := fun H locs ls hP hD hS hl => va_tl o.1 o.2.1 hT hS (inb_in (gd_some hf).1) rfl dg (kk (gd_some hf).2 H locs ls hP hD hS hl)
end GR
end
section
/-! ===== contracts ===== -/
def WB (D : va_G) (T : Nat → ClassId) (A : Nat → Prop) (wd : va_W) (t : State) : Prop := va_P D vwCl wd t.heap ∧ va_K D vwCl (tysT T) t ∧ va_D A wd
def PcG (D : va_G) (T : Nat → ClassId) (sz : Nat) (vs : List Value) (wd : va_W) : Array Value → State → Prop := va_Pc vs (fun U => U.heap.size = sz ∧ va_P D vwCl wd U.heap ∧ va_K D vwCl (tysT T) U ∧ va_D (fun _ => True) wd ∧ Sx (va_A wd sz) U U.heap)
abbrev XcG {ρ : Type} (D : va_G) (T : Nat → ClassId) (A : Nat → Prop) (wd : va_W) (z : ρ ⊕ String) : String → State → State → Prop := vx_X (fun _ : Unit => True) (fun E _ t => z = .inr E ∧ WB D T A wd t) A
def CoI (l : Launch) (y : MethodName) (hd : Cond) (d mc ms : Nat) (vs : List Value) (wd wd2 : (Nat → ClassId) → va_W) (z : Int32 ⊕ String) : Prop := ∀ (D : va_G) (T : Nat → ClassId) (sz : Nat),
  vx_Met l y (hd :: Ug) (rmD d mc ms) (PcG D T sz vs (wd T)) (va_Qi (fun r (_ : Unit) => z = .inl r) (fun _ t => WB D T (va_A (wd T) sz) (wd2 T) t) (va_A (wd T) sz)) (XcG D T (va_A (wd T) sz) (wd2 T) z) mc ms (va_A (wd T) sz)
def CoL (l : Launch) (y : MethodName) (hd : Cond) (d mc ms : Nat) (vs : List Value) (wd wd2 : (Nat → ClassId) → va_W) (z : Int64 ⊕ String) : Prop := ∀ (D : va_G) (T : Nat → ClassId) (sz : Nat),
  vx_Met l y (hd :: Ug) (rmD d mc ms) (PcG D T sz vs (wd T)) (va_Ql (fun r (_ : Unit) => z = .inl r) (fun _ t => WB D T (va_A (wd T) sz) (wd2 T) t) (va_A (wd T) sz)) (XcG D T (va_A (wd T) sz) (wd2 T) z) mc ms (va_A (wd T) sz)
def CoV (l : Launch) (y : MethodName) (hd : Cond) (d mc ms : Nat) (vs : List Value) (wd wd2 : (Nat → ClassId) → va_W) (z : Unit ⊕ String) : Prop := ∀ (D : va_G) (T : Nat → ClassId) (sz : Nat),
  vx_Met l y (hd :: Ug) (rmD d mc ms) (PcG D T sz vs (wd T)) (va_Qv (fun _ : Unit => z = .inl ()) (fun _ t => WB D T (va_A (wd T) sz) (wd2 T) t) (va_A (wd T) sz)) (XcG D T (va_A (wd T) sz) (wd2 T) z) mc ms (va_A (wd T) sz)
theorem PcG_blind {D : va_G} {T : Nat → ClassId} {sz : Nat} {vs : List Value} {wd : va_W} : FrameBlind (PcG D T sz vs wd) := by
  intro a U g mk q
  obtain ⟨q0, q1, qP, qK, qD, qS⟩ := q
  exact ⟨q0, q1, qP, va_K.moved (u := U) (U := U.calling g mk a) (Vm.Alike.refl U.vm) qK, qD, qS.same rfl⟩
section MK
variable {l : Launch} {y : MethodName} {cc : ByteArray} {nL d mc ms : Nat} {ret : Option FieldType} {vs : List Value} {wd wd2 : (Nat → ClassId) → va_W}
theorem mkI {ty : FieldType} {z : Int32 ⊕ String} (hst : l.stackTraces = false) (hy : plainName y.cls = true) (hlen : (lg_sl vs).length ≤ nL)
    (body : ∀ x : Cx, cxl x = l → Ok x cc nL y.cls d mc ms → (∀ r, z = .inl r → RetI x cc ty mc ms (wd2 (cxT x)) r) → (∀ E, z = .inr E → RetX x mc ms (wd2 (cxT x)) E) → G x nL 0 0 (wd (cxT x)) (lv_args 0 vs) 0 []) :
    CoI l y (.code y cc nL (some ty)) d mc ms vs wd wd2 z := by
  intro D T sz
  refine vx_ofW (cc := cc) (maxL := nL) (ret := some ty) hy rfl ?_
  intro p e s m args below meth c s₁ B hml hno hv
  obtain ⟨rfl, hsz, hP, hK, hD0, hSx⟩ := hv
  subst hsz
  have hts := atoms_spec (ws := Cond.code y cc nL (some ty) :: Ug) B.pre
  have hD := hD0.self (sz := s.heap.size)
  have hl := lv_entry vs (n := nL) hlen
  rw [lg_entry_eq]
  refine body ((p, l, e, _, s, m, vs.toArray, below, meth, c), (va_A (wd T) s.heap.size, _, D, T)) rfl ⟨B.exec, B.bytes, hml, findClass_of_methodNamed B.named, fun w hw => hts w (List.mem_cons_of_mem _ hw), hK, fun q h => Or.inr h, hSx, B.notSynchronized, hst, Nat.le_refl _, Nat.le_refl _, Nat.le_refl _, Nat.le_refl _⟩ ?_ ?_ s.heap [] _ hP hD va_S.rf hl
  · intro r hz k n pc H locs ls h1 h2 hn dg hP hD hS
    refine W.widen h1 h2 (vx_ret (W.zret B.exec B.bytes B.returns hn (fun t ht hW => ⟨⟨r, (), rfl, hz, by rw [ht]; exact hP, va_K.moved hW.alike hK, hD⟩, hS.F ht⟩) hS.2.2 dg B.notSynchronized))
  · intro E hz
    exact ⟨_, _, _, rfl, hno, fun _ h => h, fun t hva hF hP hD => ⟨(), trivial, ⟨hz, hP, va_K.moved hva hK, hD⟩, hF⟩⟩
theorem mkL {z : Int64 ⊕ String} (hst : l.stackTraces = false) (hy : plainName y.cls = true) (hlen : (lg_sl vs).length ≤ nL)
    (body : ∀ x : Cx, cxl x = l → Ok x cc nL y.cls d mc ms → (∀ r, z = .inl r → RetL x cc mc ms (wd2 (cxT x)) r) → (∀ E, z = .inr E → RetX x mc ms (wd2 (cxT x)) E) → G x nL 0 0 (wd (cxT x)) (lv_args 0 vs) 0 []) :
    CoL l y (.code y cc nL (some .long)) d mc ms vs wd wd2 z := by
  intro D T sz
  refine vx_ofW (cc := cc) (maxL := nL) (ret := some .long) hy rfl ?_
  intro p e s m args below meth c s₁ B hml hno hv
  obtain ⟨rfl, hsz, hP, hK, hD0, hSx⟩ := hv
  subst hsz
  have hts := atoms_spec (ws := Cond.code y cc nL (some .long) :: Ug) B.pre
  have hD := hD0.self (sz := s.heap.size)
  have hl := lv_entry vs (n := nL) hlen
  rw [lg_entry_eq]
  refine body ((p, l, e, _, s, m, vs.toArray, below, meth, c), (va_A (wd T) s.heap.size, _, D, T)) rfl ⟨B.exec, B.bytes, hml, findClass_of_methodNamed B.named, fun w hw => hts w (List.mem_cons_of_mem _ hw), hK, fun q h => Or.inr h, hSx, B.notSynchronized, hst, Nat.le_refl _, Nat.le_refl _, Nat.le_refl _, Nat.le_refl _⟩ ?_ ?_ s.heap [] _ hP hD va_S.rf hl
  · intro r hz k n pc H locs ls h1 h2 dg hP hD hS
    refine W.widen h1 h2 (vx_ret (W.lret B.exec B.bytes B.returns (fun t ht hW => ⟨⟨r, (), rfl, hz, by rw [ht]; exact hP, va_K.moved hW.alike hK, hD⟩, hS.F ht⟩) hS.2.2 dg B.notSynchronized))
  · intro E hz
    exact ⟨_, _, _, rfl, hno, fun _ h => h, fun t hva hF hP hD => ⟨(), trivial, ⟨hz, hP, va_K.moved hva hK, hD⟩, hF⟩⟩
theorem mkV {z : Unit ⊕ String} (hst : l.stackTraces = false) (hy : plainName y.cls = true) (hlen : (lg_sl vs).length ≤ nL)
    (body : ∀ x : Cx, cxl x = l → Ok x cc nL y.cls d mc ms → (z = .inl () → RetV x cc mc ms (wd2 (cxT x))) → (∀ E, z = .inr E → RetX x mc ms (wd2 (cxT x)) E) → G x nL 0 0 (wd (cxT x)) (lv_args 0 vs) 0 []) :
    CoV l y (.code y cc nL none) d mc ms vs wd wd2 z := by
  intro D T sz
  refine vx_ofW (cc := cc) (maxL := nL) (ret := none) hy rfl ?_
  intro p e s m args below meth c s₁ B hml hno hv
  obtain ⟨rfl, hsz, hP, hK, hD0, hSx⟩ := hv
  subst hsz
  have hts := atoms_spec (ws := Cond.code y cc nL none :: Ug) B.pre
  have hD := hD0.self (sz := s.heap.size)
  have hl := lv_entry vs (n := nL) hlen
  rw [lg_entry_eq]
  refine body ((p, l, e, _, s, m, vs.toArray, below, meth, c), (va_A (wd T) s.heap.size, _, D, T)) rfl ⟨B.exec, B.bytes, hml, findClass_of_methodNamed B.named, fun w hw => hts w (List.mem_cons_of_mem _ hw), hK, fun q h => Or.inr h, hSx, B.notSynchronized, hst, Nat.le_refl _, Nat.le_refl _, Nat.le_refl _, Nat.le_refl _⟩ ?_ ?_ s.heap [] _ hP hD va_S.rf hl
  · intro hz k n pc H locs ls h1 h2 dg hP hD hS
    refine W.widen h1 h2 (vx_ret (W.vret B.exec B.bytes B.returns (fun t ht hW => ⟨⟨(), rfl, hz, by rw [ht]; exact hP, va_K.moved hW.alike hK, hD⟩, hS.F ht⟩) hS.2.2 dg B.notSynchronized))
  · intro E hz
    exact ⟨_, _, _, rfl, hno, fun _ h => h, fun t hva hF hP hD => ⟨(), trivial, ⟨hz, hP, va_K.moved hva hK, hD⟩, hF⟩⟩
end MK
/-! ===== calls ===== -/
/-- the callee's cells out of the caller's, and what comes back laid in their place -/
def Split (wd wc wc2 wd2 : va_W) : Prop := ∃ (isC isR : List Nat) (wr : va_W) (pm : List Nat), isC.map (fun i => wd[i]?) = wc.map some ∧ va_nd isC = true ∧ isR.map (fun i => wd[i]?) = wr.map some ∧ va_nd isR = true ∧ (∀ i ∈ isR, i ∉ isC) ∧ va_nd pm = true ∧ pm.map (fun i => (wr ++ wc2)[i]?) = wd2.map some
theorem fmap_of {w w2 : va_W} {is : List Nat} (h : is.map (fun i => w[i]?) = w2.map some) : is.filterMap (fun i => w[i]?) = w2 := by
  have h1 : is.filterMap (fun i => w[i]?) = (is.map (fun i => w[i]?)).filterMap id := by rw [List.filterMap_map]; rfl
  rw [h1, h, List.filterMap_map]
  exact List.filterMap_some
/-- the call's run, whatever its kind -/
def CanRun (x : Cx) (nL : Nat) (wd : va_W) (y : MethodName) (hd : Cond) (d mc ms : Nat) (vs : List Value) (k n pc : Nat) (st0 rest : List Value) : Prop :=
  ∀ (H : Heap) (locs : List Loc) (ls : Array Slot), ls.size = nL → va_P (cxD x) vwCl wd H → ∀ (Pc : Array Value → State → Prop) (Qc : Array Value → State → Outcome → State → Prop) (XC : String → State → State → Prop) (free : Addr → Prop), vx_Met (cxl x) y (hd :: Ug) (rmD d mc ms) Pc Qc XC mc ms free → FrameBlind Pc → (∀ U : State, U.heap = H → (cxs x).WarmedH U.vm → Pc vs.toArray U) →
    vx_Run (cxp x) (cxl x) (cxe x) (cxR x) (cxs x) (cxm x) (cxa x) (cxb x) (cxh x) (cxc x) H locs k n mc ms (F0 (cxm x) pc ls st0) rest (Qc vs.toArray) XC free
section CR
variable {x : Cx} {cc : ByteArray} {nL : Nat} {own : String} {d mc ms k n : Nat} {wd : va_W} {lv : List (Nat × Value)} {pc : Nat} {st0 rest : List Value}
variable {y : MethodName} {bytes : ByteArray} {maxL d2 mc2 ms2 i a : Nat} {ret : Option FieldType} {As : List Value}
theorem room_d (o : Ok x cc nL own d mc ms) (hd : d2 < d) (hm : maxL ≤ 41) : (rmD d2 mc2 ms2).frames + 1 ≤ (cxR x).frames ∧ 8 + (maxL + 11) + (rmD d2 mc2 ms2).locals ≤ (cxR x).locals := by
  obtain ⟨h1, h2, -, -⟩ := o.2.2.2.2.2.2.2.2.2.2
  refine ⟨?_, ?_⟩
  · show 10 + 2 * d2 + 1 ≤ _
    omega
  · show 8 + (maxL + 11) + (200 + 60 * d2) ≤ _
    omega
theorem can_V (o : Ok x cc nL own d mc ms) {C : String} {T : u_T} {N ci q0 : Nat} {fs : List Value} (he : wd[q0]? = some (a, .inr (ci, fs))) (hc : vwCl[ci]? = some (C, T, N)) (hd : d2 < d) (hm : maxL ≤ 41) (hcode : Cond.code y bytes maxL ret ∈ Ug) (hini : Cond.initialized y.cls ∈ Ug) (hin : Cond.instanceMethod y ∈ Ug) (hsel : Cond.selects C y y ∈ Ug) (hlk : Cond.methodLink own i y ∈ Ug)
    (hy : y.cls ≠ "java/lang/invoke/MethodHandle" ∧ y.cls ≠ "java/lang/invoke/VarHandle" ∧ (parseMethodDescriptor y.desc).map (fun d => d.parameters.length) = some As.length) (hs : st0 = As.reverse ++ .ref a :: rest) (hr : (rest.map fun v => v.category).sum ≤ 8) (hk : k + mc2 ≤ mc ∧ n + ms2 ≤ ms) (dg : decode cc pc = .ok (.invokevirtual i, 3)) :
    CanRun x nL wd y (.code y bytes maxL ret) d2 mc2 ms2 (.ref a :: As) k n pc st0 rest := by
  intro H locs ls hls hP Pc Qc XC free hM hb hU
  have hts := o.2.2.2.2.1
  obtain ⟨-, -, hR3, hR4⟩ := o.2.2.2.2.2.2.2.2.2.2
  exact vx_runV ⟨o.1, o.2.1, o.2.2.1, o.2.2.2.1, hts⟩ hM ⟨callB_of As.length hts (Ug_cons hcode) rfl rfl rfl (hts _ hini) (hts _ hlk) hy (room_d o hd hm), hts _ hin, hts _ hsel⟩ ⟨hb, va_recv o.2.2.2.2.2.1 hP hc he, hU⟩ rfl rfl hls hs (lv_room hr) dg ⟨Nat.le_trans hk.1 hR3, Nat.le_trans hk.2 hR4⟩
theorem can_S (o : Ok x cc nL own d mc ms) (hd : d2 < d) (hm : maxL ≤ 41) (hcode : Cond.code y bytes maxL ret ∈ Ug) (hini : Cond.initialized y.cls ∈ Ug) (hst : Cond.static y ∈ Ug) (hlk : Cond.methodLink own i y ∈ Ug)
    (hy : y.cls ≠ "java/lang/invoke/MethodHandle" ∧ y.cls ≠ "java/lang/invoke/VarHandle" ∧ (parseMethodDescriptor y.desc).map (fun d => d.parameters.length) = some As.length) (hs : st0 = As.reverse ++ rest) (hr : (rest.map fun v => v.category).sum ≤ 8) (hk : k + mc2 ≤ mc ∧ n + ms2 ≤ ms) (dg : decode cc pc = .ok (.invokestatic i, 3)) :
    CanRun x nL wd y (.code y bytes maxL ret) d2 mc2 ms2 As k n pc st0 rest := by
  intro H locs ls hls hP Pc Qc XC free hM hb hU
  have hts := o.2.2.2.2.1
  obtain ⟨-, -, hR3, hR4⟩ := o.2.2.2.2.2.2.2.2.2.2
  exact vx_runS ⟨o.1, o.2.1, o.2.2.1, o.2.2.2.1, hts⟩ hM ⟨callB_of As.length hts (Ug_cons hcode) rfl rfl rfl (hts _ hini) (hts _ hlk) hy (room_d o hd hm), hts _ hst⟩ ⟨hb, hU⟩ rfl rfl hls hs (lv_room hr) dg ⟨Nat.le_trans hk.1 hR3, Nat.le_trans hk.2 hR4⟩
theorem can_VN (o : Ok x cc nL own d mc ms) {C host : String} {T : u_T} {N ci q0 : Nat} {fs : List Value} (he : wd[q0]? = some (a, .inr (ci, fs))) (hc : vwCl[ci]? = some (C, T, N)) (hd : d2 < d) (hm : maxL ≤ 41) (hcode : Cond.code y bytes maxL ret ∈ Ug) (hini : Cond.initialized y.cls ∈ Ug) (hin : Cond.instanceMethod y ∈ Ug) (hsel : Cond.selects C y y ∈ Ug) (hlk : Cond.methodLinkNest own i y host ∈ Ue)
    (hy : y.cls ≠ "java/lang/invoke/MethodHandle" ∧ y.cls ≠ "java/lang/invoke/VarHandle" ∧ (parseMethodDescriptor y.desc).map (fun d => d.parameters.length) = some As.length) (hs : st0 = As.reverse ++ .ref a :: rest) (hr : (rest.map fun v => v.category).sum ≤ 8) (hk : k + mc2 ≤ mc ∧ n + ms2 ≤ ms) (dg : decode cc pc = .ok (.invokevirtual i, 3)) :
    CanRun x nL wd y (.code y bytes maxL ret) d2 mc2 ms2 (.ref a :: As) k n pc st0 rest := by
  intro H locs ls hls hP Pc Qc XC free hM hb hU
  have hts := o.2.2.2.2.1
  obtain ⟨-, -, hR3, hR4⟩ := o.2.2.2.2.2.2.2.2.2.2
  exact vx_runVN ⟨o.1, o.2.1, o.2.2.1, o.2.2.2.1, hts⟩ hM ⟨va_cnB As.length hts (Ug_cons hcode) rfl rfl rfl (o.2.2.2.2.2.2.2.1.1 _ hlk) (hts _ hini) hy (room_d o hd hm), hts _ hin, hts _ hsel⟩ ⟨hb, va_recv o.2.2.2.2.2.1 hP hc he, hU⟩ rfl rfl hls hs (lv_room hr) dg ⟨Nat.le_trans hk.1 hR3, Nat.le_trans hk.2 hR4⟩
theorem can_SN (o : Ok x cc nL own d mc ms) {host : String} (hd : d2 < d) (hm : maxL ≤ 41) (hcode : Cond.code y bytes maxL ret ∈ Ug) (hini : Cond.initialized y.cls ∈ Ug) (hst : Cond.static y ∈ Ug) (hlk : Cond.methodLinkNest own i y host ∈ Ue)
    (hy : y.cls ≠ "java/lang/invoke/MethodHandle" ∧ y.cls ≠ "java/lang/invoke/VarHandle" ∧ (parseMethodDescriptor y.desc).map (fun d => d.parameters.length) = some As.length) (hs : st0 = As.reverse ++ rest) (hr : (rest.map fun v => v.category).sum ≤ 8) (hk : k + mc2 ≤ mc ∧ n + ms2 ≤ ms) (dg : decode cc pc = .ok (.invokestatic i, 3)) :
    CanRun x nL wd y (.code y bytes maxL ret) d2 mc2 ms2 As k n pc st0 rest := by
  intro H locs ls hls hP Pc Qc XC free hM hb hU
  have hts := o.2.2.2.2.1
  obtain ⟨-, -, hR3, hR4⟩ := o.2.2.2.2.2.2.2.2.2.2
  exact vx_runSN ⟨o.1, o.2.1, o.2.2.1, o.2.2.2.1, hts⟩ hM ⟨va_cnB As.length hts (Ug_cons hcode) rfl rfl rfl (o.2.2.2.2.2.2.2.1.1 _ hlk) (hts _ hini) hy (room_d o hd hm), hts _ hst, trivial⟩ ⟨hb, hU⟩ rfl rfl hls hs (lv_room hr) dg ⟨Nat.le_trans hk.1 hR3, Nat.le_trans hk.2 hR4⟩
theorem can_SX (o : Ok x cc nL own d mc ms) {hh : List (Nat × Nat × Nat × Nat)} (hd : d2 < d) (hm : maxL ≤ 41) (hcode : Cond.codeWith y bytes maxL ret hh ∈ Ug) (hini : Cond.initialized y.cls ∈ Ug) (hst : Cond.static y ∈ Ug) (hlk : Cond.methodLink own i y ∈ Ug)
    (hy : y.cls ≠ "java/lang/invoke/MethodHandle" ∧ y.cls ≠ "java/lang/invoke/VarHandle" ∧ (parseMethodDescriptor y.desc).map (fun d => d.parameters.length) = some As.length) (hs : st0 = As.reverse ++ rest) (hr : (rest.map fun v => v.category).sum ≤ 8) (hk : k + mc2 ≤ mc ∧ n + ms2 ≤ ms) (dg : decode cc pc = .ok (.invokestatic i, 3)) :
    CanRun x nL wd y (.codeWith y bytes maxL ret hh) d2 mc2 ms2 As k n pc st0 rest := by
  intro H locs ls hls hP Pc Qc XC free hM hb hU
  have hts := o.2.2.2.2.1
  obtain ⟨-, -, hR3, hR4⟩ := o.2.2.2.2.2.2.2.2.2.2
  have hG : GoodIn Ug (va_wsS own i y (Cond.codeWith y bytes maxL ret hh :: Ug)) := by
    intro w hw
    rcases List.mem_append.mp hw with h | h
    · rcases List.mem_cons.mp h with rfl | h
      · exact Ug_good _ hlk
      · rcases List.mem_cons.mp h with rfl | h
        · exact Ug_good _ hst
        · rcases List.mem_cons.mp h with rfl | h
          · exact Ug_good _ hini
          · cases h
    · exact Ug_cons hcode w h
  exact vx_runSX ⟨o.1, o.2.1, o.2.2.1, o.2.2.2.1, hts⟩ hM (vx_cwSW As.length hts hG rfl rfl rfl hy (room_d o hd hm)) ⟨hb, hU⟩ rfl rfl hls hs (lv_room hr) dg ⟨Nat.le_trans hk.1 hR3, Nat.le_trans hk.2 hR4⟩
/-- what a callee's start asks, out of the caller's world -/
theorem pre_call (o : Ok x cc nL own d mc ms) {wc : va_W} {vs : List Value} {H : Heap} {locs : List Loc} {isC : List Nat} (hC : isC.map (fun i => wd[i]?) = wc.map some) (hnC : va_nd isC = true) (hP : va_P (cxD x) vwCl wd H) (hD : va_D (cxA x) wd) (hS : va_S (cxA x) (cxs x).heap H locs) : ∀ U : State, U.heap = H → (cxs x).WarmedH U.vm → PcG (cxD x) (cxT x) H.size vs wc vs.toArray U := by
  intro U hU hW
  refine ⟨rfl, by rw [hU], by rw [hU]; exact hP.sub isC (fmap_of hC), va_K.moved hW.alike o.2.2.2.2.2.1, (hD.sub isC hnC hC).weaken (fun _ _ _ _ => trivial), ?_⟩
  rw [hU]
  exact o.2.2.2.2.2.2.2.1.go hW (fun q h1 h2 => hS.2.1 q h1 h2) (va_free hD hS o.2.2.2.2.2.2.1 isC hC)
theorem gcI (o : Ok x cc nL own d mc ms) {hd : Cond} {vs : List Value} {wc wc2 : (Nat → ClassId) → va_W} {wd2 : va_W} {z : Int32 ⊕ String} (hM : CoI (cxl x) y hd d2 mc2 ms2 vs wc wc2 z) (hcr : CanRun x nL wd y hd d2 mc2 ms2 vs k n pc st0 rest) (hsp : Split wd (wc (cxT x)) (wc2 (cxT x)) wd2)
    (kx : ∀ E, z = .inr E → XW x nL (k + mc2) (n + ms2) wd2 lv pc rest E) (kk : ∀ r, z = .inl r → G x nL (k + mc2) (n + ms2) wd2 lv (pc + 3) (.int r :: rest)) : G x nL k n wd lv pc st0 := by
  intro H locs ls hP hD hS hl
  obtain ⟨isC, isR, wr, pm, hC, hnC, hR, hnR, hdis, hnP, hpm⟩ := hsp
  have hF := va_free hD hS o.2.2.2.2.2.2.1 isC hC
  refine vx_calli (hcr H locs ls hl.1 hP _ _ _ _ (hM (cxD x) (cxT x) H.size) PcG_blind (pre_call o hC hnC hP hD hS)) hS (fun q _ h => hF q h) hF (fun q _ h => hF q h) ?_ ?_
  · intro E ce q9 u t H1 locs1 ht hva _ hB hz hk hS1 hc hv hcl
    obtain ⟨hz2, hP1, -, hD1⟩ := hB
    rw [ht] at hP1
    obtain ⟨hP2, hD2⟩ := va_join hP hD isC isR hC hR hnR hdis hk hF hP1 hD1
    exact kx E hz2 H1 locs1 ls q9 ce (hP2.sub pm (fmap_of hpm)) (hD2.sub pm hnP hpm) hS1 hl hc hv hcl
  · intro r u t H1 locs1 ht hva hz2 hB hz hk hS1
    obtain ⟨hP1, -, hD1⟩ := hB
    rw [ht] at hP1
    obtain ⟨hP2, hD2⟩ := va_join hP hD isC isR hC hR hnR hdis hk hF hP1 hD1
    exact kk r hz2 H1 locs1 ls (hP2.sub pm (fmap_of hpm)) (hD2.sub pm hnP hpm) hS1 hl
theorem gcL (o : Ok x cc nL own d mc ms) {hd : Cond} {vs : List Value} {wc wc2 : (Nat → ClassId) → va_W} {wd2 : va_W} {z : Int64 ⊕ String} (hM : CoL (cxl x) y hd d2 mc2 ms2 vs wc wc2 z) (hcr : CanRun x nL wd y hd d2 mc2 ms2 vs k n pc st0 rest) (hsp : Split wd (wc (cxT x)) (wc2 (cxT x)) wd2)
    (kx : ∀ E, z = .inr E → XW x nL (k + mc2) (n + ms2) wd2 lv pc rest E) (kk : ∀ r, z = .inl r → G x nL (k + mc2) (n + ms2) wd2 lv (pc + 3) (.long r :: rest)) : G x nL k n wd lv pc st0 := by
  intro H locs ls hP hD hS hl
  obtain ⟨isC, isR, wr, pm, hC, hnC, hR, hnR, hdis, hnP, hpm⟩ := hsp
  have hF := va_free hD hS o.2.2.2.2.2.2.1 isC hC
  refine vx_calll (hcr H locs ls hl.1 hP _ _ _ _ (hM (cxD x) (cxT x) H.size) PcG_blind (pre_call o hC hnC hP hD hS)) hS (fun q _ h => hF q h) hF (fun q _ h => hF q h) ?_ ?_
  · intro E ce q9 u t H1 locs1 ht hva _ hB hz hk hS1 hc hv hcl
    obtain ⟨hz2, hP1, -, hD1⟩ := hB
    rw [ht] at hP1
    obtain ⟨hP2, hD2⟩ := va_join hP hD isC isR hC hR hnR hdis hk hF hP1 hD1
    exact kx E hz2 H1 locs1 ls q9 ce (hP2.sub pm (fmap_of hpm)) (hD2.sub pm hnP hpm) hS1 hl hc hv hcl
  · intro r u t H1 locs1 ht hva hz2 hB hz hk hS1
    obtain ⟨hP1, -, hD1⟩ := hB
    rw [ht] at hP1
    obtain ⟨hP2, hD2⟩ := va_join hP hD isC isR hC hR hnR hdis hk hF hP1 hD1
    exact kk r hz2 H1 locs1 ls (hP2.sub pm (fmap_of hpm)) (hD2.sub pm hnP hpm) hS1 hl
theorem gcV (o : Ok x cc nL own d mc ms) {hd : Cond} {vs : List Value} {wc wc2 : (Nat → ClassId) → va_W} {wd2 : va_W} {z : Unit ⊕ String} (hM : CoV (cxl x) y hd d2 mc2 ms2 vs wc wc2 z) (hcr : CanRun x nL wd y hd d2 mc2 ms2 vs k n pc st0 rest) (hsp : Split wd (wc (cxT x)) (wc2 (cxT x)) wd2)
    (kx : ∀ E, z = .inr E → XW x nL (k + mc2) (n + ms2) wd2 lv pc rest E) (kk : z = .inl () → G x nL (k + mc2) (n + ms2) wd2 lv (pc + 3) rest) : G x nL k n wd lv pc st0 := by
  intro H locs ls hP hD hS hl
  obtain ⟨isC, isR, wr, pm, hC, hnC, hR, hnR, hdis, hnP, hpm⟩ := hsp
  have hF := va_free hD hS o.2.2.2.2.2.2.1 isC hC
  refine vx_callv (hcr H locs ls hl.1 hP _ _ _ _ (hM (cxD x) (cxT x) H.size) PcG_blind (pre_call o hC hnC hP hD hS)) hS (fun q _ h => hF q h) hF (fun q _ h => hF q h) ?_ ?_
  · intro E ce q9 u t H1 locs1 ht hva _ hB hz hk hS1 hc hv hcl
    obtain ⟨hz2, hP1, -, hD1⟩ := hB
    rw [ht] at hP1
    obtain ⟨hP2, hD2⟩ := va_join hP hD isC isR hC hR hnR hdis hk hF hP1 hD1
    exact kx E hz2 H1 locs1 ls q9 ce (hP2.sub pm (fmap_of hpm)) (hD2.sub pm hnP hpm) hS1 hl hc hv hcl
  · intro u t H1 locs1 ht hva hz2 hB hz hk hS1
    obtain ⟨hP1, -, hD1⟩ := hB
    rw [ht] at hP1
    obtain ⟨hP2, hD2⟩ := va_join hP hD isC isR hC hR hnR hdis hk hF hP1 hD1
    exact kk hz2 H1 locs1 ls (hP2.sub pm (fmap_of hpm)) (hD2.sub pm hnP hpm) hS1 hl
end CR
/-! ===== the worlds ===== -/
def wI (b : Nat → Nat) (v : St) (T : Nat → ClassId) : va_W := [(b 0, .inr (0, [.int (v 0 0), .ref (b 1), .ref (b 2), .int (v 0 3), .int (v 0 4), .ref (b 5), .ref (b 6)])), (b 1, .inl (T 0, 8, .inl (v 1))), (b 2, .inl (T 0, 8, .inl (v 2))), (b 5, .inl (T 0, 20, .inl (v 5))), (b 6, .inl (T 0, 20, .inl (v 6)))]
def wII (b : Nat → Nat) (v : St) (c : Nat → Nat) (w : St) (T : Nat → ClassId) : va_W := [(b 0, .inr (0, [.int (v 0 0), .ref (b 1), .ref (b 2), .int (v 0 3), .int (v 0 4), .ref (b 5), .ref (b 6)])), (b 1, .inl (T 0, 8, .inl (v 1))), (b 2, .inl (T 0, 8, .inl (v 2))), (b 5, .inl (T 0, 20, .inl (v 5))), (b 6, .inl (T 0, 20, .inl (v 6))),
  (c 0, .inr (0, [.int (w 0 0), .ref (c 1), .ref (c 2), .int (w 0 3), .int (w 0 4), .ref (c 5), .ref (c 6)])), (c 1, .inl (T 0, 8, .inl (w 1))), (c 2, .inl (T 0, 8, .inl (w 2))), (c 5, .inl (T 0, 20, .inl (w 5))), (c 6, .inl (T 0, 20, .inl (w 6)))]
def wX (a : Nat → Nat) (u : St) (b : Nat → Nat) (v : St) (c : Nat → Nat) (w : St) (T : Nat → ClassId) : va_W := [(a 0, .inr (1, [.ref (b 0), .ref (c 0), .int (u 0 2), .ref (a 3), .int (u 0 4), .int (u 0 5), .ref (a 6), .int (u 0 7), .ref (a 8), .ref (a 9)])), (a 3, .inl (T 1, 60, .inl (u 3))), (a 6, .inl (T 1, 79, .inl (u 6))), (a 8, .inl (T 0, 3, .inl (u 8))), (a 9, .inl (T 0, 3, .inl (u 9))),
  (b 0, .inr (0, [.int (v 0 0), .ref (b 1), .ref (b 2), .int (v 0 3), .int (v 0 4), .ref (b 5), .ref (b 6)])), (b 1, .inl (T 0, 8, .inl (v 1))), (b 2, .inl (T 0, 8, .inl (v 2))), (b 5, .inl (T 0, 20, .inl (v 5))), (b 6, .inl (T 0, 20, .inl (v 6))),
  (c 0, .inr (0, [.int (w 0 0), .ref (c 1), .ref (c 2), .int (w 0 3), .int (w 0 4), .ref (c 5), .ref (c 6)])), (c 1, .inl (T 0, 8, .inl (w 1))), (c 2, .inl (T 0, 8, .inl (w 2))), (c 5, .inl (T 0, 20, .inl (w 5))), (c 6, .inl (T 0, 20, .inl (w 6)))]
def wM (a : Nat → Nat) (u : St) (T : Nat → ClassId) : va_W := [(a 0, .inr (2, [.int (u 0 0), .ref (a 1), .ref (a 2), .int (u 0 3), .ref (a 4), .ref (a 5), .int (u 0 6), .int (u 0 7), .ref (a 8), .ref (a 9), .int (u 0 10), .int (u 0 11), .int (u 0 12), .int (u 0 13), .int (u 0 14), .ref (a 15), .ref (a 16), .ref (a 17), .int (u 0 18), .int (u 0 19), .int (u 0 20)])),
  (a 1, .inl (T 0, 8, .inl (u 1))), (a 2, .inl (T 0, 8, .inl (u 2))), (a 4, .inl (T 0, 20, .inl (u 4))), (a 5, .inl (T 0, 80, .inl (u 5))), (a 8, .inl (T 1, 60, .inl (u 8))), (a 9, .inl (T 1, 80, .inl (u 9))), (a 15, .inl (T 2, 48, .inl (u 15))), (a 16, .inl (T 0, 3, .inl (u 16))), (a 17, .inl (T 0, 128, .inl (u 17)))]
def w0 (_ : Nat → ClassId) : va_W := []
theorem nd_of : ∀ {l : List Nat}, l.Nodup → va_nd l = true
  | [], _ => rfl
  | a :: l, h => by
    have h2 := List.nodup_cons.mp h
    show (decide (a ∉ l) && va_nd l) = true
    rw [nd_of h2.2, decide_eq_true h2.1]
    rfl
theorem rg_map (wd : va_W) : (List.range wd.length).map (fun i => wd[i]?) = wd.map some := by
  apply List.ext_getElem?
  intro i
  rw [List.getElem?_map, List.getElem?_map]
  rcases Nat.lt_or_ge i wd.length with h | h
  · rw [List.getElem?_range h]; simp [h]
  · rw [List.getElem?_eq_none (by simpa using h), List.getElem?_eq_none h]; rfl
theorem sp_none {wd : va_W} : Split wd [] [] wd := ⟨[], List.range wd.length, wd, List.range wd.length, rfl, rfl, rg_map wd, nd_of List.nodup_range, (fun i _ h => by cases h), nd_of List.nodup_range, by rw [List.append_nil]; exact rg_map wd⟩
theorem sp_M {a : Nat → Nat} {u u2 : St} {T : Nat → ClassId} : Split (wM a u T) (wM a u T) (wM a u2 T) (wM a u2 T) := ⟨[0, 1, 2, 3, 4, 5, 6, 7, 8, 9], [], [], [0, 1, 2, 3, 4, 5, 6, 7, 8, 9], rfl, by decide, rfl, by decide, by decide, by decide, rfl⟩
theorem sp_I {b : Nat → Nat} {v v2 : St} {T : Nat → ClassId} : Split (wI b v T) (wI b v T) (wI b v2 T) (wI b v2 T) := ⟨[0, 1, 2, 3, 4], [], [], [0, 1, 2, 3, 4], rfl, by decide, rfl, by decide, by decide, by decide, rfl⟩
theorem sp_X {a b c : Nat → Nat} {u v w u2 v2 w2 : St} {T : Nat → ClassId} : Split (wX a u b v c w T) (wX a u b v c w T) (wX a u2 b v2 c w2 T) (wX a u2 b v2 c w2 T) := ⟨[0, 1, 2, 3, 4, 5, 6, 7, 8, 9, 10, 11, 12, 13, 14], [], [], [0, 1, 2, 3, 4, 5, 6, 7, 8, 9, 10, 11, 12, 13, 14], rfl, by decide, rfl, by decide, by decide, by decide, rfl⟩
theorem sp_XI {a b c : Nat → Nat} {u v w v2 : St} {T : Nat → ClassId} : Split (wX a u b v c w T) (wI b v T) (wI b v2 T) (wX a u b v2 c w T) := ⟨[5, 6, 7, 8, 9], [0, 1, 2, 3, 4, 10, 11, 12, 13, 14], [_, _, _, _, _, _, _, _, _, _], [0, 1, 2, 3, 4, 10, 11, 12, 13, 14, 5, 6, 7, 8, 9], rfl, by decide, rfl, by decide, by decide, by decide, rfl⟩
theorem sp_XS {a b c : Nat → Nat} {u v w v2 w2 : St} {T : Nat → ClassId} : Split (wX a u b v c w T) (wII b v c w T) (wII b v2 c w2 T) (wX a u b v2 c w2 T) := ⟨[5, 6, 7, 8, 9, 10, 11, 12, 13, 14], [0, 1, 2, 3, 4], [_, _, _, _, _], [0, 1, 2, 3, 4, 5, 6, 7, 8, 9, 10, 11, 12, 13, 14], rfl, by decide, rfl, by decide, by decide, by decide, rfl⟩
theorem sp_XT {a b c : Nat → Nat} {u v w v2 w2 : St} {T : Nat → ClassId} : Split (wX a u b v c w T) (wII c w b v T) (wII c w2 b v2 T) (wX a u b v2 c w2 T) := ⟨[10, 11, 12, 13, 14, 5, 6, 7, 8, 9], [0, 1, 2, 3, 4], [_, _, _, _, _], [0, 1, 2, 3, 4, 10, 11, 12, 13, 14, 5, 6, 7, 8, 9], rfl, by decide, rfl, by decide, by decide, by decide, rfl⟩
end
section
theorem inX0_t : ∀ w ∈ u_ws RX0 TX0 7, w ∈ lw_tbl := mem_by [96, 98, 100, 102, 104, 106, 108] (by decide +kernel) (by decide +kernel)
theorem inX0_g : (u_ws RX0 TX0 7).all goodWord = true := by decide +kernel
theorem inX0 : ∀ w ∈ u_ws RX0 TX0 7, w ∈ Ug := fun w h => Ug_in (inX0_t w h) (List.all_eq_true.mp inX0_g w h)
theorem inX1_t : ∀ w ∈ u_ws RX1 TX1 10, w ∈ lw_tbl := mem_by [122, 124, 126, 128, 130, 132, 134, 136, 138, 140] (by decide +kernel) (by decide +kernel)
theorem inX1_g : (u_ws RX1 TX1 10).all goodWord = true := by decide +kernel
theorem inX1 : ∀ w ∈ u_ws RX1 TX1 10, w ∈ Ug := fun w h => Ug_in (inX1_t w h) (List.all_eq_true.mp inX1_g w h)
theorem inX2_t : ∀ w ∈ u_ws RX2 TX2 21, w ∈ lw_tbl := mem_by [940, 942, 944, 946, 948, 950, 952, 954, 956, 958, 960, 962, 964, 966, 968, 970, 972, 974, 976, 978, 980] (by decide +kernel) (by decide +kernel)
theorem inX2_g : (u_ws RX2 TX2 21).all goodWord = true := by decide +kernel
theorem inX2 : ∀ w ∈ u_ws RX2 TX2 21, w ∈ Ug := fun w h => Ug_in (inX2_t w h) (List.all_eq_true.mp inX2_g w h)
theorem ic_m1 : Int32.ofInt (-1) = (-1) := by decide +kernel
theorem ic_0 : Int32.ofInt (0) = 0 := by decide +kernel
theorem ic_1 : Int32.ofInt (1) = 1 := by decide +kernel
theorem ic_2 : Int32.ofInt (2) = 2 := by decide +kernel
theorem ic_3 : Int32.ofInt (3) = 3 := by decide +kernel
theorem ic_4 : Int32.ofInt (4) = 4 := by decide +kernel
theorem ic_5 : Int32.ofInt (5) = 5 := by decide +kernel
theorem bp_6 : (Int8.ofInt (6)).toInt32 = 6 := by decide +kernel
theorem bp_8 : (Int8.ofInt (8)).toInt32 = 8 := by decide +kernel
theorem bp_10 : (Int8.ofInt (10)).toInt32 = 10 := by decide +kernel
theorem bp_12 : (Int8.ofInt (12)).toInt32 = 12 := by decide +kernel
theorem bp_15 : (Int8.ofInt (15)).toInt32 = 15 := by decide +kernel
theorem bp_16 : (Int8.ofInt (16)).toInt32 = 16 := by decide +kernel
theorem bp_20 : (Int8.ofInt (20)).toInt32 = 20 := by decide +kernel
theorem bp_32 : (Int8.ofInt (32)).toInt32 = 32 := by decide +kernel
theorem bp_44 : (Int8.ofInt (44)).toInt32 = 44 := by decide +kernel
theorem bp_48 : (Int8.ofInt (48)).toInt32 = 48 := by decide +kernel
theorem bp_49 : (Int8.ofInt (49)).toInt32 = 49 := by decide +kernel
theorem bp_60 : (Int8.ofInt (60)).toInt32 = 60 := by decide +kernel
theorem bp_63 : (Int8.ofInt (63)).toInt32 = 63 := by decide +kernel
theorem bp_64 : (Int8.ofInt (64)).toInt32 = 64 := by decide +kernel
theorem bp_79 : (Int8.ofInt (79)).toInt32 = 79 := by decide +kernel
theorem bp_80 : (Int8.ofInt (80)).toInt32 = 80 := by decide +kernel
theorem bp_126 : (Int8.ofInt (126)).toInt32 = 126 := by decide +kernel
theorem bp_127 : (Int8.ofInt (127)).toInt32 = 127 := by decide +kernel
theorem sp_128 : (Int16.ofInt (128)).toInt32 = 128 := by decide +kernel
theorem inc_m1 (a : Int32) : a + Int32.ofInt (-1) = a + (-1) := congrArg (fun q => a + q) (by decide +kernel)
theorem inc_1 (a : Int32) : a + Int32.ofInt (1) = a + 1 := congrArg (fun q => a + q) (by decide +kernel)
theorem inc_6 (a : Int32) : a + Int32.ofInt (6) = a + 6 := congrArg (fun q => a + q) (by decide +kernel)
theorem lc_0 : Int64.ofNat ((0 : Fin 2) : Nat) = 0 := by decide +kernel
theorem lc_1 : Int64.ofNat ((1 : Fin 2) : Nat) = 1 := by decide +kernel
theorem nb_0 : narrow .boolean (.int 0) = .int 0 := by decide +kernel
theorem nb_1 : narrow .boolean (.int 1) = .int 1 := by decide +kernel
theorem ob_0 : okB 0 = true := by decide +kernel
theorem ob_1 : okB 1 = true := by decide +kernel
section SR
variable {x : Cx} {cc : ByteArray} {nL : Nat} {own : String} {d mc ms k n : Nat} {lv : List (Nat × Value)} {pc : Nat} {st : List Value} {a b c : Nat → Nat} {u v w : St}
theorem M_get0 (o : Ok x cc nL own d mc ms) {i : Nat} (hlk : Cond.fieldLink own i RX2 "thrown" "I" ∈ Ug) (dg : decode cc pc = .ok (.getfield i, 3)) (kk : G x nL k n (wM a u (cxT x)) lv (pc + 3) (.int (u 0 0) :: st)) : G x nL k n (wM a u (cxT x)) lv pc (.ref (a 0) :: st) := g_get o inX2 0 rfl rfl 0 (Nat.le_of_ble_eq_true rfl) rfl rfl hlk dg kk
theorem M_put0 (o : Ok x cc nL own d mc ms) {i : Nat} {z : Int32} (hlk : Cond.fieldLink own i RX2 "thrown" "I" ∈ Ug) (dg : decode cc pc = .ok (.putfield i, 3)) (kk : G x nL k n (wM a (us u 0 z) (cxT x)) lv (pc + 3) st) : G x nL k n (wM a u (cxT x)) lv pc (.int z :: .ref (a 0) :: st) := g_put (wd2 := wM a (us u 0 z) (cxT x)) o inX2 tyX2 tyX2_ok nmX2 0 rfl rfl 0 (Nat.le_of_ble_eq_true rfl) rfl rfl (vp_nar_int _) rfl (Nat.le_of_ble_eq_true rfl) hlk rfl dg kk
theorem M_get1 (o : Ok x cc nL own d mc ms) {i : Nat} (hlk : Cond.fieldLink own i RX2 "arity" "[I" ∈ Ug) (dg : decode cc pc = .ok (.getfield i, 3)) (kk : G x nL k n (wM a u (cxT x)) lv (pc + 3) (.ref (a 1) :: st)) : G x nL k n (wM a u (cxT x)) lv pc (.ref (a 0) :: st) := g_get o inX2 0 rfl rfl 1 (Nat.le_of_ble_eq_true rfl) rfl rfl hlk dg kk
theorem M_get2 (o : Ok x cc nL own d mc ms) {i : Nat} (hlk : Cond.fieldLink own i RX2 "tuples" "[I" ∈ Ug) (dg : decode cc pc = .ok (.getfield i, 3)) (kk : G x nL k n (wM a u (cxT x)) lv (pc + 3) (.ref (a 2) :: st)) : G x nL k n (wM a u (cxT x)) lv pc (.ref (a 0) :: st) := g_get o inX2 0 rfl rfl 2 (Nat.le_of_ble_eq_true rfl) rfl rfl hlk dg kk
theorem M_get3 (o : Ok x cc nL own d mc ms) {i : Nat} (hlk : Cond.fieldLink own i RX2 "relations" "I" ∈ Ug) (dg : decode cc pc = .ok (.getfield i, 3)) (kk : G x nL k n (wM a u (cxT x)) lv (pc + 3) (.int (u 0 3) :: st)) : G x nL k n (wM a u (cxT x)) lv pc (.ref (a 0) :: st) := g_get o inX2 0 rfl rfl 3 (Nat.le_of_ble_eq_true rfl) rfl rfl hlk dg kk
theorem M_put3 (o : Ok x cc nL own d mc ms) {i : Nat} {z : Int32} (hlk : Cond.fieldLink own i RX2 "relations" "I" ∈ Ug) (dg : decode cc pc = .ok (.putfield i, 3)) (kk : G x nL k n (wM a (us u 3 z) (cxT x)) lv (pc + 3) st) : G x nL k n (wM a u (cxT x)) lv pc (.int z :: .ref (a 0) :: st) := g_put (wd2 := wM a (us u 3 z) (cxT x)) o inX2 tyX2 tyX2_ok nmX2 0 rfl rfl 3 (Nat.le_of_ble_eq_true rfl) rfl rfl (vp_nar_int _) rfl (Nat.le_of_ble_eq_true rfl) hlk rfl dg kk
theorem M_get4 (o : Ok x cc nL own d mc ms) {i : Nat} (hlk : Cond.fieldLink own i RX2 "relationOf" "[I" ∈ Ug) (dg : decode cc pc = .ok (.getfield i, 3)) (kk : G x nL k n (wM a u (cxT x)) lv (pc + 3) (.ref (a 4) :: st)) : G x nL k n (wM a u (cxT x)) lv pc (.ref (a 0) :: st) := g_get o inX2 0 rfl rfl 4 (Nat.le_of_ble_eq_true rfl) rfl rfl hlk dg kk
theorem M_get5 (o : Ok x cc nL own d mc ms) {i : Nat} (hlk : Cond.fieldLink own i RX2 "variableOf" "[I" ∈ Ug) (dg : decode cc pc = .ok (.getfield i, 3)) (kk : G x nL k n (wM a u (cxT x)) lv (pc + 3) (.ref (a 5) :: st)) : G x nL k n (wM a u (cxT x)) lv pc (.ref (a 0) :: st) := g_get o inX2 0 rfl rfl 5 (Nat.le_of_ble_eq_true rfl) rfl rfl hlk dg kk
theorem M_get6 (o : Ok x cc nL own d mc ms) {i : Nat} (hlk : Cond.fieldLink own i RX2 "variables" "I" ∈ Ug) (dg : decode cc pc = .ok (.getfield i, 3)) (kk : G x nL k n (wM a u (cxT x)) lv (pc + 3) (.int (u 0 6) :: st)) : G x nL k n (wM a u (cxT x)) lv pc (.ref (a 0) :: st) := g_get o inX2 0 rfl rfl 6 (Nat.le_of_ble_eq_true rfl) rfl rfl hlk dg kk
theorem M_put6 (o : Ok x cc nL own d mc ms) {i : Nat} {z : Int32} (hlk : Cond.fieldLink own i RX2 "variables" "I" ∈ Ug) (dg : decode cc pc = .ok (.putfield i, 3)) (kk : G x nL k n (wM a (us u 6 z) (cxT x)) lv (pc + 3) st) : G x nL k n (wM a u (cxT x)) lv pc (.int z :: .ref (a 0) :: st) := g_put (wd2 := wM a (us u 6 z) (cxT x)) o inX2 tyX2 tyX2_ok nmX2 0 rfl rfl 6 (Nat.le_of_ble_eq_true rfl) rfl rfl (vp_nar_int _) rfl (Nat.le_of_ble_eq_true rfl) hlk rfl dg kk
theorem M_get7 (o : Ok x cc nL own d mc ms) {i : Nat} (hlk : Cond.fieldLink own i RX2 "constraints" "I" ∈ Ug) (dg : decode cc pc = .ok (.getfield i, 3)) (kk : G x nL k n (wM a u (cxT x)) lv (pc + 3) (.int (u 0 7) :: st)) : G x nL k n (wM a u (cxT x)) lv pc (.ref (a 0) :: st) := g_get o inX2 0 rfl rfl 7 (Nat.le_of_ble_eq_true rfl) rfl rfl hlk dg kk
theorem M_put7 (o : Ok x cc nL own d mc ms) {i : Nat} {z : Int32} (hlk : Cond.fieldLink own i RX2 "constraints" "I" ∈ Ug) (dg : decode cc pc = .ok (.putfield i, 3)) (kk : G x nL k n (wM a (us u 7 z) (cxT x)) lv (pc + 3) st) : G x nL k n (wM a u (cxT x)) lv pc (.int z :: .ref (a 0) :: st) := g_put (wd2 := wM a (us u 7 z) (cxT x)) o inX2 tyX2 tyX2_ok nmX2 0 rfl rfl 7 (Nat.le_of_ble_eq_true rfl) rfl rfl (vp_nar_int _) rfl (Nat.le_of_ble_eq_true rfl) hlk rfl dg kk
theorem M_get8 (o : Ok x cc nL own d mc ms) {i : Nat} (hlk : Cond.fieldLink own i RX2 "input" "[C" ∈ Ug) (dg : decode cc pc = .ok (.getfield i, 3)) (kk : G x nL k n (wM a u (cxT x)) lv (pc + 3) (.ref (a 8) :: st)) : G x nL k n (wM a u (cxT x)) lv pc (.ref (a 0) :: st) := g_get o inX2 0 rfl rfl 8 (Nat.le_of_ble_eq_true rfl) rfl rfl hlk dg kk
theorem M_get9 (o : Ok x cc nL own d mc ms) {i : Nat} (hlk : Cond.fieldLink own i RX2 "output" "[C" ∈ Ug) (dg : decode cc pc = .ok (.getfield i, 3)) (kk : G x nL k n (wM a u (cxT x)) lv (pc + 3) (.ref (a 9) :: st)) : G x nL k n (wM a u (cxT x)) lv pc (.ref (a 0) :: st) := g_get o inX2 0 rfl rfl 9 (Nat.le_of_ble_eq_true rfl) rfl rfl hlk dg kk
theorem M_get10 (o : Ok x cc nL own d mc ms) {i : Nat} (hlk : Cond.fieldLink own i RX2 "inputLength" "I" ∈ Ug) (dg : decode cc pc = .ok (.getfield i, 3)) (kk : G x nL k n (wM a u (cxT x)) lv (pc + 3) (.int (u 0 10) :: st)) : G x nL k n (wM a u (cxT x)) lv pc (.ref (a 0) :: st) := g_get o inX2 0 rfl rfl 10 (Nat.le_of_ble_eq_true rfl) rfl rfl hlk dg kk
theorem M_put10 (o : Ok x cc nL own d mc ms) {i : Nat} {z : Int32} (hlk : Cond.fieldLink own i RX2 "inputLength" "I" ∈ Ug) (dg : decode cc pc = .ok (.putfield i, 3)) (kk : G x nL k n (wM a (us u 10 z) (cxT x)) lv (pc + 3) st) : G x nL k n (wM a u (cxT x)) lv pc (.int z :: .ref (a 0) :: st) := g_put (wd2 := wM a (us u 10 z) (cxT x)) o inX2 tyX2 tyX2_ok nmX2 0 rfl rfl 10 (Nat.le_of_ble_eq_true rfl) rfl rfl (vp_nar_int _) rfl (Nat.le_of_ble_eq_true rfl) hlk rfl dg kk
theorem M_get11 (o : Ok x cc nL own d mc ms) {i : Nat} (hlk : Cond.fieldLink own i RX2 "outputLength" "I" ∈ Ug) (dg : decode cc pc = .ok (.getfield i, 3)) (kk : G x nL k n (wM a u (cxT x)) lv (pc + 3) (.int (u 0 11) :: st)) : G x nL k n (wM a u (cxT x)) lv pc (.ref (a 0) :: st) := g_get o inX2 0 rfl rfl 11 (Nat.le_of_ble_eq_true rfl) rfl rfl hlk dg kk
theorem M_put11 (o : Ok x cc nL own d mc ms) {i : Nat} {z : Int32} (hlk : Cond.fieldLink own i RX2 "outputLength" "I" ∈ Ug) (dg : decode cc pc = .ok (.putfield i, 3)) (kk : G x nL k n (wM a (us u 11 z) (cxT x)) lv (pc + 3) st) : G x nL k n (wM a u (cxT x)) lv pc (.int z :: .ref (a 0) :: st) := g_put (wd2 := wM a (us u 11 z) (cxT x)) o inX2 tyX2 tyX2_ok nmX2 0 rfl rfl 11 (Nat.le_of_ble_eq_true rfl) rfl rfl (vp_nar_int _) rfl (Nat.le_of_ble_eq_true rfl) hlk rfl dg kk
theorem M_get12 (o : Ok x cc nL own d mc ms) {i : Nat} (hlk : Cond.fieldLink own i RX2 "errorAt" "I" ∈ Ug) (dg : decode cc pc = .ok (.getfield i, 3)) (kk : G x nL k n (wM a u (cxT x)) lv (pc + 3) (.int (u 0 12) :: st)) : G x nL k n (wM a u (cxT x)) lv pc (.ref (a 0) :: st) := g_get o inX2 0 rfl rfl 12 (Nat.le_of_ble_eq_true rfl) rfl rfl hlk dg kk
theorem M_put12 (o : Ok x cc nL own d mc ms) {i : Nat} {z : Int32} (hlk : Cond.fieldLink own i RX2 "errorAt" "I" ∈ Ug) (dg : decode cc pc = .ok (.putfield i, 3)) (kk : G x nL k n (wM a (us u 12 z) (cxT x)) lv (pc + 3) st) : G x nL k n (wM a u (cxT x)) lv pc (.int z :: .ref (a 0) :: st) := g_put (wd2 := wM a (us u 12 z) (cxT x)) o inX2 tyX2 tyX2_ok nmX2 0 rfl rfl 12 (Nat.le_of_ble_eq_true rfl) rfl rfl (vp_nar_int _) rfl (Nat.le_of_ble_eq_true rfl) hlk rfl dg kk
theorem M_get13 (o : Ok x cc nL own d mc ms) {i : Nat} (hlk : Cond.fieldLink own i RX2 "readArity" "I" ∈ Ug) (dg : decode cc pc = .ok (.getfield i, 3)) (kk : G x nL k n (wM a u (cxT x)) lv (pc + 3) (.int (u 0 13) :: st)) : G x nL k n (wM a u (cxT x)) lv pc (.ref (a 0) :: st) := g_get o inX2 0 rfl rfl 13 (Nat.le_of_ble_eq_true rfl) rfl rfl hlk dg kk
theorem M_put13 (o : Ok x cc nL own d mc ms) {i : Nat} {z : Int32} (hlk : Cond.fieldLink own i RX2 "readArity" "I" ∈ Ug) (dg : decode cc pc = .ok (.putfield i, 3)) (kk : G x nL k n (wM a (us u 13 z) (cxT x)) lv (pc + 3) st) : G x nL k n (wM a u (cxT x)) lv pc (.int z :: .ref (a 0) :: st) := g_put (wd2 := wM a (us u 13 z) (cxT x)) o inX2 tyX2 tyX2_ok nmX2 0 rfl rfl 13 (Nat.le_of_ble_eq_true rfl) rfl rfl (vp_nar_int _) rfl (Nat.le_of_ble_eq_true rfl) hlk rfl dg kk
theorem M_get14 (o : Ok x cc nL own d mc ms) {i : Nat} (hlk : Cond.fieldLink own i RX2 "readTuples" "I" ∈ Ug) (dg : decode cc pc = .ok (.getfield i, 3)) (kk : G x nL k n (wM a u (cxT x)) lv (pc + 3) (.int (u 0 14) :: st)) : G x nL k n (wM a u (cxT x)) lv pc (.ref (a 0) :: st) := g_get o inX2 0 rfl rfl 14 (Nat.le_of_ble_eq_true rfl) rfl rfl hlk dg kk
theorem M_put14 (o : Ok x cc nL own d mc ms) {i : Nat} {z : Int32} (hlk : Cond.fieldLink own i RX2 "readTuples" "I" ∈ Ug) (dg : decode cc pc = .ok (.putfield i, 3)) (kk : G x nL k n (wM a (us u 14 z) (cxT x)) lv (pc + 3) st) : G x nL k n (wM a u (cxT x)) lv pc (.int z :: .ref (a 0) :: st) := g_put (wd2 := wM a (us u 14 z) (cxT x)) o inX2 tyX2 tyX2_ok nmX2 0 rfl rfl 14 (Nat.le_of_ble_eq_true rfl) rfl rfl (vp_nar_int _) rfl (Nat.le_of_ble_eq_true rfl) hlk rfl dg kk
theorem M_get15 (o : Ok x cc nL own d mc ms) {i : Nat} (hlk : Cond.fieldLink own i RX2 "flags" "[Z" ∈ Ug) (dg : decode cc pc = .ok (.getfield i, 3)) (kk : G x nL k n (wM a u (cxT x)) lv (pc + 3) (.ref (a 15) :: st)) : G x nL k n (wM a u (cxT x)) lv pc (.ref (a 0) :: st) := g_get o inX2 0 rfl rfl 15 (Nat.le_of_ble_eq_true rfl) rfl rfl hlk dg kk
theorem M_get16 (o : Ok x cc nL own d mc ms) {i : Nat} (hlk : Cond.fieldLink own i RX2 "flagCount" "[I" ∈ Ug) (dg : decode cc pc = .ok (.getfield i, 3)) (kk : G x nL k n (wM a u (cxT x)) lv (pc + 3) (.ref (a 16) :: st)) : G x nL k n (wM a u (cxT x)) lv pc (.ref (a 0) :: st) := g_get o inX2 0 rfl rfl 16 (Nat.le_of_ble_eq_true rfl) rfl rfl hlk dg kk
theorem M_get17 (o : Ok x cc nL own d mc ms) {i : Nat} (hlk : Cond.fieldLink own i RX2 "saved" "[I" ∈ Ug) (dg : decode cc pc = .ok (.getfield i, 3)) (kk : G x nL k n (wM a u (cxT x)) lv (pc + 3) (.ref (a 17) :: st)) : G x nL k n (wM a u (cxT x)) lv pc (.ref (a 0) :: st) := g_get o inX2 0 rfl rfl 17 (Nat.le_of_ble_eq_true rfl) rfl rfl hlk dg kk
theorem M_get18 (o : Ok x cc nL own d mc ms) {i : Nat} (hlk : Cond.fieldLink own i RX2 "cursor" "I" ∈ Ug) (dg : decode cc pc = .ok (.getfield i, 3)) (kk : G x nL k n (wM a u (cxT x)) lv (pc + 3) (.int (u 0 18) :: st)) : G x nL k n (wM a u (cxT x)) lv pc (.ref (a 0) :: st) := g_get o inX2 0 rfl rfl 18 (Nat.le_of_ble_eq_true rfl) rfl rfl hlk dg kk
theorem M_put18 (o : Ok x cc nL own d mc ms) {i : Nat} {z : Int32} (hlk : Cond.fieldLink own i RX2 "cursor" "I" ∈ Ug) (dg : decode cc pc = .ok (.putfield i, 3)) (kk : G x nL k n (wM a (us u 18 z) (cxT x)) lv (pc + 3) st) : G x nL k n (wM a u (cxT x)) lv pc (.int z :: .ref (a 0) :: st) := g_put (wd2 := wM a (us u 18 z) (cxT x)) o inX2 tyX2 tyX2_ok nmX2 0 rfl rfl 18 (Nat.le_of_ble_eq_true rfl) rfl rfl (vp_nar_int _) rfl (Nat.le_of_ble_eq_true rfl) hlk rfl dg kk
theorem M_get19 (o : Ok x cc nL own d mc ms) {i : Nat} (hlk : Cond.fieldLink own i RX2 "hasSnapshot" "Z" ∈ Ug) (dg : decode cc pc = .ok (.getfield i, 3)) (kk : G x nL k n (wM a u (cxT x)) lv (pc + 3) (.int (u 0 19) :: st)) : G x nL k n (wM a u (cxT x)) lv pc (.ref (a 0) :: st) := g_get o inX2 0 rfl rfl 19 (Nat.le_of_ble_eq_true rfl) rfl rfl hlk dg kk
theorem M_put19 (o : Ok x cc nL own d mc ms) {i : Nat} {z : Int32} (hz : okB z = true) (hlk : Cond.fieldLink own i RX2 "hasSnapshot" "Z" ∈ Ug) (dg : decode cc pc = .ok (.putfield i, 3)) (kk : G x nL k n (wM a (us u 19 z) (cxT x)) lv (pc + 3) st) : G x nL k n (wM a u (cxT x)) lv pc (.int z :: .ref (a 0) :: st) := g_put (wd2 := wM a (us u 19 z) (cxT x)) o inX2 tyX2 tyX2_ok nmX2 0 rfl rfl 19 (Nat.le_of_ble_eq_true rfl) rfl rfl (okB_n hz) (okB_f hz) (Nat.le_of_ble_eq_true rfl) hlk rfl dg kk
theorem M_get20 (o : Ok x cc nL own d mc ms) {i : Nat} (hlk : Cond.fieldLink own i RX2 "isSaving" "Z" ∈ Ug) (dg : decode cc pc = .ok (.getfield i, 3)) (kk : G x nL k n (wM a u (cxT x)) lv (pc + 3) (.int (u 0 20) :: st)) : G x nL k n (wM a u (cxT x)) lv pc (.ref (a 0) :: st) := g_get o inX2 0 rfl rfl 20 (Nat.le_of_ble_eq_true rfl) rfl rfl hlk dg kk
theorem M_put20 (o : Ok x cc nL own d mc ms) {i : Nat} {z : Int32} (hz : okB z = true) (hlk : Cond.fieldLink own i RX2 "isSaving" "Z" ∈ Ug) (dg : decode cc pc = .ok (.putfield i, 3)) (kk : G x nL k n (wM a (us u 20 z) (cxT x)) lv (pc + 3) st) : G x nL k n (wM a u (cxT x)) lv pc (.int z :: .ref (a 0) :: st) := g_put (wd2 := wM a (us u 20 z) (cxT x)) o inX2 tyX2 tyX2_ok nmX2 0 rfl rfl 20 (Nat.le_of_ble_eq_true rfl) rfl rfl (okB_n hz) (okB_f hz) (Nat.le_of_ble_eq_true rfl) hlk rfl dg kk
theorem M_ld1 (o : Ok x cc nL own d mc ms) {i : Int32} {α : Type} {r : α} {B : Option α} (dg : decode cc pc = .ok (.iaload, 1)) (hf : gd (inb i 8) B = some r) (kk : B = some r → G x nL k n (wM a u (cxT x)) lv (pc + 1) (.int (u 1 i.toNatClampNeg) :: st)) : G x nL k n (wM a u (cxT x)) lv pc (.int i :: .ref (a 1) :: st) := g_iald o 1 rfl dg hf kk
theorem M_st1 (o : Ok x cc nL own d mc ms) {i z : Int32} {α : Type} {r : α} {B : Option α} (dg : decode cc pc = .ok (.iastore, 1)) (hf : gd (inb i 8) B = some r) (kk : B = some r → G x nL k n (wM a (ua u 1 (upd (u 1) i.toNatClampNeg z)) (cxT x)) lv (pc + 1) st) : G x nL k n (wM a u (cxT x)) lv pc (.int z :: .int i :: .ref (a 1) :: st) := g_iast (wd2 := wM a (ua u 1 (upd (u 1) i.toNatClampNeg z)) (cxT x)) o 1 rfl rfl dg hf kk
theorem M_len1 (o : Ok x cc nL own d mc ms) (dg : decode cc pc = .ok (.arraylength, 1)) (kk : G x nL k n (wM a u (cxT x)) lv (pc + 1) (.int 8 :: st)) : G x nL k n (wM a u (cxT x)) lv pc (.ref (a 1) :: st) := g_alen o 1 0 rfl rfl rfl dg kk
theorem M_ld2 (o : Ok x cc nL own d mc ms) {i : Int32} {α : Type} {r : α} {B : Option α} (dg : decode cc pc = .ok (.iaload, 1)) (hf : gd (inb i 8) B = some r) (kk : B = some r → G x nL k n (wM a u (cxT x)) lv (pc + 1) (.int (u 2 i.toNatClampNeg) :: st)) : G x nL k n (wM a u (cxT x)) lv pc (.int i :: .ref (a 2) :: st) := g_iald o 2 rfl dg hf kk
theorem M_st2 (o : Ok x cc nL own d mc ms) {i z : Int32} {α : Type} {r : α} {B : Option α} (dg : decode cc pc = .ok (.iastore, 1)) (hf : gd (inb i 8) B = some r) (kk : B = some r → G x nL k n (wM a (ua u 2 (upd (u 2) i.toNatClampNeg z)) (cxT x)) lv (pc + 1) st) : G x nL k n (wM a u (cxT x)) lv pc (.int z :: .int i :: .ref (a 2) :: st) := g_iast (wd2 := wM a (ua u 2 (upd (u 2) i.toNatClampNeg z)) (cxT x)) o 2 rfl rfl dg hf kk
theorem M_len2 (o : Ok x cc nL own d mc ms) (dg : decode cc pc = .ok (.arraylength, 1)) (kk : G x nL k n (wM a u (cxT x)) lv (pc + 1) (.int 8 :: st)) : G x nL k n (wM a u (cxT x)) lv pc (.ref (a 2) :: st) := g_alen o 2 0 rfl rfl rfl dg kk
theorem M_ld4 (o : Ok x cc nL own d mc ms) {i : Int32} {α : Type} {r : α} {B : Option α} (dg : decode cc pc = .ok (.iaload, 1)) (hf : gd (inb i 20) B = some r) (kk : B = some r → G x nL k n (wM a u (cxT x)) lv (pc + 1) (.int (u 4 i.toNatClampNeg) :: st)) : G x nL k n (wM a u (cxT x)) lv pc (.int i :: .ref (a 4) :: st) := g_iald o 3 rfl dg hf kk
theorem M_st4 (o : Ok x cc nL own d mc ms) {i z : Int32} {α : Type} {r : α} {B : Option α} (dg : decode cc pc = .ok (.iastore, 1)) (hf : gd (inb i 20) B = some r) (kk : B = some r → G x nL k n (wM a (ua u 4 (upd (u 4) i.toNatClampNeg z)) (cxT x)) lv (pc + 1) st) : G x nL k n (wM a u (cxT x)) lv pc (.int z :: .int i :: .ref (a 4) :: st) := g_iast (wd2 := wM a (ua u 4 (upd (u 4) i.toNatClampNeg z)) (cxT x)) o 3 rfl rfl dg hf kk
theorem M_len4 (o : Ok x cc nL own d mc ms) (dg : decode cc pc = .ok (.arraylength, 1)) (kk : G x nL k n (wM a u (cxT x)) lv (pc + 1) (.int 20 :: st)) : G x nL k n (wM a u (cxT x)) lv pc (.ref (a 4) :: st) := g_alen o 3 0 rfl rfl rfl dg kk
theorem M_ld5 (o : Ok x cc nL own d mc ms) {i : Int32} {α : Type} {r : α} {B : Option α} (dg : decode cc pc = .ok (.iaload, 1)) (hf : gd (inb i 80) B = some r) (kk : B = some r → G x nL k n (wM a u (cxT x)) lv (pc + 1) (.int (u 5 i.toNatClampNeg) :: st)) : G x nL k n (wM a u (cxT x)) lv pc (.int i :: .ref (a 5) :: st) := g_iald o 4 rfl dg hf kk
theorem M_st5 (o : Ok x cc nL own d mc ms) {i z : Int32} {α : Type} {r : α} {B : Option α} (dg : decode cc pc = .ok (.iastore, 1)) (hf : gd (inb i 80) B = some r) (kk : B = some r → G x nL k n (wM a (ua u 5 (upd (u 5) i.toNatClampNeg z)) (cxT x)) lv (pc + 1) st) : G x nL k n (wM a u (cxT x)) lv pc (.int z :: .int i :: .ref (a 5) :: st) := g_iast (wd2 := wM a (ua u 5 (upd (u 5) i.toNatClampNeg z)) (cxT x)) o 4 rfl rfl dg hf kk
theorem M_len5 (o : Ok x cc nL own d mc ms) (dg : decode cc pc = .ok (.arraylength, 1)) (kk : G x nL k n (wM a u (cxT x)) lv (pc + 1) (.int 80 :: st)) : G x nL k n (wM a u (cxT x)) lv pc (.ref (a 5) :: st) := g_alen o 4 0 rfl rfl rfl dg kk
theorem M_ld8 (o : Ok x cc nL own d mc ms) {i : Int32} {α : Type} {r : α} {B : Option α} (dg : decode cc pc = .ok (.caload, 1)) (hf : gd (inb i 60) B = some r) (kk : B = some r → G x nL k n (wM a u (cxT x)) lv (pc + 1) (.int (u 8 i.toNatClampNeg) :: st)) : G x nL k n (wM a u (cxT x)) lv pc (.int i :: .ref (a 8) :: st) := g_cald o 5 rfl dg hf kk
theorem M_st8 (o : Ok x cc nL own d mc ms) {i z : Int32} {α : Type} {r : α} {B : Option α} (dg : decode cc pc = .ok (.castore, 1)) (hf : gd (inb i 60) B = some r) (kk : B = some r → G x nL k n (wM a (ua u 8 (upd (u 8) i.toNatClampNeg (vp_nar .char z))) (cxT x)) lv (pc + 1) st) : G x nL k n (wM a u (cxT x)) lv pc (.int z :: .int i :: .ref (a 8) :: st) := g_cast (wd2 := wM a (ua u 8 (upd (u 8) i.toNatClampNeg (vp_nar .char z))) (cxT x)) o 5 rfl rfl dg hf kk
theorem M_len8 (o : Ok x cc nL own d mc ms) (dg : decode cc pc = .ok (.arraylength, 1)) (kk : G x nL k n (wM a u (cxT x)) lv (pc + 1) (.int 60 :: st)) : G x nL k n (wM a u (cxT x)) lv pc (.ref (a 8) :: st) := g_alen o 5 1 rfl rfl rfl dg kk
theorem M_ld9 (o : Ok x cc nL own d mc ms) {i : Int32} {α : Type} {r : α} {B : Option α} (dg : decode cc pc = .ok (.caload, 1)) (hf : gd (inb i 80) B = some r) (kk : B = some r → G x nL k n (wM a u (cxT x)) lv (pc + 1) (.int (u 9 i.toNatClampNeg) :: st)) : G x nL k n (wM a u (cxT x)) lv pc (.int i :: .ref (a 9) :: st) := g_cald o 6 rfl dg hf kk
theorem M_st9 (o : Ok x cc nL own d mc ms) {i z : Int32} {α : Type} {r : α} {B : Option α} (dg : decode cc pc = .ok (.castore, 1)) (hf : gd (inb i 80) B = some r) (kk : B = some r → G x nL k n (wM a (ua u 9 (upd (u 9) i.toNatClampNeg (vp_nar .char z))) (cxT x)) lv (pc + 1) st) : G x nL k n (wM a u (cxT x)) lv pc (.int z :: .int i :: .ref (a 9) :: st) := g_cast (wd2 := wM a (ua u 9 (upd (u 9) i.toNatClampNeg (vp_nar .char z))) (cxT x)) o 6 rfl rfl dg hf kk
theorem M_len9 (o : Ok x cc nL own d mc ms) (dg : decode cc pc = .ok (.arraylength, 1)) (kk : G x nL k n (wM a u (cxT x)) lv (pc + 1) (.int 80 :: st)) : G x nL k n (wM a u (cxT x)) lv pc (.ref (a 9) :: st) := g_alen o 6 1 rfl rfl rfl dg kk
theorem M_ld15 (o : Ok x cc nL own d mc ms) {i : Int32} {α : Type} {r : α} {B : Option α} (dg : decode cc pc = .ok (.baload, 1)) (hf : gd (inb i 48) B = some r) (kk : B = some r → G x nL k n (wM a u (cxT x)) lv (pc + 1) (.int (u 15 i.toNatClampNeg) :: st)) : G x nL k n (wM a u (cxT x)) lv pc (.int i :: .ref (a 15) :: st) := g_zald o 7 rfl dg hf kk
theorem M_st15 (o : Ok x cc nL own d mc ms) {i z : Int32} {α : Type} {r : α} {B : Option α} (dg : decode cc pc = .ok (.bastore, 1)) (hf : gd (inb i 48) B = some r) (kk : B = some r → G x nL k n (wM a (ua u 15 (upd (u 15) i.toNatClampNeg (vp_nar .boolean z))) (cxT x)) lv (pc + 1) st) : G x nL k n (wM a u (cxT x)) lv pc (.int z :: .int i :: .ref (a 15) :: st) := g_zast (wd2 := wM a (ua u 15 (upd (u 15) i.toNatClampNeg (vp_nar .boolean z))) (cxT x)) o 7 rfl rfl dg hf kk
theorem M_len15 (o : Ok x cc nL own d mc ms) (dg : decode cc pc = .ok (.arraylength, 1)) (kk : G x nL k n (wM a u (cxT x)) lv (pc + 1) (.int 48 :: st)) : G x nL k n (wM a u (cxT x)) lv pc (.ref (a 15) :: st) := g_alen o 7 2 rfl rfl rfl dg kk
theorem M_ld16 (o : Ok x cc nL own d mc ms) {i : Int32} {α : Type} {r : α} {B : Option α} (dg : decode cc pc = .ok (.iaload, 1)) (hf : gd (inb i 3) B = some r) (kk : B = some r → G x nL k n (wM a u (cxT x)) lv (pc + 1) (.int (u 16 i.toNatClampNeg) :: st)) : G x nL k n (wM a u (cxT x)) lv pc (.int i :: .ref (a 16) :: st) := g_iald o 8 rfl dg hf kk
theorem M_st16 (o : Ok x cc nL own d mc ms) {i z : Int32} {α : Type} {r : α} {B : Option α} (dg : decode cc pc = .ok (.iastore, 1)) (hf : gd (inb i 3) B = some r) (kk : B = some r → G x nL k n (wM a (ua u 16 (upd (u 16) i.toNatClampNeg z)) (cxT x)) lv (pc + 1) st) : G x nL k n (wM a u (cxT x)) lv pc (.int z :: .int i :: .ref (a 16) :: st) := g_iast (wd2 := wM a (ua u 16 (upd (u 16) i.toNatClampNeg z)) (cxT x)) o 8 rfl rfl dg hf kk
theorem M_len16 (o : Ok x cc nL own d mc ms) (dg : decode cc pc = .ok (.arraylength, 1)) (kk : G x nL k n (wM a u (cxT x)) lv (pc + 1) (.int 3 :: st)) : G x nL k n (wM a u (cxT x)) lv pc (.ref (a 16) :: st) := g_alen o 8 0 rfl rfl rfl dg kk
theorem M_ld17 (o : Ok x cc nL own d mc ms) {i : Int32} {α : Type} {r : α} {B : Option α} (dg : decode cc pc = .ok (.iaload, 1)) (hf : gd (inb i 128) B = some r) (kk : B = some r → G x nL k n (wM a u (cxT x)) lv (pc + 1) (.int (u 17 i.toNatClampNeg) :: st)) : G x nL k n (wM a u (cxT x)) lv pc (.int i :: .ref (a 17) :: st) := g_iald o 9 rfl dg hf kk
theorem M_st17 (o : Ok x cc nL own d mc ms) {i z : Int32} {α : Type} {r : α} {B : Option α} (dg : decode cc pc = .ok (.iastore, 1)) (hf : gd (inb i 128) B = some r) (kk : B = some r → G x nL k n (wM a (ua u 17 (upd (u 17) i.toNatClampNeg z)) (cxT x)) lv (pc + 1) st) : G x nL k n (wM a u (cxT x)) lv pc (.int z :: .int i :: .ref (a 17) :: st) := g_iast (wd2 := wM a (ua u 17 (upd (u 17) i.toNatClampNeg z)) (cxT x)) o 9 rfl rfl dg hf kk
theorem M_len17 (o : Ok x cc nL own d mc ms) (dg : decode cc pc = .ok (.arraylength, 1)) (kk : G x nL k n (wM a u (cxT x)) lv (pc + 1) (.int 128 :: st)) : G x nL k n (wM a u (cxT x)) lv pc (.ref (a 17) :: st) := g_alen o 9 0 rfl rfl rfl dg kk
theorem I_get0 (o : Ok x cc nL own d mc ms) {i : Nat} (hlk : Cond.fieldLink own i RX0 "relationCount" "I" ∈ Ug) (dg : decode cc pc = .ok (.getfield i, 3)) (kk : G x nL k n (wI b v (cxT x)) lv (pc + 3) (.int (v 0 0) :: st)) : G x nL k n (wI b v (cxT x)) lv pc (.ref (b 0) :: st) := g_get o inX0 0 rfl rfl 0 (Nat.le_of_ble_eq_true rfl) rfl rfl hlk dg kk
theorem I_put0 (o : Ok x cc nL own d mc ms) {i : Nat} {z : Int32} (hlk : Cond.fieldLink own i RX0 "relationCount" "I" ∈ Ug) (dg : decode cc pc = .ok (.putfield i, 3)) (kk : G x nL k n (wI b (us v 0 z) (cxT x)) lv (pc + 3) st) : G x nL k n (wI b v (cxT x)) lv pc (.int z :: .ref (b 0) :: st) := g_put (wd2 := wI b (us v 0 z) (cxT x)) o inX0 tyX0 tyX0_ok nmX0 0 rfl rfl 0 (Nat.le_of_ble_eq_true rfl) rfl rfl (vp_nar_int _) rfl (Nat.le_of_ble_eq_true rfl) hlk rfl dg kk
theorem I_get1 (o : Ok x cc nL own d mc ms) {i : Nat} (hlk : Cond.fieldLink own i RX0 "arities" "[I" ∈ Ug) (dg : decode cc pc = .ok (.getfield i, 3)) (kk : G x nL k n (wI b v (cxT x)) lv (pc + 3) (.ref (b 1) :: st)) : G x nL k n (wI b v (cxT x)) lv pc (.ref (b 0) :: st) := g_get o inX0 0 rfl rfl 1 (Nat.le_of_ble_eq_true rfl) rfl rfl hlk dg kk
theorem I_get2 (o : Ok x cc nL own d mc ms) {i : Nat} (hlk : Cond.fieldLink own i RX0 "tuples" "[I" ∈ Ug) (dg : decode cc pc = .ok (.getfield i, 3)) (kk : G x nL k n (wI b v (cxT x)) lv (pc + 3) (.ref (b 2) :: st)) : G x nL k n (wI b v (cxT x)) lv pc (.ref (b 0) :: st) := g_get o inX0 0 rfl rfl 2 (Nat.le_of_ble_eq_true rfl) rfl rfl hlk dg kk
theorem I_get3 (o : Ok x cc nL own d mc ms) {i : Nat} (hlk : Cond.fieldLink own i RX0 "variableCount" "I" ∈ Ug) (dg : decode cc pc = .ok (.getfield i, 3)) (kk : G x nL k n (wI b v (cxT x)) lv (pc + 3) (.int (v 0 3) :: st)) : G x nL k n (wI b v (cxT x)) lv pc (.ref (b 0) :: st) := g_get o inX0 0 rfl rfl 3 (Nat.le_of_ble_eq_true rfl) rfl rfl hlk dg kk
theorem I_put3 (o : Ok x cc nL own d mc ms) {i : Nat} {z : Int32} (hlk : Cond.fieldLink own i RX0 "variableCount" "I" ∈ Ug) (dg : decode cc pc = .ok (.putfield i, 3)) (kk : G x nL k n (wI b (us v 3 z) (cxT x)) lv (pc + 3) st) : G x nL k n (wI b v (cxT x)) lv pc (.int z :: .ref (b 0) :: st) := g_put (wd2 := wI b (us v 3 z) (cxT x)) o inX0 tyX0 tyX0_ok nmX0 0 rfl rfl 3 (Nat.le_of_ble_eq_true rfl) rfl rfl (vp_nar_int _) rfl (Nat.le_of_ble_eq_true rfl) hlk rfl dg kk
theorem I_get4 (o : Ok x cc nL own d mc ms) {i : Nat} (hlk : Cond.fieldLink own i RX0 "constraintCount" "I" ∈ Ug) (dg : decode cc pc = .ok (.getfield i, 3)) (kk : G x nL k n (wI b v (cxT x)) lv (pc + 3) (.int (v 0 4) :: st)) : G x nL k n (wI b v (cxT x)) lv pc (.ref (b 0) :: st) := g_get o inX0 0 rfl rfl 4 (Nat.le_of_ble_eq_true rfl) rfl rfl hlk dg kk
theorem I_put4 (o : Ok x cc nL own d mc ms) {i : Nat} {z : Int32} (hlk : Cond.fieldLink own i RX0 "constraintCount" "I" ∈ Ug) (dg : decode cc pc = .ok (.putfield i, 3)) (kk : G x nL k n (wI b (us v 4 z) (cxT x)) lv (pc + 3) st) : G x nL k n (wI b v (cxT x)) lv pc (.int z :: .ref (b 0) :: st) := g_put (wd2 := wI b (us v 4 z) (cxT x)) o inX0 tyX0 tyX0_ok nmX0 0 rfl rfl 4 (Nat.le_of_ble_eq_true rfl) rfl rfl (vp_nar_int _) rfl (Nat.le_of_ble_eq_true rfl) hlk rfl dg kk
theorem I_get5 (o : Ok x cc nL own d mc ms) {i : Nat} (hlk : Cond.fieldLink own i RX0 "constraintRelations" "[I" ∈ Ug) (dg : decode cc pc = .ok (.getfield i, 3)) (kk : G x nL k n (wI b v (cxT x)) lv (pc + 3) (.ref (b 5) :: st)) : G x nL k n (wI b v (cxT x)) lv pc (.ref (b 0) :: st) := g_get o inX0 0 rfl rfl 5 (Nat.le_of_ble_eq_true rfl) rfl rfl hlk dg kk
theorem I_get6 (o : Ok x cc nL own d mc ms) {i : Nat} (hlk : Cond.fieldLink own i RX0 "constraintVariables" "[I" ∈ Ug) (dg : decode cc pc = .ok (.getfield i, 3)) (kk : G x nL k n (wI b v (cxT x)) lv (pc + 3) (.ref (b 6) :: st)) : G x nL k n (wI b v (cxT x)) lv pc (.ref (b 0) :: st) := g_get o inX0 0 rfl rfl 6 (Nat.le_of_ble_eq_true rfl) rfl rfl hlk dg kk
theorem I_ld1 (o : Ok x cc nL own d mc ms) {i : Int32} {α : Type} {r : α} {B : Option α} (dg : decode cc pc = .ok (.iaload, 1)) (hf : gd (inb i 8) B = some r) (kk : B = some r → G x nL k n (wI b v (cxT x)) lv (pc + 1) (.int (v 1 i.toNatClampNeg) :: st)) : G x nL k n (wI b v (cxT x)) lv pc (.int i :: .ref (b 1) :: st) := g_iald o 1 rfl dg hf kk
theorem I_st1 (o : Ok x cc nL own d mc ms) {i z : Int32} {α : Type} {r : α} {B : Option α} (dg : decode cc pc = .ok (.iastore, 1)) (hf : gd (inb i 8) B = some r) (kk : B = some r → G x nL k n (wI b (ua v 1 (upd (v 1) i.toNatClampNeg z)) (cxT x)) lv (pc + 1) st) : G x nL k n (wI b v (cxT x)) lv pc (.int z :: .int i :: .ref (b 1) :: st) := g_iast (wd2 := wI b (ua v 1 (upd (v 1) i.toNatClampNeg z)) (cxT x)) o 1 rfl rfl dg hf kk
theorem I_ld2 (o : Ok x cc nL own d mc ms) {i : Int32} {α : Type} {r : α} {B : Option α} (dg : decode cc pc = .ok (.iaload, 1)) (hf : gd (inb i 8) B = some r) (kk : B = some r → G x nL k n (wI b v (cxT x)) lv (pc + 1) (.int (v 2 i.toNatClampNeg) :: st)) : G x nL k n (wI b v (cxT x)) lv pc (.int i :: .ref (b 2) :: st) := g_iald o 2 rfl dg hf kk
theorem I_st2 (o : Ok x cc nL own d mc ms) {i z : Int32} {α : Type} {r : α} {B : Option α} (dg : decode cc pc = .ok (.iastore, 1)) (hf : gd (inb i 8) B = some r) (kk : B = some r → G x nL k n (wI b (ua v 2 (upd (v 2) i.toNatClampNeg z)) (cxT x)) lv (pc + 1) st) : G x nL k n (wI b v (cxT x)) lv pc (.int z :: .int i :: .ref (b 2) :: st) := g_iast (wd2 := wI b (ua v 2 (upd (v 2) i.toNatClampNeg z)) (cxT x)) o 2 rfl rfl dg hf kk
theorem I_ld5 (o : Ok x cc nL own d mc ms) {i : Int32} {α : Type} {r : α} {B : Option α} (dg : decode cc pc = .ok (.iaload, 1)) (hf : gd (inb i 20) B = some r) (kk : B = some r → G x nL k n (wI b v (cxT x)) lv (pc + 1) (.int (v 5 i.toNatClampNeg) :: st)) : G x nL k n (wI b v (cxT x)) lv pc (.int i :: .ref (b 5) :: st) := g_iald o 3 rfl dg hf kk
theorem I_st5 (o : Ok x cc nL own d mc ms) {i z : Int32} {α : Type} {r : α} {B : Option α} (dg : decode cc pc = .ok (.iastore, 1)) (hf : gd (inb i 20) B = some r) (kk : B = some r → G x nL k n (wI b (ua v 5 (upd (v 5) i.toNatClampNeg z)) (cxT x)) lv (pc + 1) st) : G x nL k n (wI b v (cxT x)) lv pc (.int z :: .int i :: .ref (b 5) :: st) := g_iast (wd2 := wI b (ua v 5 (upd (v 5) i.toNatClampNeg z)) (cxT x)) o 3 rfl rfl dg hf kk
theorem I_ld6 (o : Ok x cc nL own d mc ms) {i : Int32} {α : Type} {r : α} {B : Option α} (dg : decode cc pc = .ok (.iaload, 1)) (hf : gd (inb i 20) B = some r) (kk : B = some r → G x nL k n (wI b v (cxT x)) lv (pc + 1) (.int (v 6 i.toNatClampNeg) :: st)) : G x nL k n (wI b v (cxT x)) lv pc (.int i :: .ref (b 6) :: st) := g_iald o 4 rfl dg hf kk
theorem I_st6 (o : Ok x cc nL own d mc ms) {i z : Int32} {α : Type} {r : α} {B : Option α} (dg : decode cc pc = .ok (.iastore, 1)) (hf : gd (inb i 20) B = some r) (kk : B = some r → G x nL k n (wI b (ua v 6 (upd (v 6) i.toNatClampNeg z)) (cxT x)) lv (pc + 1) st) : G x nL k n (wI b v (cxT x)) lv pc (.int z :: .int i :: .ref (b 6) :: st) := g_iast (wd2 := wI b (ua v 6 (upd (v 6) i.toNatClampNeg z)) (cxT x)) o 4 rfl rfl dg hf kk
theorem D_get0 (o : Ok x cc nL own d mc ms) {i : Nat} (hlk : Cond.fieldLink own i RX0 "relationCount" "I" ∈ Ug) (dg : decode cc pc = .ok (.getfield i, 3)) (kk : G x nL k n (wII b v c w (cxT x)) lv (pc + 3) (.int (v 0 0) :: st)) : G x nL k n (wII b v c w (cxT x)) lv pc (.ref (b 0) :: st) := g_get o inX0 0 rfl rfl 0 (Nat.le_of_ble_eq_true rfl) rfl rfl hlk dg kk
theorem D_put0 (o : Ok x cc nL own d mc ms) {i : Nat} {z : Int32} (hlk : Cond.fieldLink own i RX0 "relationCount" "I" ∈ Ug) (dg : decode cc pc = .ok (.putfield i, 3)) (kk : G x nL k n (wII b (us v 0 z) c w (cxT x)) lv (pc + 3) st) : G x nL k n (wII b v c w (cxT x)) lv pc (.int z :: .ref (b 0) :: st) := g_put (wd2 := wII b (us v 0 z) c w (cxT x)) o inX0 tyX0 tyX0_ok nmX0 0 rfl rfl 0 (Nat.le_of_ble_eq_true rfl) rfl rfl (vp_nar_int _) rfl (Nat.le_of_ble_eq_true rfl) hlk rfl dg kk
theorem D_get1 (o : Ok x cc nL own d mc ms) {i : Nat} (hlk : Cond.fieldLink own i RX0 "arities" "[I" ∈ Ug) (dg : decode cc pc = .ok (.getfield i, 3)) (kk : G x nL k n (wII b v c w (cxT x)) lv (pc + 3) (.ref (b 1) :: st)) : G x nL k n (wII b v c w (cxT x)) lv pc (.ref (b 0) :: st) := g_get o inX0 0 rfl rfl 1 (Nat.le_of_ble_eq_true rfl) rfl rfl hlk dg kk
theorem D_get2 (o : Ok x cc nL own d mc ms) {i : Nat} (hlk : Cond.fieldLink own i RX0 "tuples" "[I" ∈ Ug) (dg : decode cc pc = .ok (.getfield i, 3)) (kk : G x nL k n (wII b v c w (cxT x)) lv (pc + 3) (.ref (b 2) :: st)) : G x nL k n (wII b v c w (cxT x)) lv pc (.ref (b 0) :: st) := g_get o inX0 0 rfl rfl 2 (Nat.le_of_ble_eq_true rfl) rfl rfl hlk dg kk
theorem D_get3 (o : Ok x cc nL own d mc ms) {i : Nat} (hlk : Cond.fieldLink own i RX0 "variableCount" "I" ∈ Ug) (dg : decode cc pc = .ok (.getfield i, 3)) (kk : G x nL k n (wII b v c w (cxT x)) lv (pc + 3) (.int (v 0 3) :: st)) : G x nL k n (wII b v c w (cxT x)) lv pc (.ref (b 0) :: st) := g_get o inX0 0 rfl rfl 3 (Nat.le_of_ble_eq_true rfl) rfl rfl hlk dg kk
theorem D_put3 (o : Ok x cc nL own d mc ms) {i : Nat} {z : Int32} (hlk : Cond.fieldLink own i RX0 "variableCount" "I" ∈ Ug) (dg : decode cc pc = .ok (.putfield i, 3)) (kk : G x nL k n (wII b (us v 3 z) c w (cxT x)) lv (pc + 3) st) : G x nL k n (wII b v c w (cxT x)) lv pc (.int z :: .ref (b 0) :: st) := g_put (wd2 := wII b (us v 3 z) c w (cxT x)) o inX0 tyX0 tyX0_ok nmX0 0 rfl rfl 3 (Nat.le_of_ble_eq_true rfl) rfl rfl (vp_nar_int _) rfl (Nat.le_of_ble_eq_true rfl) hlk rfl dg kk
theorem D_get4 (o : Ok x cc nL own d mc ms) {i : Nat} (hlk : Cond.fieldLink own i RX0 "constraintCount" "I" ∈ Ug) (dg : decode cc pc = .ok (.getfield i, 3)) (kk : G x nL k n (wII b v c w (cxT x)) lv (pc + 3) (.int (v 0 4) :: st)) : G x nL k n (wII b v c w (cxT x)) lv pc (.ref (b 0) :: st) := g_get o inX0 0 rfl rfl 4 (Nat.le_of_ble_eq_true rfl) rfl rfl hlk dg kk
theorem D_put4 (o : Ok x cc nL own d mc ms) {i : Nat} {z : Int32} (hlk : Cond.fieldLink own i RX0 "constraintCount" "I" ∈ Ug) (dg : decode cc pc = .ok (.putfield i, 3)) (kk : G x nL k n (wII b (us v 4 z) c w (cxT x)) lv (pc + 3) st) : G x nL k n (wII b v c w (cxT x)) lv pc (.int z :: .ref (b 0) :: st) := g_put (wd2 := wII b (us v 4 z) c w (cxT x)) o inX0 tyX0 tyX0_ok nmX0 0 rfl rfl 4 (Nat.le_of_ble_eq_true rfl) rfl rfl (vp_nar_int _) rfl (Nat.le_of_ble_eq_true rfl) hlk rfl dg kk
theorem D_get5 (o : Ok x cc nL own d mc ms) {i : Nat} (hlk : Cond.fieldLink own i RX0 "constraintRelations" "[I" ∈ Ug) (dg : decode cc pc = .ok (.getfield i, 3)) (kk : G x nL k n (wII b v c w (cxT x)) lv (pc + 3) (.ref (b 5) :: st)) : G x nL k n (wII b v c w (cxT x)) lv pc (.ref (b 0) :: st) := g_get o inX0 0 rfl rfl 5 (Nat.le_of_ble_eq_true rfl) rfl rfl hlk dg kk
theorem D_get6 (o : Ok x cc nL own d mc ms) {i : Nat} (hlk : Cond.fieldLink own i RX0 "constraintVariables" "[I" ∈ Ug) (dg : decode cc pc = .ok (.getfield i, 3)) (kk : G x nL k n (wII b v c w (cxT x)) lv (pc + 3) (.ref (b 6) :: st)) : G x nL k n (wII b v c w (cxT x)) lv pc (.ref (b 0) :: st) := g_get o inX0 0 rfl rfl 6 (Nat.le_of_ble_eq_true rfl) rfl rfl hlk dg kk
theorem D_ld1 (o : Ok x cc nL own d mc ms) {i : Int32} {α : Type} {r : α} {B : Option α} (dg : decode cc pc = .ok (.iaload, 1)) (hf : gd (inb i 8) B = some r) (kk : B = some r → G x nL k n (wII b v c w (cxT x)) lv (pc + 1) (.int (v 1 i.toNatClampNeg) :: st)) : G x nL k n (wII b v c w (cxT x)) lv pc (.int i :: .ref (b 1) :: st) := g_iald o 1 rfl dg hf kk
theorem D_st1 (o : Ok x cc nL own d mc ms) {i z : Int32} {α : Type} {r : α} {B : Option α} (dg : decode cc pc = .ok (.iastore, 1)) (hf : gd (inb i 8) B = some r) (kk : B = some r → G x nL k n (wII b (ua v 1 (upd (v 1) i.toNatClampNeg z)) c w (cxT x)) lv (pc + 1) st) : G x nL k n (wII b v c w (cxT x)) lv pc (.int z :: .int i :: .ref (b 1) :: st) := g_iast (wd2 := wII b (ua v 1 (upd (v 1) i.toNatClampNeg z)) c w (cxT x)) o 1 rfl rfl dg hf kk
theorem D_ld2 (o : Ok x cc nL own d mc ms) {i : Int32} {α : Type} {r : α} {B : Option α} (dg : decode cc pc = .ok (.iaload, 1)) (hf : gd (inb i 8) B = some r) (kk : B = some r → G x nL k n (wII b v c w (cxT x)) lv (pc + 1) (.int (v 2 i.toNatClampNeg) :: st)) : G x nL k n (wII b v c w (cxT x)) lv pc (.int i :: .ref (b 2) :: st) := g_iald o 2 rfl dg hf kk
theorem D_st2 (o : Ok x cc nL own d mc ms) {i z : Int32} {α : Type} {r : α} {B : Option α} (dg : decode cc pc = .ok (.iastore, 1)) (hf : gd (inb i 8) B = some r) (kk : B = some r → G x nL k n (wII b (ua v 2 (upd (v 2) i.toNatClampNeg z)) c w (cxT x)) lv (pc + 1) st) : G x nL k n (wII b v c w (cxT x)) lv pc (.int z :: .int i :: .ref (b 2) :: st) := g_iast (wd2 := wII b (ua v 2 (upd (v 2) i.toNatClampNeg z)) c w (cxT x)) o 2 rfl rfl dg hf kk
theorem D_ld5 (o : Ok x cc nL own d mc ms) {i : Int32} {α : Type} {r : α} {B : Option α} (dg : decode cc pc = .ok (.iaload, 1)) (hf : gd (inb i 20) B = some r) (kk : B = some r → G x nL k n (wII b v c w (cxT x)) lv (pc + 1) (.int (v 5 i.toNatClampNeg) :: st)) : G x nL k n (wII b v c w (cxT x)) lv pc (.int i :: .ref (b 5) :: st) := g_iald o 3 rfl dg hf kk
theorem D_st5 (o : Ok x cc nL own d mc ms) {i z : Int32} {α : Type} {r : α} {B : Option α} (dg : decode cc pc = .ok (.iastore, 1)) (hf : gd (inb i 20) B = some r) (kk : B = some r → G x nL k n (wII b (ua v 5 (upd (v 5) i.toNatClampNeg z)) c w (cxT x)) lv (pc + 1) st) : G x nL k n (wII b v c w (cxT x)) lv pc (.int z :: .int i :: .ref (b 5) :: st) := g_iast (wd2 := wII b (ua v 5 (upd (v 5) i.toNatClampNeg z)) c w (cxT x)) o 3 rfl rfl dg hf kk
theorem D_ld6 (o : Ok x cc nL own d mc ms) {i : Int32} {α : Type} {r : α} {B : Option α} (dg : decode cc pc = .ok (.iaload, 1)) (hf : gd (inb i 20) B = some r) (kk : B = some r → G x nL k n (wII b v c w (cxT x)) lv (pc + 1) (.int (v 6 i.toNatClampNeg) :: st)) : G x nL k n (wII b v c w (cxT x)) lv pc (.int i :: .ref (b 6) :: st) := g_iald o 4 rfl dg hf kk
theorem D_st6 (o : Ok x cc nL own d mc ms) {i z : Int32} {α : Type} {r : α} {B : Option α} (dg : decode cc pc = .ok (.iastore, 1)) (hf : gd (inb i 20) B = some r) (kk : B = some r → G x nL k n (wII b (ua v 6 (upd (v 6) i.toNatClampNeg z)) c w (cxT x)) lv (pc + 1) st) : G x nL k n (wII b v c w (cxT x)) lv pc (.int z :: .int i :: .ref (b 6) :: st) := g_iast (wd2 := wII b (ua v 6 (upd (v 6) i.toNatClampNeg z)) c w (cxT x)) o 4 rfl rfl dg hf kk
theorem E_get0 (o : Ok x cc nL own d mc ms) {i : Nat} (hlk : Cond.fieldLink own i RX0 "relationCount" "I" ∈ Ug) (dg : decode cc pc = .ok (.getfield i, 3)) (kk : G x nL k n (wII b v c w (cxT x)) lv (pc + 3) (.int (w 0 0) :: st)) : G x nL k n (wII b v c w (cxT x)) lv pc (.ref (c 0) :: st) := g_get o inX0 5 rfl rfl 0 (Nat.le_of_ble_eq_true rfl) rfl rfl hlk dg kk
theorem E_get1 (o : Ok x cc nL own d mc ms) {i : Nat} (hlk : Cond.fieldLink own i RX0 "arities" "[I" ∈ Ug) (dg : decode cc pc = .ok (.getfield i, 3)) (kk : G x nL k n (wII b v c w (cxT x)) lv (pc + 3) (.ref (c 1) :: st)) : G x nL k n (wII b v c w (cxT x)) lv pc (.ref (c 0) :: st) := g_get o inX0 5 rfl rfl 1 (Nat.le_of_ble_eq_true rfl) rfl rfl hlk dg kk
theorem E_get2 (o : Ok x cc nL own d mc ms) {i : Nat} (hlk : Cond.fieldLink own i RX0 "tuples" "[I" ∈ Ug) (dg : decode cc pc = .ok (.getfield i, 3)) (kk : G x nL k n (wII b v c w (cxT x)) lv (pc + 3) (.ref (c 2) :: st)) : G x nL k n (wII b v c w (cxT x)) lv pc (.ref (c 0) :: st) := g_get o inX0 5 rfl rfl 2 (Nat.le_of_ble_eq_true rfl) rfl rfl hlk dg kk
theorem E_get3 (o : Ok x cc nL own d mc ms) {i : Nat} (hlk : Cond.fieldLink own i RX0 "variableCount" "I" ∈ Ug) (dg : decode cc pc = .ok (.getfield i, 3)) (kk : G x nL k n (wII b v c w (cxT x)) lv (pc + 3) (.int (w 0 3) :: st)) : G x nL k n (wII b v c w (cxT x)) lv pc (.ref (c 0) :: st) := g_get o inX0 5 rfl rfl 3 (Nat.le_of_ble_eq_true rfl) rfl rfl hlk dg kk
theorem E_get4 (o : Ok x cc nL own d mc ms) {i : Nat} (hlk : Cond.fieldLink own i RX0 "constraintCount" "I" ∈ Ug) (dg : decode cc pc = .ok (.getfield i, 3)) (kk : G x nL k n (wII b v c w (cxT x)) lv (pc + 3) (.int (w 0 4) :: st)) : G x nL k n (wII b v c w (cxT x)) lv pc (.ref (c 0) :: st) := g_get o inX0 5 rfl rfl 4 (Nat.le_of_ble_eq_true rfl) rfl rfl hlk dg kk
theorem E_get5 (o : Ok x cc nL own d mc ms) {i : Nat} (hlk : Cond.fieldLink own i RX0 "constraintRelations" "[I" ∈ Ug) (dg : decode cc pc = .ok (.getfield i, 3)) (kk : G x nL k n (wII b v c w (cxT x)) lv (pc + 3) (.ref (c 5) :: st)) : G x nL k n (wII b v c w (cxT x)) lv pc (.ref (c 0) :: st) := g_get o inX0 5 rfl rfl 5 (Nat.le_of_ble_eq_true rfl) rfl rfl hlk dg kk
theorem E_get6 (o : Ok x cc nL own d mc ms) {i : Nat} (hlk : Cond.fieldLink own i RX0 "constraintVariables" "[I" ∈ Ug) (dg : decode cc pc = .ok (.getfield i, 3)) (kk : G x nL k n (wII b v c w (cxT x)) lv (pc + 3) (.ref (c 6) :: st)) : G x nL k n (wII b v c w (cxT x)) lv pc (.ref (c 0) :: st) := g_get o inX0 5 rfl rfl 6 (Nat.le_of_ble_eq_true rfl) rfl rfl hlk dg kk
theorem E_ld1 (o : Ok x cc nL own d mc ms) {i : Int32} {α : Type} {r : α} {B : Option α} (dg : decode cc pc = .ok (.iaload, 1)) (hf : gd (inb i 8) B = some r) (kk : B = some r → G x nL k n (wII b v c w (cxT x)) lv (pc + 1) (.int (w 1 i.toNatClampNeg) :: st)) : G x nL k n (wII b v c w (cxT x)) lv pc (.int i :: .ref (c 1) :: st) := g_iald o 6 rfl dg hf kk
theorem E_ld2 (o : Ok x cc nL own d mc ms) {i : Int32} {α : Type} {r : α} {B : Option α} (dg : decode cc pc = .ok (.iaload, 1)) (hf : gd (inb i 8) B = some r) (kk : B = some r → G x nL k n (wII b v c w (cxT x)) lv (pc + 1) (.int (w 2 i.toNatClampNeg) :: st)) : G x nL k n (wII b v c w (cxT x)) lv pc (.int i :: .ref (c 2) :: st) := g_iald o 7 rfl dg hf kk
theorem E_ld5 (o : Ok x cc nL own d mc ms) {i : Int32} {α : Type} {r : α} {B : Option α} (dg : decode cc pc = .ok (.iaload, 1)) (hf : gd (inb i 20) B = some r) (kk : B = some r → G x nL k n (wII b v c w (cxT x)) lv (pc + 1) (.int (w 5 i.toNatClampNeg) :: st)) : G x nL k n (wII b v c w (cxT x)) lv pc (.int i :: .ref (c 5) :: st) := g_iald o 8 rfl dg hf kk
theorem E_ld6 (o : Ok x cc nL own d mc ms) {i : Int32} {α : Type} {r : α} {B : Option α} (dg : decode cc pc = .ok (.iaload, 1)) (hf : gd (inb i 20) B = some r) (kk : B = some r → G x nL k n (wII b v c w (cxT x)) lv (pc + 1) (.int (w 6 i.toNatClampNeg) :: st)) : G x nL k n (wII b v c w (cxT x)) lv pc (.int i :: .ref (c 6) :: st) := g_iald o 9 rfl dg hf kk
theorem X_get0 (o : Ok x cc nL own d mc ms) {i : Nat} (hlk : Cond.fieldLink own i RX1 "current" "LBooleanConstraints$Instance;" ∈ Ug) (dg : decode cc pc = .ok (.getfield i, 3)) (kk : G x nL k n (wX a u b v c w (cxT x)) lv (pc + 3) (.ref (b 0) :: st)) : G x nL k n (wX a u b v c w (cxT x)) lv pc (.ref (a 0) :: st) := g_get o inX1 0 rfl rfl 0 (Nat.le_of_ble_eq_true rfl) rfl rfl hlk dg kk
theorem X_get1 (o : Ok x cc nL own d mc ms) {i : Nat} (hlk : Cond.fieldLink own i RX1 "saved" "LBooleanConstraints$Instance;" ∈ Ug) (dg : decode cc pc = .ok (.getfield i, 3)) (kk : G x nL k n (wX a u b v c w (cxT x)) lv (pc + 3) (.ref (c 0) :: st)) : G x nL k n (wX a u b v c w (cxT x)) lv pc (.ref (a 0) :: st) := g_get o inX1 0 rfl rfl 1 (Nat.le_of_ble_eq_true rfl) rfl rfl hlk dg kk
theorem X_get2 (o : Ok x cc nL own d mc ms) {i : Nat} (hlk : Cond.fieldLink own i RX1 "hasSnapshot" "Z" ∈ Ug) (dg : decode cc pc = .ok (.getfield i, 3)) (kk : G x nL k n (wX a u b v c w (cxT x)) lv (pc + 3) (.int (u 0 2) :: st)) : G x nL k n (wX a u b v c w (cxT x)) lv pc (.ref (a 0) :: st) := g_get o inX1 0 rfl rfl 2 (Nat.le_of_ble_eq_true rfl) rfl rfl hlk dg kk
theorem X_put2 (o : Ok x cc nL own d mc ms) {i : Nat} {z : Int32} (hz : okB z = true) (hlk : Cond.fieldLink own i RX1 "hasSnapshot" "Z" ∈ Ug) (dg : decode cc pc = .ok (.putfield i, 3)) (kk : G x nL k n (wX a (us u 2 z) b v c w (cxT x)) lv (pc + 3) st) : G x nL k n (wX a u b v c w (cxT x)) lv pc (.int z :: .ref (a 0) :: st) := g_put (wd2 := wX a (us u 2 z) b v c w (cxT x)) o inX1 tyX1 tyX1_ok nmX1 0 rfl rfl 2 (Nat.le_of_ble_eq_true rfl) rfl rfl (okB_n hz) (okB_f hz) (Nat.le_of_ble_eq_true rfl) hlk rfl dg kk
theorem X_get3 (o : Ok x cc nL own d mc ms) {i : Nat} (hlk : Cond.fieldLink own i RX1 "input" "[C" ∈ Ug) (dg : decode cc pc = .ok (.getfield i, 3)) (kk : G x nL k n (wX a u b v c w (cxT x)) lv (pc + 3) (.ref (a 3) :: st)) : G x nL k n (wX a u b v c w (cxT x)) lv pc (.ref (a 0) :: st) := g_get o inX1 0 rfl rfl 3 (Nat.le_of_ble_eq_true rfl) rfl rfl hlk dg kk
theorem X_get4 (o : Ok x cc nL own d mc ms) {i : Nat} (hlk : Cond.fieldLink own i RX1 "inputLength" "I" ∈ Ug) (dg : decode cc pc = .ok (.getfield i, 3)) (kk : G x nL k n (wX a u b v c w (cxT x)) lv (pc + 3) (.int (u 0 4) :: st)) : G x nL k n (wX a u b v c w (cxT x)) lv pc (.ref (a 0) :: st) := g_get o inX1 0 rfl rfl 4 (Nat.le_of_ble_eq_true rfl) rfl rfl hlk dg kk
theorem X_put4 (o : Ok x cc nL own d mc ms) {i : Nat} {z : Int32} (hlk : Cond.fieldLink own i RX1 "inputLength" "I" ∈ Ug) (dg : decode cc pc = .ok (.putfield i, 3)) (kk : G x nL k n (wX a (us u 4 z) b v c w (cxT x)) lv (pc + 3) st) : G x nL k n (wX a u b v c w (cxT x)) lv pc (.int z :: .ref (a 0) :: st) := g_put (wd2 := wX a (us u 4 z) b v c w (cxT x)) o inX1 tyX1 tyX1_ok nmX1 0 rfl rfl 4 (Nat.le_of_ble_eq_true rfl) rfl rfl (vp_nar_int _) rfl (Nat.le_of_ble_eq_true rfl) hlk rfl dg kk
theorem X_get5 (o : Ok x cc nL own d mc ms) {i : Nat} (hlk : Cond.fieldLink own i RX1 "lastErrorPosition" "I" ∈ Ug) (dg : decode cc pc = .ok (.getfield i, 3)) (kk : G x nL k n (wX a u b v c w (cxT x)) lv (pc + 3) (.int (u 0 5) :: st)) : G x nL k n (wX a u b v c w (cxT x)) lv pc (.ref (a 0) :: st) := g_get o inX1 0 rfl rfl 5 (Nat.le_of_ble_eq_true rfl) rfl rfl hlk dg kk
theorem X_put5 (o : Ok x cc nL own d mc ms) {i : Nat} {z : Int32} (hlk : Cond.fieldLink own i RX1 "lastErrorPosition" "I" ∈ Ug) (dg : decode cc pc = .ok (.putfield i, 3)) (kk : G x nL k n (wX a (us u 5 z) b v c w (cxT x)) lv (pc + 3) st) : G x nL k n (wX a u b v c w (cxT x)) lv pc (.int z :: .ref (a 0) :: st) := g_put (wd2 := wX a (us u 5 z) b v c w (cxT x)) o inX1 tyX1 tyX1_ok nmX1 0 rfl rfl 5 (Nat.le_of_ble_eq_true rfl) rfl rfl (vp_nar_int _) rfl (Nat.le_of_ble_eq_true rfl) hlk rfl dg kk
theorem X_get6 (o : Ok x cc nL own d mc ms) {i : Nat} (hlk : Cond.fieldLink own i RX1 "output" "[C" ∈ Ug) (dg : decode cc pc = .ok (.getfield i, 3)) (kk : G x nL k n (wX a u b v c w (cxT x)) lv (pc + 3) (.ref (a 6) :: st)) : G x nL k n (wX a u b v c w (cxT x)) lv pc (.ref (a 0) :: st) := g_get o inX1 0 rfl rfl 6 (Nat.le_of_ble_eq_true rfl) rfl rfl hlk dg kk
theorem X_get7 (o : Ok x cc nL own d mc ms) {i : Nat} (hlk : Cond.fieldLink own i RX1 "outputLength" "I" ∈ Ug) (dg : decode cc pc = .ok (.getfield i, 3)) (kk : G x nL k n (wX a u b v c w (cxT x)) lv (pc + 3) (.int (u 0 7) :: st)) : G x nL k n (wX a u b v c w (cxT x)) lv pc (.ref (a 0) :: st) := g_get o inX1 0 rfl rfl 7 (Nat.le_of_ble_eq_true rfl) rfl rfl hlk dg kk
theorem X_put7 (o : Ok x cc nL own d mc ms) {i : Nat} {z : Int32} (hlk : Cond.fieldLink own i RX1 "outputLength" "I" ∈ Ug) (dg : decode cc pc = .ok (.putfield i, 3)) (kk : G x nL k n (wX a (us u 7 z) b v c w (cxT x)) lv (pc + 3) st) : G x nL k n (wX a u b v c w (cxT x)) lv pc (.int z :: .ref (a 0) :: st) := g_put (wd2 := wX a (us u 7 z) b v c w (cxT x)) o inX1 tyX1 tyX1_ok nmX1 0 rfl rfl 7 (Nat.le_of_ble_eq_true rfl) rfl rfl (vp_nar_int _) rfl (Nat.le_of_ble_eq_true rfl) hlk rfl dg kk
theorem X_get8 (o : Ok x cc nL own d mc ms) {i : Nat} (hlk : Cond.fieldLink own i RX1 "flagLengths" "[I" ∈ Ug) (dg : decode cc pc = .ok (.getfield i, 3)) (kk : G x nL k n (wX a u b v c w (cxT x)) lv (pc + 3) (.ref (a 8) :: st)) : G x nL k n (wX a u b v c w (cxT x)) lv pc (.ref (a 0) :: st) := g_get o inX1 0 rfl rfl 8 (Nat.le_of_ble_eq_true rfl) rfl rfl hlk dg kk
theorem X_get9 (o : Ok x cc nL own d mc ms) {i : Nat} (hlk : Cond.fieldLink own i RX1 "flagBits" "[I" ∈ Ug) (dg : decode cc pc = .ok (.getfield i, 3)) (kk : G x nL k n (wX a u b v c w (cxT x)) lv (pc + 3) (.ref (a 9) :: st)) : G x nL k n (wX a u b v c w (cxT x)) lv pc (.ref (a 0) :: st) := g_get o inX1 0 rfl rfl 9 (Nat.le_of_ble_eq_true rfl) rfl rfl hlk dg kk
theorem X_ld3 (o : Ok x cc nL own d mc ms) {i : Int32} {α : Type} {r : α} {B : Option α} (dg : decode cc pc = .ok (.caload, 1)) (hf : gd (inb i 60) B = some r) (kk : B = some r → G x nL k n (wX a u b v c w (cxT x)) lv (pc + 1) (.int (u 3 i.toNatClampNeg) :: st)) : G x nL k n (wX a u b v c w (cxT x)) lv pc (.int i :: .ref (a 3) :: st) := g_cald o 1 rfl dg hf kk
theorem X_st3 (o : Ok x cc nL own d mc ms) {i z : Int32} {α : Type} {r : α} {B : Option α} (dg : decode cc pc = .ok (.castore, 1)) (hf : gd (inb i 60) B = some r) (kk : B = some r → G x nL k n (wX a (ua u 3 (upd (u 3) i.toNatClampNeg (vp_nar .char z))) b v c w (cxT x)) lv (pc + 1) st) : G x nL k n (wX a u b v c w (cxT x)) lv pc (.int z :: .int i :: .ref (a 3) :: st) := g_cast (wd2 := wX a (ua u 3 (upd (u 3) i.toNatClampNeg (vp_nar .char z))) b v c w (cxT x)) o 1 rfl rfl dg hf kk
theorem X_ld6 (o : Ok x cc nL own d mc ms) {i : Int32} {α : Type} {r : α} {B : Option α} (dg : decode cc pc = .ok (.caload, 1)) (hf : gd (inb i 79) B = some r) (kk : B = some r → G x nL k n (wX a u b v c w (cxT x)) lv (pc + 1) (.int (u 6 i.toNatClampNeg) :: st)) : G x nL k n (wX a u b v c w (cxT x)) lv pc (.int i :: .ref (a 6) :: st) := g_cald o 2 rfl dg hf kk
theorem X_st6 (o : Ok x cc nL own d mc ms) {i z : Int32} {α : Type} {r : α} {B : Option α} (dg : decode cc pc = .ok (.castore, 1)) (hf : gd (inb i 79) B = some r) (kk : B = some r → G x nL k n (wX a (ua u 6 (upd (u 6) i.toNatClampNeg (vp_nar .char z))) b v c w (cxT x)) lv (pc + 1) st) : G x nL k n (wX a u b v c w (cxT x)) lv pc (.int z :: .int i :: .ref (a 6) :: st) := g_cast (wd2 := wX a (ua u 6 (upd (u 6) i.toNatClampNeg (vp_nar .char z))) b v c w (cxT x)) o 2 rfl rfl dg hf kk
theorem X_ld8 (o : Ok x cc nL own d mc ms) {i : Int32} {α : Type} {r : α} {B : Option α} (dg : decode cc pc = .ok (.iaload, 1)) (hf : gd (inb i 3) B = some r) (kk : B = some r → G x nL k n (wX a u b v c w (cxT x)) lv (pc + 1) (.int (u 8 i.toNatClampNeg) :: st)) : G x nL k n (wX a u b v c w (cxT x)) lv pc (.int i :: .ref (a 8) :: st) := g_iald o 3 rfl dg hf kk
theorem X_st8 (o : Ok x cc nL own d mc ms) {i z : Int32} {α : Type} {r : α} {B : Option α} (dg : decode cc pc = .ok (.iastore, 1)) (hf : gd (inb i 3) B = some r) (kk : B = some r → G x nL k n (wX a (ua u 8 (upd (u 8) i.toNatClampNeg z)) b v c w (cxT x)) lv (pc + 1) st) : G x nL k n (wX a u b v c w (cxT x)) lv pc (.int z :: .int i :: .ref (a 8) :: st) := g_iast (wd2 := wX a (ua u 8 (upd (u 8) i.toNatClampNeg z)) b v c w (cxT x)) o 3 rfl rfl dg hf kk
theorem X_ld9 (o : Ok x cc nL own d mc ms) {i : Int32} {α : Type} {r : α} {B : Option α} (dg : decode cc pc = .ok (.iaload, 1)) (hf : gd (inb i 3) B = some r) (kk : B = some r → G x nL k n (wX a u b v c w (cxT x)) lv (pc + 1) (.int (u 9 i.toNatClampNeg) :: st)) : G x nL k n (wX a u b v c w (cxT x)) lv pc (.int i :: .ref (a 9) :: st) := g_iald o 4 rfl dg hf kk
theorem X_st9 (o : Ok x cc nL own d mc ms) {i z : Int32} {α : Type} {r : α} {B : Option α} (dg : decode cc pc = .ok (.iastore, 1)) (hf : gd (inb i 3) B = some r) (kk : B = some r → G x nL k n (wX a (ua u 9 (upd (u 9) i.toNatClampNeg z)) b v c w (cxT x)) lv (pc + 1) st) : G x nL k n (wX a u b v c w (cxT x)) lv pc (.int z :: .int i :: .ref (a 9) :: st) := g_iast (wd2 := wX a (ua u 9 (upd (u 9) i.toNatClampNeg z)) b v c w (cxT x)) o 4 rfl rfl dg hf kk
theorem Y_get0 (o : Ok x cc nL own d mc ms) {i : Nat} (hlk : Cond.fieldLinkNest own i RX0 "relationCount" "I" RX1 ∈ Ue) (dg : decode cc pc = .ok (.getfield i, 3)) (kk : G x nL k n (wX a u b v c w (cxT x)) lv (pc + 3) (.int (v 0 0) :: st)) : G x nL k n (wX a u b v c w (cxT x)) lv pc (.ref (b 0) :: st) := g_getN o inX0 5 rfl rfl 0 (Nat.le_of_ble_eq_true rfl) rfl rfl hlk dg kk
theorem Y_put0 (o : Ok x cc nL own d mc ms) {i : Nat} {z : Int32} (hlk : Cond.fieldLinkNest own i RX0 "relationCount" "I" RX1 ∈ Ue) (dg : decode cc pc = .ok (.putfield i, 3)) (kk : G x nL k n (wX a u b (us v 0 z) c w (cxT x)) lv (pc + 3) st) : G x nL k n (wX a u b v c w (cxT x)) lv pc (.int z :: .ref (b 0) :: st) := g_putN (wd2 := wX a u b (us v 0 z) c w (cxT x)) o inX0 tyX0 tyX0_ok nmX0 5 rfl rfl 0 (Nat.le_of_ble_eq_true rfl) rfl rfl (vp_nar_int _) rfl (Nat.le_of_ble_eq_true rfl) hlk rfl dg kk
theorem Y_get1 (o : Ok x cc nL own d mc ms) {i : Nat} (hlk : Cond.fieldLinkNest own i RX0 "arities" "[I" RX1 ∈ Ue) (dg : decode cc pc = .ok (.getfield i, 3)) (kk : G x nL k n (wX a u b v c w (cxT x)) lv (pc + 3) (.ref (b 1) :: st)) : G x nL k n (wX a u b v c w (cxT x)) lv pc (.ref (b 0) :: st) := g_getN o inX0 5 rfl rfl 1 (Nat.le_of_ble_eq_true rfl) rfl rfl hlk dg kk
theorem Y_get2 (o : Ok x cc nL own d mc ms) {i : Nat} (hlk : Cond.fieldLinkNest own i RX0 "tuples" "[I" RX1 ∈ Ue) (dg : decode cc pc = .ok (.getfield i, 3)) (kk : G x nL k n (wX a u b v c w (cxT x)) lv (pc + 3) (.ref (b 2) :: st)) : G x nL k n (wX a u b v c w (cxT x)) lv pc (.ref (b 0) :: st) := g_getN o inX0 5 rfl rfl 2 (Nat.le_of_ble_eq_true rfl) rfl rfl hlk dg kk
theorem Y_get3 (o : Ok x cc nL own d mc ms) {i : Nat} (hlk : Cond.fieldLinkNest own i RX0 "variableCount" "I" RX1 ∈ Ue) (dg : decode cc pc = .ok (.getfield i, 3)) (kk : G x nL k n (wX a u b v c w (cxT x)) lv (pc + 3) (.int (v 0 3) :: st)) : G x nL k n (wX a u b v c w (cxT x)) lv pc (.ref (b 0) :: st) := g_getN o inX0 5 rfl rfl 3 (Nat.le_of_ble_eq_true rfl) rfl rfl hlk dg kk
theorem Y_put3 (o : Ok x cc nL own d mc ms) {i : Nat} {z : Int32} (hlk : Cond.fieldLinkNest own i RX0 "variableCount" "I" RX1 ∈ Ue) (dg : decode cc pc = .ok (.putfield i, 3)) (kk : G x nL k n (wX a u b (us v 3 z) c w (cxT x)) lv (pc + 3) st) : G x nL k n (wX a u b v c w (cxT x)) lv pc (.int z :: .ref (b 0) :: st) := g_putN (wd2 := wX a u b (us v 3 z) c w (cxT x)) o inX0 tyX0 tyX0_ok nmX0 5 rfl rfl 3 (Nat.le_of_ble_eq_true rfl) rfl rfl (vp_nar_int _) rfl (Nat.le_of_ble_eq_true rfl) hlk rfl dg kk
theorem Y_get4 (o : Ok x cc nL own d mc ms) {i : Nat} (hlk : Cond.fieldLinkNest own i RX0 "constraintCount" "I" RX1 ∈ Ue) (dg : decode cc pc = .ok (.getfield i, 3)) (kk : G x nL k n (wX a u b v c w (cxT x)) lv (pc + 3) (.int (v 0 4) :: st)) : G x nL k n (wX a u b v c w (cxT x)) lv pc (.ref (b 0) :: st) := g_getN o inX0 5 rfl rfl 4 (Nat.le_of_ble_eq_true rfl) rfl rfl hlk dg kk
theorem Y_put4 (o : Ok x cc nL own d mc ms) {i : Nat} {z : Int32} (hlk : Cond.fieldLinkNest own i RX0 "constraintCount" "I" RX1 ∈ Ue) (dg : decode cc pc = .ok (.putfield i, 3)) (kk : G x nL k n (wX a u b (us v 4 z) c w (cxT x)) lv (pc + 3) st) : G x nL k n (wX a u b v c w (cxT x)) lv pc (.int z :: .ref (b 0) :: st) := g_putN (wd2 := wX a u b (us v 4 z) c w (cxT x)) o inX0 tyX0 tyX0_ok nmX0 5 rfl rfl 4 (Nat.le_of_ble_eq_true rfl) rfl rfl (vp_nar_int _) rfl (Nat.le_of_ble_eq_true rfl) hlk rfl dg kk
theorem Y_get5 (o : Ok x cc nL own d mc ms) {i : Nat} (hlk : Cond.fieldLinkNest own i RX0 "constraintRelations" "[I" RX1 ∈ Ue) (dg : decode cc pc = .ok (.getfield i, 3)) (kk : G x nL k n (wX a u b v c w (cxT x)) lv (pc + 3) (.ref (b 5) :: st)) : G x nL k n (wX a u b v c w (cxT x)) lv pc (.ref (b 0) :: st) := g_getN o inX0 5 rfl rfl 5 (Nat.le_of_ble_eq_true rfl) rfl rfl hlk dg kk
theorem Y_get6 (o : Ok x cc nL own d mc ms) {i : Nat} (hlk : Cond.fieldLinkNest own i RX0 "constraintVariables" "[I" RX1 ∈ Ue) (dg : decode cc pc = .ok (.getfield i, 3)) (kk : G x nL k n (wX a u b v c w (cxT x)) lv (pc + 3) (.ref (b 6) :: st)) : G x nL k n (wX a u b v c w (cxT x)) lv pc (.ref (b 0) :: st) := g_getN o inX0 5 rfl rfl 6 (Nat.le_of_ble_eq_true rfl) rfl rfl hlk dg kk
theorem Y_ld1 (o : Ok x cc nL own d mc ms) {i : Int32} {α : Type} {r : α} {B : Option α} (dg : decode cc pc = .ok (.iaload, 1)) (hf : gd (inb i 8) B = some r) (kk : B = some r → G x nL k n (wX a u b v c w (cxT x)) lv (pc + 1) (.int (v 1 i.toNatClampNeg) :: st)) : G x nL k n (wX a u b v c w (cxT x)) lv pc (.int i :: .ref (b 1) :: st) := g_iald o 6 rfl dg hf kk
theorem Y_st1 (o : Ok x cc nL own d mc ms) {i z : Int32} {α : Type} {r : α} {B : Option α} (dg : decode cc pc = .ok (.iastore, 1)) (hf : gd (inb i 8) B = some r) (kk : B = some r → G x nL k n (wX a u b (ua v 1 (upd (v 1) i.toNatClampNeg z)) c w (cxT x)) lv (pc + 1) st) : G x nL k n (wX a u b v c w (cxT x)) lv pc (.int z :: .int i :: .ref (b 1) :: st) := g_iast (wd2 := wX a u b (ua v 1 (upd (v 1) i.toNatClampNeg z)) c w (cxT x)) o 6 rfl rfl dg hf kk
theorem Y_ld2 (o : Ok x cc nL own d mc ms) {i : Int32} {α : Type} {r : α} {B : Option α} (dg : decode cc pc = .ok (.iaload, 1)) (hf : gd (inb i 8) B = some r) (kk : B = some r → G x nL k n (wX a u b v c w (cxT x)) lv (pc + 1) (.int (v 2 i.toNatClampNeg) :: st)) : G x nL k n (wX a u b v c w (cxT x)) lv pc (.int i :: .ref (b 2) :: st) := g_iald o 7 rfl dg hf kk
theorem Y_st2 (o : Ok x cc nL own d mc ms) {i z : Int32} {α : Type} {r : α} {B : Option α} (dg : decode cc pc = .ok (.iastore, 1)) (hf : gd (inb i 8) B = some r) (kk : B = some r → G x nL k n (wX a u b (ua v 2 (upd (v 2) i.toNatClampNeg z)) c w (cxT x)) lv (pc + 1) st) : G x nL k n (wX a u b v c w (cxT x)) lv pc (.int z :: .int i :: .ref (b 2) :: st) := g_iast (wd2 := wX a u b (ua v 2 (upd (v 2) i.toNatClampNeg z)) c w (cxT x)) o 7 rfl rfl dg hf kk
theorem Y_ld5 (o : Ok x cc nL own d mc ms) {i : Int32} {α : Type} {r : α} {B : Option α} (dg : decode cc pc = .ok (.iaload, 1)) (hf : gd (inb i 20) B = some r) (kk : B = some r → G x nL k n (wX a u b v c w (cxT x)) lv (pc + 1) (.int (v 5 i.toNatClampNeg) :: st)) : G x nL k n (wX a u b v c w (cxT x)) lv pc (.int i :: .ref (b 5) :: st) := g_iald o 8 rfl dg hf kk
theorem Y_st5 (o : Ok x cc nL own d mc ms) {i z : Int32} {α : Type} {r : α} {B : Option α} (dg : decode cc pc = .ok (.iastore, 1)) (hf : gd (inb i 20) B = some r) (kk : B = some r → G x nL k n (wX a u b (ua v 5 (upd (v 5) i.toNatClampNeg z)) c w (cxT x)) lv (pc + 1) st) : G x nL k n (wX a u b v c w (cxT x)) lv pc (.int z :: .int i :: .ref (b 5) :: st) := g_iast (wd2 := wX a u b (ua v 5 (upd (v 5) i.toNatClampNeg z)) c w (cxT x)) o 8 rfl rfl dg hf kk
theorem Y_ld6 (o : Ok x cc nL own d mc ms) {i : Int32} {α : Type} {r : α} {B : Option α} (dg : decode cc pc = .ok (.iaload, 1)) (hf : gd (inb i 20) B = some r) (kk : B = some r → G x nL k n (wX a u b v c w (cxT x)) lv (pc + 1) (.int (v 6 i.toNatClampNeg) :: st)) : G x nL k n (wX a u b v c w (cxT x)) lv pc (.int i :: .ref (b 6) :: st) := g_iald o 9 rfl dg hf kk
theorem Y_st6 (o : Ok x cc nL own d mc ms) {i z : Int32} {α : Type} {r : α} {B : Option α} (dg : decode cc pc = .ok (.iastore, 1)) (hf : gd (inb i 20) B = some r) (kk : B = some r → G x nL k n (wX a u b (ua v 6 (upd (v 6) i.toNatClampNeg z)) c w (cxT x)) lv (pc + 1) st) : G x nL k n (wX a u b v c w (cxT x)) lv pc (.int z :: .int i :: .ref (b 6) :: st) := g_iast (wd2 := wX a u b (ua v 6 (upd (v 6) i.toNatClampNeg z)) c w (cxT x)) o 9 rfl rfl dg hf kk
theorem Z_get0 (o : Ok x cc nL own d mc ms) {i : Nat} (hlk : Cond.fieldLinkNest own i RX0 "relationCount" "I" RX1 ∈ Ue) (dg : decode cc pc = .ok (.getfield i, 3)) (kk : G x nL k n (wX a u b v c w (cxT x)) lv (pc + 3) (.int (w 0 0) :: st)) : G x nL k n (wX a u b v c w (cxT x)) lv pc (.ref (c 0) :: st) := g_getN o inX0 10 rfl rfl 0 (Nat.le_of_ble_eq_true rfl) rfl rfl hlk dg kk
theorem Z_get1 (o : Ok x cc nL own d mc ms) {i : Nat} (hlk : Cond.fieldLinkNest own i RX0 "arities" "[I" RX1 ∈ Ue) (dg : decode cc pc = .ok (.getfield i, 3)) (kk : G x nL k n (wX a u b v c w (cxT x)) lv (pc + 3) (.ref (c 1) :: st)) : G x nL k n (wX a u b v c w (cxT x)) lv pc (.ref (c 0) :: st) := g_getN o inX0 10 rfl rfl 1 (Nat.le_of_ble_eq_true rfl) rfl rfl hlk dg kk
theorem Z_get2 (o : Ok x cc nL own d mc ms) {i : Nat} (hlk : Cond.fieldLinkNest own i RX0 "tuples" "[I" RX1 ∈ Ue) (dg : decode cc pc = .ok (.getfield i, 3)) (kk : G x nL k n (wX a u b v c w (cxT x)) lv (pc + 3) (.ref (c 2) :: st)) : G x nL k n (wX a u b v c w (cxT x)) lv pc (.ref (c 0) :: st) := g_getN o inX0 10 rfl rfl 2 (Nat.le_of_ble_eq_true rfl) rfl rfl hlk dg kk
theorem Z_get3 (o : Ok x cc nL own d mc ms) {i : Nat} (hlk : Cond.fieldLinkNest own i RX0 "variableCount" "I" RX1 ∈ Ue) (dg : decode cc pc = .ok (.getfield i, 3)) (kk : G x nL k n (wX a u b v c w (cxT x)) lv (pc + 3) (.int (w 0 3) :: st)) : G x nL k n (wX a u b v c w (cxT x)) lv pc (.ref (c 0) :: st) := g_getN o inX0 10 rfl rfl 3 (Nat.le_of_ble_eq_true rfl) rfl rfl hlk dg kk
theorem Z_get4 (o : Ok x cc nL own d mc ms) {i : Nat} (hlk : Cond.fieldLinkNest own i RX0 "constraintCount" "I" RX1 ∈ Ue) (dg : decode cc pc = .ok (.getfield i, 3)) (kk : G x nL k n (wX a u b v c w (cxT x)) lv (pc + 3) (.int (w 0 4) :: st)) : G x nL k n (wX a u b v c w (cxT x)) lv pc (.ref (c 0) :: st) := g_getN o inX0 10 rfl rfl 4 (Nat.le_of_ble_eq_true rfl) rfl rfl hlk dg kk
theorem Z_get5 (o : Ok x cc nL own d mc ms) {i : Nat} (hlk : Cond.fieldLinkNest own i RX0 "constraintRelations" "[I" RX1 ∈ Ue) (dg : decode cc pc = .ok (.getfield i, 3)) (kk : G x nL k n (wX a u b v c w (cxT x)) lv (pc + 3) (.ref (c 5) :: st)) : G x nL k n (wX a u b v c w (cxT x)) lv pc (.ref (c 0) :: st) := g_getN o inX0 10 rfl rfl 5 (Nat.le_of_ble_eq_true rfl) rfl rfl hlk dg kk
theorem Z_get6 (o : Ok x cc nL own d mc ms) {i : Nat} (hlk : Cond.fieldLinkNest own i RX0 "constraintVariables" "[I" RX1 ∈ Ue) (dg : decode cc pc = .ok (.getfield i, 3)) (kk : G x nL k n (wX a u b v c w (cxT x)) lv (pc + 3) (.ref (c 6) :: st)) : G x nL k n (wX a u b v c w (cxT x)) lv pc (.ref (c 0) :: st) := g_getN o inX0 10 rfl rfl 6 (Nat.le_of_ble_eq_true rfl) rfl rfl hlk dg kk
theorem Z_ld1 (o : Ok x cc nL own d mc ms) {i : Int32} {α : Type} {r : α} {B : Option α} (dg : decode cc pc = .ok (.iaload, 1)) (hf : gd (inb i 8) B = some r) (kk : B = some r → G x nL k n (wX a u b v c w (cxT x)) lv (pc + 1) (.int (w 1 i.toNatClampNeg) :: st)) : G x nL k n (wX a u b v c w (cxT x)) lv pc (.int i :: .ref (c 1) :: st) := g_iald o 11 rfl dg hf kk
theorem Z_ld2 (o : Ok x cc nL own d mc ms) {i : Int32} {α : Type} {r : α} {B : Option α} (dg : decode cc pc = .ok (.iaload, 1)) (hf : gd (inb i 8) B = some r) (kk : B = some r → G x nL k n (wX a u b v c w (cxT x)) lv (pc + 1) (.int (w 2 i.toNatClampNeg) :: st)) : G x nL k n (wX a u b v c w (cxT x)) lv pc (.int i :: .ref (c 2) :: st) := g_iald o 12 rfl dg hf kk
theorem Z_ld5 (o : Ok x cc nL own d mc ms) {i : Int32} {α : Type} {r : α} {B : Option α} (dg : decode cc pc = .ok (.iaload, 1)) (hf : gd (inb i 20) B = some r) (kk : B = some r → G x nL k n (wX a u b v c w (cxT x)) lv (pc + 1) (.int (w 5 i.toNatClampNeg) :: st)) : G x nL k n (wX a u b v c w (cxT x)) lv pc (.int i :: .ref (c 5) :: st) := g_iald o 13 rfl dg hf kk
theorem Z_ld6 (o : Ok x cc nL own d mc ms) {i : Int32} {α : Type} {r : α} {B : Option α} (dg : decode cc pc = .ok (.iaload, 1)) (hf : gd (inb i 20) B = some r) (kk : B = some r → G x nL k n (wX a u b v c w (cxT x)) lv (pc + 1) (.int (w 6 i.toNatClampNeg) :: st)) : G x nL k n (wX a u b v c w (cxT x)) lv pc (.int i :: .ref (c 6) :: st) := g_iald o 14 rfl dg hf kk
theorem ok_KIND_ARITIES (o : Ok x cc nL own d mc ms) : SA RX1 "KIND_ARITIES" "[I" .int 6 (fun j => .int (kAr j)) (cxA x) (cxs x) (cxs x).heap := o.2.2.2.2.2.2.2.1.2.2.2.2.2.1
theorem ok_KIND_CODES (o : Ok x cc nL own d mc ms) : SA RX1 "KIND_CODES" "[I" .int 6 (fun j => .int (kCo j)) (cxA x) (cxs x) (cxs x).heap := o.2.2.2.2.2.2.2.1.2.2.2.2.2.2.1
theorem ok_ARGUMENT_CODES (o : Ok x cc nL own d mc ms) : SA RX1 "ARGUMENT_CODES" "[I" .int 3 (fun j => .int (aCo j)) (cxA x) (cxs x) (cxs x).heap := o.2.2.2.2.2.2.2.1.2.2.2.2.2.2.2.1
theorem ok_KIND_ARITY (o : Ok x cc nL own d mc ms) : SA RX2 "KIND_ARITY" "[I" .int 6 (fun j => .int (kAr j)) (cxA x) (cxs x) (cxs x).heap := o.2.2.2.2.2.2.2.1.2.2.2.2.2.2.2.2.1
theorem ok_KIND_CODE (o : Ok x cc nL own d mc ms) : SA RX2 "KIND_CODE" "[I" .int 6 (fun j => .int (kCo j)) (cxA x) (cxs x) (cxs x).heap := o.2.2.2.2.2.2.2.1.2.2.2.2.2.2.2.2.2.1
theorem ok_ONES (o : Ok x cc nL own d mc ms) : SA RX0 "ONES" "[J" .long 6 (fun j => .long (onL j)) (cxA x) (cxs x) (cxs x).heap := o.2.2.2.2.2.2.2.1.2.2.2.2.2.2.2.2.2.2
end SR
end
