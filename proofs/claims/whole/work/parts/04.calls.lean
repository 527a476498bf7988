/-! ===== contracts ===== -/
def WB (D : va_G) (T : Nat → ClassId) (A : Nat → Prop) (wd : va_W) (t : State) : Prop := va_P D vwCl wd t.heap ∧ va_K D vwCl (tysT T) t ∧ va_D A wd
def PcG (D : va_G) (T : Nat → ClassId) (sz : Nat) (vs : List Value) (wd : va_W) : Array Value → State → Prop := va_Pc vs (fun U => U.heap.size = sz ∧ va_P D vwCl wd U.heap ∧ va_K D vwCl (tysT T) U ∧ va_D (fun _ => True) wd ∧ Sx (va_A wd sz) U U.heap)
abbrev XcG {ρ : Type} (D : va_G) (T : Nat → ClassId) (A : Nat → Prop) (wd : va_W) (z : ρ ⊕ String) : String → State → State → Prop := vx_X (fun _ : Unit => True) (fun E _ t => z = .inr E ∧ WB D T A wd t) A
def CoI (l : Launch) (y : MethodName) (hd : Cond) (d mc ms : Nat) (vs : List Value) (wd wd2 : (Nat → ClassId) → va_W) (z : Int32 ⊕ String) : Prop := ∀ (D : va_G) (T : Nat → ClassId) (sz : Nat),
  vx_Met l y (hd :: Ug) (rmD d mc ms) (PcG D T sz vs (wd T)) (va_Qi (fun r (_ : Unit) => z = .inl r) (fun _ t => WB D T (va_A (wd T) sz) (wd2 T) t) (va_A (wd T) sz)) (XcG D T (va_A (wd T) sz) (wd2 T) z) mc ms (va_A (wd T) sz)
def CoL (l : Launch) (y : MethodName) (hd : Cond) (d mc ms : Nat) (vs : List Value) (wd wd2 : (Nat → ClassId) → va_W) (z : Int64 ⊕ String) : Prop := ∀ (D : va_G) (T : Nat → ClassId) (sz : Nat),
  vx_Met l y (hd :: Ug) (rmD d mc ms) (PcG D T sz vs (wd T)) (va_Ql (fun r (_ : Unit) => z = .inl r) (fun _ t => WB D T (va_A (wd T) sz) (wd2 T) t) (va_A (wd T) sz)) (XcG D T (va_A (wd T) sz) (wd2 T) z) mc ms (va_A (wd T) sz)
def CoV (l : Launch) (y : MethodName) (hd : Cond) (d mc ms : Nat) (vs : List Value) (wd wd2 : (Nat → ClassId) → va_W) (z : Unit ⊕ String) : Prop := ∀ (D : va_G) (T : Nat → ClassId) (sz : Nat),
  vx_Met l y (hd :: Ug) (rmD d mc ms) (PcG D T sz vs (wd T)) (va_Qv (fun _ : Unit => z = .inl ()) (fun _ t => WB D T (va_A (wd T) sz) (wd2 T) t) (va_A (wd T) sz)) (XcG D T (va_A (wd T) sz) (wd2 T) z) mc ms (va_A (wd T) sz)
theorem PcG_blind {D : va_G} {T : Nat → ClassId} {sz : Nat} {vs : List Value} {wd : va_W} : FrameBlind (PcG D T sz vs wd) := by
  intro a U g mk q
  obtain ⟨q0, q1, qP, qK, qD, qS⟩ := q
  exact ⟨q0, q1, qP, va_K.moved (u := U) (U := U.calling g mk a) (Vm.Alike.refl U.vm) qK, qD, qS.same rfl⟩
section MK
variable {l : Launch} {y : MethodName} {cc : ByteArray} {nL d mc ms : Nat} {ret : Option FieldType} {vs : List Value} {wd wd2 : (Nat → ClassId) → va_W}
theorem mkI {ty : FieldType} {z : Int32 ⊕ String} (hst : l.stackTraces = false) (hy : plainName y.cls = true) (hlen : (lg_sl vs).length ≤ nL)
    (body : ∀ x : Cx, cxl x = l → Ok x cc nL y.cls d mc ms → (∀ r, z = .inl r → RetI x cc ty mc ms (wd2 (cxT x)) r) → (∀ E, z = .inr E → RetX x mc ms (wd2 (cxT x)) E) → G x nL 0 0 (wd (cxT x)) (lv_args 0 vs) 0 []) :
    CoI l y (.code y cc nL (some ty)) d mc ms vs wd wd2 z := by
  intro D T sz
  refine vx_ofW (cc := cc) (maxL := nL) (ret := some ty) hy rfl ?_
  intro p e s m args below meth c s₁ B hml hno hv
  obtain ⟨rfl, hsz, hP, hK, hD0, hSx⟩ := hv
  subst hsz
  have hts := atoms_spec (ws := Cond.code y cc nL (some ty) :: Ug) B.pre
  have hD := hD0.self (sz := s.heap.size)
  have hl := lv_entry vs (n := nL) hlen
  rw [lg_entry_eq]
  refine body ((p, l, e, _, s, m, vs.toArray, below, meth, c), (va_A (wd T) s.heap.size, _, D, T)) rfl ⟨B.exec, B.bytes, hml, findClass_of_methodNamed B.named, fun w hw => hts w (List.mem_cons_of_mem _ hw), hK, fun q h => Or.inr h, hSx, B.notSynchronized, hst, Nat.le_refl _, Nat.le_refl _, Nat.le_refl _, Nat.le_refl _⟩ ?_ ?_ s.heap [] _ hP hD va_S.rf hl
  · intro r hz k n pc H locs ls h1 h2 hn dg hP hD hS
    refine W.widen h1 h2 (vx_ret (W.zret B.exec B.bytes B.returns hn (fun t ht hW => ⟨⟨r, (), rfl, hz, by rw [ht]; exact hP, va_K.moved hW.alike hK, hD⟩, hS.F ht⟩) hS.2.2 dg B.notSynchronized))
  · intro E hz
    exact ⟨_, _, _, rfl, hno, fun _ h => h, fun t hva hF hP hD => ⟨(), trivial, ⟨hz, hP, va_K.moved hva hK, hD⟩, hF⟩⟩
theorem mkL {z : Int64 ⊕ String} (hst : l.stackTraces = false) (hy : plainName y.cls = true) (hlen : (lg_sl vs).length ≤ nL)
    (body : ∀ x : Cx, cxl x = l → Ok x cc nL y.cls d mc ms → (∀ r, z = .inl r → RetL x cc mc ms (wd2 (cxT x)) r) → (∀ E, z = .inr E → RetX x mc ms (wd2 (cxT x)) E) → G x nL 0 0 (wd (cxT x)) (lv_args 0 vs) 0 []) :
    CoL l y (.code y cc nL (some .long)) d mc ms vs wd wd2 z := by
  intro D T sz
  refine vx_ofW (cc := cc) (maxL := nL) (ret := some .long) hy rfl ?_
  intro p e s m args below meth c s₁ B hml hno hv
  obtain ⟨rfl, hsz, hP, hK, hD0, hSx⟩ := hv
  subst hsz
  have hts := atoms_spec (ws := Cond.code y cc nL (some .long) :: Ug) B.pre
  have hD := hD0.self (sz := s.heap.size)
  have hl := lv_entry vs (n := nL) hlen
  rw [lg_entry_eq]
  refine body ((p, l, e, _, s, m, vs.toArray, below, meth, c), (va_A (wd T) s.heap.size, _, D, T)) rfl ⟨B.exec, B.bytes, hml, findClass_of_methodNamed B.named, fun w hw => hts w (List.mem_cons_of_mem _ hw), hK, fun q h => Or.inr h, hSx, B.notSynchronized, hst, Nat.le_refl _, Nat.le_refl _, Nat.le_refl _, Nat.le_refl _⟩ ?_ ?_ s.heap [] _ hP hD va_S.rf hl
  · intro r hz k n pc H locs ls h1 h2 dg hP hD hS
    refine W.widen h1 h2 (vx_ret (W.lret B.exec B.bytes B.returns (fun t ht hW => ⟨⟨r, (), rfl, hz, by rw [ht]; exact hP, va_K.moved hW.alike hK, hD⟩, hS.F ht⟩) hS.2.2 dg B.notSynchronized))
  · intro E hz
    exact ⟨_, _, _, rfl, hno, fun _ h => h, fun t hva hF hP hD => ⟨(), trivial, ⟨hz, hP, va_K.moved hva hK, hD⟩, hF⟩⟩
theorem mkV {z : Unit ⊕ String} (hst : l.stackTraces = false) (hy : plainName y.cls = true) (hlen : (lg_sl vs).length ≤ nL)
    (body : ∀ x : Cx, cxl x = l → Ok x cc nL y.cls d mc ms → (z = .inl () → RetV x cc mc ms (wd2 (cxT x))) → (∀ E, z = .inr E → RetX x mc ms (wd2 (cxT x)) E) → G x nL 0 0 (wd (cxT x)) (lv_args 0 vs) 0 []) :
    CoV l y (.code y cc nL none) d mc ms vs wd wd2 z := by
  intro D T sz
  refine vx_ofW (cc := cc) (maxL := nL) (ret := none) hy rfl ?_
  intro p e s m args below meth c s₁ B hml hno hv
  obtain ⟨rfl, hsz, hP, hK, hD0, hSx⟩ := hv
  subst hsz
  have hts := atoms_spec (ws := Cond.code y cc nL none :: Ug) B.pre
  have hD := hD0.self (sz := s.heap.size)
  have hl := lv_entry vs (n := nL) hlen
  rw [lg_entry_eq]
  refine body ((p, l, e, _, s, m, vs.toArray, below, meth, c), (va_A (wd T) s.heap.size, _, D, T)) rfl ⟨B.exec, B.bytes, hml, findClass_of_methodNamed B.named, fun w hw => hts w (List.mem_cons_of_mem _ hw), hK, fun q h => Or.inr h, hSx, B.notSynchronized, hst, Nat.le_refl _, Nat.le_refl _, Nat.le_refl _, Nat.le_refl _⟩ ?_ ?_ s.heap [] _ hP hD va_S.rf hl
  · intro hz k n pc H locs ls h1 h2 dg hP hD hS
    refine W.widen h1 h2 (vx_ret (W.vret B.exec B.bytes B.returns (fun t ht hW => ⟨⟨(), rfl, hz, by rw [ht]; exact hP, va_K.moved hW.alike hK, hD⟩, hS.F ht⟩) hS.2.2 dg B.notSynchronized))
  · intro E hz
    exact ⟨_, _, _, rfl, hno, fun _ h => h, fun t hva hF hP hD => ⟨(), trivial, ⟨hz, hP, va_K.moved hva hK, hD⟩, hF⟩⟩
end MK
/-! ===== calls ===== -/
/-- the callee's cells out of the caller's, and what comes back laid in their place -/
def Split (wd wc wc2 wd2 : va_W) : Prop := ∃ (isC isR : List Nat) (wr : va_W) (pm : List Nat), isC.map (fun i => wd[i]?) = wc.map some ∧ va_nd isC = true ∧ isR.map (fun i => wd[i]?) = wr.map some ∧ va_nd isR = true ∧ (∀ i ∈ isR, i ∉ isC) ∧ va_nd pm = true ∧ pm.map (fun i => (wr ++ wc2)[i]?) = wd2.map some
theorem fmap_of {w w2 : va_W} {is : List Nat} (h : is.map (fun i => w[i]?) = w2.map some) : is.filterMap (fun i => w[i]?) = w2 := by
  have h1 : is.filterMap (fun i => w[i]?) = (is.map (fun i => w[i]?)).filterMap id := by rw [List.filterMap_map]; rfl
  rw [h1, h, List.filterMap_map]
  exact List.filterMap_some
/-- the call's run, whatever its kind -/
def CanRun (x : Cx) (nL : Nat) (wd : va_W) (y : MethodName) (hd : Cond) (d mc ms : Nat) (vs : List Value) (k n pc : Nat) (st0 rest : List Value) : Prop :=
  ∀ (H : Heap) (locs : List Loc) (ls : Array Slot), ls.size = nL → va_P (cxD x) vwCl wd H → ∀ (Pc : Array Value → State → Prop) (Qc : Array Value → State → Outcome → State → Prop) (XC : String → State → State → Prop) (free : Addr → Prop), vx_Met (cxl x) y (hd :: Ug) (rmD d mc ms) Pc Qc XC mc ms free → FrameBlind Pc → (∀ U : State, U.heap = H → (cxs x).WarmedH U.vm → Pc vs.toArray U) →
    vx_Run (cxp x) (cxl x) (cxe x) (cxR x) (cxs x) (cxm x) (cxa x) (cxb x) (cxh x) (cxc x) H locs k n mc ms (F0 (cxm x) pc ls st0) rest (Qc vs.toArray) XC free
section CR
variable {x : Cx} {cc : ByteArray} {nL : Nat} {own : String} {d mc ms k n : Nat} {wd : va_W} {lv : List (Nat × Value)} {pc : Nat} {st0 rest : List Value}
variable {y : MethodName} {bytes : ByteArray} {maxL d2 mc2 ms2 i a : Nat} {ret : Option FieldType} {As : List Value}
theorem room_d (o : Ok x cc nL own d mc ms) (hd : d2 < d) (hm : maxL ≤ 41) : (rmD d2 mc2 ms2).frames + 1 ≤ (cxR x).frames ∧ 8 + (maxL + 11) + (rmD d2 mc2 ms2).locals ≤ (cxR x).locals := by
  obtain ⟨h1, h2, -, -⟩ := o.2.2.2.2.2.2.2.2.2.2
  refine ⟨?_, ?_⟩
  · show 10 + 2 * d2 + 1 ≤ _
    omega
  · show 8 + (maxL + 11) + (200 + 60 * d2) ≤ _
    omega
theorem can_V (o : Ok x cc nL own d mc ms) {C : String} {T : u_T} {N ci q0 : Nat} {fs : List Value} (he : wd[q0]? = some (a, .inr (ci, fs))) (hc : vwCl[ci]? = some (C, T, N)) (hd : d2 < d) (hm : maxL ≤ 41) (hcode : Cond.code y bytes maxL ret ∈ Ug) (hini : Cond.initialized y.cls ∈ Ug) (hin : Cond.instanceMethod y ∈ Ug) (hsel : Cond.selects C y y ∈ Ug) (hlk : Cond.methodLink own i y ∈ Ug)
    (hy : y.cls ≠ "java/lang/invoke/MethodHandle" ∧ y.cls ≠ "java/lang/invoke/VarHandle" ∧ (parseMethodDescriptor y.desc).map (fun d => d.parameters.length) = some As.length) (hs : st0 = As.reverse ++ .ref a :: rest) (hr : (rest.map fun v => v.category).sum ≤ 8) (hk : k + mc2 ≤ mc ∧ n + ms2 ≤ ms) (dg : decode cc pc = .ok (.invokevirtual i, 3)) :
    CanRun x nL wd y (.code y bytes maxL ret) d2 mc2 ms2 (.ref a :: As) k n pc st0 rest := by
  intro H locs ls hls hP Pc Qc XC free hM hb hU
  have hts := o.2.2.2.2.1
  obtain ⟨-, -, hR3, hR4⟩ := o.2.2.2.2.2.2.2.2.2.2
  exact vx_runV ⟨o.1, o.2.1, o.2.2.1, o.2.2.2.1, hts⟩ hM ⟨callB_of As.length hts (Ug_cons hcode) rfl rfl rfl (hts _ hini) (hts _ hlk) hy (room_d o hd hm), hts _ hin, hts _ hsel⟩ ⟨hb, va_recv o.2.2.2.2.2.1 hP hc he, hU⟩ rfl rfl hls hs (lv_room hr) dg ⟨Nat.le_trans hk.1 hR3, Nat.le_trans hk.2 hR4⟩
theorem can_S (o : Ok x cc nL own d mc ms) (hd : d2 < d) (hm : maxL ≤ 41) (hcode : Cond.code y bytes maxL ret ∈ Ug) (hini : Cond.initialized y.cls ∈ Ug) (hst : Cond.static y ∈ Ug) (hlk : Cond.methodLink own i y ∈ Ug)
    (hy : y.cls ≠ "java/lang/invoke/MethodHandle" ∧ y.cls ≠ "java/lang/invoke/VarHandle" ∧ (parseMethodDescriptor y.desc).map (fun d => d.parameters.length) = some As.length) (hs : st0 = As.reverse ++ rest) (hr : (rest.map fun v => v.category).sum ≤ 8) (hk : k + mc2 ≤ mc ∧ n + ms2 ≤ ms) (dg : decode cc pc = .ok (.invokestatic i, 3)) :
    CanRun x nL wd y (.code y bytes maxL ret) d2 mc2 ms2 As k n pc st0 rest := by
  intro H locs ls hls hP Pc Qc XC free hM hb hU
  have hts := o.2.2.2.2.1
  obtain ⟨-, -, hR3, hR4⟩ := o.2.2.2.2.2.2.2.2.2.2
  exact vx_runS ⟨o.1, o.2.1, o.2.2.1, o.2.2.2.1, hts⟩ hM ⟨callB_of As.length hts (Ug_cons hcode) rfl rfl rfl (hts _ hini) (hts _ hlk) hy (room_d o hd hm), hts _ hst⟩ ⟨hb, hU⟩ rfl rfl hls hs (lv_room hr) dg ⟨Nat.le_trans hk.1 hR3, Nat.le_trans hk.2 hR4⟩
theorem can_VN (o : Ok x cc nL own d mc ms) {C host : String} {T : u_T} {N ci q0 : Nat} {fs : List Value} (he : wd[q0]? = some (a, .inr (ci, fs))) (hc : vwCl[ci]? = some (C, T, N)) (hd : d2 < d) (hm : maxL ≤ 41) (hcode : Cond.code y bytes maxL ret ∈ Ug) (hini : Cond.initialized y.cls ∈ Ug) (hin : Cond.instanceMethod y ∈ Ug) (hsel : Cond.selects C y y ∈ Ug) (hlk : Cond.methodLinkNest own i y host ∈ Ue)
    (hy : y.cls ≠ "java/lang/invoke/MethodHandle" ∧ y.cls ≠ "java/lang/invoke/VarHandle" ∧ (parseMethodDescriptor y.desc).map (fun d => d.parameters.length) = some As.length) (hs : st0 = As.reverse ++ .ref a :: rest) (hr : (rest.map fun v => v.category).sum ≤ 8) (hk : k + mc2 ≤ mc ∧ n + ms2 ≤ ms) (dg : decode cc pc = .ok (.invokevirtual i, 3)) :
    CanRun x nL wd y (.code y bytes maxL ret) d2 mc2 ms2 (.ref a :: As) k n pc st0 rest := by
  intro H locs ls hls hP Pc Qc XC free hM hb hU
  have hts := o.2.2.2.2.1
  obtain ⟨-, -, hR3, hR4⟩ := o.2.2.2.2.2.2.2.2.2.2
  exact vx_runVN ⟨o.1, o.2.1, o.2.2.1, o.2.2.2.1, hts⟩ hM ⟨va_cnB As.length hts (Ug_cons hcode) rfl rfl rfl (o.2.2.2.2.2.2.2.1.1 _ hlk) (hts _ hini) hy (room_d o hd hm), hts _ hin, hts _ hsel⟩ ⟨hb, va_recv o.2.2.2.2.2.1 hP hc he, hU⟩ rfl rfl hls hs (lv_room hr) dg ⟨Nat.le_trans hk.1 hR3, Nat.le_trans hk.2 hR4⟩
theorem can_SN (o : Ok x cc nL own d mc ms) {host : String} (hd : d2 < d) (hm : maxL ≤ 41) (hcode : Cond.code y bytes maxL ret ∈ Ug) (hini : Cond.initialized y.cls ∈ Ug) (hst : Cond.static y ∈ Ug) (hlk : Cond.methodLinkNest own i y host ∈ Ue)
    (hy : y.cls ≠ "java/lang/invoke/MethodHandle" ∧ y.cls ≠ "java/lang/invoke/VarHandle" ∧ (parseMethodDescriptor y.desc).map (fun d => d.parameters.length) = some As.length) (hs : st0 = As.reverse ++ rest) (hr : (rest.map fun v => v.category).sum ≤ 8) (hk : k + mc2 ≤ mc ∧ n + ms2 ≤ ms) (dg : decode cc pc = .ok (.invokestatic i, 3)) :
    CanRun x nL wd y (.code y bytes maxL ret) d2 mc2 ms2 As k n pc st0 rest := by
  intro H locs ls hls hP Pc Qc XC free hM hb hU
  have hts := o.2.2.2.2.1
  obtain ⟨-, -, hR3, hR4⟩ := o.2.2.2.2.2.2.2.2.2.2
  exact vx_runSN ⟨o.1, o.2.1, o.2.2.1, o.2.2.2.1, hts⟩ hM ⟨va_cnB As.length hts (Ug_cons hcode) rfl rfl rfl (o.2.2.2.2.2.2.2.1.1 _ hlk) (hts _ hini) hy (room_d o hd hm), hts _ hst, trivial⟩ ⟨hb, hU⟩ rfl rfl hls hs (lv_room hr) dg ⟨Nat.le_trans hk.1 hR3, Nat.le_trans hk.2 hR4⟩
theorem can_SX (o : Ok x cc nL own d mc ms) {hh : List (Nat × Nat × Nat × Nat)} (hd : d2 < d) (hm : maxL ≤ 41) (hcode : Cond.codeWith y bytes maxL ret hh ∈ Ug) (hini : Cond.initialized y.cls ∈ Ug) (hst : Cond.static y ∈ Ug) (hlk : Cond.methodLink own i y ∈ Ug)
    (hy : y.cls ≠ "java/lang/invoke/MethodHandle" ∧ y.cls ≠ "java/lang/invoke/VarHandle" ∧ (parseMethodDescriptor y.desc).map (fun d => d.parameters.length) = some As.length) (hs : st0 = As.reverse ++ rest) (hr : (rest.map fun v => v.category).sum ≤ 8) (hk : k + mc2 ≤ mc ∧ n + ms2 ≤ ms) (dg : decode cc pc = .ok (.invokestatic i, 3)) :
    CanRun x nL wd y (.codeWith y bytes maxL ret hh) d2 mc2 ms2 As k n pc st0 rest := by
  intro H locs ls hls hP Pc Qc XC free hM hb hU
  have hts := o.2.2.2.2.1
  obtain ⟨-, -, hR3, hR4⟩ := o.2.2.2.2.2.2.2.2.2.2
  have hG : GoodIn Ug (va_wsS own i y (Cond.codeWith y bytes maxL ret hh :: Ug)) := by
    intro w hw
    rcases List.mem_append.mp hw with h | h
    · rcases List.mem_cons.mp h with rfl | h
      · exact Ug_good _ hlk
      · rcases List.mem_cons.mp h with rfl | h
        · exact Ug_good _ hst
        · rcases List.mem_cons.mp h with rfl | h
          · exact Ug_good _ hini
          · cases h
    · exact Ug_cons hcode w h
  exact vx_runSX ⟨o.1, o.2.1, o.2.2.1, o.2.2.2.1, hts⟩ hM (vx_cwSW As.length hts hG rfl rfl rfl hy (room_d o hd hm)) ⟨hb, hU⟩ rfl rfl hls hs (lv_room hr) dg ⟨Nat.le_trans hk.1 hR3, Nat.le_trans hk.2 hR4⟩
/-- what a callee's start asks, out of the caller's world -/
theorem pre_call (o : Ok x cc nL own d mc ms) {wc : va_W} {vs : List Value} {H : Heap} {locs : List Loc} {isC : List Nat} (hC : isC.map (fun i => wd[i]?) = wc.map some) (hnC : va_nd isC = true) (hP : va_P (cxD x) vwCl wd H) (hD : va_D (cxA x) wd) (hS : va_S (cxA x) (cxs x).heap H locs) : ∀ U : State, U.heap = H → (cxs x).WarmedH U.vm → PcG (cxD x) (cxT x) H.size vs wc vs.toArray U := by
  intro U hU hW
  refine ⟨rfl, by rw [hU], by rw [hU]; exact hP.sub isC (fmap_of hC), va_K.moved hW.alike o.2.2.2.2.2.1, (hD.sub isC hnC hC).weaken (fun _ _ _ _ => trivial), ?_⟩
  rw [hU]
  exact o.2.2.2.2.2.2.2.1.go hW (fun q h1 h2 => hS.2.1 q h1 h2) (va_free hD hS o.2.2.2.2.2.2.1 isC hC)
theorem gcI (o : Ok x cc nL own d mc ms) {hd : Cond} {vs : List Value} {wc wc2 : (Nat → ClassId) → va_W} {wd2 : va_W} {z : Int32 ⊕ String} (hM : CoI (cxl x) y hd d2 mc2 ms2 vs wc wc2 z) (hcr : CanRun x nL wd y hd d2 mc2 ms2 vs k n pc st0 rest) (hsp : Split wd (wc (cxT x)) (wc2 (cxT x)) wd2)
    (kx : ∀ E, z = .inr E → XW x nL (k + mc2) (n + ms2) wd2 lv pc rest E) (kk : ∀ r, z = .inl r → G x nL (k + mc2) (n + ms2) wd2 lv (pc + 3) (.int r :: rest)) : G x nL k n wd lv pc st0 := by
  intro H locs ls hP hD hS hl
  obtain ⟨isC, isR, wr, pm, hC, hnC, hR, hnR, hdis, hnP, hpm⟩ := hsp
  have hF := va_free hD hS o.2.2.2.2.2.2.1 isC hC
  refine vx_calli (hcr H locs ls hl.1 hP _ _ _ _ (hM (cxD x) (cxT x) H.size) PcG_blind (pre_call o hC hnC hP hD hS)) hS (fun q _ h => hF q h) hF (fun q _ h => hF q h) ?_ ?_
  · intro E ce q9 u t H1 locs1 ht hva _ hB hz hk hS1 hc hv hcl
    obtain ⟨hz2, hP1, -, hD1⟩ := hB
    rw [ht] at hP1
    obtain ⟨hP2, hD2⟩ := va_join hP hD isC isR hC hR hnR hdis hk hF hP1 hD1
    exact kx E hz2 H1 locs1 ls q9 ce (hP2.sub pm (fmap_of hpm)) (hD2.sub pm hnP hpm) hS1 hl hc hv hcl
  · intro r u t H1 locs1 ht hva hz2 hB hz hk hS1
    obtain ⟨hP1, -, hD1⟩ := hB
    rw [ht] at hP1
    obtain ⟨hP2, hD2⟩ := va_join hP hD isC isR hC hR hnR hdis hk hF hP1 hD1
    exact kk r hz2 H1 locs1 ls (hP2.sub pm (fmap_of hpm)) (hD2.sub pm hnP hpm) hS1 hl
theorem gcL (o : Ok x cc nL own d mc ms) {hd : Cond} {vs : List Value} {wc wc2 : (Nat → ClassId) → va_W} {wd2 : va_W} {z : Int64 ⊕ String} (hM : CoL (cxl x) y hd d2 mc2 ms2 vs wc wc2 z) (hcr : CanRun x nL wd y hd d2 mc2 ms2 vs k n pc st0 rest) (hsp : Split wd (wc (cxT x)) (wc2 (cxT x)) wd2)
    (kx : ∀ E, z = .inr E → XW x nL (k + mc2) (n + ms2) wd2 lv pc rest E) (kk : ∀ r, z = .inl r → G x nL (k + mc2) (n + ms2) wd2 lv (pc + 3) (.long r :: rest)) : G x nL k n wd lv pc st0 := by
  intro H locs ls hP hD hS hl
  obtain ⟨isC, isR, wr, pm, hC, hnC, hR, hnR, hdis, hnP, hpm⟩ := hsp
  have hF := va_free hD hS o.2.2.2.2.2.2.1 isC hC
  refine vx_calll (hcr H locs ls hl.1 hP _ _ _ _ (hM (cxD x) (cxT x) H.size) PcG_blind (pre_call o hC hnC hP hD hS)) hS (fun q _ h => hF q h) hF (fun q _ h => hF q h) ?_ ?_
  · intro E ce q9 u t H1 locs1 ht hva _ hB hz hk hS1 hc hv hcl
    obtain ⟨hz2, hP1, -, hD1⟩ := hB
    rw [ht] at hP1
    obtain ⟨hP2, hD2⟩ := va_join hP hD isC isR hC hR hnR hdis hk hF hP1 hD1
    exact kx E hz2 H1 locs1 ls q9 ce (hP2.sub pm (fmap_of hpm)) (hD2.sub pm hnP hpm) hS1 hl hc hv hcl
  · intro r u t H1 locs1 ht hva hz2 hB hz hk hS1
    obtain ⟨hP1, -, hD1⟩ := hB
    rw [ht] at hP1
    obtain ⟨hP2, hD2⟩ := va_join hP hD isC isR hC hR hnR hdis hk hF hP1 hD1
    exact kk r hz2 H1 locs1 ls (hP2.sub pm (fmap_of hpm)) (hD2.sub pm hnP hpm) hS1 hl
theorem gcV (o : Ok x cc nL own d mc ms) {hd : Cond} {vs : List Value} {wc wc2 : (Nat → ClassId) → va_W} {wd2 : va_W} {z : Unit ⊕ String} (hM : CoV (cxl x) y hd d2 mc2 ms2 vs wc wc2 z) (hcr : CanRun x nL wd y hd d2 mc2 ms2 vs k n pc st0 rest) (hsp : Split wd (wc (cxT x)) (wc2 (cxT x)) wd2)
    (kx : ∀ E, z = .inr E → XW x nL (k + mc2) (n + ms2) wd2 lv pc rest E) (kk : z = .inl () → G x nL (k + mc2) (n + ms2) wd2 lv (pc + 3) rest) : G x nL k n wd lv pc st0 := by
  intro H locs ls hP hD hS hl
  obtain ⟨isC, isR, wr, pm, hC, hnC, hR, hnR, hdis, hnP, hpm⟩ := hsp
  have hF := va_free hD hS o.2.2.2.2.2.2.1 isC hC
  refine vx_callv (hcr H locs ls hl.1 hP _ _ _ _ (hM (cxD x) (cxT x) H.size) PcG_blind (pre_call o hC hnC hP hD hS)) hS (fun q _ h => hF q h) hF (fun q _ h => hF q h) ?_ ?_
  · intro E ce q9 u t H1 locs1 ht hva _ hB hz hk hS1 hc hv hcl
    obtain ⟨hz2, hP1, -, hD1⟩ := hB
    rw [ht] at hP1
    obtain ⟨hP2, hD2⟩ := va_join hP hD isC isR hC hR hnR hdis hk hF hP1 hD1
    exact kx E hz2 H1 locs1 ls q9 ce (hP2.sub pm (fmap_of hpm)) (hD2.sub pm hnP hpm) hS1 hl hc hv hcl
  · intro u t H1 locs1 ht hva hz2 hB hz hk hS1
    obtain ⟨hP1, -, hD1⟩ := hB
    rw [ht] at hP1
    obtain ⟨hP2, hD2⟩ := va_join hP hD isC isR hC hR hnR hdis hk hF hP1 hD1
    exact kk hz2 H1 locs1 ls (hP2.sub pm (fmap_of hpm)) (hD2.sub pm hnP hpm) hS1 hl
end CR
/-! ===== the worlds ===== -/
def wI (b : Nat → Nat) (v : St) (T : Nat → ClassId) : va_W := [(b 0, .inr (0, [.int (v 0 0), .ref (b 1), .ref (b 2), .int (v 0 3), .int (v 0 4), .ref (b 5), .ref (b 6)])), (b 1, .inl (T 0, 8, .inl (v 1))), (b 2, .inl (T 0, 8, .inl (v 2))), (b 5, .inl (T 0, 20, .inl (v 5))), (b 6, .inl (T 0, 20, .inl (v 6)))]
def wII (b : Nat → Nat) (v : St) (c : Nat → Nat) (w : St) (T : Nat → ClassId) : va_W := [(b 0, .inr (0, [.int (v 0 0), .ref (b 1), .ref (b 2), .int (v 0 3), .int (v 0 4), .ref (b 5), .ref (b 6)])), (b 1, .inl (T 0, 8, .inl (v 1))), (b 2, .inl (T 0, 8, .inl (v 2))), (b 5, .inl (T 0, 20, .inl (v 5))), (b 6, .inl (T 0, 20, .inl (v 6))),
  (c 0, .inr (0, [.int (w 0 0), .ref (c 1), .ref (c 2), .int (w 0 3), .int (w 0 4), .ref (c 5), .ref (c 6)])), (c 1, .inl (T 0, 8, .inl (w 1))), (c 2, .inl (T 0, 8, .inl (w 2))), (c 5, .inl (T 0, 20, .inl (w 5))), (c 6, .inl (T 0, 20, .inl (w 6)))]
def wX (a : Nat → Nat) (u : St) (b : Nat → Nat) (v : St) (c : Nat → Nat) (w : St) (T : Nat → ClassId) : va_W := [(a 0, .inr (1, [.ref (b 0), .ref (c 0), .int (u 0 2), .ref (a 3), .int (u 0 4), .int (u 0 5), .ref (a 6), .int (u 0 7), .ref (a 8), .ref (a 9)])), (a 3, .inl (T 1, 60, .inl (u 3))), (a 6, .inl (T 1, 79, .inl (u 6))), (a 8, .inl (T 0, 3, .inl (u 8))), (a 9, .inl (T 0, 3, .inl (u 9))),
  (b 0, .inr (0, [.int (v 0 0), .ref (b 1), .ref (b 2), .int (v 0 3), .int (v 0 4), .ref (b 5), .ref (b 6)])), (b 1, .inl (T 0, 8, .inl (v 1))), (b 2, .inl (T 0, 8, .inl (v 2))), (b 5, .inl (T 0, 20, .inl (v 5))), (b 6, .inl (T 0, 20, .inl (v 6))),
  (c 0, .inr (0, [.int (w 0 0), .ref (c 1), .ref (c 2), .int (w 0 3), .int (w 0 4), .ref (c 5), .ref (c 6)])), (c 1, .inl (T 0, 8, .inl (w 1))), (c 2, .inl (T 0, 8, .inl (w 2))), (c 5, .inl (T 0, 20, .inl (w 5))), (c 6, .inl (T 0, 20, .inl (w 6)))]
def wM (a : Nat → Nat) (u : St) (T : Nat → ClassId) : va_W := [(a 0, .inr (2, [.int (u 0 0), .ref (a 1), .ref (a 2), .int (u 0 3), .ref (a 4), .ref (a 5), .int (u 0 6), .int (u 0 7), .ref (a 8), .ref (a 9), .int (u 0 10), .int (u 0 11), .int (u 0 12), .int (u 0 13), .int (u 0 14), .ref (a 15), .ref (a 16), .ref (a 17), .int (u 0 18), .int (u 0 19), .int (u 0 20)])),
  (a 1, .inl (T 0, 8, .inl (u 1))), (a 2, .inl (T 0, 8, .inl (u 2))), (a 4, .inl (T 0, 20, .inl (u 4))), (a 5, .inl (T 0, 80, .inl (u 5))), (a 8, .inl (T 1, 60, .inl (u 8))), (a 9, .inl (T 1, 80, .inl (u 9))), (a 15, .inl (T 2, 48, .inl (u 15))), (a 16, .inl (T 0, 3, .inl (u 16))), (a 17, .inl (T 0, 128, .inl (u 17)))]
def w0 (_ : Nat → ClassId) : va_W := []
theorem nd_of : ∀ {l : List Nat}, l.Nodup → va_nd l = true
  | [], _ => rfl
  | a :: l, h => by
    have h2 := List.nodup_cons.mp h
    show (decide (a ∉ l) && va_nd l) = true
    rw [nd_of h2.2, decide_eq_true h2.1]
    rfl
theorem rg_map (wd : va_W) : (List.range wd.length).map (fun i => wd[i]?) = wd.map some := by
  apply List.ext_getElem?
  intro i
  rw [List.getElem?_map, List.getElem?_map]
  rcases Nat.lt_or_ge i wd.length with h | h
  · rw [List.getElem?_range h]; simp [h]
  · rw [List.getElem?_eq_none (by simpa using h), List.getElem?_eq_none h]; rfl
theorem sp_none {wd : va_W} : Split wd [] [] wd := ⟨[], List.range wd.length, wd, List.range wd.length, rfl, rfl, rg_map wd, nd_of List.nodup_range, (fun i _ h => by cases h), nd_of List.nodup_range, by rw [List.append_nil]; exact rg_map wd⟩
theorem sp_M {a : Nat → Nat} {u u2 : St} {T : Nat → ClassId} : Split (wM a u T) (wM a u T) (wM a u2 T) (wM a u2 T) := ⟨[0, 1, 2, 3, 4, 5, 6, 7, 8, 9], [], [], [0, 1, 2, 3, 4, 5, 6, 7, 8, 9], rfl, by decide, rfl, by decide, by decide, by decide, rfl⟩
theorem sp_I {b : Nat → Nat} {v v2 : St} {T : Nat → ClassId} : Split (wI b v T) (wI b v T) (wI b v2 T) (wI b v2 T) := ⟨[0, 1, 2, 3, 4], [], [], [0, 1, 2, 3, 4], rfl, by decide, rfl, by decide, by decide, by decide, rfl⟩
theorem sp_X {a b c : Nat → Nat} {u v w u2 v2 w2 : St} {T : Nat → ClassId} : Split (wX a u b v c w T) (wX a u b v c w T) (wX a u2 b v2 c w2 T) (wX a u2 b v2 c w2 T) := ⟨[0, 1, 2, 3, 4, 5, 6, 7, 8, 9, 10, 11, 12, 13, 14], [], [], [0, 1, 2, 3, 4, 5, 6, 7, 8, 9, 10, 11, 12, 13, 14], rfl, by decide, rfl, by decide, by decide, by decide, rfl⟩
theorem sp_XI {a b c : Nat → Nat} {u v w v2 : St} {T : Nat → ClassId} : Split (wX a u b v c w T) (wI b v T) (wI b v2 T) (wX a u b v2 c w T) := ⟨[5, 6, 7, 8, 9], [0, 1, 2, 3, 4, 10, 11, 12, 13, 14], [_, _, _, _, _, _, _, _, _, _], [0, 1, 2, 3, 4, 10, 11, 12, 13, 14, 5, 6, 7, 8, 9], rfl, by decide, rfl, by decide, by decide, by decide, rfl⟩
theorem sp_XS {a b c : Nat → Nat} {u v w v2 w2 : St} {T : Nat → ClassId} : Split (wX a u b v c w T) (wII b v c w T) (wII b v2 c w2 T) (wX a u b v2 c w2 T) := ⟨[5, 6, 7, 8, 9, 10, 11, 12, 13, 14], [0, 1, 2, 3, 4], [_, _, _, _, _], [0, 1, 2, 3, 4, 5, 6, 7, 8, 9, 10, 11, 12, 13, 14], rfl, by decide, rfl, by decide, by decide, by decide, rfl⟩
theorem sp_XT {a b c : Nat → Nat} {u v w v2 w2 : St} {T : Nat → ClassId} : Split (wX a u b v c w T) (wII c w b v T) (wII c w2 b v2 T) (wX a u b v2 c w2 T) := ⟨[10, 11, 12, 13, 14, 5, 6, 7, 8, 9], [0, 1, 2, 3, 4], [_, _, _, _, _], [0, 1, 2, 3, 4, 10, 11, 12, 13, 14, 5, 6, 7, 8, 9], rfl, by decide, rfl, by decide, by decide, by decide, rfl⟩
