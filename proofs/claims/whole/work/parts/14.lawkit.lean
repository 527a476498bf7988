/-! ===== the law's worlds ===== -/
def wXo (a : Nat → Nat) (u : St) (b : Nat → Nat) (v : St) (c : Nat → Nat) (w : St) (oa : Nat) (f : Nat → Int64) (T : Nat → ClassId) : va_W := [(a 0, .inr (1, [.ref (b 0), .ref (c 0), .int (u 0 2), .ref (a 3), .int (u 0 4), .int (u 0 5), .ref (a 6), .int (u 0 7), .ref (a 8), .ref (a 9)])), (a 3, .inl (T 1, 60, .inl (u 3))), (a 6, .inl (T 1, 79, .inl (u 6))), (a 8, .inl (T 0, 3, .inl (u 8))), (a 9, .inl (T 0, 3, .inl (u 9))),
  (b 0, .inr (0, [.int (v 0 0), .ref (b 1), .ref (b 2), .int (v 0 3), .int (v 0 4), .ref (b 5), .ref (b 6)])), (b 1, .inl (T 0, 8, .inl (v 1))), (b 2, .inl (T 0, 8, .inl (v 2))), (b 5, .inl (T 0, 20, .inl (v 5))), (b 6, .inl (T 0, 20, .inl (v 6))),
  (c 0, .inr (0, [.int (w 0 0), .ref (c 1), .ref (c 2), .int (w 0 3), .int (w 0 4), .ref (c 5), .ref (c 6)])), (c 1, .inl (T 0, 8, .inl (w 1))), (c 2, .inl (T 0, 8, .inl (w 2))), (c 5, .inl (T 0, 20, .inl (w 5))), (c 6, .inl (T 0, 20, .inl (w 6))),
  (oa, .inl (T 3, 1, .inr (.inl f)))]
def wLw (a : Nat → Nat) (u : St) (b : Nat → Nat) (v : St) (c : Nat → Nat) (w : St) (e : Nat → Nat) (m : St) (oa : Nat) (f : Nat → Int64) (T : Nat → ClassId) : va_W := [(a 0, .inr (1, [.ref (b 0), .ref (c 0), .int (u 0 2), .ref (a 3), .int (u 0 4), .int (u 0 5), .ref (a 6), .int (u 0 7), .ref (a 8), .ref (a 9)])), (a 3, .inl (T 1, 60, .inl (u 3))), (a 6, .inl (T 1, 79, .inl (u 6))), (a 8, .inl (T 0, 3, .inl (u 8))), (a 9, .inl (T 0, 3, .inl (u 9))),
  (b 0, .inr (0, [.int (v 0 0), .ref (b 1), .ref (b 2), .int (v 0 3), .int (v 0 4), .ref (b 5), .ref (b 6)])), (b 1, .inl (T 0, 8, .inl (v 1))), (b 2, .inl (T 0, 8, .inl (v 2))), (b 5, .inl (T 0, 20, .inl (v 5))), (b 6, .inl (T 0, 20, .inl (v 6))),
  (c 0, .inr (0, [.int (w 0 0), .ref (c 1), .ref (c 2), .int (w 0 3), .int (w 0 4), .ref (c 5), .ref (c 6)])), (c 1, .inl (T 0, 8, .inl (w 1))), (c 2, .inl (T 0, 8, .inl (w 2))), (c 5, .inl (T 0, 20, .inl (w 5))), (c 6, .inl (T 0, 20, .inl (w 6))),
  (e 0, .inr (2, [.int (m 0 0), .ref (e 1), .ref (e 2), .int (m 0 3), .ref (e 4), .ref (e 5), .int (m 0 6), .int (m 0 7), .ref (e 8), .ref (e 9), .int (m 0 10), .int (m 0 11), .int (m 0 12), .int (m 0 13), .int (m 0 14), .ref (e 15), .ref (e 16), .ref (e 17), .int (m 0 18), .int (m 0 19), .int (m 0 20)])),
  (e 1, .inl (T 0, 8, .inl (m 1))), (e 2, .inl (T 0, 8, .inl (m 2))), (e 4, .inl (T 0, 20, .inl (m 4))), (e 5, .inl (T 0, 80, .inl (m 5))), (e 8, .inl (T 1, 60, .inl (m 8))), (e 9, .inl (T 1, 80, .inl (m 9))), (e 15, .inl (T 2, 48, .inl (m 15))), (e 16, .inl (T 0, 3, .inl (m 16))), (e 17, .inl (T 0, 128, .inl (m 17))),
  (oa, .inl (T 3, 1, .inr (.inl f)))]
theorem sp_LX {a b c : Nat → Nat} {u v w u2 v2 w2 : St} {oa : Nat} {f : Nat → Int64} {T : Nat → ClassId} : Split (wXo a u b v c w oa f T) (wX a u b v c w T) (wX a u2 b v2 c w2 T) (wXo a u2 b v2 c w2 oa f T) := ⟨[0, 1, 2, 3, 4, 5, 6, 7, 8, 9, 10, 11, 12, 13, 14], [15], [_], [1, 2, 3, 4, 5, 6, 7, 8, 9, 10, 11, 12, 13, 14, 15, 0], rfl, by decide, rfl, by decide, by decide, by decide, rfl⟩
theorem sp_WL {a b c e : Nat → Nat} {u v w m u2 v2 w2 : St} {oa : Nat} {f f2 : Nat → Int64} {T : Nat → ClassId} : Split (wLw a u b v c w e m oa f T) (wXo a u b v c w oa f T) (wXo a u2 b v2 c w2 oa f2 T) (wLw a u2 b v2 c w2 e m oa f2 T) := ⟨[0, 1, 2, 3, 4, 5, 6, 7, 8, 9, 10, 11, 12, 13, 14, 25], [15, 16, 17, 18, 19, 20, 21, 22, 23, 24], [_, _, _, _, _, _, _, _, _, _], [10, 11, 12, 13, 14, 15, 16, 17, 18, 19, 20, 21, 22, 23, 24, 0, 1, 2, 3, 4, 5, 6, 7, 8, 9, 25], rfl, by decide, rfl, by decide, by decide, by decide, rfl⟩
theorem sp_WM {a b c e : Nat → Nat} {u v w m m2 : St} {oa : Nat} {f : Nat → Int64} {T : Nat → ClassId} : Split (wLw a u b v c w e m oa f T) (wM e m T) (wM e m2 T) (wLw a u b v c w e m2 oa f T) := ⟨[15, 16, 17, 18, 19, 20, 21, 22, 23, 24], [0, 1, 2, 3, 4, 5, 6, 7, 8, 9, 10, 11, 12, 13, 14, 25], [_, _, _, _, _, _, _, _, _, _, _, _, _, _, _, _], [0, 1, 2, 3, 4, 5, 6, 7, 8, 9, 10, 11, 12, 13, 14, 16, 17, 18, 19, 20, 21, 22, 23, 24, 25, 15], rfl, by decide, rfl, by decide, by decide, by decide, rfl⟩
theorem sp_WX {a b c e : Nat → Nat} {u v w m u2 v2 w2 : St} {oa : Nat} {f : Nat → Int64} {T : Nat → ClassId} : Split (wLw a u b v c w e m oa f T) (wX a u b v c w T) (wX a u2 b v2 c w2 T) (wLw a u2 b v2 c w2 e m oa f T) := ⟨[0, 1, 2, 3, 4, 5, 6, 7, 8, 9, 10, 11, 12, 13, 14], [15, 16, 17, 18, 19, 20, 21, 22, 23, 24, 25], [_, _, _, _, _, _, _, _, _, _, _], [11, 12, 13, 14, 15, 16, 17, 18, 19, 20, 21, 22, 23, 24, 25, 0, 1, 2, 3, 4, 5, 6, 7, 8, 9, 10], rfl, by decide, rfl, by decide, by decide, by decide, rfl⟩
section LK
variable {x : Cx} {cc : ByteArray} {nL : Nat} {own : String} {d mc ms k n : Nat} {wd : va_W} {lv : List (Nat × Value)} {pc : Nat} {st : List Value} {a b c e : Nat → Nat} {u v w m : St} {oa : Nat} {f : Nat → Int64}
theorem L_ost (o : Ok x cc nL own d mc ms) {i : Int32} {z : Int64} {α : Type} {r : α} {B : Option α} (dg : decode cc pc = .ok (.lastore, 1)) (hf : gd (inb i 1) B = some r) (kk : B = some r → G x nL k n (wXo a u b v c w oa (vp_updL f i.toNatClampNeg z) (cxT x)) lv (pc + 1) st) : G x nL k n (wXo a u b v c w oa f (cxT x)) lv pc (.long z :: .int i :: .ref oa :: st) := g_last (wd2 := wXo a u b v c w oa (vp_updL f i.toNatClampNeg z) (cxT x)) o 15 rfl rfl dg hf kk
theorem W_old (o : Ok x cc nL own d mc ms) {i : Int32} {α : Type} {r : α} {B : Option α} (dg : decode cc pc = .ok (.laload, 1)) (hf : gd (inb i 1) B = some r) (kk : B = some r → G x nL k n (wLw a u b v c w e m oa f (cxT x)) lv (pc + 1) (.long (f i.toNatClampNeg) :: st)) : G x nL k n (wLw a u b v c w e m oa f (cxT x)) lv pc (.int i :: .ref oa :: st) := g_lald o 25 rfl dg hf kk
def SF (x : Cx) (b L : Nat) (xs : Nat → Int32) : Prop := va_X b L xs (cxs x) (cxs x).heap ∧ b < (cxs x).heap.size ∧ ¬ cxA x b
theorem g_sld (o : Ok x cc nL own d mc ms) {sb L : Nat} {xs : Nat → Int32} (hs : SF x sb L xs) {i : Int32} {α : Type} {r : α} {B : Option α} (dg : decode cc pc = .ok (.iaload, 1)) (hf : gd (inb i L) B = some r) (kk : B = some r → G x nL k n wd lv (pc + 1) (.int (xs i.toNatClampNeg) :: st)) : G x nL k n wd lv pc (.int i :: .ref sb :: st) := fun H locs ls hP hD hS hl => va_sld o.1 o.2.1 hs.1 hs.2.1 hs.2.2 hS (inb_in (gd_some hf).1) dg (kk (gd_some hf).2 H locs ls hP hD hS hl)
theorem g_slen (o : Ok x cc nL own d mc ms) {sb L : Nat} {xs : Nat → Int32} (hs : SF x sb L xs) (dg : decode cc pc = .ok (.arraylength, 1)) (kk : G x nL k n wd lv (pc + 1) (.int (Int32.ofNat L) :: st)) : G x nL k n wd lv pc (.ref sb :: st) := fun H locs ls hP hD hS hl => va_slen o.1 o.2.1 hs.1 hs.2.1 hs.2.2 hS dg (kk H locs ls hP hD hS hl)
theorem g_swI (o : Ok x cc nL own d mc ms) {df lo hi : Int} {offs : Array Int} {len : Nat} {z : Int32} {off : Int} {tgt : Nat} (dg : decode cc pc = .ok (.tableswitch df lo hi offs, len)) (h1 : ¬ z.toInt < lo) (h2 : ¬ hi < z.toInt) (ho : offs[(z.toInt - lo).toNat]? = some off) (ht : (pc : Int) + off = (tgt : Int)) (kk : G x nL k n wd lv tgt st) : G x nL k n wd lv pc (.int z :: st) := fun H locs ls hP hD hS hl => lv_tableIn o.1 o.2.1 dg h1 h2 ho ht (kk H locs ls hP hD hS hl)
theorem g_swO (o : Ok x cc nL own d mc ms) {df lo hi : Int} {offs : Array Int} {len : Nat} {z : Int32} {tgt : Nat} (dg : decode cc pc = .ok (.tableswitch df lo hi offs, len)) (h : z.toInt < lo ∨ hi < z.toInt) (ht : (pc : Int) + df = (tgt : Int)) (kk : G x nL k n wd lv tgt st) : G x nL k n wd lv pc (.int z :: st) := fun H locs ls hP hD hS hl => lv_tableOut o.1 o.2.1 dg h ht (kk H locs ls hP hD hS hl)
theorem xw_catch (o : Ok x cc nL own d mc ms) {hh : List (Nat × Nat × Nat × Nat)} (htab : (cxc x).exceptionTable.toList = tableOf hh) {E name : String} (pre : List ExceptionTableEntry) (z : ExceptionTableEntry) (suf : List ExceptionTableEntry) (hsp : tableOf hh = pre ++ z :: suf) (hpass : ∀ q ∈ pre, q.catchType ≠ 0 ∧ ∃ nm : String, Cond.classLink own q.catchType nm ∈ Ug ∧ (E, nm) ∈ nCs) (hcov : covers z pc = true) (h0 : z.catchType ≠ 0) (hlk : Cond.classLink own z.catchType name ∈ Ug) (hcast : Cond.castable E name ∈ Ue) {hp : Nat} (hhp : z.handlerPc = hp) (kk : ∀ q : Nat, G x nL k n wd lv hp [.ref q]) : XW x nL k n wd lv pc st E := by
  intro H locs ls q ce hP hD hS hl hc hv hcl
  subst hhp
  refine vx_catch o.2.2.2.1 pre z suf (htab.trans hsp) (fun y hy => Or.inr ?_) hcov h0 (o.2.2.2.2.1 _ hlk) (va_Nw.use rfl (o.2.2.2.2.2.2.2.1.1 _ hcast)) hc hv hcl (kk q H locs ls hP hD hS hl)
  obtain ⟨h1, nm, h2, h3⟩ := hpass y hy
  exact ⟨h1, nm, o.2.2.2.2.1 _ h2, o.2.2.2.2.2.2.2.1.2.2.1 _ h3⟩
end LK
theorem mkH {l : Launch} {y : MethodName} {cc : ByteArray} {nL d mc ms : Nat} {vs : List Value} {wd wd2 : (Nat → ClassId) → va_W} {ty : FieldType} {hh : List (Nat × Nat × Nat × Nat)} {z : Int32 ⊕ String} (hst : l.stackTraces = false) (hy : plainName y.cls = true) (hlen : (lg_sl vs).length ≤ nL)
    (body : ∀ x : Cx, cxl x = l → Ok x cc nL y.cls d mc ms → (cxc x).exceptionTable.toList = tableOf hh → (∀ r, z = .inl r → RetI x cc ty mc ms (wd2 (cxT x)) r) → G x nL 0 0 (wd (cxT x)) (lv_args 0 vs) 0 []) :
    CoI l y (.codeWith y cc nL (some ty) hh) d mc ms vs wd wd2 z := by
  intro D T sz
  refine vx_ofWH (cc := cc) (maxL := nL) (ret := some ty) (hh := hh) hy rfl ?_
  intro p e s m args below meth c s₁ B hml hv
  obtain ⟨rfl, hsz, hP, hK, hD0, hSx⟩ := hv
  subst hsz
  have hts := atoms_spec (ws := Cond.codeWith y cc nL (some ty) hh :: Ug) B.pre
  have hD := hD0.self (sz := s.heap.size)
  have hl := lv_entry vs (n := nL) hlen
  rw [lg_entry_eq]
  refine body ((p, l, e, _, s, m, vs.toArray, below, meth, c), (va_A (wd T) s.heap.size, _, D, T)) rfl ⟨B.exec, B.bytes, hml, findClass_of_methodNamed B.named, fun w hw => hts w (List.mem_cons_of_mem _ hw), hK, fun q h => Or.inr h, hSx, B.notSynchronized, hst, Nat.le_refl _, Nat.le_refl _, Nat.le_refl _, Nat.le_refl _⟩ (vx_table (x := y) B (hts _ List.mem_cons_self)) ?_ s.heap [] _ hP hD va_S.rf hl
  intro r hz k n pc H locs ls h1 h2 hn dg hP hD hS
  refine W.widen h1 h2 (vx_ret (W.zret B.exec B.bytes B.returns hn (fun t ht hW => ⟨⟨r, (), rfl, hz, by rw [ht]; exact hP, va_K.moved hW.alike hK, hD⟩, hS.F ht⟩) hS.2.2 dg B.notSynchronized))
theorem loop_K {σ ρ : Type} (step : σ → Option (σ ⊕ ρ)) (P : Nat → σ → Prop) (r : ρ) (hs : ∀ (m : Nat) (s : σ) (w : σ ⊕ ρ), step s = some w → ((∃ s2, w = .inl s2 ∧ P m s2) ∨ w = .inr r) → P (m + 1) s) : ∀ (n : Nat) (s : σ), loopN step n s = some r → P n s := by
  intro n
  induction n with
  | zero => intro s h; cases h
  | succ n ih =>
    intro s h
    unfold loopN at h
    match hw : step s, h with
    | some (.inl s2), h => exact hs n s _ hw (Or.inl ⟨s2, rfl, ih s2 h⟩)
    | some (.inr r2), h => exact hs n s _ hw (Or.inr (by rw [Option.some.inj h]))
